/-! a debt, a yawn is read -/
theorem n_w1 {v P : Nat} (hv : v ≤ 999) (hP : P ≤ 5) (h : ¬ f_X5_isWithin (nI v) 0 (nI P - 1) = 0) : v < P := by
  obtain ⟨j, j1, j2⟩ := m1_w (by omega) h
  have := (nI_eq (by omega) (by omega)).mp j2
  omega
theorem t_debt1 {tw T n p : Nat} {D E : am_M} (hT : 15 - tw = T) (hL : T + 10 < 12 ∨ 13 < T) (hA : Atp n p D E) (hp : p ≤ 250) (h0 : ¬ D T 5 < 8) : ∃ D', f_X3_readDebt tw D = some D' ∧ Bd 3 p D' (am_up E 56 15 (nI p)) ∧ FC T D D' := by
  have hb := t_bd (f := 3) (w := p) hA (by decide) (by decide) hp
  have e5 : (am_up (am_up D 12 5 (nI 3)) 12 6 (nI p)) 12 5 = nI 3 := hb.2.2.2.1
  have nb : ∀ (lo hi : Int32) (U : am_M), U 12 5 = nI 3 → f_X3_readNumber tw lo hi U = some (0, U) := fun lo hi U h => t_nb h (by decide) (by decide)
  rw [f_X3_readDebt, hT, if_neg h0, b_X3_readDebt_18, hT, t_many hA]
  dsimp only [Option.bind_some]
  rw [nb _ _ _ e5]
  dsimp only [Option.bind_some]
  rw [nb _ _ _ e5]
  dsimp only [Option.bind_some]
  rw [nb _ _ _ e5]
  dsimp only [Option.bind_some]
  rw [t_notg e5 (by decide) (by decide), if_pos (show (0 : Int32) = 0 from rfl)]
  exact ⟨_, rfl, hb, FC_c t_ffl⟩
theorem t_debt {tw T n p : Nat} {tx : Nat → Nat} {t : To} {ti pu ro : Nat → Nat} {yt : Nat} {D E : am_M} (hT : 15 - tw = T) (hL : T + 10 < 12 ∨ 13 < T) (hX : Tx n tx D E) (hA : Atp n p D E) (hp : p < n) (hB : PB t ti pu ro yt) (hC : PC T t ti pu ro yt D) (hM : PM t ti pu ro yt E) (hb : 1 ≤ q_be t) (hP : q_dn t < 8) : BR T n (p + 1) D E (f_X3_readDebt tw D) (f_X6_takeDebt (am_up E 56 16 (nI (p + 1)))) := by
  have hA1 := At_s hA hp
  have hX1 : Tx n tx (am_up D 12 1 (nI (p + 1))) (am_up E 56 16 (nI (p + 1))) := Tx_f hX (Fc_u (by decide)) (Fm_u (by decide) (by decide))
  have c1 : FC T D (am_up D 12 1 (nI (p + 1))) := FC_c (Fc_u (by decide))
  have m1 : FM E (am_up E 56 16 (nI (p + 1))) := FM_k (by omega)
  have hC1 : PC T t ti pu ro yt (am_up D 12 1 (nI (p + 1))) := PC_c hL (Fc_u (by decide)) hC
  have hM1 : PM t ti pu ro yt (am_up E 56 16 (nI (p + 1))) := PM_m (Fm_u (by decide) (by decide)) hM
  rw [f_X3_readDebt, hT, hC.1.2.2.2.2.2.1, if_pos (show nI (q_dn t) < 8 from nI_lt (b := 8) hP (by decide)), b_X3_readDebt_18, hT, t_step hA, f_X6_takeDebt, hM1.2.2.2.2.2.1, nI_1]
  dsimp only [Option.bind_some]
  generalize am_up D 12 1 (nI (p + 1)) = D1 at *
  generalize am_up E 56 16 (nI (p + 1)) = E1 at *
  have hP5 := hB.1.2.2.2.1
  rw [hC1.1.2.2.2.1, tl_upi2, if_neg (show ¬ (20 : Nat) = 28 by decide), hM1.2.2.2.1]
  have hX2 : Tx n tx D1 (am_up E1 56 28 (nI (q_dn t + 1))) := Tx_F hL hX1 (FC_c (Fc_r D1)) (FM_k (by omega))
  have hA2 : Atp n (p + 1) D1 (am_up E1 56 28 (nI (q_dn t + 1))) := At_o rfl (by rw [tl_upi2, if_neg (by decide)]) (by rw [tl_upi2, if_neg (by decide)]) hA1
  have m2 : FM E (am_up E1 56 28 (nI (q_dn t + 1))) := FM_t m1 (FM_k (by omega))
  rcases t_num (tw := tw) (lo := 0) (hi := nI (q_pe t) - 1) hX2 hA2 with ⟨v, q, p0, D2, E2, a1, a2, a3, a4, a5, a6, a7, a8, a9, a10, a11, a12⟩ | ⟨f, w, D2, E2, a1, a2, a3, a4, a5⟩
  · rw [a1, m_into a2 hP (by decide)]
    dsimp only [Option.bind_some]
    have hX3 : Tx n tx D2 (am_up E2 70 (q_dn t) (E2 56 17)) := Tx_F hL (Tx_f hX2 a11 a12) (FC_c (Fc_r D2)) (FM_u (by decide) (by decide))
    have hA3 : Atp n q D2 (am_up E2 70 (q_dn t) (E2 56 17)) := At_o rfl (by rw [tl_upo2 (by decide)]) (by rw [tl_upo2 (by decide)]) a6
    rw [if_pos (show (0 : Int32) ≤ 0 by decide)]
    rcases t_num (tw := tw) (lo := 0) (hi := 71) hX3 hA3 with ⟨v', q', p0', D3, E3, b1, b2, b3, b4, b5, b6, b7, b8, b9, b10, b11, b12⟩ | ⟨f, w, D3, E3, b1, b2, b3, b4, b5⟩
    · rw [b1, m_into b2 hP (by decide)]
      dsimp only [Option.bind_some]
      have hX4 : Tx n tx D3 (am_up E3 71 (q_dn t) (E3 56 17)) := Tx_F hL (Tx_f hX3 b11 b12) (FC_c (Fc_r D3)) (FM_u (by decide) (by decide))
      have hA4 : Atp n q' D3 (am_up E3 71 (q_dn t) (E3 56 17)) := At_o rfl (by rw [tl_upo2 (by decide)]) (by rw [tl_upo2 (by decide)]) b6
      rw [b_X6_takeDebt_52, if_pos (show (0 : Int32) ≤ 0 by decide)]
      rcases t_num (tw := tw) (lo := 1) (hi := 99) hX4 hA4 with ⟨v2, q2, p2, D4, E4, d1, d2, d3, d4, d5, d6, d7, d8, d9, d10, d11, d12⟩ | ⟨f, w, D4, E4, d1, d2, d3, d4, d5⟩
      · have e5 : D4 T 5 = nI (q_dn t) := by rw [d11.1 T (by omega), b11.1 T (by omega), a11.1 T (by omega)]; exact hC1.1.2.2.2.2.2.1
        have htl : am_in (D4 T 5) 8 = true := by rw [e5]; exact tl_ai (by omega) (by omega)
        rw [d1, m_into d2 hP (by decide)]
        dsimp only [Option.bind_some]
        have f1 : ∀ (i : Nat) (x : Int32), (am_up D4 (T + 2) i x) T 5 = nI (q_dn t) := fun i x => by rw [tl_upo2 (by omega)]; exact e5
        have f2 : ∀ (i j : Nat) (x y : Int32), (am_up (am_up D4 (T + 2) i x) (T + 3) j y) T 5 = nI (q_dn t) := fun i j x y => by rw [tl_upo2 (by omega), tl_upo2 (by omega)]; exact e5
        have ht1 : ∀ (i : Nat) (x : Int32), am_in ((am_up D4 (T + 2) i x) T 5) 8 = true := fun i x => by rw [f1]; exact tl_ai (by omega) (by omega)
        have ht2 : ∀ (i j : Nat) (x y : Int32), am_in ((am_up (am_up D4 (T + 2) i x) (T + 3) j y) T 5) 8 = true := fun i j x y => by rw [f2]; exact tl_ai (by omega) (by omega)
        rw [t_good d6, if_neg (show ¬ (1 : Int32) = 0 by decide), if_pos htl, if_pos (ht1 _ _), if_pos (ht2 _ _ _ _), b_X3_readDebt_108, hT]
        simp only [e5, f1, f2, tl_cl2 (show q_dn t < 2 ^ 31 by omega)]
        have f3 : (am_up (am_up (am_up D4 (T + 2) (q_dn t) (nI v)) (T + 3) (q_dn t) (nI v')) (T + 4) (q_dn t) (nI v2)) T 5 = nI (q_dn t) := by rw [tl_upo2 (by omega)]; exact f2 _ _ _ _
        rw [f3, nI_1]
        have w1 := n_w1 a3 hP5 a4
        have w2 := (n_w (a := 0) (b := 71) b3 (by decide) (by decide) b4).2
        obtain ⟨w3, w3'⟩ := n_w (a := 1) (b := 99) d3 (by decide) (by decide) d4
        obtain ⟨⟨z1, z2, z3, z4, z5, z6, z7, z8, z9, z10⟩, B2, B3, B4, B5, B6⟩ := hB
        obtain ⟨⟨x1, x2, x3, x4, x5, x6, x7, x8, x9⟩, C2, C3, C4, C5, C6⟩ := hC1
        obtain ⟨y1, y2, y3, y4, y5, y6, y7, y8, y9, y10, y11, y12, y13⟩ := hM1
        generalize hU : am_up (am_up (am_up (am_up D4 (T + 2) (q_dn t) (nI v)) (T + 3) (q_dn t) (nI v')) (T + 4) (q_dn t) (nI v2)) T 5 (nI (q_dn t + 1)) = U
        generalize hV : am_up E4 72 (q_dn t) (E4 56 17) = V
        have g4 : ∀ a, a ≠ 12 → D4 a = D1 a := fun a x1 => by rw [d11.1 a x1, b11.1 a x1, a11.1 a x1]
        have hD : ∀ a, a ≠ 12 → a ≠ T → a ≠ T + 2 → a ≠ T + 3 → a ≠ T + 4 → U a = D1 a := fun a x1 x2 x3 x4 x5 => by rw [← hU, tl_upo2 x2, tl_upo2 x5, tl_upo2 x4, tl_upo2 x3, g4 a x1]
        have hTi : ∀ i, U T i = if i = 5 then nI (q_dn t + 1) else D1 T i := fun i => by rw [← hU, tl_upi2, tl_upo2 (by omega), tl_upo2 (by omega), tl_upo2 (by omega), g4 T (by omega)]
        have hU2 : ∀ i, U (T + 2) i = if i = q_dn t then nI v else D1 (T + 2) i := fun i => by rw [← hU, tl_upo2 (by omega), tl_upo2 (by omega), tl_upo2 (by omega), tl_upi2, g4 (T + 2) (by omega)]
        have hU3 : ∀ i, U (T + 3) i = if i = q_dn t then nI v' else D1 (T + 3) i := fun i => by rw [← hU, tl_upo2 (by omega), tl_upo2 (by omega), tl_upi2, tl_upo2 (by omega), g4 (T + 3) (by omega)]
        have hU4 : ∀ i, U (T + 4) i = if i = q_dn t then nI v2 else D1 (T + 4) i := fun i => by rw [← hU, tl_upo2 (by omega), tl_upi2, tl_upo2 (by omega), tl_upo2 (by omega), g4 (T + 4) (by omega)]
        have hE : ∀ a, a ≠ 56 → a ≠ 70 → a ≠ 71 → a ≠ 72 → V a = E1 a := fun a x1 x2 x3 x4 => by rw [← hV, tl_upo2 x4, d12.1 a x1, tl_upo2 x3, b12.1 a x1, tl_upo2 x2, a12.1 a x1, tl_upo2 x1]
        have hK : ∀ i, i ≠ 15 → i ≠ 16 → i ≠ 17 → i ≠ 18 → V 56 i = if i = 28 then nI (q_dn t + 1) else E1 56 i := fun i x1 x2 x3 x4 => by rw [← hV, tl_upo2 (by decide), d12.2 i x1 x2 x3 x4, tl_upo2 (by decide), b12.2 i x1 x2 x3 x4, tl_upo2 (by decide), a12.2 i x1 x2 x3 x4, tl_upi2]
        have hV0 : ∀ i, V 70 i = if i = q_dn t then nI v else E1 70 i := fun i => by rw [← hV, tl_upo2 (by decide), d12.1 70 (by decide), tl_upo2 (by decide), b12.1 70 (by decide), tl_upi2, a7, a12.1 70 (by decide), tl_upo2 (by decide)]
        have hV1 : ∀ i, V 71 i = if i = q_dn t then nI v' else E1 71 i := fun i => by rw [← hV, tl_upo2 (by decide), d12.1 71 (by decide), tl_upi2, b7, b12.1 71 (by decide), tl_upo2 (by decide), a12.1 71 (by decide), tl_upo2 (by decide)]
        have hV2 : ∀ i, V 72 i = if i = q_dn t then nI v2 else E1 72 i := fun i => by rw [← hV, tl_upi2, d7, d12.1 72 (by decide), tl_upo2 (by decide), b12.1 72 (by decide), tl_upo2 (by decide), a12.1 72 (by decide), tl_upo2 (by decide)]
        have hAn : Atp n q2 U V := At_o (by rw [← hU, tl_upo2 (by omega), tl_upo2 (by omega), tl_upo2 (by omega), tl_upo2 (by omega)]) (by rw [← hV, tl_upo2 (by decide)]) (by rw [← hV, tl_upo2 (by decide)]) d6
        have FCn : FC T D U := by
          rw [← hU]
          exact FC_t c1 (FC_t (FC_c a11) (FC_t (FC_c b11) (FC_t (FC_c d11) (FC_t (FC_u (by omega) (by omega)) (FC_t (FC_u (by omega) (by omega)) (FC_t (FC_u (by omega) (by omega)) (FC_u (by omega) (by omega))))))))
        have FMn : FM E V := by
          rw [← hV]
          exact FM_t m2 (FM_t (FM_m a12) (FM_t (FM_u (by decide) (by decide)) (FM_t (FM_m b12) (FM_t (FM_u (by decide) (by decide)) (FM_t (FM_m d12) (FM_u (by decide) (by decide)))))))
        refine Or.inl ⟨q2, U, V, (q_be t, q_de t, q_ga t, q_pe t, q_cn t, q_dn t + 1, q_co t, un (q_dw t) (q_dn t) v, un (q_dh t) (q_dn t) v', un (q_dv t) (q_dn t) v2, q_ya t), ti, pu, ro, yt, rfl, rfl, by omega, hAn, ⟨⟨z1, z2, z3, z4, z5, by show q_dn t + 1 ≤ 8; omega, z7, fun d hd => ?_, z9, z10⟩, B2, B3, B4, B5, B6⟩, ⟨⟨?_, ?_, ?_, ?_, ?_, ?_, ?_, fun d hd => ?_, ?_⟩, ?_, ?_, ?_, ?_, ?_⟩, ⟨?_, ?_, ?_, ?_, ?_, ?_, ?_, ?_, fun d hd => ?_, ?_, ?_, ?_, ?_⟩, hb, FCn, FMn⟩
        · have hd' : d < q_dn t + 1 := hd
          show un (q_dw t) (q_dn t) v d < q_pe t ∧ un (q_dh t) (q_dn t) v' d ≤ 71 ∧ 1 ≤ un (q_dv t) (q_dn t) v2 d ∧ un (q_dv t) (q_dn t) v2 d ≤ 99
          by_cases e : d = q_dn t
          · rw [e, un_s, un_s, un_s]; exact ⟨w1, w2, w3, w3'⟩
          · rw [un_n e, un_n e, un_n e]; exact z8 d (by omega)
        · rw [hTi]; exact x1
        · rw [hTi]; exact x2
        · rw [hTi]; exact x3
        · rw [hTi]; exact x4
        · rw [hTi]; exact x5
        · rw [hTi]; rfl
        · rw [hD (T + 1) (by omega) (by omega) (by omega) (by omega) (by omega)]; exact x7
        · have hd' : d < q_dn t + 1 := hd
          rw [hU2, hU3, hU4]
          show _ = nI (un (q_dw t) (q_dn t) v d) ∧ _ = nI (un (q_dh t) (q_dn t) v' d) ∧ _ = nI (un (q_dv t) (q_dn t) v2 d)
          by_cases e : d = q_dn t
          · rw [if_pos e, if_pos e, if_pos e, e, un_s, un_s, un_s]; exact ⟨rfl, rfl, rfl⟩
          · rw [if_neg e, if_neg e, if_neg e, un_n e, un_n e, un_n e]; exact x8 d (by omega)
        · rw [hD (T + 5) (by omega) (by omega) (by omega) (by omega) (by omega)]; exact x9
        · rw [hTi]; exact C2
        · rw [hD (T + 5) (by omega) (by omega) (by omega) (by omega) (by omega)]; exact C3
        · rw [hD (T + 7) (by omega) (by omega) (by omega) (by omega) (by omega)]; exact C4
        · rw [hD (T + 9) (by omega) (by omega) (by omega) (by omega) (by omega)]; exact C5
        · rw [hD (T + 10) (by omega) (by omega) (by omega) (by omega) (by omega)]; exact C6
        · rw [hE 64 (by decide) (by decide) (by decide) (by decide)]; exact y1
        · rw [hE 64 (by decide) (by decide) (by decide) (by decide)]; exact y2
        · rw [hE 64 (by decide) (by decide) (by decide) (by decide)]; exact y3
        · rw [hK 20 (by decide) (by decide) (by decide) (by decide)]; exact y4
        · rw [hK 26 (by decide) (by decide) (by decide) (by decide)]; exact y5
        · rw [hK 28 (by decide) (by decide) (by decide) (by decide)]; rfl
        · rw [hK 25 (by decide) (by decide) (by decide) (by decide)]; exact y7
        · rw [hE 69 (by decide) (by decide) (by decide) (by decide)]; exact y8
        · have hd' : d < q_dn t + 1 := hd
          rw [hV0, hV1, hV2]
          show _ = nI (un (q_dw t) (q_dn t) v d) ∧ _ = nI (un (q_dh t) (q_dn t) v' d) ∧ _ = nI (un (q_dv t) (q_dn t) v2 d)
          by_cases e : d = q_dn t
          · rw [if_pos e, if_pos e, if_pos e, e, un_s, un_s, un_s]; exact ⟨rfl, rfl, rfl⟩
          · rw [if_neg e, if_neg e, if_neg e, un_n e, un_n e, un_n e]; exact y9 d (by omega)
        · rw [hE 68 (by decide) (by decide) (by decide) (by decide)]; exact y10
        · rw [hE 65 (by decide) (by decide) (by decide) (by decide)]; exact y11
        · rw [hE 66 (by decide) (by decide) (by decide) (by decide)]; exact y12
        · rw [hE 67 (by decide) (by decide) (by decide) (by decide)]; exact y13
      · have hf1 := d3.1
        have hf4 := d3.2.1
        rw [d1, m_into d2 hP (by decide)]
        dsimp only [Option.bind_some]
        rw [t_notg d3.2.2.2.1 hf1 hf4, if_pos (show (0 : Int32) = 0 from rfl)]
        exact Or.inr ⟨f, w, _, _, rfl, rfl, Bd_o rfl (by rw [tl_upo2 (by decide)]) d3, FC_t c1 (FC_t (FC_c a11) (FC_t (FC_c b11) (FC_c d4))), FM_t m2 (FM_t (FM_m a12) (FM_t (FM_u (by decide) (by decide)) (FM_t (FM_m b12) (FM_t (FM_u (by decide) (by decide)) (FM_t (FM_m d5) (FM_u (by decide) (by decide)))))))⟩
    · have hf1 := b3.1
      have hf4 := b3.2.1
      rw [b1, m_into b2 hP (by decide)]
      dsimp only [Option.bind_some]
      rw [t_nb b3.2.2.2.1 hf1 hf4, b_X6_takeDebt_52, if_neg (nI_nle (by omega) (by omega))]
      dsimp only [Option.bind_some]
      rw [t_notg b3.2.2.2.1 hf1 hf4, if_pos (show (0 : Int32) = 0 from rfl)]
      exact Or.inr ⟨f, w, _, _, rfl, rfl, Bd_o rfl (by rw [tl_upo2 (by decide)]) b3, FC_t c1 (FC_t (FC_c a11) (FC_c b4)), FM_t m2 (FM_t (FM_m a12) (FM_t (FM_u (by decide) (by decide)) (FM_t (FM_m b5) (FM_u (by decide) (by decide)))))⟩
  · have hf1 := a3.1
    have hf4 := a3.2.1
    rw [a1, m_into a2 hP (by decide)]
    dsimp only [Option.bind_some]
    rw [t_nb a3.2.2.2.1 hf1 hf4, if_neg (nI_nle (by omega) (by omega)), b_X6_takeDebt_52, if_neg (nI_nle (by omega) (by omega))]
    dsimp only [Option.bind_some]
    rw [t_nb a3.2.2.2.1 hf1 hf4]
    dsimp only [Option.bind_some]
    rw [t_notg a3.2.2.2.1 hf1 hf4, if_pos (show (0 : Int32) = 0 from rfl)]
    exact Or.inr ⟨f, w, _, _, rfl, rfl, Bd_o rfl (by rw [tl_upo2 (by decide)]) a3, FC_t c1 (FC_c a4), FM_t m2 (FM_t (FM_m a5) (FM_u (by decide) (by decide)))⟩
theorem t_yawn {tw T n p : Nat} {tx : Nat → Nat} {t : To} {ti pu ro : Nat → Nat} {yt : Nat} {D E : am_M} (hT : 15 - tw = T) (hL : T + 10 < 12 ∨ 13 < T) (hX : Tx n tx D E) (hA : Atp n p D E) (hp : p < n) (hB : PB t ti pu ro yt) (hC : PC T t ti pu ro yt D) (hM : PM t ti pu ro yt E) (hb : 1 ≤ q_be t) : BR T n (p + 1) D E (f_X3_readYawn tw D) (f_X6_takeYawn (am_up E 56 16 (nI (p + 1)))) := by
  have hA1 := At_s hA hp
  have hX1 : Tx n tx (am_up D 12 1 (nI (p + 1))) (am_up E 56 16 (nI (p + 1))) := Tx_f hX (Fc_u (by decide)) (Fm_u (by decide) (by decide))
  have c1 : FC T D (am_up D 12 1 (nI (p + 1))) := FC_c (Fc_u (by decide))
  have m1 : FM E (am_up E 56 16 (nI (p + 1))) := FM_k (by omega)
  have hC1 : PC T t ti pu ro yt (am_up D 12 1 (nI (p + 1))) := PC_c hL (Fc_u (by decide)) hC
  have hM1 : PM t ti pu ro yt (am_up E 56 16 (nI (p + 1))) := PM_m (Fm_u (by decide) (by decide)) hM
  rw [f_X3_readYawn, t_step hA, f_X6_takeYawn, hM1.2.2.2.1]
  dsimp only [Option.bind_some]
  generalize am_up D 12 1 (nI (p + 1)) = D1 at *
  generalize am_up E 56 16 (nI (p + 1)) = E1 at *
  have hP5 := hB.1.2.2.2.1
  rw [hT, hC1.1.2.2.2.1]
  rcases t_num (tw := tw) (lo := 0) (hi := nI (q_pe t) - 1) hX1 hA1 with ⟨v, q, p0, D2, E2, a1, a2, a3, a4, a5, a6, a7, a8, a9, a10, a11, a12⟩ | ⟨f, w, D2, E2, a1, a2, a3, a4, a5⟩
  · have hC2 := PC_c hL a11 hC1
    have hM2 := PM_m a12 hM1
    have w1 := n_w1 a3 hP5 a4
    have hyt := hB.2.2.2.2.1
    rw [a1, a2]
    dsimp only [Option.bind_some]
    rw [t_good a6, if_neg (show ¬ (1 : Int32) = 0 by decide), if_pos (show (0 : Int32) = 0 from rfl)]
    have ic : f_X5_isIn (D2 T 6) (nI v) = 0 ↔ ¬ yt.testBit v = true := by rw [hC2.2.1]; exact i_in (by omega) (by omega)
    have im : f_X6_has (E2 56 25) (E2 56 17) = 0 ↔ ¬ yt.testBit v = true := by rw [hM2.2.2.2.2.2.2.1, a7, has_is]; exact i_in (by omega) (by omega)
    by_cases ht : yt.testBit v = true
    · have hb := t_bd (f := 4) (w := p0) a6 (by decide) (by decide) a8
      have e5 : (am_up (am_up D2 12 5 4) 12 6 (nI p0)) 12 5 = nI 4 := hb.2.2.2.1
      rw [if_neg (fun q => ic.mp q ht), if_neg (fun q => im.mp q ht), t_fail a6, a9, f_X6_fails, a10]
      dsimp only [Option.bind_some]
      rw [b_X3_readYawn_50, t_nb e5 (by decide) (by decide)]
      dsimp only [Option.bind_some]
      rw [t_notg e5 (by decide) (by decide), if_pos (show (0 : Int32) = 0 from rfl)]
      exact Or.inr ⟨4, p0, _, _, rfl, rfl, hb, FC_t c1 (FC_t (FC_c a11) (FC_c t_ffl)), FM_t m1 (FM_t (FM_m a12) (FM_k (by omega)))⟩
    · rw [if_pos (ic.mpr ht), if_pos (im.mpr ht), b_X3_readYawn_50, b_X6_takeYawn_42, a7, if_pos (show (0 : Int32) = 0 from rfl), hM2.2.2.2.2.2.2.1, n_shl v (by omega), n_or]
      have hX3 : Tx n tx D2 (am_up E2 56 25 (nI (yt ||| 2 ^ v))) := Tx_F hL (Tx_f hX1 a11 a12) (FC_c (Fc_r D2)) (FM_k (by omega))
      have hA3 : Atp n q D2 (am_up E2 56 25 (nI (yt ||| 2 ^ v))) := At_o rfl (by rw [tl_upi2, if_neg (by decide)]) (by rw [tl_upi2, if_neg (by decide)]) a6
      rcases t_num (tw := tw) (lo := 1) (hi := 20) hX3 hA3 with ⟨v', q', p0', D3, E3, b1, b2, b3, b4, b5, b6, b7, b8, b9, b10, b11, b12⟩ | ⟨f, w, D3, E3, b1, b2, b3, b4, b5⟩
      · have e6 : D3 T 6 = nI yt := by rw [b11.1 T (by omega)]; exact hC2.2.1
        rw [b1, m_into b2 (show v < 5 by omega) (by decide), b7]
        dsimp only [Option.bind_some]
        rw [t_good b6, if_neg (show ¬ (1 : Int32) = 0 by decide), if_pos (tl_ai (by omega) (by omega)), tl_cl2 (by omega), hT, tl_upo2 (show T ≠ T + 5 by omega), e6, n_or]
        obtain ⟨w2, w2'⟩ := n_w (a := 1) (b := 20) b3 (by decide) (by decide) b4
        obtain ⟨⟨z1, z2, z3, z4, z5, z6, z7, z8, z9, z10⟩, B2, B3, B4, B5, B6⟩ := hB
        obtain ⟨⟨x1, x2, x3, x4, x5, x6, x7, x8, x9⟩, C2, C3, C4, C5, C6⟩ := hC2
        obtain ⟨y1, y2, y3, y4, y5, y6, y7, y8, y9, y10, y11, y12, y13⟩ := hM2
        have hy32 : yt ||| 2 ^ v < 32 := Nat.or_lt_two_pow (n := 5) hyt (Nat.pow_lt_pow_right (by decide) (by omega))
        generalize hU : am_up (am_up D3 (T + 5) v (nI v')) T 6 (nI (yt ||| 2 ^ v)) = U
        generalize hV : am_up E3 68 v (nI v') = V
        have hD : ∀ a, a ≠ 12 → a ≠ T → a ≠ T + 5 → U a = D2 a := fun a x1 x2 x3 => by rw [← hU, tl_upo2 x2, tl_upo2 x3, b11.1 a x1]
        have hTi : ∀ i, U T i = if i = 6 then nI (yt ||| 2 ^ v) else D2 T i := fun i => by rw [← hU, tl_upi2, tl_upo2 (by omega), b11.1 T (by omega)]
        have hU5 : ∀ i, U (T + 5) i = if i = v then nI v' else D2 (T + 5) i := fun i => by rw [← hU, tl_upo2 (by omega), tl_upi2, b11.1 (T + 5) (by omega)]
        have hE : ∀ a, a ≠ 56 → a ≠ 68 → V a = E2 a := fun a x1 x2 => by rw [← hV, tl_upo2 x2, b12.1 a x1, tl_upo2 x1]
        have hK : ∀ i, i ≠ 15 → i ≠ 16 → i ≠ 17 → i ≠ 18 → V 56 i = if i = 25 then nI (yt ||| 2 ^ v) else E2 56 i := fun i x1 x2 x3 x4 => by rw [← hV, tl_upo2 (by decide), b12.2 i x1 x2 x3 x4, tl_upi2]
        have hV8 : ∀ i, V 68 i = if i = v then nI v' else E2 68 i := fun i => by rw [← hV, tl_upi2, b12.1 68 (by decide), tl_upo2 (by decide)]
        have hAn : Atp n q' U V := At_o (by rw [← hU, tl_upo2 (by omega), tl_upo2 (by omega)]) (by rw [← hV, tl_upo2 (by decide)]) (by rw [← hV, tl_upo2 (by decide)]) b6
        have FCn : FC T D U := by
          rw [← hU]
          exact FC_t c1 (FC_t (FC_c a11) (FC_t (FC_c b11) (FC_t (FC_u (by omega) (by omega)) (FC_u (by omega) (by omega)))))
        have FMn : FM E V := by
          rw [← hV]
          exact FM_t m1 (FM_t (FM_m a12) (FM_t (FM_k (by omega)) (FM_t (FM_m b12) (FM_u (by decide) (by decide)))))
        refine Or.inl ⟨q', U, V, (q_be t, q_de t, q_ga t, q_pe t, q_cn t, q_dn t, q_co t, q_dw t, q_dh t, q_dv t, un (q_ya t) v v'), ti, pu, ro, yt ||| 2 ^ v, rfl, rfl, by omega, hAn, ⟨⟨z1, z2, z3, z4, z5, z6, z7, z8, fun j hj => ?_, z10⟩, B2, B3, B4, hy32, B6⟩, ⟨⟨?_, ?_, ?_, ?_, ?_, ?_, ?_, ?_, fun j hj => ?_⟩, ?_, fun j j1 j2 => ?_, ?_, ?_, ?_⟩, ⟨?_, ?_, ?_, ?_, ?_, ?_, ?_, ?_, ?_, fun j hj => ?_, ?_, ?_, ?_⟩, hb, FCn, FMn⟩
        · show 1 ≤ un (q_ya t) v v' j ∧ un (q_ya t) v v' j ≤ 20
          by_cases e : j = v
          · rw [e, un_s]; exact ⟨w2, w2'⟩
          · rw [un_n e]; exact z9 j hj
        · rw [hTi]; exact x1
        · rw [hTi]; exact x2
        · rw [hTi]; exact x3
        · rw [hTi]; exact x4
        · rw [hTi]; exact x5
        · rw [hTi]; exact x6
        · rw [hD (T + 1) (by omega) (by omega) (by omega)]; exact x7
        · rw [hD (T + 2) (by omega) (by omega) (by omega), hD (T + 3) (by omega) (by omega) (by omega), hD (T + 4) (by omega) (by omega) (by omega)]; exact x8
        · rw [hU5]
          show _ = nI (un (q_ya t) v v' j)
          by_cases e : j = v
          · rw [if_pos e, e, un_s]
          · rw [if_neg e, un_n e]; exact x9 j hj
        · rw [hTi]; rfl
        · have j1' : q_pe t ≤ j := j1
          rw [hU5, if_neg (by omega)]; exact C3 j j1 j2
        · rw [hD (T + 7) (by omega) (by omega) (by omega)]; exact C4
        · rw [hD (T + 9) (by omega) (by omega) (by omega)]; exact C5
        · rw [hD (T + 10) (by omega) (by omega) (by omega)]; exact C6
        · rw [hE 64 (by decide) (by decide)]; exact y1
        · rw [hE 64 (by decide) (by decide)]; exact y2
        · rw [hE 64 (by decide) (by decide)]; exact y3
        · rw [hK 20 (by decide) (by decide) (by decide) (by decide)]; exact y4
        · rw [hK 26 (by decide) (by decide) (by decide) (by decide)]; exact y5
        · rw [hK 28 (by decide) (by decide) (by decide) (by decide)]; exact y6
        · rw [hK 25 (by decide) (by decide) (by decide) (by decide)]; rfl
        · rw [hE 69 (by decide) (by decide)]; exact y8
        · rw [hE 70 (by decide) (by decide), hE 71 (by decide) (by decide), hE 72 (by decide) (by decide)]; exact y9
        · rw [hV8]
          show _ = nI (un (q_ya t) v v' j)
          by_cases e : j = v
          · rw [if_pos e, e, un_s]
          · rw [if_neg e, un_n e]; exact y10 j hj
        · rw [hE 65 (by decide) (by decide)]; exact y11
        · rw [hE 66 (by decide) (by decide)]; exact y12
        · rw [hE 67 (by decide) (by decide)]; exact y13
      · have hf1 := b3.1
        have hf4 := b3.2.1
        rw [b1, m_into b2 (show v < 5 by omega) (by decide)]
        dsimp only [Option.bind_some]
        rw [t_notg b3.2.2.2.1 hf1 hf4, if_pos (show (0 : Int32) = 0 from rfl)]
        exact Or.inr ⟨f, w, _, _, rfl, rfl, Bd_o rfl (by rw [tl_upo2 (by decide)]) b3, FC_t c1 (FC_t (FC_c a11) (FC_c b4)), FM_t m1 (FM_t (FM_m a12) (FM_t (FM_k (by omega)) (FM_t (FM_m b5) (FM_u (by decide) (by decide)))))⟩
  · have hf1 := a3.1
    have hf4 := a3.2.1
    rw [a1, a2]
    dsimp only [Option.bind_some]
    rw [t_notg a3.2.2.2.1 hf1 hf4, if_pos (show (0 : Int32) = 0 from rfl), if_neg (nI_ne0 (by omega) (by omega)), b_X3_readYawn_50, t_nb a3.2.2.2.1 hf1 hf4, b_X6_takeYawn_42, if_neg (nI_ne0 (by omega) (by omega))]
    dsimp only [Option.bind_some]
    rw [t_notg a3.2.2.2.1 hf1 hf4, if_pos (show (0 : Int32) = 0 from rfl)]
    exact Or.inr ⟨f, w, _, _, rfl, rfl, a3, FC_t c1 (FC_c a4), FM_t m1 (FM_m a5)⟩
