/-! a coin is read -/
theorem c_has {T N : Nat} {co : Nat → Nat} {D : am_M} {x : Int32} (hN : N ≤ 4) (h4 : D T 4 = nI N) (hc : ∀ c, c < N → D (T + 1) c = nI (co c)) : ∀ (m c k : Nat), c + m = N → m < k → ∃ r, b_X4_hasCoin_2 T k x (nI c) D = some (r, D) ∧ ((∃ j, c ≤ j ∧ j < N ∧ nI (co j) = x) → r = 1) ∧ ((¬ ∃ j, c ≤ j ∧ j < N ∧ nI (co j) = x) → r = 0) := by
  intro m
  induction m with
  | zero =>
    intro c k hm hk
    obtain ⟨k, rfl⟩ : ∃ q, k = q + 1 := ⟨k - 1, by omega⟩
    exact ⟨0, by rw [b_X4_hasCoin_2, h4, if_pos (nI_le (by omega) (by omega))], fun ⟨j, j1, j2, _⟩ => absurd j2 (by omega), fun _ => rfl⟩
  | succ m ih =>
    intro c k hm hk
    obtain ⟨k, rfl⟩ : ∃ q, k = q + 1 := ⟨k - 1, by omega⟩
    rw [b_X4_hasCoin_2, h4, if_neg (nI_ge (by omega) (by omega)), if_pos (tl_ai (by omega) (by omega)), tl_cl2 (by omega), hc c (by omega), nI_1]
    by_cases e : nI (co c) = x
    · rw [if_pos e]
      exact ⟨1, rfl, fun _ => rfl, fun q => absurd ⟨c, Nat.le_refl _, by omega, e⟩ q⟩
    · rw [if_neg e]
      obtain ⟨r, i1, i2, i3⟩ := ih (c + 1) k (by omega) (by omega)
      refine ⟨r, i1, fun ⟨j, j1, j2, j3⟩ => i2 ⟨j, ?_, j2, j3⟩, fun q => i3 (fun ⟨j, j1, j2, j3⟩ => q ⟨j, by omega, j2, j3⟩)⟩
      by_cases e2 : j = c
      · subst e2; exact absurd j3 e
      · omega
theorem m_tc18 {N v p0 : Nat} {co : Nat → Nat} {E : am_M} (hN : N ≤ 4) (h26 : E 56 26 = nI N) (h17 : E 56 17 = nI v) (h18 : E 56 18 = nI p0) (hc : ∀ c, c < N → E 69 c = nI (co c)) : ∀ (m c k : Nat), c + m = N → m + 1 < k → ((∃ j, c ≤ j ∧ j < N ∧ nI (co j) = nI v) → b_X6_takeCoin_18 k 0 (nI c) E = some (nI 4, am_up (am_up E 56 15 (nI p0)) 56 26 (nI (N + 1)))) ∧ ((¬ ∃ j, c ≤ j ∧ j < N ∧ nI (co j) = nI v) → b_X6_takeCoin_18 k 0 (nI c) E = some (0, am_up E 56 26 (nI (N + 1)))) := by
  intro m
  induction m with
  | zero =>
    intro c k hm hk
    obtain ⟨k, rfl⟩ : ∃ q, k = q + 1 := ⟨k - 1, by omega⟩
    refine ⟨fun ⟨j, j1, j2, _⟩ => absurd j2 (by omega), fun _ => ?_⟩
    rw [b_X6_takeCoin_18, h26, if_pos (nI_le (by omega) (by omega)), b_X6_takeCoin_63, h26, nI_1]
  | succ m ih =>
    intro c k hm hk
    obtain ⟨k, rfl⟩ : ∃ q, k = q + 1 := ⟨k - 1, by omega⟩
    obtain ⟨i1, i2⟩ := ih (c + 1) k (by omega) (by omega)
    rw [b_X6_takeCoin_18, h26, if_neg (nI_ge (by omega) (by omega)), if_pos rfl, if_pos (tl_ai (by omega) (by omega)), tl_cl2 (by omega), hc c (by omega), h17, nI_1]
    by_cases e : nI (co c) = nI v
    · rw [if_pos e, f_X6_fails, h18]
      dsimp only [Option.bind_some]
      refine ⟨fun _ => ?_, fun q => absurd ⟨c, Nat.le_refl _, by omega, e⟩ q⟩
      obtain ⟨k, rfl⟩ : ∃ q, k = q + 1 := ⟨k - 1, by omega⟩
      have e26 : (am_up E 56 15 (nI p0)) 56 26 = nI N := by rw [tl_upi2, if_neg (by decide)]; exact h26
      rw [b_X6_takeCoin_18, if_neg (show ¬ (4 : Int32) = 0 by decide), b_X6_takeCoin_63, e26, nI_1]
      split <;> rfl
    · rw [if_neg e]
      refine ⟨fun ⟨j, j1, j2, j3⟩ => i1 ⟨j, ?_, j2, j3⟩, fun q => i2 (fun ⟨j, j1, j2, j3⟩ => q ⟨j, by omega, j2, j3⟩)⟩
      by_cases e2 : j = c
      · subst e2; exact absurd j3 e
      · omega
theorem m_tcb {N f : Nat} {E : am_M} (h1 : 1 ≤ f) (h4 : f ≤ 4) (h26 : E 56 26 = nI N) : b_X6_takeCoin_18 am_N (nI f) 0 E = some (nI f, am_up E 56 26 (nI (N + 1))) := by
  rw [tl_N, b_X6_takeCoin_18, if_neg (nI_ne0 (by omega) (by omega)), b_X6_takeCoin_63, h26, nI_1]
  split <;> rfl
theorem m_tc1 {N v p0 : Nat} {co : Nat → Nat} {E : am_M} (hN : N ≤ 4) (h26 : E 56 26 = nI N) (h17 : E 56 17 = nI v) (h18 : E 56 18 = nI p0) (hc : ∀ c, c < N → E 69 c = nI (co c)) : ((∃ j, 0 ≤ j ∧ j < N ∧ nI (co j) = nI v) → b_X6_takeCoin_18 am_N 0 0 E = some (nI 4, am_up (am_up E 56 15 (nI p0)) 56 26 (nI (N + 1)))) ∧ ((¬ ∃ j, 0 ≤ j ∧ j < N ∧ nI (co j) = nI v) → b_X6_takeCoin_18 am_N 0 0 E = some (0, am_up E 56 26 (nI (N + 1)))) := m_tc18 hN h26 h17 h18 hc N 0 am_N (by omega) (by show _ < 100000; omega)
theorem c_has1 {T N : Nat} {co : Nat → Nat} {D : am_M} {x : Int32} (hN : N ≤ 4) (h4 : D T 4 = nI N) (hc : ∀ c, c < N → D (T + 1) c = nI (co c)) : ∃ r, f_X4_hasCoin T x D = some (r, D) ∧ ((∃ j, 0 ≤ j ∧ j < N ∧ nI (co j) = x) → r = 1) ∧ ((¬ ∃ j, 0 ≤ j ∧ j < N ∧ nI (co j) = x) → r = 0) := c_has hN h4 hc N 0 am_N (by omega) (by show N < 100000; omega)
theorem t_coin1 {tw T n p N : Nat} {co : Nat → Nat} {D E : am_M} (hT : 15 - tw = T) (hL : T + 10 < 12 ∨ 13 < T) (hA : Atp n p D E) (hp : p ≤ 250) (hN : N ≤ 4) (h4 : D T 4 = nI N) (hc : ∀ c, c < N → D (T + 1) c = nI (co c)) (h0 : ¬ D T 4 < 4) : ∃ D', f_X3_readCoin tw D = some D' ∧ Bd 3 p D' (am_up E 56 15 (nI p)) ∧ FC T D D' := by
  have hb := t_bd (f := 3) (w := p) hA (by decide) (by decide) hp
  have e5 : (am_up (am_up D 12 5 (nI 3)) 12 6 (nI p)) 12 5 = nI 3 := hb.2.2.2.1
  have nb : ∀ (lo hi : Int32) (U : am_M), U 12 5 = nI 3 → f_X3_readNumber tw lo hi U = some (0, U) := fun lo hi U h => t_nb h (by decide) (by decide)
  obtain ⟨r, r1, -⟩ := c_has (T := T) (N := N) (co := co) (D := am_up (am_up D 12 5 (nI 3)) 12 6 (nI p)) (x := 0) hN (by rw [tl_upo2 (by omega), tl_upo2 (by omega)]; exact h4) (fun c hc' => by rw [tl_upo2 (by omega), tl_upo2 (by omega)]; exact hc c hc') N 0 am_N (by omega) (by show N < 100000; omega)
  have r1' : f_X4_hasCoin T 0 (am_up (am_up D 12 5 (nI 3)) 12 6 (nI p)) = some (r, am_up (am_up D 12 5 (nI 3)) 12 6 (nI p)) := r1
  rw [f_X3_readCoin, hT, if_neg h0, b_X3_readCoin_17, hT, t_many hA]
  dsimp only [Option.bind_some]
  rw [nb _ _ _ e5]
  dsimp only [Option.bind_some]
  rw [r1']
  dsimp only [Option.bind_some]
  rw [f_X3_fail, t_notg e5 (by decide) (by decide), if_pos (show (0 : Int32) = 0 from rfl)]
  dsimp only [Option.bind_some]
  rw [b_X3_readCoin_48, t_notg e5 (by decide) (by decide), if_pos (show (0 : Int32) = 0 from rfl)]
  refine ⟨_, ?_, hb, FC_c t_ffl⟩
  split <;> rfl
theorem t_coin {tw T n p : Nat} {tx : Nat → Nat} {t : To} {ti pu ro : Nat → Nat} {yt : Nat} {D E : am_M} (hT : 15 - tw = T) (hL : T + 10 < 12 ∨ 13 < T) (hX : Tx n tx D E) (hA : Atp n p D E) (hp : p < n) (hB : PB t ti pu ro yt) (hC : PC T t ti pu ro yt D) (hM : PM t ti pu ro yt E) (hb : 1 ≤ q_be t) (hP : q_cn t < 4) : BR T n (p + 1) D E (f_X3_readCoin tw D) (f_X6_takeCoin (am_up E 56 16 (nI (p + 1)))) := by
  have hA1 := At_s hA hp
  have hX1 : Tx n tx (am_up D 12 1 (nI (p + 1))) (am_up E 56 16 (nI (p + 1))) := Tx_f hX (Fc_u (by decide)) (Fm_u (by decide) (by decide))
  have c1 : FC T D (am_up D 12 1 (nI (p + 1))) := FC_c (Fc_u (by decide))
  have m1 : FM E (am_up E 56 16 (nI (p + 1))) := FM_k (by omega)
  have hC1 : PC T t ti pu ro yt (am_up D 12 1 (nI (p + 1))) := PC_c hL (Fc_u (by decide)) hC
  have hM1 : PM t ti pu ro yt (am_up E 56 16 (nI (p + 1))) := PM_m (Fm_u (by decide) (by decide)) hM
  rw [f_X3_readCoin, hT, hC.1.2.2.2.2.1, if_pos (show nI (q_cn t) < 4 from nI_lt (b := 4) hP (by decide)), b_X3_readCoin_17, hT, t_step hA]
  dsimp only [Option.bind_some]
  generalize am_up D 12 1 (nI (p + 1)) = D1 at *
  generalize am_up E 56 16 (nI (p + 1)) = E1 at *
  rcases t_num (tw := tw) (lo := 2) (hi := 60) hX1 hA1 with ⟨v, q, p0, D2, E2, a1, a2, a3, a4, a5, a6, a7, a8, a9, a10, a11, a12⟩ | ⟨f, w, D2, E2, a1, a2, a3, a4, a5⟩
  · have hC2 := PC_c hL a11 hC1
    have hM2 := PM_m a12 hM1
    have eM : f_X6_takeCoin E1 = b_X6_takeCoin_18 am_N 0 0 (am_up E2 69 (q_cn t) (nI v)) := by rw [f_X6_takeCoin, hM1.2.2.2.2.1, m_into a2 hP (by decide), a7, Option.bind_some]
    rw [a1, eM]
    dsimp only [Option.bind_some]
    obtain ⟨r, r1', r2, r3⟩ := c_has1 (T := T) (N := q_cn t) (co := q_co t) (D := D2) (x := nI v) (by omega) hC2.1.2.2.2.2.1 hC2.1.2.2.2.2.2.2.1
    obtain ⟨s1, s2⟩ := m_tc1 (N := q_cn t) (v := v) (p0 := p0) (co := q_co t) (E := am_up E2 69 (q_cn t) (nI v)) (by omega) (by rw [tl_upo2 (by decide)]; exact hM2.2.2.2.2.1) (by rw [tl_upo2 (by decide)]; exact a7) (by rw [tl_upo2 (by decide)]; exact a10) (fun c hc => by rw [tl_upi2, if_neg (by omega)]; exact hM2.2.2.2.2.2.2.2.1 c hc)
    rw [r1']
    dsimp only [Option.bind_some]
    by_cases hex : ∃ j, 0 ≤ j ∧ j < q_cn t ∧ nI (q_co t j) = nI v
    · have s1' : b_X6_takeCoin_18 am_N 0 0 (am_up E2 69 (q_cn t) (nI v)) = some (nI 4, am_up (am_up (am_up E2 69 (q_cn t) (nI v)) 56 15 (nI p0)) 56 26 (nI (q_cn t + 1))) := s1 hex
      have hb := t_bd (f := 4) (w := p0) a6 (by decide) (by decide) a8
      have e5 : (am_up (am_up D2 12 5 4) 12 6 (nI p0)) 12 5 = nI 4 := hb.2.2.2.1
      rw [r2 hex, if_neg (show ¬ (1 : Int32) = 0 by decide), t_fail a6, a9, s1']
      dsimp only [Option.bind_some]
      rw [b_X3_readCoin_48, t_notg e5 (by decide) (by decide), if_pos (show (0 : Int32) = 0 from rfl)]
      exact Or.inr ⟨4, p0, _, _, rfl, rfl, Bd_o rfl (by rw [tl_upi2, if_neg (by decide), tl_upi2, if_pos rfl, tl_upi2, if_pos rfl]) hb, FC_t c1 (FC_t (FC_c a11) (FC_c t_ffl)), FM_t m1 (FM_t (FM_m a12) (FM_t (FM_u (by decide) (by decide)) (FM_t (FM_k (by omega)) (FM_k (by omega)))))⟩
    · have s2' : b_X6_takeCoin_18 am_N 0 0 (am_up E2 69 (q_cn t) (nI v)) = some (0, am_up (am_up E2 69 (q_cn t) (nI v)) 56 26 (nI (q_cn t + 1))) := s2 hex
      have r0 := r3 hex
      clear hex r2 r3 s1 s2
      have h4 : D2 T 4 = nI (q_cn t) := hC2.1.2.2.2.2.1
      rw [r0, if_pos (show (0 : Int32) = 0 from rfl), s2', b_X3_readCoin_48, t_good a6, if_neg (show ¬ (1 : Int32) = 0 by decide), hT, h4, if_pos (tl_ai (by omega) (by omega)), tl_cl2 (by omega), tl_upo2 (show T ≠ T + 1 by omega), h4, nI_1]
      obtain ⟨w1, w1'⟩ := n_w (a := 2) (b := 60) a3 (by decide) (by decide) a4
      obtain ⟨⟨z1, z2, z3, z4, z5, z6, z7, z8, z9, z10⟩, B2, B3, B4, B5, B6⟩ := hB
      obtain ⟨⟨x1, x2, x3, x4, x5, x6, x7, x8, x9⟩, C2, C3, C4, C5, C6⟩ := hC2
      obtain ⟨y1, y2, y3, y4, y5, y6, y7, y8, y9, y10, y11, y12, y13⟩ := hM2
      have hD : ∀ a, a ≠ T → a ≠ T + 1 → (am_up (am_up D2 (T + 1) (q_cn t) (nI v)) T 4 (nI (q_cn t + 1))) a = D2 a := fun a x1 x2 => by rw [tl_upo2 x1, tl_upo2 x2]
      have hTi : ∀ i, (am_up (am_up D2 (T + 1) (q_cn t) (nI v)) T 4 (nI (q_cn t + 1))) T i = if i = 4 then nI (q_cn t + 1) else D2 T i := fun i => by rw [tl_upi2, tl_upo2 (by omega)]
      have hE : ∀ a, a ≠ 56 → a ≠ 69 → (am_up (am_up E2 69 (q_cn t) (nI v)) 56 26 (nI (q_cn t + 1))) a = E2 a := fun a x1 x2 => by rw [tl_upo2 x1, tl_upo2 x2]
      have hK : ∀ i, (am_up (am_up E2 69 (q_cn t) (nI v)) 56 26 (nI (q_cn t + 1))) 56 i = if i = 26 then nI (q_cn t + 1) else E2 56 i := fun i => by rw [tl_upi2, tl_upo2 (by decide)]
      refine Or.inl ⟨q, _, _, (q_be t, q_de t, q_ga t, q_pe t, q_cn t + 1, q_dn t, un (q_co t) (q_cn t) v, q_dw t, q_dh t, q_dv t, q_ya t), ti, pu, ro, yt, rfl, rfl, by omega, At_o (by rw [tl_upo2 (by omega), tl_upo2 (by omega)]) (by rw [hK]; rfl) (by rw [hK]; rfl) a6, ⟨⟨z1, z2, z3, z4, by show q_cn t + 1 ≤ 4; omega, z6, fun c hc => ?_, z8, z9, z10⟩, B2, B3, B4, B5, B6⟩, ⟨⟨?_, ?_, ?_, ?_, ?_, ?_, fun c hc => ?_, ?_, ?_⟩, ?_, ?_, ?_, ?_, ?_⟩, ⟨?_, ?_, ?_, ?_, ?_, ?_, ?_, fun c hc => ?_, ?_, ?_, ?_, ?_, ?_⟩, hb, FC_t c1 (FC_t (FC_c a11) (FC_t (FC_u (by omega) (by omega)) (FC_u (by omega) (by omega)))), FM_t m1 (FM_t (FM_m a12) (FM_t (FM_u (by decide) (by decide)) (FM_k (by omega))))⟩
      · have hc' : c < q_cn t + 1 := hc
        show 2 ≤ un (q_co t) (q_cn t) v c ∧ un (q_co t) (q_cn t) v c ≤ 60
        by_cases e : c = q_cn t
        · rw [e, un_s]; exact ⟨w1, w1'⟩
        · rw [un_n e]; exact z7 c (by omega)
      · rw [hTi]; exact x1
      · rw [hTi]; exact x2
      · rw [hTi]; exact x3
      · rw [hTi]; exact x4
      · rw [hTi]; rfl
      · rw [hTi]; exact x6
      · have hc' : c < q_cn t + 1 := hc
        rw [tl_upo2 (by omega), tl_upi2]
        show _ = nI (un (q_co t) (q_cn t) v c)
        by_cases e : c = q_cn t
        · rw [if_pos e, e, un_s]
        · rw [if_neg e, un_n e]; exact x7 c (by omega)
      · rw [hD (T + 2) (by omega) (by omega), hD (T + 3) (by omega) (by omega), hD (T + 4) (by omega) (by omega)]; exact x8
      · rw [hD (T + 5) (by omega) (by omega)]; exact x9
      · rw [hTi]; exact C2
      · rw [hD (T + 5) (by omega) (by omega)]; exact C3
      · rw [hD (T + 7) (by omega) (by omega)]; exact C4
      · rw [hD (T + 9) (by omega) (by omega)]; exact C5
      · rw [hD (T + 10) (by omega) (by omega)]; exact C6
      · rw [hE 64 (by decide) (by decide)]; exact y1
      · rw [hE 64 (by decide) (by decide)]; exact y2
      · rw [hE 64 (by decide) (by decide)]; exact y3
      · rw [hK]; exact y4
      · rw [hK]; rfl
      · rw [hK]; exact y6
      · rw [hK]; exact y7
      · have hc' : c < q_cn t + 1 := hc
        rw [tl_upo2 (by decide), tl_upi2]
        show _ = nI (un (q_co t) (q_cn t) v c)
        by_cases e : c = q_cn t
        · rw [if_pos e, e, un_s]
        · rw [if_neg e, un_n e]; exact y8 c (by omega)
      · rw [hE 70 (by decide) (by decide), hE 71 (by decide) (by decide), hE 72 (by decide) (by decide)]; exact y9
      · rw [hE 68 (by decide) (by decide)]; exact y10
      · rw [hE 65 (by decide) (by decide)]; exact y11
      · rw [hE 66 (by decide) (by decide)]; exact y12
      · rw [hE 67 (by decide) (by decide)]; exact y13
  · have hf1 := a3.1
    have hf4 := a3.2.1
    have hC2 := PC_c hL a4 hC1
    have eM : f_X6_takeCoin E1 = b_X6_takeCoin_18 am_N (nI f) 0 (am_up E2 69 (q_cn t) (E2 56 17)) := by rw [f_X6_takeCoin, hM1.2.2.2.2.1, m_into a2 hP (by decide), Option.bind_some]
    rw [a1, eM]
    dsimp only [Option.bind_some]
    obtain ⟨r, r1', -⟩ := c_has1 (T := T) (N := q_cn t) (co := q_co t) (D := D2) (x := 0) (by omega) hC2.1.2.2.2.2.1 hC2.1.2.2.2.2.2.2.1
    have eb : b_X3_readCoin_48 tw 0 D2 = some D2 := by rw [b_X3_readCoin_48, t_notg a3.2.2.2.1 hf1 hf4, if_pos rfl]
    have em : b_X6_takeCoin_18 am_N (nI f) 0 (am_up E2 69 (q_cn t) (E2 56 17)) = some (nI f, am_up (am_up E2 69 (q_cn t) (E2 56 17)) 56 26 (nI (q_cn t + 1))) := m_tcb hf1 hf4 (by rw [tl_upo2 (by decide)]; exact (PM_m a5 hM1).2.2.2.2.1)
    rw [r1', em]
    dsimp only [Option.bind_some]
    rw [f_X3_fail, t_notg a3.2.2.2.1 hf1 hf4, if_pos (show (0 : Int32) = 0 from rfl)]
    dsimp only [Option.bind_some]
    rw [eb]
    refine Or.inr ⟨f, w, D2, _, ?_, rfl, Bd_o rfl (by rw [tl_upi2, if_neg (by decide), tl_upo2 (by decide)]) a3, FC_t c1 (FC_c a4), FM_t m1 (FM_t (FM_m a5) (FM_t (FM_u (by decide) (by decide)) (FM_k (by omega))))⟩
    split <;> rfl
