/-! what has been read so far, on both sides -/
def FC (T : Nat) (D D' : am_M) : Prop := (∀ a, a ≠ 12 → a < T ∨ T + 5 < a → a ≠ T + 7 → a ≠ T + 9 → a ≠ T + 10 → D' a = D a) ∧ D' 12 4 = D 12 4
def FM (E E' : am_M) : Prop := (∀ a, a ≠ 56 → a < 64 ∨ 72 < a → E' a = E a) ∧ ∀ k, k ≠ 15 → k ≠ 16 → k ≠ 17 → k ≠ 18 → k ≠ 20 → k ≠ 25 → k ≠ 26 → k ≠ 28 → E' 56 k = E 56 k
theorem FC_c {T : Nat} {D D' : am_M} (h : Fc D D') : FC T D D' := ⟨fun a ha _ _ _ _ => h.1 a ha, h.2⟩
theorem FM_m {E E' : am_M} (h : Fm E E') : FM E E' := ⟨fun a ha _ => h.1 a ha, fun k k1 k2 k3 k4 _ _ _ _ => h.2 k k1 k2 k3 k4⟩
theorem FC_t {T : Nat} {D D' D'' : am_M} (h : FC T D D') (h' : FC T D' D'') : FC T D D'' := ⟨fun a x1 x2 x3 x4 x5 => by rw [h'.1 a x1 x2 x3 x4 x5, h.1 a x1 x2 x3 x4 x5], by rw [h'.2, h.2]⟩
theorem FM_t {E E' E'' : am_M} (h : FM E E') (h' : FM E' E'') : FM E E'' := ⟨fun a x1 x2 => by rw [h'.1 a x1 x2, h.1 a x1 x2], fun k x1 x2 x3 x4 x5 x6 x7 x8 => by rw [h'.2 k x1 x2 x3 x4 x5 x6 x7 x8, h.2 k x1 x2 x3 x4 x5 x6 x7 x8]⟩
theorem FC_u {T a i : Nat} {D : am_M} {x : Int32} (h : (T ≤ a ∧ a ≤ T + 5) ∨ a = T + 7 ∨ a = T + 9 ∨ a = T + 10) (h12 : a ≠ 12) : FC T D (am_up D a i x) := ⟨fun b x1 x2 x3 x4 x5 => tl_upo2 (by omega), by rw [tl_upo2 (by omega)]⟩
theorem FM_u {a i : Nat} {E : am_M} {x : Int32} (h : 64 ≤ a) (h' : a ≤ 72) : FM E (am_up E a i x) := ⟨fun b x1 x2 => tl_upo2 (by omega), fun k _ _ _ _ _ _ _ _ => by rw [tl_upo2 (by omega)]⟩
theorem FM_k {i : Nat} {E : am_M} {x : Int32} (h : (15 ≤ i ∧ i ≤ 18) ∨ i = 20 ∨ i = 25 ∨ i = 26 ∨ i = 28) : FM E (am_up E 56 i x) := ⟨fun b x1 x2 => tl_upo2 x1, fun k x1 x2 x3 x4 x5 x6 x7 x8 => by rw [tl_upi2, if_neg (by omega)]⟩
theorem Tx_F {T n : Nat} {tx : Nat → Nat} {D E D' E' : am_M} (hL : T + 10 < 12 ∨ 13 < T) (h : Tx n tx D E) (c : FC T D D') (m : FM E E') : Tx n tx D' E' := ⟨h.1, by rw [c.2]; exact h.2.1, by rw [m.2 14 (by decide) (by decide) (by decide) (by decide) (by decide) (by decide) (by decide) (by decide)]; exact h.2.2.1, fun i hi => ⟨(h.2.2.2 i hi).1, by rw [c.1 13 (by decide) (by omega) (by omega) (by omega) (by omega)]; exact (h.2.2.2 i hi).2.1, by rw [m.1 63 (by decide) (by decide)]; exact (h.2.2.2 i hi).2.2⟩⟩
theorem At_o {n p : Nat} {D E D' E' : am_M} (h : D' 12 = D 12) (h2 : E' 56 16 = E 56 16) (h3 : E' 56 15 = E 56 15) (q : Atp n p D E) : Atp n p D' E' := by
  unfold Atp at q ⊢
  rw [h, h2, h3]
  exact q
def PC (T : Nat) (t : To) (ti pu ro : Nat → Nat) (yt : Nat) (D : am_M) : Prop := cTo T t D ∧ D T 6 = nI yt ∧ (∀ p, q_pe t ≤ p → p < 5 → D (T + 5) p = 1) ∧ (∀ p, p < q_pe t → D (T + 7) p = nI (ti p)) ∧ (∀ p, p < q_pe t → D (T + 9) p = nI (pu p)) ∧ ∀ k, k < 24 * q_pe t → D (T + 10) k = nI (ro k)
def PM (t : To) (ti pu ro : Nat → Nat) (yt : Nat) (E : am_M) : Prop := E 64 0 = nI (q_be t) ∧ E 64 1 = nI (q_de t) ∧ E 64 2 = nI (q_ga t) ∧ E 56 20 = nI (q_pe t) ∧ E 56 26 = nI (q_cn t) ∧ E 56 28 = nI (q_dn t) ∧ E 56 25 = nI yt ∧ (∀ c, c < q_cn t → E 69 c = nI (q_co t c)) ∧ (∀ d, d < q_dn t → E 70 d = nI (q_dw t d) ∧ E 71 d = nI (q_dh t d) ∧ E 72 d = nI (q_dv t d)) ∧ (∀ p, p < q_pe t → E 68 p = nI (q_ya t p)) ∧ (∀ p, p < q_pe t → E 65 p = nI (ti p)) ∧ (∀ p, p < q_pe t → E 66 p = nI (pu p)) ∧ ∀ k, k < 24 * q_pe t → E 67 k = nI (ro k)
def PB (t : To) (ti pu ro : Nat → Nat) (yt : Nat) : Prop := bTo t ∧ (∀ p, p < q_pe t → ti p ≤ 99) ∧ (∀ p, p < q_pe t → pu p ≤ 9999) ∧ (∀ k, k < 24 * q_pe t → ro k ≤ 2) ∧ yt < 32 ∧ (1 ≤ q_be t → 2 ≤ q_de t ∧ 1 ≤ q_ga t)
theorem PC_f {T : Nat} {t : To} {ti pu ro : Nat → Nat} {yt : Nat} {D D' : am_M} (h : ∀ a, T ≤ a → a ≤ T + 10 → D' a = D a) (q : PC T t ti pu ro yt D) : PC T t ti pu ro yt D' := by
  obtain ⟨q1, q2, q3, q4, q5, q6⟩ := q
  exact ⟨cTo_f (fun a x1 x2 => h a x1 (by omega)) q1, by rw [h T (by omega) (by omega)]; exact q2, by rw [h (T + 5) (by omega) (by omega)]; exact q3, by rw [h (T + 7) (by omega) (by omega)]; exact q4, by rw [h (T + 9) (by omega) (by omega)]; exact q5, by rw [h (T + 10) (by omega) (by omega)]; exact q6⟩
theorem PM_f {t : To} {ti pu ro : Nat → Nat} {yt : Nat} {E E' : am_M} (h : ∀ a, 64 ≤ a → a ≤ 72 → E' a = E a) (h2 : ∀ k, k = 20 ∨ k = 25 ∨ k = 26 ∨ k = 28 → E' 56 k = E 56 k) (q : PM t ti pu ro yt E) : PM t ti pu ro yt E' := by
  unfold PM at q ⊢
  rw [h 64 (by decide) (by decide), h 65 (by decide) (by decide), h 66 (by decide) (by decide), h 67 (by decide) (by decide), h 68 (by decide) (by decide), h 69 (by decide) (by decide), h 70 (by decide) (by decide), h 71 (by decide) (by decide), h 72 (by decide) (by decide), h2 20 (by decide), h2 25 (by decide), h2 26 (by decide), h2 28 (by decide)]
  exact q
theorem PC_c {T : Nat} {t : To} {ti pu ro : Nat → Nat} {yt : Nat} {D D' : am_M} (hL : T + 10 < 12 ∨ 13 < T) (h : Fc D D') (q : PC T t ti pu ro yt D) : PC T t ti pu ro yt D' := PC_f (fun a x1 x2 => h.1 a (by omega)) q
theorem PM_m {t : To} {ti pu ro : Nat → Nat} {yt : Nat} {E E' : am_M} (h : Fm E E') (q : PM t ti pu ro yt E) : PM t ti pu ro yt E' := PM_f (fun a x1 x2 => h.1 a (by omega)) (fun k hk => h.2 k (by omega) (by omega) (by omega) (by omega)) q
/-- how a clause may come out -/
def BR (T n p : Nat) (D E : am_M) (oc : Option am_M) (om : Option (Int32 × am_M)) : Prop := (∃ q D' E' t ti pu ro yt, oc = some D' ∧ om = some (0, E') ∧ p ≤ q ∧ Atp n q D' E' ∧ PB t ti pu ro yt ∧ PC T t ti pu ro yt D' ∧ PM t ti pu ro yt E' ∧ 1 ≤ q_be t ∧ FC T D D' ∧ FM E E') ∨ (∃ f w D' E', oc = some D' ∧ om = some (nI f, E') ∧ Bd f w D' E' ∧ FC T D D' ∧ FM E E')
theorem n_w {v a b : Nat} (hv : v ≤ 999) (ha : a < 2 ^ 31) (hb : b < 2 ^ 31) (h : ¬ f_X5_isWithin (nI v) (nI a) (nI b) = 0) : a ≤ v ∧ v ≤ b := by
  obtain ⟨j, j1, j2, j3⟩ := tl_w1n hb h ha
  have := (nI_eq (by omega) (by omega)).mp j3
  omega
theorem m_into {A nA j : Nat} {lo hi r : Int32} {E E' : am_M} (h : f_X6_takeNumber lo hi E = some (r, E')) (hj : j < nA) (hn : nA < 1000) : f_X6_into A nA (nI j) lo hi E = some (r, am_up E' A j (E' 56 17)) := by
  rw [f_X6_into, h, Option.bind_some, if_pos (tl_ai hj (by omega)), tl_cl2 (by omega)]
theorem Bd_o {f w : Nat} {D E D' E' : am_M} (h : D' 12 = D 12) (h2 : E' 56 15 = E 56 15) (q : Bd f w D E) : Bd f w D' E' := by
  unfold Bd at q ⊢
  rw [h, h2]
  exact q
/-- a word too many -/
theorem t_many {tw n p : Nat} {D E : am_M} (h : Atp n p D E) : f_X3_stepOverWord tw 1 D = some (am_up (am_up D 12 5 (nI 3)) 12 6 (nI p)) := by
  rw [f_X3_stepOverWord, if_neg (by decide), t_fail h, h.2.1]
  rfl
theorem t_step {tw n p : Nat} {D E : am_M} (h : Atp n p D E) : f_X3_stepOverWord tw 0 D = some (am_up D 12 1 (nI (p + 1))) := by
  rw [f_X3_stepOverWord, if_pos rfl, h.2.1, nI_1]
/-! the mint -/
theorem t_beds1 {tw T n p : Nat} {D E : am_M} (hT : 15 - tw = T) (hL : T + 10 < 12 ∨ 13 < T) (hA : Atp n p D E) (hp : p ≤ 250) (h0 : ¬ D T 0 = 0) : ∃ D', f_X3_readBeds tw D = some D' ∧ Bd 3 p D' (am_up E 56 15 (nI p)) ∧ FC T D D' := by
  have hb := t_bd (f := 3) (w := p) hA (by decide) (by decide) hp
  have e5 : (am_up (am_up D 12 5 (nI 3)) 12 6 (nI p)) 12 5 = nI 3 := hb.2.2.2.1
  have nb : ∀ (lo hi : Int32) (U : am_M), U 12 5 = nI 3 → f_X3_readNumber tw lo hi U = some (0, U) := fun lo hi U h => t_nb h (by decide) (by decide)
  rw [f_X3_readBeds, hT, if_neg h0, b_X3_readBeds_16, hT, t_many hA]
  dsimp only [Option.bind_some]
  rw [nb _ _ _ e5]
  dsimp only [Option.bind_some]
  rw [nb _ _ _ (by rw [tl_upo2 (by omega)]; exact e5)]
  dsimp only [Option.bind_some]
  rw [nb _ _ _ (by rw [tl_upo2 (by omega), tl_upo2 (by omega)]; exact e5)]
  dsimp only [Option.bind_some]
  refine ⟨_, rfl, Bd_o (by rw [tl_upo2 (by omega), tl_upo2 (by omega), tl_upo2 (by omega)]) rfl hb, ?_⟩
  exact FC_t (FC_c t_ffl) (FC_t (FC_u (by omega) (by omega)) (FC_t (FC_u (by omega) (by omega)) (FC_u (by omega) (by omega))))
theorem t_beds {tw T n p : Nat} {tx : Nat → Nat} {t : To} {ti pu ro : Nat → Nat} {yt : Nat} {D E : am_M} (hT : 15 - tw = T) (hL : T + 10 < 12 ∨ 13 < T) (hX : Tx n tx D E) (hA : Atp n p D E) (hp : p < n) (hB : PB t ti pu ro yt) (hC : PC T t ti pu ro yt D) (hM : PM t ti pu ro yt E) (h0 : D T 0 = 0) : BR T n (p + 1) D E (f_X3_readBeds tw D) (f_X6_takeMint (am_up E 56 16 (nI (p + 1)))) := by
  have hA1 := At_s hA hp
  have hX1 : Tx n tx (am_up D 12 1 (nI (p + 1))) (am_up E 56 16 (nI (p + 1))) := Tx_f hX (Fc_u (by decide)) (Fm_u (by decide) (by decide))
  have c1 : FC T D (am_up D 12 1 (nI (p + 1))) := FC_c (Fc_u (by decide))
  have m1 : FM E (am_up E 56 16 (nI (p + 1))) := FM_k (by omega)
  have hC1 : PC T t ti pu ro yt (am_up D 12 1 (nI (p + 1))) := PC_c hL (Fc_u (by decide)) hC
  have hM1 : PM t ti pu ro yt (am_up E 56 16 (nI (p + 1))) := PM_m (Fm_u (by decide) (by decide)) hM
  rw [f_X3_readBeds, hT, if_pos h0, b_X3_readBeds_16, hT, t_step hA, f_X6_takeMint]
  dsimp only [Option.bind_some]
  generalize am_up D 12 1 (nI (p + 1)) = D1 at *
  generalize am_up E 56 16 (nI (p + 1)) = E1 at *
  rcases t_num (tw := tw) (lo := 1) (hi := 5) hX1 hA1 with ⟨v, q, p0, D2, E2, a1, a2, a3, a4, a5, a6, a7, a8, a9, a10, a11, a12⟩ | ⟨f, w, D2, E2, a1, a2, a3, a4, a5⟩
  · have i1 : f_X6_into 64 3 0 1 5 E1 = some (0, am_up E2 64 0 (E2 56 17)) := m_into (j := 0) a2 (by decide) (by decide)
    rw [a1, i1]
    dsimp only [Option.bind_some]
    have hX2 : Tx n tx (am_up D2 T 0 (nI v)) (am_up E2 64 0 (E2 56 17)) := Tx_F hL (Tx_f hX1 a11 a12) (FC_u (by omega) (by omega)) (FM_u (by decide) (by decide))
    have hA2 : Atp n q (am_up D2 T 0 (nI v)) (am_up E2 64 0 (E2 56 17)) := At_o (tl_upo2 (by omega)) (by rw [tl_upo2 (by decide)]) (by rw [tl_upo2 (by decide)]) a6
    rw [if_pos (show (0 : Int32) ≤ 0 by decide)]
    rcases t_num (tw := tw) (lo := 2) (hi := 9) hX2 hA2 with ⟨v', q', p0', D3, E3, b1, b2, b3, b4, b5, b6, b7, b8, b9, b10, b11, b12⟩ | ⟨f, w, D3, E3, b1, b2, b3, b4, b5⟩
    · have i2 : f_X6_into 64 3 1 2 9 (am_up E2 64 0 (E2 56 17)) = some (0, am_up E3 64 1 (E3 56 17)) := m_into (j := 1) b2 (by decide) (by decide)
      rw [b1, i2]
      dsimp only [Option.bind_some]
      have hX3 : Tx n tx (am_up D3 T 1 (nI v')) (am_up E3 64 1 (E3 56 17)) := Tx_F hL (Tx_f hX2 b11 b12) (FC_u (by omega) (by omega)) (FM_u (by decide) (by decide))
      have hA3 : Atp n q' (am_up D3 T 1 (nI v')) (am_up E3 64 1 (E3 56 17)) := At_o (tl_upo2 (by omega)) (by rw [tl_upo2 (by decide)]) (by rw [tl_upo2 (by decide)]) b6
      rw [b_X6_takeMint_32, if_pos (show (0 : Int32) ≤ 0 by decide)]
      rcases t_num (tw := tw) (lo := 1) (hi := 9) hX3 hA3 with ⟨v2, q2, p2, D4, E4, d1, d2, d3, d4, d5, d6, d7, d8, d9, d10, d11, d12⟩ | ⟨f, w, D4, E4, d1, d2, d3, d4, d5⟩
      · have i3 : f_X6_into 64 3 2 1 9 (am_up E3 64 1 (E3 56 17)) = some (0, am_up E4 64 2 (E4 56 17)) := m_into (j := 2) d2 (by decide) (by decide)
        rw [d1, i3]
        dsimp only [Option.bind_some]
        have gD : ∀ a, a ≠ 12 → a ≠ T → (am_up D4 T 2 (nI v2)) a = D1 a := fun a x1 x2 => by rw [tl_upo2 x2, d11.1 a x1, tl_upo2 x2, b11.1 a x1, tl_upo2 x2, a11.1 a x1]
        have gT : ∀ i, (am_up D4 T 2 (nI v2)) T i = if i = 2 then nI v2 else if i = 1 then nI v' else if i = 0 then nI v else D1 T i := fun i => by rw [tl_upi2, d11.1 T (by omega), tl_upi2, b11.1 T (by omega), tl_upi2, a11.1 T (by omega)]
        have gE : ∀ a, a ≠ 56 → a ≠ 64 → (am_up E4 64 2 (E4 56 17)) a = E1 a := fun a x1 x2 => by rw [tl_upo2 x2, d12.1 a x1, tl_upo2 x2, b12.1 a x1, tl_upo2 x2, a12.1 a x1]
        have g56 : ∀ k, k = 20 ∨ k = 25 ∨ k = 26 ∨ k = 28 → (am_up E4 64 2 (E4 56 17)) 56 k = E1 56 k := fun k hk => by rw [tl_upo2 (by decide), d12.2 k (by omega) (by omega) (by omega) (by omega), tl_upo2 (by decide), b12.2 k (by omega) (by omega) (by omega) (by omega), tl_upo2 (by decide), a12.2 k (by omega) (by omega) (by omega) (by omega)]
        have g64 : ∀ i, (am_up E4 64 2 (E4 56 17)) 64 i = if i = 2 then nI v2 else if i = 1 then nI v' else if i = 0 then nI v else E1 64 i := fun i => by rw [tl_upi2, d12.1 64 (by decide), tl_upi2, b12.1 64 (by decide), tl_upi2, a12.1 64 (by decide), a7, b7, d7]
        obtain ⟨w1, w1'⟩ := n_w (a := 1) (b := 5) a3 (by decide) (by decide) a4
        obtain ⟨w2, w2'⟩ := n_w (a := 2) (b := 9) b3 (by decide) (by decide) b4
        obtain ⟨w3, w3'⟩ := n_w (a := 1) (b := 9) d3 (by decide) (by decide) d4
        obtain ⟨⟨z1, z2, z3, z4, z5, z6, z7, z8, z9, z10⟩, B2, B3, B4, B5⟩ := hB
        obtain ⟨⟨x1, x2, x3, x4, x5, x6, x7, x8, x9⟩, C2, C3, C4, C5, C6⟩ := hC1
        obtain ⟨y1, y2, y3, y4, y5, y6, y7, y8, y9, y10, y11, y12, y13⟩ := hM1
        refine Or.inl ⟨q2, _, _, (v, v', v2, q_pe t, q_cn t, q_dn t, q_co t, q_dw t, q_dh t, q_dv t, q_ya t), ti, pu, ro, yt, rfl, rfl, by omega, At_o (tl_upo2 (by omega)) (by rw [tl_upo2 (by decide)]) (by rw [tl_upo2 (by decide)]) d6, ⟨⟨w1', w2', w3', z4, z5, z6, z7, z8, z9, fun _ => ⟨w1, w2, w3⟩⟩, B2, B3, B4, B5.1, fun _ => ⟨w2, w3⟩⟩, ⟨⟨by rw [gT]; rfl, by rw [gT]; rfl, by rw [gT]; rfl, by rw [gT]; exact x4, by rw [gT]; exact x5, by rw [gT]; exact x6, by rw [gD (T + 1) (by omega) (by omega)]; exact x7, by rw [gD (T + 2) (by omega) (by omega), gD (T + 3) (by omega) (by omega), gD (T + 4) (by omega) (by omega)]; exact x8, by rw [gD (T + 5) (by omega) (by omega)]; exact x9⟩, by rw [gT]; exact C2, by rw [gD (T + 5) (by omega) (by omega)]; exact C3, by rw [gD (T + 7) (by omega) (by omega)]; exact C4, by rw [gD (T + 9) (by omega) (by omega)]; exact C5, by rw [gD (T + 10) (by omega) (by omega)]; exact C6⟩, ⟨by rw [g64]; rfl, by rw [g64]; rfl, by rw [g64]; rfl, by rw [g56 20 (by decide)]; exact y4, by rw [g56 26 (by decide)]; exact y5, by rw [g56 28 (by decide)]; exact y6, by rw [g56 25 (by decide)]; exact y7, by rw [gE 69 (by decide) (by decide)]; exact y8, by rw [gE 70 (by decide) (by decide), gE 71 (by decide) (by decide), gE 72 (by decide) (by decide)]; exact y9, by rw [gE 68 (by decide) (by decide)]; exact y10, by rw [gE 65 (by decide) (by decide)]; exact y11, by rw [gE 66 (by decide) (by decide)]; exact y12, by rw [gE 67 (by decide) (by decide)]; exact y13⟩, w1, ?_, ?_⟩
        · exact FC_t c1 (FC_t (FC_c a11) (FC_t (FC_u (by omega) (by omega)) (FC_t (FC_c b11) (FC_t (FC_u (by omega) (by omega)) (FC_t (FC_c d11) (FC_u (by omega) (by omega)))))))
        · exact FM_t m1 (FM_t (FM_m a12) (FM_t (FM_u (by decide) (by decide)) (FM_t (FM_m b12) (FM_t (FM_u (by decide) (by decide)) (FM_t (FM_m d12) (FM_u (by decide) (by decide)))))))
      · have i3 : f_X6_into 64 3 2 1 9 (am_up E3 64 1 (E3 56 17)) = some (nI f, am_up E4 64 2 (E4 56 17)) := m_into (j := 2) d2 (by decide) (by decide)
        rw [d1, i3]
        dsimp only [Option.bind_some]
        exact Or.inr ⟨f, w, _, _, rfl, rfl, Bd_o (tl_upo2 (by omega)) (by rw [tl_upo2 (by decide)]) d3, FC_t c1 (FC_t (FC_c a11) (FC_t (FC_u (by omega) (by omega)) (FC_t (FC_c b11) (FC_t (FC_u (by omega) (by omega)) (FC_t (FC_c d4) (FC_u (by omega) (by omega))))))), FM_t m1 (FM_t (FM_m a12) (FM_t (FM_u (by decide) (by decide)) (FM_t (FM_m b12) (FM_t (FM_u (by decide) (by decide)) (FM_t (FM_m d5) (FM_u (by decide) (by decide)))))))⟩
    · have i2 : f_X6_into 64 3 1 2 9 (am_up E2 64 0 (E2 56 17)) = some (nI f, am_up E3 64 1 (E3 56 17)) := m_into (j := 1) b2 (by decide) (by decide)
      rw [b1, i2]
      dsimp only [Option.bind_some]
      have hf1 := b3.1
      have hf4 := b3.2.1
      have e5 : (am_up D3 T 1 0) 12 5 = nI f := by rw [tl_upo2 (by omega)]; exact b3.2.2.2.1
      rw [t_nb e5 hf1 hf4, b_X6_takeMint_32, if_neg (nI_nle (by omega) (by omega))]
      dsimp only [Option.bind_some]
      exact Or.inr ⟨f, w, _, _, rfl, rfl, Bd_o (by rw [tl_upo2 (by omega), tl_upo2 (by omega)]) (by rw [tl_upo2 (by decide)]) b3, FC_t c1 (FC_t (FC_c a11) (FC_t (FC_u (by omega) (by omega)) (FC_t (FC_c b4) (FC_t (FC_u (by omega) (by omega)) (FC_u (by omega) (by omega)))))), FM_t m1 (FM_t (FM_m a12) (FM_t (FM_u (by decide) (by decide)) (FM_t (FM_m b5) (FM_u (by decide) (by decide)))))⟩
  · have i1 : f_X6_into 64 3 0 1 5 E1 = some (nI f, am_up E2 64 0 (E2 56 17)) := m_into (j := 0) a2 (by decide) (by decide)
    rw [a1, i1]
    dsimp only [Option.bind_some]
    have hf1 := a3.1
    have hf4 := a3.2.1
    have e5 : (am_up D2 T 0 0) 12 5 = nI f := by rw [tl_upo2 (by omega)]; exact a3.2.2.2.1
    have e6 : (am_up (am_up D2 T 0 0) T 1 0) 12 5 = nI f := by rw [tl_upo2 (by omega)]; exact e5
    rw [t_nb e5 hf1 hf4, if_neg (nI_nle (by omega) (by omega)), b_X6_takeMint_32, if_neg (nI_nle (by omega) (by omega))]
    dsimp only [Option.bind_some]
    rw [t_nb e6 hf1 hf4]
    dsimp only [Option.bind_some]
    exact Or.inr ⟨f, w, _, _, rfl, rfl, Bd_o (by rw [tl_upo2 (by omega), tl_upo2 (by omega), tl_upo2 (by omega)]) (by rw [tl_upo2 (by decide)]) a3, FC_t c1 (FC_t (FC_c a4) (FC_t (FC_u (by omega) (by omega)) (FC_t (FC_u (by omega) (by omega)) (FC_u (by omega) (by omega))))), FM_t m1 (FM_t (FM_m a5) (FM_u (by decide) (by decide)))⟩
