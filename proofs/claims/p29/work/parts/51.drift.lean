/-! days by draws -/
theorem wk_ex : ∃ w : Nat → Nat → Option Nat × Nat, ∀ P a, (nx a / 65536 % 6 = 0 ∧ 0 < P → w P a = (some (nx (nx a) / 65536 % P), nx (nx a))) ∧ (¬ (nx a / 65536 % 6 = 0 ∧ 0 < P) → w P a = (none, nx a)) := ⟨fun P a => if nx a / 65536 % 6 = 0 ∧ 0 < P then (some (nx (nx a) / 65536 % P), nx (nx a)) else (none, nx a), fun P a => ⟨fun h => if_pos h, fun h => if_neg h⟩⟩
noncomputable def wk : Nat → Nat → Option Nat × Nat := Classical.choose wk_ex
def sWg (s : Mo) : Option Nat × Nat → Mo
  | (some p, z) => (un (o_ti s) p (min (o_ti s p + 5) 99), un (o_sl s) p 0, o_pu s, o_ro s, o_pa s, o_mi s, o_hr s, z)
  | (none, z) => (o_ti s, o_sl s, o_pu s, o_ro s, o_pa s, o_mi s, o_hr s, z)
noncomputable def sWk (P : Nat) (s : Mo) : Mo := sWg s (wk P (o_se s))
theorem nx_lt (s : Nat) : nx s < 2147483648 := Nat.mod_lt _ (by decide)
theorem d_q {x n : Nat} (hx : x < 2147483648) (h1 : 1 ≤ n) (h6 : n ≤ 6) : nI x / 65536 - nI x / 65536 / nI n * nI n = nI (x / 65536 % n) := by
  have e : nI x / 65536 = nI (x / 65536) := pk_div (d := 65536) (by omega) (by omega) (by omega)
  rw [e]
  exact pk_rem (d := n) (by omega) (by omega) (by omega)
theorem wk_c (P e : Nat) : ∃ a, nx e = a ∧ a < 2147483648 ∧ ((∃ p z, wk P e = (some p, z) ∧ p < P ∧ z < 2147483648 ∧ a / 65536 % 6 = 0 ∧ nx a = z ∧ z / 65536 % P = p) ∨ (wk P e = (none, a) ∧ ¬ (a / 65536 % 6 = 0 ∧ 0 < P))) := by
  obtain ⟨w1, w2⟩ := Classical.choose_spec wk_ex P e
  refine ⟨nx e, rfl, nx_lt e, ?_⟩
  by_cases h : nx e / 65536 % 6 = 0 ∧ 0 < P
  · exact Or.inl ⟨_, _, w1 h, Nat.mod_lt _ h.2, nx_lt _, h.1, rfl, rfl⟩
  · exact Or.inr ⟨w2 h, h⟩
theorem c_draw {M n e a : Nat} {D : am_M} (h1 : 1 ≤ n) (h6 : n ≤ 6) (hs : e < 2147483648) (ha : nx e = a) (h : D M 7 = nI e) : f_X2_draw M (nI n) D = some (nI (a / 65536 % n), am_up D M 7 (nI a)) := by
  rw [f_X2_draw, if_pos (show (1 : Int32) ≤ nI n from nI_le (a := 1) h1 (by omega)), if_neg (nI_ne0 (by omega) (by omega)), h, d_c hs, tl_upi2, if_pos rfl, d_q (nx_lt e) h1 h6, ha]
theorem m_draw {n e a : Nat} {D : am_M} (h1 : 1 ≤ n) (h6 : n ≤ 6) (hs : e < 2147483648) (ha : nx e = a) (h : D 56 12 = nI e) : f_X6_draw (nI n) D = some (nI (a / 65536 % n), am_up D 56 12 (nI a)) := by
  rw [f_X6_draw, if_neg (nI_ne0 (by omega) (by omega)), h, d_m hs, tl_upi2, if_pos rfl, d_q (nx_lt e) h1 h6, ha]
theorem sWk_b {P : Nat} {s : Mo} (h : bMo P s) : bMo P (sWk P s) := by
  obtain ⟨b1, b2, b3, b4, b5, b6, b7⟩ := h
  obtain ⟨a, -, ha, hw⟩ := wk_c P (o_se s)
  unfold sWk
  rcases hw with ⟨p, z, hw, hp, hz, -⟩ | ⟨hw, -⟩
  · rw [hw]
    refine ⟨fun j hj => ?_, fun j hj => ?_, b3, b4, b5, b6, hz⟩
    · show un _ _ _ j ≤ 99
      unfold un; split
      · exact Nat.min_le_right _ _
      · exact b1 j hj
    · show un _ _ _ j ≤ _
      unfold un; split
      · exact Nat.zero_le _
      · exact b2 j hj
  · rw [hw]
    exact ⟨b1, b2, b3, b4, b5, b6, ha⟩
theorem sWk_hr {P : Nat} {s : Mo} : o_hr (sWk P s) = o_hr s := by
  unfold sWk
  cases wk P (o_se s) with
  | mk g z => cases g <;> rfl
theorem c_wake {M P : Nat} {s : Mo} {D : am_M} (hP : P ≤ 5) (hs : bMo P s) (h : cMo M P s D) : ∃ D', f_X2_wakeByDraw M (nI P) D = some D' ∧ cMo M P (sWk P s) D' ∧ ∀ a, a ≠ M → a ≠ M + 1 → a ≠ M + 2 → D' a = D a := by
  obtain ⟨x1, x2, x3, x4, x5, x6, x7, x8⟩ := h
  obtain ⟨a, ha, hal, hw⟩ := wk_c P (o_se s)
  have e6 : f_X2_draw M 6 D = some (nI (a / 65536 % 6), am_up D M 7 (nI a)) := c_draw (n := 6) (by decide) (by decide) hs.2.2.2.2.2.2 ha x8
  have ew : f_X2_wakeByDraw M (nI P) D = if nI (a / 65536 % 6) = 0 then if nI P = 0 then some (am_up D M 7 (nI a)) else (f_X2_draw M (nI P) (am_up D M 7 (nI a))).bind fun q16 => if am_in q16.1 5 = true then (f_X2_tire M q16.1 5 (am_up q16.2 (M + 2) q16.1.toNatClampNeg 0)).bind fun q30 => some q30 else none else some (am_up D M 7 (nI a)) := by
    rw [f_X2_wakeByDraw, e6]; rfl
  rw [ew]
  unfold sWk
  rcases hw with ⟨p, z, hw, hp, hz, h6, hzz, hpp⟩ | ⟨hw, hn⟩
  · rw [hw, h6, if_pos (show nI 0 = 0 from rfl), if_neg (nI_ne0 (by omega) (by omega))]
    have e2 : f_X2_draw M (nI P) (am_up D M 7 (nI a)) = some (nI p, am_up (am_up D M 7 (nI a)) M 7 (nI z)) := by
      rw [c_draw (n := P) (a := z) (by omega) (by omega) hal hzz (by rw [tl_upi2, if_pos rfl]), hpp]
    have hc : (nI p).toNatClampNeg = p := tl_cl2 (by omega)
    have hb := hs.1 p hp
    obtain ⟨D', t1, t2, t3⟩ := c_tire (M := M) (P := P) (p := p) (x := 5) (q := (o_ti s, o_sl s, o_pu s, 0)) (D := am_up (am_up (am_up D M 7 (nI a)) M 7 (nI z)) (M + 2) p 0) hP hp (by decide) hb (fun j hj => by rw [tl_upo2 (by omega), tl_upo2 (by omega), tl_upo2 (by omega)]; exact x1 j hj)
    refine ⟨D', ?_, ⟨t2, fun j hj => ?_, fun j hj => ?_, fun j hj => ?_, ?_, ?_, ?_, ?_⟩, fun a a1 a2 a3 => by rw [t3 a a2, tl_upo2 a3, tl_upo2 a1, tl_upo2 a1]⟩
    · rw [e2, Option.bind_some]
      show (if am_in (nI p) 5 = true then (f_X2_tire M (nI p) (nI 5) (am_up _ (M + 2) (nI p).toNatClampNeg 0)).bind _ else _) = _
      rw [if_pos (tl_ai (by omega) (by omega)), hc, t1]
      rfl
    · rw [t3 _ (by omega), tl_upi2]
      show _ = nI (un (o_sl s) p 0 j)
      by_cases hj' : j = p
      · rw [if_pos hj', hj', un_s]; rfl
      · rw [if_neg hj', un_n hj', tl_upo2 (by omega), tl_upo2 (by omega)]; exact x2 j hj
    · rw [t3 _ (by omega), tl_upo2 (by omega), tl_upo2 (by omega), tl_upo2 (by omega)]; exact x3 j hj
    · rw [t3 _ (by omega), tl_upo2 (by omega), tl_upo2 (by omega), tl_upo2 (by omega)]; exact x4 j hj
    · rw [t3 _ (by omega), tl_upo2 (by omega), tl_upi2, if_neg (by decide), tl_upi2, if_neg (by decide)]; exact x5
    · rw [t3 _ (by omega), tl_upo2 (by omega), tl_upi2, if_neg (by decide), tl_upi2, if_neg (by decide)]; exact x6
    · rw [t3 _ (by omega), tl_upo2 (by omega), tl_upi2, if_neg (by decide), tl_upi2, if_neg (by decide)]; exact x7
    · rw [t3 _ (by omega), tl_upo2 (by omega), tl_upi2, if_pos rfl]; rfl
  · rw [hw]
    refine ⟨am_up D M 7 (nI a), ?_, ⟨fun p hp => by rw [tl_upo2 (by omega)]; exact x1 p hp, fun p hp => by rw [tl_upo2 (by omega)]; exact x2 p hp, fun p hp => by rw [tl_upo2 (by omega)]; exact x3 p hp, fun p hp => by rw [tl_upo2 (by omega)]; exact x4 p hp, by rw [tl_upi2, if_neg (by decide)]; exact x5, by rw [tl_upi2, if_neg (by decide)]; exact x6, by rw [tl_upi2, if_neg (by decide)]; exact x7, by rw [tl_upi2, if_pos rfl]; rfl⟩, fun a a1 _ _ => by rw [tl_upo2 a1]⟩
    by_cases h6 : a / 65536 % 6 = 0
    · have : P = 0 := by omega
      subst this
      rw [h6, if_pos (show nI 0 = 0 from rfl), if_pos (show nI 0 = 0 from rfl)]
    · rw [if_neg (nI_ne0 (by omega) (by omega))]
/-- the reference's draw of one hour, before it passes -/
theorem m_wakeD {P : Nat} {s : Mo} {D : am_M} (hP : P ≤ 5) (hs : bMo P s) (h3 : D 56 3 = nI P) (h : mMo P s D) (k8 : Int32 → Int32 → Int32 → am_M → Option (Int32 × am_M)) (x1 x2 x3 : Int32) : ∃ D', ((f_X6_draw 6 D).bind fun q20 => if q20.1 = 0 then if (q20.2 56 3) ≤ 0 then b_X6_drift_74 k8 x1 x2 x3 q20.2 else (f_X6_draw (q20.2 56 3) q20.2).bind fun q38 => if am_in (5 + q38.1) 138 = true then if am_in q38.1 138 = true then b_X6_drift_74 k8 x1 x2 x3 (am_up (am_up q38.2 62 (5 + q38.1).toNatClampNeg 0) 62 q38.1.toNatClampNeg (f_X6_atMost (((am_up q38.2 62 (5 + q38.1).toNatClampNeg 0) 62 q38.1.toNatClampNeg) + 5) 99)) else none else none else b_X6_drift_74 k8 x1 x2 x3 q20.2) = b_X6_drift_74 k8 x1 x2 x3 D' ∧ mMo P (sWk P s) D' ∧ (∀ a, a ≠ 62 → a ≠ 56 → D' a = D a) ∧ ∀ k, k ≠ 12 → D' 56 k = D 56 k := by
  obtain ⟨y1, y2, y3, y4, y5, y6, y7, y8⟩ := h
  obtain ⟨a, ha, hal, hw⟩ := wk_c P (o_se s)
  have e6 : f_X6_draw 6 D = some (nI (a / 65536 % 6), am_up D 56 12 (nI a)) := m_draw (n := 6) (by decide) (by decide) hs.2.2.2.2.2.2 ha y8
  have e3 : (am_up D 56 12 (nI a)) 56 3 = nI P := by rw [tl_upi2, if_neg (by decide)]; exact h3
  rw [e6, Option.bind_some]
  unfold sWk
  rcases hw with ⟨p, z, hw, hp, hz, h6, hzz, hpp⟩ | ⟨hw, hn⟩
  · have e2 : f_X6_draw (nI P) (am_up D 56 12 (nI a)) = some (nI p, am_up (am_up D 56 12 (nI a)) 56 12 (nI z)) := by
      rw [m_draw (n := P) (a := z) (by omega) (by omega) hal hzz (by rw [tl_upi2, if_pos rfl]), hpp]
    have hc : (nI p).toNatClampNeg = p := tl_cl2 (by omega)
    have hb := hs.1 p hp
    rw [hw]
    refine ⟨am_up (am_up (am_up (am_up D 56 12 (nI a)) 56 12 (nI z)) 62 (5 + p) 0) 62 p (nI (min (o_ti s p + 5) 99)), ?_, ⟨fun j hj => ?_, fun j hj => ?_, fun j hj => ?_, fun j hj => ?_, ?_, ?_, ?_, ?_⟩, fun a a1 a2 => ?_, fun k hk => ?_⟩
    · have ez : (nI (a / 65536 % 6), am_up D 56 12 (nI a)).1 = 0 := by rw [h6]; rfl
      rw [if_pos ez]
      show (if (am_up D 56 12 (nI a)) 56 3 ≤ 0 then _ else (f_X6_draw ((am_up D 56 12 (nI a)) 56 3) (am_up D 56 12 (nI a))).bind _) = _
      rw [e3, if_neg (nI_nle (by omega) (by omega)), e2, Option.bind_some]
      show (if am_in (5 + nI p) 138 = true then (if am_in (nI p) 138 = true then b_X6_drift_74 k8 x1 x2 x3 (am_up (am_up (am_up (am_up D 56 12 (nI a)) 56 12 (nI z)) 62 (5 + nI p).toNatClampNeg 0) 62 (nI p).toNatClampNeg (f_X6_atMost ((am_up (am_up (am_up D 56 12 (nI a)) 56 12 (nI z)) 62 (5 + nI p).toNatClampNeg 0) 62 (nI p).toNatClampNeg + 5) 99)) else _) else _) = _
      rw [n_5, if_pos (tl_ai (by omega) (by omega)), if_pos (tl_ai (by omega) (by omega)), hc, tl_cl2 (by omega)]
      have ev : f_X6_atMost ((am_up (am_up (am_up D 56 12 (nI a)) 56 12 (nI z)) 62 (5 + p) 0) 62 p + 5) 99 = nI (min (o_ti s p + 5) 99) := by
        rw [tl_upi2, if_neg (by omega), tl_upo2 (by decide), tl_upo2 (by decide), y1 p hp]
        show f_X6_atMost (nI (o_ti s p) + nI 5) (nI 99) = _
        rw [nI_add]
        exact n_atm2 (by omega) (by omega)
      rw [ev]
    · rw [tl_upi2]
      show _ = nI (un (o_ti s) p _ j)
      by_cases hj' : j = p
      · rw [if_pos hj', hj', un_s]
      · rw [if_neg hj', un_n hj', tl_upi2, if_neg (by omega), tl_upo2 (by decide), tl_upo2 (by decide)]; exact y1 j hj
    · rw [tl_upi2, if_neg (by omega), tl_upi2]
      show _ = nI (un (o_sl s) p 0 j)
      by_cases hj' : j = p
      · rw [if_pos (by omega), hj', un_s]; rfl
      · rw [if_neg (by omega), un_n hj', tl_upo2 (by decide), tl_upo2 (by decide)]; exact y2 j hj
    · rw [tl_upi2, if_neg (by omega), tl_upi2, if_neg (by omega), tl_upo2 (by decide), tl_upo2 (by decide)]; exact y3 j hj
    · rw [tl_upi2, if_neg (by omega), tl_upi2, if_neg (by omega), tl_upo2 (by decide), tl_upo2 (by decide)]; exact y4 j hj
    · rw [tl_upi2, if_neg (by omega), tl_upi2, if_neg (by omega), tl_upo2 (by decide), tl_upo2 (by decide)]; exact y5
    · rw [tl_upi2, if_neg (by omega), tl_upi2, if_neg (by omega), tl_upo2 (by decide), tl_upo2 (by decide)]; exact y6
    · rw [tl_upi2, if_neg (by omega), tl_upi2, if_neg (by omega), tl_upo2 (by decide), tl_upo2 (by decide)]; exact y7
    · rw [tl_upo2 (by decide), tl_upo2 (by decide), tl_upi2, if_pos rfl]; rfl
    · rw [tl_upo2 a1, tl_upo2 a1, tl_upo2 a2, tl_upo2 a2]
    · rw [tl_upo2 (by decide), tl_upo2 (by decide), tl_upi2, if_neg hk, tl_upi2, if_neg hk]
  · rw [hw]
    refine ⟨am_up D 56 12 (nI a), ?_, ⟨fun p hp => by rw [tl_upo2 (by decide)]; exact y1 p hp, fun p hp => by rw [tl_upo2 (by decide)]; exact y2 p hp, fun p hp => by rw [tl_upo2 (by decide)]; exact y3 p hp, fun p hp => by rw [tl_upo2 (by decide)]; exact y4 p hp, by rw [tl_upo2 (by decide)]; exact y5, by rw [tl_upo2 (by decide)]; exact y6, by rw [tl_upo2 (by decide)]; exact y7, by rw [tl_upi2, if_pos rfl]; rfl⟩, fun a _ a2 => by rw [tl_upo2 a2], fun k hk => by rw [tl_upi2, if_neg hk]⟩
    by_cases h6 : a / 65536 % 6 = 0
    · have : P = 0 := by omega
      subst this
      have ez : (nI (a / 65536 % 6), am_up D 56 12 (nI a)).1 = 0 := by rw [h6]; rfl
      rw [if_pos ez]
      show (if (am_up D 56 12 (nI a)) 56 3 ≤ 0 then _ else _) = _
      rw [e3, if_pos (by decide)]
    · rw [if_neg (show ¬ (nI (a / 65536 % 6), am_up D 56 12 (nI a)).1 = 0 from nI_ne0 (by omega) (by omega))]
noncomputable def itD (t : To) : Nat → Mo → Mo
  | 0, s => s
  | m + 1, s => itD t m (sHour t (sWk (q_pe t) s))
theorem itD_hr {t : To} : ∀ (m : Nat) (s : Mo), o_hr (itD t m s) = o_hr s + m := by
  intro m
  induction m with
  | zero => intro s; rfl
  | succ m ih => intro s; rw [itD, ih]; show o_hr (sWk (q_pe t) s) + 1 + m = _; rw [sWk_hr]; omega
theorem itD_b {t : To} (ht : bTo t) : ∀ (m : Nat) (s : Mo), bMo (q_pe t) s → bMo (q_pe t) (itD t m s) := by
  intro m
  induction m with
  | zero => intro s h; exact h
  | succ m ih => intro s h; exact ih _ (sHour_b ht rfl (sWk_b h))
theorem c_drifts {tw : Nat} {t : To} {N : Nat} (hl : tw ≤ 14) (ht : bTo t) (hN : N ≤ 1000) : ∀ (m i n : Nat) (s : Mo) (D : am_M), i + m = N → m < n → bMo (q_pe t) s → o_hr s + m ≤ 200000 → cTo tw t D → cMo 25 (q_pe t) s D → ∃ D', b_X5_drift_14 tw n (nI N) (nI i) D = some (nI (o_hr s + m), D') ∧ cMo 25 (q_pe t) (itD t m s) D' ∧ ∀ a, a ≠ 25 → a ≠ 26 → a ≠ 27 → a ≠ 28 → D' a = D a := by
  intro m
  induction m with
  | zero =>
    intro i n s D hm hn hs hh hT hM
    obtain ⟨n, rfl⟩ : ∃ q, n = q + 1 := ⟨n - 1, by omega⟩
    have : i = N := by omega
    subst this
    exact ⟨D, by rw [b_X5_drift_14, if_pos (nI_le (Nat.le_refl _) (by omega)), hM.2.2.2.2.2.2.1]; rfl, hM, fun _ _ _ _ _ => rfl⟩
  | succ m ih =>
    intro i n s D hm hn hs hh hT hM
    obtain ⟨n, rfl⟩ : ∃ q, n = q + 1 := ⟨n - 1, by omega⟩
    obtain ⟨D0, w1, w2, w3⟩ := c_wake ht.2.2.2.1 hs hM
    have hT0 : cTo tw t D0 := cTo_f (fun a _ _ => w3 a (by omega) (by omega) (by omega)) hT
    obtain ⟨D1, c1, c2, c3⟩ := c_hour (M := 25) (T := tw) (by omega) rfl ht (sWk_b hs) (by rw [sWk_hr]; omega) hT0 w2
    obtain ⟨D', i1, i2, i3⟩ := ih (i + 1) n (sHour t (sWk (q_pe t) s)) D1 (by omega) (by omega) (sHour_b ht rfl (sWk_b hs)) (by show o_hr (sWk (q_pe t) s) + 1 + m ≤ _; rw [sWk_hr]; omega) (cTo_f (fun a _ _ => c3 a (by omega) (by omega) (by omega) (by omega)) hT0) c2
    refine ⟨D', ?_, i2, fun a a1 a2 a3 a4 => by rw [i3 a a1 a2 a3 a4, c3 a a1 a2 a3 a4, w3 a a1 a2 a3]⟩
    rw [b_X5_drift_14, if_neg (nI_ge (by omega) (by omega)), hT.2.2.2.1, w1, Option.bind_some, c1, Option.bind_some, nI_1, i1]
    show some (nI (o_hr (sWk (q_pe t) s) + 1 + m), D') = _
    rw [sWk_hr, show o_hr s + 1 + m = o_hr s + (m + 1) by omega]
theorem m_drifts {t : To} {N : Nat} (ht : bTo t) (hN : N ≤ 1000) : ∀ (m i n : Nat) (s : Mo) (D : am_M), i + m = N → m < n → bMo (q_pe t) s → o_hr s + m ≤ 200000 → mTo t D → mMo (q_pe t) s D → ∃ D', b_X6_drift_8 n (nI N) 0 (nI i) D = some (nI (o_hr s + m), D') ∧ mMo (q_pe t) (itD t m s) D' ∧ (∀ a, a ≠ 62 → a ≠ 56 → D' a = D a) ∧ ∀ k, k ≠ 12 → D' 56 k = D 56 k := by
  intro m
  induction m with
  | zero =>
    intro i n s D hm hn hs hh hT hM
    obtain ⟨n, rfl⟩ : ∃ q, n = q + 1 := ⟨n - 1, by omega⟩
    have : i = N := by omega
    subst this
    exact ⟨D, by rw [b_X6_drift_8, if_pos (nI_le (Nat.le_refl _) (by omega)), b_X6_drift_84, if_pos rfl, hM.2.2.2.2.2.2.1]; rfl, hM, fun _ _ _ => rfl, fun _ _ => rfl⟩
  | succ m ih =>
    intro i n s D hm hn hs hh hT hM
    obtain ⟨n, rfl⟩ : ∃ q, n = q + 1 := ⟨n - 1, by omega⟩
    obtain ⟨D0, w1, w2, w3, w4⟩ := m_wakeD ht.2.2.2.1 hs hT.2.2.2.1 hM (b_X6_drift_8 n) (nI N) 0 (nI i)
    have hT0 : mTo t D0 := mTo_f (fun k _ => w4 k (by omega)) (fun a _ _ => w3 a (by omega) (by omega)) hT
    obtain ⟨D1, c1, c2, c3⟩ := m_hour rfl ht (sWk_b hs) (by rw [sWk_hr]; omega) hT0 w2
    obtain ⟨D', i1, i2, i3, i4⟩ := ih (i + 1) n (sHour t (sWk (q_pe t) s)) D1 (by omega) (by omega) (sHour_b ht rfl (sWk_b hs)) (by show o_hr (sWk (q_pe t) s) + 1 + m ≤ _; rw [sWk_hr]; omega) (mTo_f (fun k _ => by rw [c3 56 (by decide)]) (fun a _ _ => c3 a (by omega)) hT0) c2
    refine ⟨D', ?_, i2, fun a a1 a2 => by rw [i3 a a1 a2, c3 a a1, w3 a a1 a2], fun k hk => by rw [i4 k hk, c3 56 (by decide), w4 k hk]⟩
    rw [b_X6_drift_8, if_neg (nI_ge (by omega) (by omega)), if_pos rfl, w1, b_X6_drift_74, c1, Option.bind_some, nI_1, i1]
    show some (nI (o_hr (sWk (q_pe t) s) + 1 + m), D') = _
    rw [sWk_hr, show o_hr s + 1 + m = o_hr s + (m + 1) by omega]
theorem so_drift {k tw : Nat} {tp : Bool} {D : am_M} (h : Sim k tw tp D) (a : Int32) : ∃ (r : Int32) (D1 D2 : am_M), f_X5_drift tw a D = some (r, D1) ∧ f_X6_drift a D1 = some (r, D2) ∧ Sim (k + 1) tw tp D2 := by
  have h0 := h
  obtain ⟨t, s, q⟩ := h
  have q3 := q.2.2.1
  have q4 := q.2.2.2.1
  have ht := q.2.1
  obtain ⟨l1, l2⟩ := lyT_le q.1
  obtain ⟨nb, nh, n3, n4⟩ := q.2.2.2.2.1
  by_cases hr : rH t s a = 0
  · obtain ⟨n, n1, n2, rfl, n5⟩ := rH_0 (by omega) hr
    obtain ⟨D1, c1, c2, c3⟩ := c_drifts (tw := tw) (N := n) (by omega) ht (by omega) n 0 am_N s D (by omega) (by show n < 100000; omega) nb (by omega) q3 n3
    have hT1 : mTo t D1 := mTo_f (fun i _ => by rw [c3 56 (by decide) (by decide) (by decide) (by decide)]) (fun a _ _ => c3 a (by omega) (by omega) (by omega) (by omega)) q4
    have hM1 : mMo (q_pe t) s D1 := mMo_f (c3 62 (by decide) (by decide) (by decide) (by decide)) (by rw [c3 56 (by decide) (by decide) (by decide) (by decide)]) n4
    obtain ⟨D2, m1, m2, m3, m4⟩ := m_drifts (N := n) ht (by omega) n 0 am_N s D1 (by omega) (by show n < 100000; omega) nb (by omega) hT1 hM1
    have hhr : o_hr (itD t n s) = o_hr s + n := itD_hr n s
    refine ⟨nI (o_hr s + n), D1, D2, ?_, ?_, t, itD t n s, Si_n q (fun a a1 a2 a3 _ => by rw [m3 a a2 a1, c3 a (by omega) (by omega) (by omega) (by omega)]) (fun i hi => by rw [m4 i hi, c3 56 (by decide) (by decide) (by decide) (by decide)]) ⟨itD_b ht n s nb, by omega, cMo_f (fun a _ _ => m3 a (by omega) (by omega)) c2, m2⟩⟩
    · rw [f_X5_drift, c_rH q3 n3.2.2.2.2.2.2.1, if_pos hr]
      exact c1
    · rw [f_X6_drift, m_rH hT1 hM1.2.2.2.2.2.2.1, hr]
      exact m1
  · refine ⟨rH t s a, D, D, by rw [f_X5_drift, c_rH q3 n3.2.2.2.2.2.2.1, if_neg hr], ?_, h0⟩
    rw [f_X6_drift, m_rH q4 n4.2.2.2.2.2.2.1, tl_N, b_X6_drift_8, if_neg hr, b_X6_drift_84, if_neg hr]
    split <;> rfl
