theorem tl_upi {D : am_M} {a i j : Nat} {x : Int32} : am_up D a i x a j = if j = i then x else D a j := by rw [tl_ups]; rfl
theorem p1_pr45 (T : Nat) (hT : T ≠ 52) : ∀ (m i n : Nat) (D : am_M), i + m = 201 → m < n → D T 4 = 0 → (∀ j, j < i → D 52 j = nI j) → ∃ D', b_X0_prepare_45 T n (nI i) D = some D' ∧ (∀ j, j < 201 → D' 52 j = nI j) ∧ ∀ a, a ≠ 52 → D' a = D a := by
  intro m
  induction m with
  | zero =>
    intro i n D h hn h4 hD
    obtain ⟨n, rfl⟩ : ∃ q, n = q + 1 := ⟨n - 1, by omega⟩
    have : i = 201 := by omega
    subst this
    exact ⟨D, by rw [b_X0_prepare_45, if_pos (by decide), tl_N, b_X0_prepare_67, h4, if_pos (by decide)], hD, fun _ _ => rfl⟩
  | succ m ih =>
    intro i n D h hn h4 hD
    obtain ⟨n, rfl⟩ : ∃ q, n = q + 1 := ⟨n - 1, by omega⟩
    obtain ⟨D', q1, q2, q3⟩ := ih (i + 1) n (am_up D 52 i (nI i)) (by omega) (by omega) (by rw [tl_upo hT]; exact h4) (fun j hj => by
      rw [tl_upi]
      split
      · rename_i e; rw [e]
      · exact hD j (by omega))
    refine ⟨D', ?_, q2, fun a ha => by rw [q3 a ha, tl_upo ha]⟩
    rw [b_X0_prepare_45, if_neg (show ¬ (200 : Int32) < nI i from nI_nlt (a := 200) (b := i) (by omega) (by omega)), if_pos (tl_ai (by omega) (by omega)), nI_1, tl_cl (by omega)]
    exact q1
theorem p1_pr15 (T : Nat) (hT : T ≠ 52) (hT2 : T ≠ 51) : ∀ (m i n : Nat) (D : am_M), i + m = 61 → 1 ≤ i → m < n → D T 4 = 0 → (∀ j, 1 ≤ j → j < i → D 51 j = if j = 1 then 1 else 0) → ∃ D', b_X0_prepare_15 T n (nI i) D = some D' ∧ (∀ j, 1 ≤ j → j < 61 → D' 51 j = if j = 1 then 1 else 0) ∧ (∀ j, j < 201 → D' 52 j = nI j) ∧ ∀ a, a ≠ 51 → a ≠ 52 → D' a = D a := by
  intro m
  induction m with
  | zero =>
    intro i n D h h1 hn h4 hD
    obtain ⟨n, rfl⟩ : ∃ q, n = q + 1 := ⟨n - 1, by omega⟩
    have : i = 61 := by omega
    subst this
    obtain ⟨D', q1, q2, q3⟩ := p1_pr45 T hT 201 0 am_N D (by omega) (by rw [tl_N]; omega) h4 (fun j hj => by omega)
    refine ⟨D', ?_, fun j a b => by rw [q3 51 (by decide)]; exact hD j a b, q2, fun a _ hb => q3 a hb⟩
    rw [b_X0_prepare_15, if_pos (by decide)]
    exact q1
  | succ m ih =>
    intro i n D h h1 hn h4 hD
    obtain ⟨n, rfl⟩ : ∃ q, n = q + 1 := ⟨n - 1, by omega⟩
    have e1 : vp_nar .boolean (if nI i = 1 then 1 else 0) = if i = 1 then 1 else 0 := by
      by_cases hi : i = 1
      · subst hi; decide
      · rw [if_neg hi, if_neg (show ¬ nI i = (1 : Int32) from fun q => hi ((nI_eq (a := i) (b := 1) (by omega) (by omega)).mp q))]
        decide
    obtain ⟨D', q1, q2, q3, q4⟩ := ih (i + 1) n (am_up D 51 i (if i = 1 then 1 else 0)) (by omega) (by omega) (by omega) (by rw [tl_upo hT2]; exact h4) (fun j a b => by
      rw [tl_upi]
      by_cases hji : j = i
      · rw [if_pos hji, hji]
      · rw [if_neg hji]; exact hD j a (by omega))
    refine ⟨D', ?_, q2, q3, fun a ha hb => by rw [q4 a ha hb, tl_upo ha]⟩
    rw [b_X0_prepare_15, if_neg (show ¬ (60 : Int32) < nI i from nI_nlt (a := 60) (b := i) (by omega) (by omega)), b_X0_prepare_36, if_pos (tl_ai (by omega) (by omega)), nI_1, tl_cl (by omega), e1]
    exact q1
theorem p1_prep {T : Nat} (hT : T ≠ 52) (hT2 : T ≠ 51) (hT3 : T ≠ 50) {D : am_M} (h4 : D T 4 = 0) (h3 : D 50 3 = 0) : ∃ D', f_X0_prepare T D = some D' ∧ (∀ j, 1 ≤ j → j < 61 → D' 51 j = if j = 1 then 1 else 0) ∧ (∀ j, j < 201 → D' 52 j = nI j) ∧ ∀ a, a ≠ 51 → a ≠ 52 → D' a = am_up D 50 3 1 a := by
  obtain ⟨D', q1, q2, q3, q4⟩ := p1_pr15 T hT hT2 60 1 am_N (am_up D 50 3 1) (by omega) (by omega) (by rw [tl_N]; omega) (by rw [tl_upo hT3]; exact h4) (fun j a b => by omega)
  exact ⟨D', by rw [f_X0_prepare, if_pos h3]; exact q1, q2, q3, q4⟩
def sm (w : Nat) : Nat → Nat
  | 0 => 0
  | i + 1 => sm w i + fv w (i + 1)
theorem p1_tot (w : Nat) (hw : 2 ≤ w) (hw2 : w ≤ 60) : ∀ (m i n : Nat) (D : am_M), i + m = 60 → m < n → (∀ j, j < 201 → D 52 j = nI j) → D 53 0 = 0 → (∀ j, j ≤ i → D 53 j = nI (fv w j)) → ∃ D', b_X0_totalWith_4 n (nI w) (nI (sm w i)) (nI (i + 1)) D = some (nI (sm w 60), D') ∧ D' 53 0 = 0 ∧ ∀ a, a ≠ 53 → D' a = D a := by
  intro m
  induction m with
  | zero =>
    intro i n D h hn h52 h0 hD
    obtain ⟨n, rfl⟩ : ∃ q, n = q + 1 := ⟨n - 1, by omega⟩
    have : i = 60 := by omega
    subst this
    exact ⟨D, by rw [b_X0_totalWith_4, if_pos (by decide)], h0, fun _ _ => rfl⟩
  | succ m ih =>
    intro i n D h hn h52 h0 hD
    obtain ⟨n, rfl⟩ : ∃ q, n = q + 1 := ⟨n - 1, by omega⟩
    have key : ∃ D', b_X0_totalWith_40 (b_X0_totalWith_4 n) (nI w) (nI (sm w i)) (nI (i + 1)) (nI (fv w (i + 1))) D = some (nI (sm w 60), D') ∧ D' 53 0 = 0 ∧ ∀ a, a ≠ 53 → D' a = D a := by
      obtain ⟨D', q1, q2, q3⟩ := ih (i + 1) n (am_up D 53 (i + 1) (nI (fv w (i + 1)))) (by omega) (by omega) (fun j hj => by rw [tl_upo (by decide)]; exact h52 j hj) (by rw [tl_upi, if_neg (by omega)]; exact h0) (fun j hj => by
        rw [tl_upi]
        split
        · rename_i e; rw [e]
        · exact hD j (by omega))
      refine ⟨D', ?_, q2, fun a ha => by rw [q3 a ha, tl_upo ha]⟩
      rw [b_X0_totalWith_40, if_pos (tl_ai (by omega) (by omega)), nI_add, nI_1, tl_cl (by omega)]
      exact q1
    rw [b_X0_totalWith_4, if_neg (show ¬ (60 : Int32) < nI (i + 1) from nI_nlt (a := 60) (b := i + 1) (by omega) (by omega)), if_pos (tl_ai (by omega) (by omega)), tl_cl (by omega), h52 (i + 1) (by omega)]
    by_cases hiw : i + 1 < w
    · rw [if_pos (nI_lt hiw (by omega))]
      have := key
      rw [fv_lt hiw] at this
      exact this
    · have hsw : nI (i + 1) - nI w = nI (i + 1 - w) := pk_sub (by omega)
      have hg := fv_ge (w := w) (v := i + 1) (by omega) (by omega)
      have hle := fv_le (w := w) (by omega) (i + 1 - w) (i + 1 - w) (Nat.le_refl _)
      rw [if_neg (nI_nlt (by omega) (by omega)), hsw, if_pos (tl_ai (by omega) (by omega)), tl_cl (by omega), hD (i + 1 - w) (by omega), nI_1, ← hg]
      have em : am_min (nI (i + 1)) (nI (fv w (i + 1))) = nI (fv w (i + 1)) := by
        unfold am_min
        by_cases hlt : fv w (i + 1) < i + 1
        · rw [if_pos (nI_lt hlt (by omega))]
        · have : fv w (i + 1) = i + 1 := by omega
          rw [this, if_neg (nI_nlt (Nat.le_refl _) (by omega))]
      rw [em]
      exact key
theorem p1_total (w : Nat) (hw : 2 ≤ w) (hw2 : w ≤ 60) {D : am_M} (h52 : ∀ j, j < 201 → D 52 j = nI j) (h0 : D 53 0 = 0) : ∃ D', f_X0_totalWith (nI w) D = some (nI (sm w 60), D') ∧ D' 53 0 = 0 ∧ ∀ a, a ≠ 53 → D' a = D a :=
  p1_tot w hw hw2 60 0 am_N D (by omega) (by rw [tl_N]; omega) h52 h0 (fun j hj => by
    have : j = 0 := by omega
    subst this
    rw [h0, fv_0 (by omega)]; rfl)
/-- the best worth, and how much, behind m worths from 2 on -/
def stp : Nat → Int32 × Int32
  | 0 => (-1, 1000000)
  | m + 1 => if (stp m).2 ≤ nI (sm (m + 2) 60) then stp m else (nI (m + 2), nI (sm (m + 2) 60))
theorem stp_1 : ¬ (stp 0).2 ≤ nI (sm 2 60) := by decide +kernel
theorem stp_p : ∀ m, m < 60 → 1 ≤ m → ¬ (stp m).1 = -1 := by decide +kernel
theorem p1_fs : ∀ (j m n : Nat) (D : am_M), m + j = 59 → j < n → (∀ j, 1 ≤ j → j < 61 → D 51 j = if j = 1 then 1 else 0) → (∀ j, j < 201 → D 52 j = nI j) → D 53 0 = 0 → ((m = 0 ∧ D 50 5 = -1) ∨ (1 ≤ m ∧ D 50 5 = (stp m).1 ∧ D 50 6 = (stp m).2)) → ∃ D', b_X0_findStrike_20 n (nI (m + 2)) D = some D' ∧ D' 50 5 = (stp 59).1 ∧ D' 50 6 = (stp 59).2 ∧ ∀ a, a ≠ 50 → a ≠ 53 → D' a = D a := by
  intro j
  induction j with
  | zero =>
    intro m n D h hn h51 h52 h53 hI
    obtain ⟨n, rfl⟩ : ∃ q, n = q + 1 := ⟨n - 1, by omega⟩
    have : m = 59 := by omega
    subst this
    rcases hI with ⟨q, -⟩ | ⟨-, q1, q2⟩
    · omega
    · exact ⟨D, by rw [b_X0_findStrike_20, if_pos (by decide)], q1, q2, fun _ _ _ => rfl⟩
  | succ j ih =>
    intro m n D h hn h51 h52 h53 hI
    obtain ⟨n, rfl⟩ : ∃ q, n = q + 1 := ⟨n - 1, by omega⟩
    obtain ⟨D1, t1, t2, t3⟩ := p1_total (m + 2) (by omega) (by omega) h52 h53
    have hc : D 51 (m + 2) = 0 := by rw [h51 (m + 2) (by omega) (by omega), if_neg (by omega)]
    rw [b_X0_findStrike_20, if_neg (show ¬ (60 : Int32) < nI (m + 2) from nI_nlt (a := 60) (b := m + 2) (by omega) (by omega)), if_pos (tl_ai (by omega) (by omega)), tl_cl (by omega), if_pos hc, t1]
    simp only [Option.bind_some]
    have key : ¬ (stp m).2 ≤ nI (sm (m + 2) 60) → ∃ D', b_X0_findStrike_63 (b_X0_findStrike_20 n) (nI (m + 2)) (nI (sm (m + 2) 60)) D1 = some D' ∧ D' 50 5 = (stp 59).1 ∧ D' 50 6 = (stp 59).2 ∧ ∀ a, a ≠ 50 → a ≠ 53 → D' a = D a := by
      intro hl
      have es : stp (m + 1) = (nI (m + 2), nI (sm (m + 2) 60)) := by rw [stp, if_neg hl]
      obtain ⟨D', q1, q2, q3, q4⟩ := ih (m + 1) n (am_up (am_up D1 50 5 (nI (m + 2))) 50 6 (nI (sm (m + 2) 60))) (by omega) (by omega) (fun i a b => by rw [tl_upo (by decide), tl_upo (by decide), t3 51 (by decide)]; exact h51 i a b) (fun i a => by rw [tl_upo (by decide), tl_upo (by decide), t3 52 (by decide)]; exact h52 i a) (by rw [tl_upo (by decide), tl_upo (by decide)]; exact t2) (Or.inr ⟨by omega, by rw [es, tl_upi, if_neg (by decide), tl_upi, if_pos rfl], by rw [es, tl_upi, if_pos rfl]⟩)
      refine ⟨D', ?_, q2, q3, fun a ha hb => by rw [q4 a ha hb, tl_upo ha, tl_upo ha, t3 a hb]⟩
      rw [b_X0_findStrike_63, nI_1]
      exact q1
    have e5 : D1 50 5 = D 50 5 := by rw [t3 50 (by decide)]
    have e6 : D1 50 6 = D 50 6 := by rw [t3 50 (by decide)]
    rcases hI with ⟨rfl, h5⟩ | ⟨hm, h5, h6⟩
    · rw [e5, if_pos h5]
      exact key stp_1
    · rw [e5, h5, if_neg (stp_p m (by omega) hm), e6, h6]
      by_cases hl : (stp m).2 ≤ nI (sm (m + 2) 60)
      · rw [if_neg (Int32.not_lt.mpr hl), nI_1]
        have es : stp (m + 1) = stp m := by rw [stp, if_pos hl]
        obtain ⟨D', q1, q2, q3, q4⟩ := ih (m + 1) n D1 (by omega) (by omega) (fun i a b => by rw [t3 51 (by decide)]; exact h51 i a b) (fun i a => by rw [t3 52 (by decide)]; exact h52 i a) t2 (Or.inr ⟨by omega, by rw [e5, es]; exact h5, by rw [e6, es]; exact h6⟩)
        exact ⟨D', q1, q2, q3, fun a ha hb => by rw [q4 a ha hb, t3 a hb]⟩
      · rw [if_pos (Int32.not_le.mp hl)]
        exact key hl
theorem p1_sum (w x1 x2 x3 : Int32) (u : Nat) (hu : u ≤ 60) (k22 : Int32 → Int32 → Int32 → Int32 → am_M → Option (Int32 × am_M)) : ∀ (m i n : Nat) (D : am_M), i + m = 60 → m < n → (∀ j, j < 201 → D 78 j = nI (fv u j)) → b_X6_strike_50 k22 n x1 x2 x3 w (nI (sm u i)) (nI (i + 1)) D = b_X6_strike_87 k22 x1 x3 w (nI (sm u 60)) (if x3 ≤ nI (sm u 60) then x2 else w) D := by
  intro m
  induction m with
  | zero =>
    intro i n D h hn hD
    obtain ⟨n, rfl⟩ : ∃ q, n = q + 1 := ⟨n - 1, by omega⟩
    have : i = 60 := by omega
    subst this
    rw [b_X6_strike_50, if_pos (by decide)]
  | succ m ih =>
    intro i n D h hn hD
    obtain ⟨n, rfl⟩ : ∃ q, n = q + 1 := ⟨n - 1, by omega⟩
    rw [b_X6_strike_50, if_neg (show ¬ (60 : Int32) < nI (i + 1) from nI_nlt (a := 60) (b := i + 1) (by omega) (by omega)), if_pos (tl_ai (by omega) (by omega)), tl_cl (by omega), hD (i + 1) (by omega), nI_add, nI_1]
    exact ih (i + 1) n D (by omega) (by omega) hD
theorem p1_ms (x1 : Int32) : ∀ (j m n : Nat) (D : am_M), m + j = 59 → j < n → D 56 5 = 0 → ∃ D', b_X6_strike_22 n x1 (stp m).1 (stp m).2 (nI (m + 2)) D = some (if x1 = 0 then (stp 59).1 else (stp 59).2, D') := by
  intro j
  induction j with
  | zero =>
    intro m n D h hn h5
    obtain ⟨n, rfl⟩ : ∃ q, n = q + 1 := ⟨n - 1, by omega⟩
    have : m = 59 := by omega
    subst this
    refine ⟨D, ?_⟩
    rw [b_X6_strike_22, if_pos (by decide)]
    split <;> rfl
  | succ j ih =>
    intro m n D h hn h5
    obtain ⟨n, rfl⟩ : ∃ q, n = q + 1 := ⟨n - 1, by omega⟩
    obtain ⟨D1, f1, f2, f3⟩ := p1_fewest (m + 2) (by omega) (by omega) h5
    have h1 : ¬ nI (m + 2) = 1 := fun q => absurd ((nI_eq (a := m + 2) (b := 1) (by omega) (by omega)).mp q) (by omega)
    obtain ⟨D', q1⟩ := ih (m + 1) n D1 (by omega) (by omega) (by rw [f3 56 (by decide)]; exact h5)
    refine ⟨D', ?_⟩
    rw [b_X6_strike_22, if_neg (show ¬ (60 : Int32) < nI (m + 2) from nI_nlt (a := 60) (b := m + 2) (by omega) (by omega)), p1_isCoin h5, if_neg h1]
    simp only [Option.bind_some, if_true, f1]
    have e := p1_sum (nI (m + 2)) x1 (stp m).1 (stp m).2 (m + 2) (by omega) (b_X6_strike_22 n) 60 0 am_N D1 (by omega) (by rw [tl_N]; omega) f2
    refine e.trans ?_
    rw [b_X6_strike_87, nI_1]
    rw [stp] at q1
    by_cases hl : (stp m).2 ≤ nI (sm (m + 2) 60)
    · rw [if_pos hl] at q1; rw [if_pos hl, if_pos hl]; exact q1
    · rw [if_neg hl] at q1; rw [if_neg hl, if_neg hl]; exact q1
theorem p1_strike : ok_strike 1 p1_I := by
  intro k tw tp D hk hI a1
  obtain ⟨rfl, rfl, rfl⟩ := p1_0 hk hI
  have e1 := p1_in a1 0 1 (a' := 0) (b' := 1) (by decide) (by decide)
  by_cases h1 : f_X5_isWithin a1 0 1 = 0
  · exact p1_r (r := -1000000002) (by rw [f_X5_strike, if_pos h1]) (by rw [f_X6_strike, e1, if_pos h1])
  obtain ⟨D1, p1, p2, p3, p4⟩ := p1_prep (T := 1) (by decide) (by decide) (by decide) (D := d0) (by decide) (by decide)
  have h504 : D1 50 4 = 0 := by rw [p4 50 (by decide) (by decide)]; decide
  have h530 : D1 53 0 = 0 := by rw [p4 53 (by decide) (by decide)]; decide
  have h565 : D1 56 5 = 0 := by rw [p4 56 (by decide) (by decide)]; decide
  obtain ⟨D2, s1, s2, s3, s4⟩ := p1_fs 59 0 am_N (am_up (am_up D1 50 4 1) 50 5 (-1)) (by omega) (by rw [tl_N]; omega) (fun j a b => by rw [tl_upo (by decide), tl_upo (by decide)]; exact p2 j a b) (fun j a => by rw [tl_upo (by decide), tl_upo (by decide)]; exact p3 j a) (by rw [tl_upo (by decide), tl_upo (by decide)]; exact h530) (Or.inl ⟨rfl, by rw [tl_upi, if_pos rfl]⟩)
  have s5 : f_X0_findStrike D1 = some D2 := by rw [f_X0_findStrike, if_pos h504]; exact s1
  obtain ⟨D3, m1⟩ := p1_ms a1 59 0 am_N D2 (by omega) (by rw [tl_N]; omega) (by rw [s4 56 (by decide) (by decide), tl_upo (by decide), tl_upo (by decide)]; exact h565)
  refine ⟨if a1 = 0 then (stp 59).1 else (stp 59).2, D2, D3, ?_, ?_, p1_1 p1_T1⟩
  · rw [f_X5_strike, if_neg h1, p1]
    simp only [Option.bind_some, s5, s2, s3]
    split <;> rfl
  · rw [f_X6_strike, e1, if_neg h1]
    exact m1
/-- coins, none told -/
theorem p1_taken {D : am_M} (h52 : ∀ j, j < 201 → D 52 j = nI j) : ∀ (m c n : Nat), m ≤ 200 → m < n → b_X0_countTaken_5 n 1 (nI m) (nI c) D = some (nI (c + m), D) := by
  intro m
  induction m with
  | zero =>
    intro c n hm hn
    obtain ⟨n, rfl⟩ : ∃ q, n = q + 1 := ⟨n - 1, by omega⟩
    rw [b_X0_countTaken_5, if_pos (by decide)]
    rfl
  | succ m ih =>
    intro c n hm hn
    obtain ⟨n, rfl⟩ : ∃ q, n = q + 1 := ⟨n - 1, by omega⟩
    have e : nI (m + 1) - 1 = nI m := nI_pred m
    rw [b_X0_countTaken_5, if_neg (show ¬ nI (m + 1) < (1 : Int32) from nI_nlt (a := m + 1) (b := 1) (by omega) (by omega)), e, if_pos (tl_ai (by omega) (by omega)), if_pos (tl_ai (by omega) (by omega)), tl_cl (by omega), tl_cl (by omega), h52 m (by omega), h52 (m + 1) (by omega), if_pos (nI_1 m), nI_1]
    rw [ih (c + 1) n (by omega) (by omega), show c + 1 + m = c + (m + 1) by omega]
theorem p1_cnt {D : am_M} (h51 : ∀ j, 1 ≤ j → j < 61 → D 51 j = if j = 1 then 1 else 0) (h52 : ∀ j, j < 201 → D 52 j = nI j) (v : Nat) (hv : v ≤ 200) : ∀ (i n : Nat) (x4 : Int32), i ≤ 59 → i + 2 < n → b_X0_countOf_30 n 1 (nI v) x4 (nI (i + 1)) D = some (nI v, D) := by
  intro i
  induction i with
  | zero =>
    intro n x4 hi hn
    obtain ⟨n, rfl⟩ : ∃ q, n = q + 1 + 1 := ⟨n - 2, by omega⟩
    have hc : ¬ D 51 1 = 0 := by rw [h51 1 (by omega) (by omega)]; decide
    have ht : f_X0_countTaken (nI 1) (nI v) D = some (nI v, D) := by
      have := p1_taken h52 v 0 am_N hv (by rw [tl_N]; omega)
      rw [Nat.zero_add] at this
      exact this
    rw [b_X0_countOf_30, if_neg (show ¬ nI (0 + 1) < (1 : Int32) from nI_nlt (a := 1) (b := 1) (by omega) (by omega)), if_pos (tl_ai (by omega) (by omega)), tl_cl (by omega), if_neg hc, ht]
    simp only [Option.bind_some]
    rw [b_X0_countOf_57, b_X0_countOf_30, if_pos (by decide)]
  | succ i ih =>
    intro n x4 hi hn
    obtain ⟨n, rfl⟩ : ∃ q, n = q + 1 := ⟨n - 1, by omega⟩
    have hc : D 51 (i + 1 + 1) = 0 := by rw [h51 (i + 1 + 1) (by omega) (by omega), if_neg (by omega)]
    rw [b_X0_countOf_30, if_neg (show ¬ nI (i + 1 + 1) < (1 : Int32) from nI_nlt (a := i + 1 + 1) (b := 1) (by omega) (by omega)), if_pos (tl_ai (by omega) (by omega)), tl_cl (by omega), if_pos hc, b_X0_countOf_57, pk_m1]
    have e : nI v - 0 * nI (i + 1 + 1) = nI v := by rw [Int32.zero_mul, Int32.sub_zero]
    rw [e]
    exact ih n 0 (by omega) (by omega)
theorem p1_mt {D : am_M} (h5 : D 56 5 = 0) (h78 : ∀ j, j < 201 → D 78 j = nI j) (k58 : Int32 → Int32 → Int32 → Int32 → am_M → Option (Int32 × am_M)) (x2 : Int32) : ∀ (m c n : Nat), m ≤ 200 → m < n → b_X6_coins_67 k58 n x2 (nI m) (nI c) 1 D = k58 x2 0 (nI (c + m)) 0 D := by
  intro m
  induction m with
  | zero =>
    intro c n hm hn
    obtain ⟨n, rfl⟩ : ∃ q, n = q + 1 := ⟨n - 1, by omega⟩
    rw [b_X6_coins_67, p1_isCoin h5]
    simp only [Option.bind_some, if_true]
    rw [if_neg (by decide), if_pos (by decide)]
    rfl
  | succ m ih =>
    intro c n hm hn
    obtain ⟨n, rfl⟩ : ∃ q, n = q + 1 := ⟨n - 1, by omega⟩
    have e : nI (m + 1) - 1 = nI m := nI_pred m
    rw [b_X6_coins_67, p1_isCoin h5]
    simp only [Option.bind_some, if_true]
    rw [if_neg (by decide), if_neg (show ¬ nI (m + 1) < (1 : Int32) from nI_nlt (a := m + 1) (b := 1) (by omega) (by omega)), e, if_pos (tl_ai (by omega) (by omega)), if_pos (tl_ai (by omega) (by omega)), tl_cl (by omega), tl_cl (by omega), h78 m (by omega), h78 (m + 1) (by omega), if_pos e.symm, nI_1]
    rw [ih (c + 1) n (by omega) (by omega), show c + 1 + m = c + (m + 1) by omega]
theorem p1_mc {D : am_M} (h5 : D 56 5 = 0) (h78 : ∀ j, j < 201 → D 78 j = nI j) (v w : Nat) (hv : v ≤ 200) (hw : 1 ≤ w) (hw2 : w ≤ 60) : ∀ (i n : Nat) (x4 : Int32), i ≤ 60 → w ≤ i + 1 → i + 2 < n → (i < w → x4 = 0 ∨ w = i + 1) → i + 1 ≤ 60 → b_X6_coins_58 n (nI w) (nI v) x4 (nI (i + 1)) D = some (if w = 1 then nI v else 0, D) := by
  intro i
  induction i with
  | zero =>
    intro n x4 hi hwi hn hx _
    obtain ⟨n, rfl⟩ : ∃ q, n = q + 1 + 1 := ⟨n - 2, by omega⟩
    have : w = 1 := by omega
    subst this
    rw [b_X6_coins_58, if_neg (show ¬ nI (0 + 1) < nI 1 from nI_nlt (a := 1) (b := 1) (by omega) (by omega))]
    have e := p1_mt h5 h78 (b_X6_coins_58 (n + 1)) (nI 1) v 0 am_N hv (by rw [tl_N]; omega)
    refine e.trans ?_
    rw [b_X6_coins_58, if_pos (by decide), Nat.zero_add, if_pos rfl]
  | succ i ih =>
    intro n x4 hi hwi hn hx hi2
    obtain ⟨n, rfl⟩ : ∃ q, n = q + 1 := ⟨n - 1, by omega⟩
    have h1 : ¬ nI (i + 1 + 1) = 1 := fun q => absurd ((nI_eq (a := i + 1 + 1) (b := 1) (by omega) (by omega)).mp q) (by omega)
    rw [b_X6_coins_58, if_neg (nI_nlt (by omega) (by omega)), tl_N, b_X6_coins_67, p1_isCoin h5, if_neg h1]
    simp only [Option.bind_some, if_true]
    rw [pk_m1]
    by_cases hwi2 : w ≤ i + 1
    · exact ih n 0 (by omega) hwi2 (by omega) (fun _ => Or.inl rfl) (by omega)
    · obtain ⟨n, rfl⟩ : ∃ q, n = q + 1 := ⟨n - 1, by omega⟩
      rw [b_X6_coins_58, if_pos (nI_lt (by omega) (by omega)), if_neg (by omega)]
theorem p1_coins : ok_coins 1 p1_I := by
  intro k tw tp D hk hI a1 a2
  obtain ⟨rfl, rfl, rfl⟩ := p1_0 hk hI
  have e1 := p1_in a1 0 200 (a' := 0) (b' := 200) (by decide) (by decide)
  have e2 := p1_in a2 1 60 (a' := 1) (b' := 60) (by decide) (by decide)
  by_cases h1 : f_X5_isWithin a1 0 200 = 0
  · exact p1_r (r := -1000000002) (by rw [f_X5_coins, if_pos h1]) (by rw [f_X6_coins, e1, if_pos h1])
  obtain ⟨v, -, hv, rfl⟩ := tl_w1n (a := 0) (b := 200) (by decide) h1 (by decide)
  obtain ⟨D1, p1, p2, p3, p4⟩ := p1_prep (T := 1) (by decide) (by decide) (by decide) (D := d0) (by decide) (by decide)
  have h565 : D1 56 5 = 0 := by rw [p4 56 (by decide) (by decide)]; decide
  obtain ⟨D2, f1, f2, f3⟩ := p1_fewest 1 (by omega) (by omega) h565
  have f4 : ∀ j, j < 201 → D2 78 j = nI j := fun j hj => by rw [f2 j hj, fv_1]
  have h5 : D2 56 5 = 0 := by rw [f3 56 (by decide)]; exact h565
  have f1' : f_X6_findFewest 1 D1 = some D2 := f1
  by_cases hw : a2 = -1
  · refine ⟨nI v, D1, D2, ?_, ?_, p1_1 p1_T1⟩
    · rw [f_X5_coins, if_neg h1, if_pos hw, b_X5_coins_32, p1]
      simp only [Option.bind_some]
      rw [if_pos hw, if_pos (tl_ai (by omega) (by omega)), tl_cl (by omega), p3 v (by omega)]
    · rw [f_X6_coins, e1, if_neg h1, if_pos hw, b_X6_coins_32, f1']
      simp only [Option.bind_some]
      rw [if_pos hw, if_pos (tl_ai (by omega) (by omega)), tl_cl (by omega), f4 v (by omega)]
  by_cases h2 : f_X5_isWithin a2 1 60 = 0
  · exact p1_r (r := -1000000002) (by rw [f_X5_coins, if_neg h1, if_neg hw, if_pos h2]) (by rw [f_X6_coins, e1, e2, if_neg h1, if_neg hw, if_pos h2])
  have h2' := h2
  obtain ⟨w, hw1, hw2, rfl⟩ := tl_w1n (a := 1) (b := 60) (by decide) h2 (by decide)
  refine ⟨if w = 1 then nI v else 0, D1, D2, ?_, ?_, p1_1 p1_T1⟩
  · rw [f_X5_coins, if_neg h1, if_neg hw, if_neg h2, b_X5_coins_32, p1]
    simp only [Option.bind_some]
    rw [if_neg hw, f_X0_countOf, if_neg h2', if_pos (tl_ai (by omega) (by omega)), tl_cl (by omega), p2 w (by omega) (by omega)]
    by_cases hw3 : w = 1
    · subst hw3
      rw [if_pos rfl, if_neg (by decide)]
      have := p1_cnt p2 p3 v hv 59 am_N 0 (by omega) (by rw [tl_N]; omega)
      have e : b_X0_countOf_30 am_N (nI 1) (nI v) 0 60 D1 = some (nI v, D1) := this
      rw [e]
      rfl
    · rw [if_neg hw3, if_pos rfl, if_neg hw3]
      rfl
  · rw [f_X6_coins, e1, e2, if_neg h1, if_neg hw, if_neg h2, b_X6_coins_32, f1']
    simp only [Option.bind_some]
    rw [if_neg hw]
    exact p1_mc h5 f4 v w hv hw1 hw2 59 am_N 0 (by omega) (by omega) (by rw [tl_N]; omega) (fun _ => Or.inl rfl) (by omega)
