theorem tl_N : am_N = 99999 + 1 := rfl
theorem tl_cmp0 (x y : Int64) : lg_cmp x y = 0 ↔ x = y := by
  unfold lg_cmp
  split
  · rename_i h
    constructor
    · intro q; exact absurd q (by decide)
    · intro q; subst q; exact absurd h (by rw [gt_iff_lt, Int64.lt_iff_toInt_lt]; omega)
  · split
    · rename_i h h'; exact ⟨fun _ => h', fun _ => rfl⟩
    · rename_i h h'
      constructor
      · intro q; exact absurd q (by decide)
      · intro q; exact absurd q h'
theorem tl_parts : ∀ (n : Nat) (x1 x2 x3 : Int32) (x4 : Int64) (x6 : Int32) (D : am_M), b_X5_partsOfBillion_15 n x1 x2 x3 x4 x6 D = b_X6_tested_15 n x1 x2 x3 x4 x6 D := by
  intro n
  induction n with
  | zero => intros; rfl
  | succ n ih =>
    intro x1 x2 x3 x4 x6 D
    rw [b_X5_partsOfBillion_15, b_X6_tested_15, b_X5_partsOfBillion_37, b_X6_tested_37, ih]
theorem tl_partsT (x1 x3 : Int32) (D : am_M) (m : Nat) (hm : m < 1000) : ∀ (j i n : Nat) (x4 : Int64), i + j = m → j < n → ∃ v, b_X6_tested_15 n x1 (nI m) x3 x4 (nI i) D = some (v, D) := by
  intro j
  induction j with
  | zero =>
    intro i n x4 h hn
    obtain ⟨n, rfl⟩ : ∃ q, n = q + 1 := ⟨n - 1, by omega⟩
    have : i = m := by omega
    subst this
    exact ⟨x4, by rw [b_X6_tested_15, if_pos (nI_le (Nat.le_refl _) (by omega))]⟩
  | succ j ih =>
    intro i n x4 h hn
    obtain ⟨n, rfl⟩ : ∃ q, n = q + 1 := ⟨n - 1, by omega⟩
    obtain ⟨v, hv⟩ := ih (i + 1) n ((x4 * (if x3 ≤ nI i then 100 - x1 else x1).toInt64) / 100) (by omega) (by omega)
    exact ⟨v, by rw [b_X6_tested_15, if_neg (nI_ge (by omega) (by omega)), b_X6_tested_37, nI_1]; exact hv⟩
theorem tl_isFalse (tw : Nat) (a1 a2 a3 a4 a5 : Int32) (D : am_M) : ∃ r, f_X5_isFalse tw a1 a2 a3 a4 a5 D = some (r, D) ∧ f_X6_isFalse a1 a2 a3 a4 a5 D = some (r, D) := by
  have e1 := p1_in a1 0 100 (a' := 0) (b' := 100) (by decide) (by decide)
  have e2 := p1_in a2 0 100 (a' := 0) (b' := 100) (by decide) (by decide)
  have e3 := p1_in a3 0 100 (a' := 0) (b' := 100) (by decide) (by decide)
  have e4 := p1_in a4 0 9 (a' := 0) (b' := 9) (by decide) (by decide)
  have e5 := p1_in a5 0 a4 (a' := 0) (b' := a4.toInt64) (by decide) rfl
  rw [f_X5_isFalse, f_X6_isFalse, e1, e2, e3, e4, e5]
  by_cases h1 : f_X5_isWithin a1 0 100 = 0
  · rw [if_pos h1, if_pos h1]; exact ⟨_, rfl, rfl⟩
  by_cases h2 : f_X5_isWithin a2 0 100 = 0
  · rw [if_neg h1, if_neg h1, if_pos h2, if_pos h2]; exact ⟨_, rfl, rfl⟩
  by_cases h3 : f_X5_isWithin a3 0 100 = 0
  · rw [if_neg h1, if_neg h1, if_neg h2, if_neg h2, if_pos h3, if_pos h3]; exact ⟨_, rfl, rfl⟩
  by_cases h4 : f_X5_isWithin a4 0 9 = 0
  · rw [if_neg h1, if_neg h1, if_neg h2, if_neg h2, if_neg h3, if_neg h3, if_pos h4, if_pos h4]; exact ⟨_, rfl, rfl⟩
  by_cases h5 : f_X5_isWithin a5 0 a4 = 0
  · rw [if_neg h1, if_neg h1, if_neg h2, if_neg h2, if_neg h3, if_neg h3, if_neg h4, if_neg h4, if_pos h5, if_pos h5]; exact ⟨_, rfl, rfl⟩
  rw [if_neg h1, if_neg h1, if_neg h2, if_neg h2, if_neg h3, if_neg h3, if_neg h4, if_neg h4, if_neg h5, if_neg h5]
  obtain ⟨m, -, hm, rfl⟩ := tl_w1n (a := 0) (b := 9) (by decide) h4 (by decide)
  obtain ⟨v, hv⟩ := tl_partsT a2 a5 D m (by omega) m 0 am_N ((1000000000 * a1.toInt64) / 100) (by omega) (by rw [tl_N]; omega)
  obtain ⟨w, hw⟩ := tl_partsT a3 a5 D m (by omega) m 0 am_N ((1000000000 * (100 - a1).toInt64) / 100) (by omega) (by rw [tl_N]; omega)
  have p1 : f_X6_tested a1 a2 (nI m) a5 D = some (v, D) := hv
  have p2 : f_X6_tested (100 - a1) a3 (nI m) a5 D = some (w, D) := hw
  have p3 : f_X5_partsOfBillion a1 a2 (nI m) a5 D = some (v, D) := (tl_parts _ _ _ _ _ _ _).trans hv
  have p4 : f_X5_partsOfBillion (100 - a1) a3 (nI m) a5 D = some (w, D) := (tl_parts _ _ _ _ _ _ _).trans hw
  rw [p1, p3]
  simp only [Option.bind_some, p2, p4]
  by_cases h6 : lg_cmp (v + w) 0 = 0
  · rw [if_pos h6]; exact ⟨_, rfl, rfl⟩
  · have h7 : ¬ v + w = 0 := fun q => h6 ((tl_cmp0 _ _).mpr q)
    rw [if_neg h6, if_neg h7]; exact ⟨_, rfl, rfl⟩
theorem tl_prEq (tw : Nat) : ∀ (n : Nat) (x2 x3 x4 x5 x6 : Int32) (D : am_M), b_X5_prices_54 tw n x2 x3 x4 x5 x6 D = b_X6_prices_56 n x2 x3 x4 x5 x6 D := by
  intro n
  induction n with
  | zero => intros; rfl
  | succ n ih =>
    intro x2 x3 x4 x5 x6 D
    rw [b_X5_prices_54, b_X6_prices_56, ih]
theorem tl_prT (x2 x3 x4 : Int32) (D : am_M) : ∀ (j i n : Nat) (x5 : Int32), i + j = 501 → j < n → ∃ r, b_X6_prices_56 n x2 x3 x4 x5 (nI i) D = some (r, D) := by
  intro j
  induction j with
  | zero =>
    intro i n x5 h hn
    obtain ⟨n, rfl⟩ : ∃ q, n = q + 1 := ⟨n - 1, by omega⟩
    have : i = 501 := by omega
    subst this
    exact ⟨-1, by rw [b_X6_prices_56, if_pos (by decide)]⟩
  | succ j ih =>
    intro i n x5 h hn
    obtain ⟨n, rfl⟩ : ∃ q, n = q + 1 := ⟨n - 1, by omega⟩
    rw [b_X6_prices_56, if_neg (show ¬ (500 : Int32) < nI i from nI_nlt (a := 500) (b := i) (by omega) (by omega))]
    by_cases h1 : x5 * x2 / 100 + x3 = x5
    · rw [if_pos h1]
      by_cases h2 : x4 = 0
      · rw [if_pos h2]; exact ⟨_, rfl⟩
      · rw [if_neg h2]; exact ⟨_, rfl⟩
    · rw [if_neg h1]
      by_cases h2 : x5 * x2 / 100 + x3 ≤ 99999
      · rw [if_pos h2, nI_1]
        exact ih (i + 1) n _ (by omega) (by omega)
      · rw [if_neg h2]; exact ⟨_, rfl⟩
theorem tl_prices (tw : Nat) (a1 a2 a3 a4 : Int32) (D : am_M) : ∃ r, f_X5_prices tw a1 a2 a3 a4 D = some (r, D) ∧ f_X6_prices a1 a2 a3 a4 D = some (r, D) := by
  have e1 := p1_in a1 0 9999 (a' := 0) (b' := 9999) (by decide) (by decide)
  have e2 := p1_in a2 0 300 (a' := 0) (b' := 300) (by decide) (by decide)
  have e3 := p1_in a3 0 99 (a' := 0) (b' := 99) (by decide) (by decide)
  have e4 := p1_in a4 0 1 (a' := 0) (b' := 1) (by decide) (by decide)
  rw [f_X5_prices, f_X6_prices, e1, e2, e3, e4, tl_prEq]
  split
  · exact ⟨_, rfl, rfl⟩
  split
  · exact ⟨_, rfl, rfl⟩
  split
  · exact ⟨_, rfl, rfl⟩
  split
  · exact ⟨_, rfl, rfl⟩
  obtain ⟨r, hr⟩ := tl_prT a2 a3 a4 D 501 0 am_N a1 (by omega) (by rw [tl_N]; omega)
  exact ⟨r, hr, hr⟩
theorem p1_isFalse : ok_isFalse 1 p1_I := by
  intro k tw tp D hk hI a1 a2 a3 a4 a5
  obtain ⟨rfl, rfl, rfl⟩ := p1_0 hk hI
  obtain ⟨r, h5, h6⟩ := tl_isFalse 1 a1 a2 a3 a4 a5 d0
  exact p1_r h5 h6
theorem p1_prices : ok_prices 1 p1_I := by
  intro k tw tp D hk hI a1 a2 a3 a4
  obtain ⟨rfl, rfl, rfl⟩ := p1_0 hk hI
  obtain ⟨r, h5, h6⟩ := tl_prices 1 a1 a2 a3 a4 d0
  exact p1_r h5 h6
theorem p1_rob : ∀ j, j < 1000 → ∀ w, w < 3 → chk2 (f_X5_robbed 1 0 (nI j) (nI w) d0) (f_X6_robbed 0 (nI j) (nI w)) = true := by decide +kernel
theorem p1_robbed : ok_robbed 1 p1_I := by
  intro k tw tp D hk hI a1 a2 a3
  obtain ⟨rfl, rfl, rfl⟩ := p1_0 hk hI
  have e1 := p1_in a1 0 0 (a' := 0) (b' := ((1 <<< ((d0 56 3) &&& 31)) - 1).toInt64) (by decide) (by decide)
  have e2 := p1_in a2 0 999 (a' := 0) (b' := 999) (by decide) (by decide)
  have e3 := p1_in a3 0 2 (a' := 0) (b' := 2) (by decide) (by decide)
  by_cases h1 : f_X5_isWithin a1 0 0 = 0
  · exact p1_r (r := -1000000001) (by rw [f_X5_robbed]; exact if_pos h1) (by rw [f_X6_robbed, e1]; exact if_pos h1)
  obtain ⟨j1, -, hj1, rfl⟩ := tl_w1n (a := 0) (b := 0) (by decide) h1 (by decide)
  have : j1 = 0 := by omega
  subst this
  by_cases h2 : f_X5_isWithin a2 0 999 = 0
  · exact p1_r (r := -1000000002) (by rw [f_X5_robbed]; exact (if_neg h1).trans (if_pos h2)) (by rw [f_X6_robbed, e1, e2]; exact (if_neg h1).trans (if_pos h2))
  by_cases h3 : f_X5_isWithin a3 0 2 = 0
  · exact p1_r (r := -1000000002) (by rw [f_X5_robbed]; exact (if_neg h1).trans ((if_neg h2).trans (if_pos h3))) (by rw [f_X6_robbed, e1, e2, e3]; exact (if_neg h1).trans ((if_neg h2).trans (if_pos h3)))
  obtain ⟨j2, -, hj2, rfl⟩ := tl_w1n (a := 0) (b := 999) (by decide) h2 (by decide)
  obtain ⟨j3, -, hj3, rfl⟩ := tl_w1n (a := 0) (b := 2) (by decide) h3 (by decide)
  exact p1_c (K := 1) (p1_rob j2 (by omega) j3 (by omega))
theorem tl_upo {D : am_M} {a b j : Nat} {x : Int32} (h : b ≠ a) : am_up D a j x b = D b := by simp [am_up, h]
theorem tl_ups {D : am_M} {a j : Nat} {x : Int32} : am_up D a j x a = upd (D a) j x := by simp [am_up]
theorem tl_save : ∀ (m i n : Nat) (D : am_M), i + m = 138 → m < n → ∃ D', b_X6_save_2 n (nI i) D = some D' ∧ ∀ a, a ≠ 73 → D' a = D a := by
  intro m
  induction m with
  | zero =>
    intro i n D h hn
    obtain ⟨n, rfl⟩ : ∃ q, n = q + 1 := ⟨n - 1, by omega⟩
    have : i = 138 := by omega
    subst this
    exact ⟨D, by rw [b_X6_save_2, if_pos (by decide)], fun _ _ => rfl⟩
  | succ m ih =>
    intro i n D h hn
    obtain ⟨n, rfl⟩ : ∃ q, n = q + 1 := ⟨n - 1, by omega⟩
    obtain ⟨D', h1, h2⟩ := ih (i + 1) n (am_up D 73 (nI i).toNatClampNeg (D 62 (nI i).toNatClampNeg)) (by omega) (by omega)
    refine ⟨D', ?_, fun a ha => by rw [h2 a ha, tl_upo ha]⟩
    rw [b_X6_save_2, if_neg (show ¬ (138 : Int32) ≤ nI i from nI_ge (a := i) (b := 138) (by omega) (by omega)), if_pos (tl_ai (by omega) (by omega)), nI_1]
    exact h1
theorem tl_back : ∀ (m i n : Nat) (D : am_M), i + m = 138 → m < n → ∃ D', b_X6_putBack_2 n (nI i) D = some D' ∧ ∀ a, a ≠ 62 → D' a = D a := by
  intro m
  induction m with
  | zero =>
    intro i n D h hn
    obtain ⟨n, rfl⟩ : ∃ q, n = q + 1 := ⟨n - 1, by omega⟩
    have : i = 138 := by omega
    subst this
    exact ⟨D, by rw [b_X6_putBack_2, if_pos (by decide)], fun _ _ => rfl⟩
  | succ m ih =>
    intro i n D h hn
    obtain ⟨n, rfl⟩ : ∃ q, n = q + 1 := ⟨n - 1, by omega⟩
    obtain ⟨D', h1, h2⟩ := ih (i + 1) n (am_up D 62 (nI i).toNatClampNeg (D 73 (nI i).toNatClampNeg)) (by omega) (by omega)
    refine ⟨D', ?_, fun a ha => by rw [h2 a ha, tl_upo ha]⟩
    rw [b_X6_putBack_2, if_neg (show ¬ (138 : Int32) ≤ nI i from nI_ge (a := i) (b := 138) (by omega) (by omega)), if_pos (tl_ai (by omega) (by omega)), nI_1]
    exact h1
theorem p1_pass {D : am_M} (h3 : D 56 3 = 0) (h7 : D 56 7 = 0) : f_X6_pass D = some (am_up D 62 137 (D 62 137 + 1)) := by
  rw [f_X6_pass, tl_N, b_X6_pass_16, h3, if_pos (by decide), tl_N, b_X6_pass_83, h7, if_pos (by decide)]
theorem p1_rich (N : Nat) (hN : N ≤ 200) (x2 : Int32) : ∀ (m i n : Nat) (D : am_M), i + m = N → m < n → D 56 3 = 0 → D 56 7 = 0 → ∃ D', b_X6_richest_31 n (nI N) x2 (nI i) D = some (-1, D') := by
  intro m
  induction m with
  | zero =>
    intro i n D h hn h3 h7
    obtain ⟨n, rfl⟩ : ∃ q, n = q + 1 := ⟨n - 1, by omega⟩
    have : i = N := by omega
    subst this
    obtain ⟨D', h1, -⟩ := tl_back 138 0 am_N D (by omega) (by rw [tl_N]; omega)
    refine ⟨D', ?_⟩
    rw [b_X6_richest_31, if_pos (nI_le (Nat.le_refl _) (by omega)), tl_N, b_X6_richest_54, h3, if_pos (by decide)]
    have h2 : f_X6_putBack D = some D' := h1
    rw [h2]
    simp
  | succ m ih =>
    intro i n D h hn h3 h7
    obtain ⟨n, rfl⟩ : ∃ q, n = q + 1 := ⟨n - 1, by omega⟩
    obtain ⟨D', h1⟩ := ih (i + 1) n (am_up D 62 137 (D 62 137 + 1)) (by omega) (by omega) (by rw [tl_upo (by decide)]; exact h3) (by rw [tl_upo (by decide)]; exact h7)
    refine ⟨D', ?_⟩
    rw [b_X6_richest_31, if_neg (nI_ge (by omega) (by omega)), p1_pass h3 h7, nI_1]
    exact h1
theorem p1_richm {D : am_M} (h3 : D 56 3 = 0) (h7 : D 56 7 = 0) {a2 : Int32} {N : Nat} (hN : N ≤ 200) (h1 : ¬ f_X5_isWithin (nI N) 0 200 = 0) (h2 : ¬ f_X5_isWithin a2 0 1 = 0) : ∃ D', f_X6_richest (nI N) a2 D = some (-1, D') := by
  have e1 := p1_in (nI N) 0 200 (a' := 0) (b' := 200) (by decide) (by decide)
  have e2 := p1_in a2 0 1 (a' := 0) (b' := 1) (by decide) (by decide)
  obtain ⟨D', s1, s2⟩ := tl_save 138 0 am_N D (by omega) (by rw [tl_N]; omega)
  have s3 : f_X6_save D = some D' := s1
  obtain ⟨D2, r1⟩ := p1_rich N hN a2 N 0 am_N D' (by omega) (by rw [tl_N]; omega) (by rw [s2 56 (by decide)]; exact h3) (by rw [s2 56 (by decide)]; exact h7)
  refine ⟨D2, ?_⟩
  rw [f_X6_richest, e1, e2, if_neg h1, if_neg h2, s3, Option.bind_some]
  exact r1
theorem p1_richest : ok_richest 1 p1_I := by
  intro k tw tp D hk hI a1 a2
  obtain ⟨rfl, rfl, rfl⟩ := p1_0 hk hI
  have e1 := p1_in a1 0 200 (a' := 0) (b' := 200) (by decide) (by decide)
  have e2 := p1_in a2 0 1 (a' := 0) (b' := 1) (by decide) (by decide)
  by_cases h1 : f_X5_isWithin a1 0 200 = 0
  · exact p1_r (r := -1000000002) (by rw [f_X5_richest, if_pos h1]) (by rw [f_X6_richest, e1, if_pos h1])
  by_cases h2 : f_X5_isWithin a2 0 1 = 0
  · exact p1_r (r := -1000000002) (by rw [f_X5_richest, if_neg h1, if_pos h2]) (by rw [f_X6_richest, e1, e2, if_neg h1, if_pos h2])
  obtain ⟨N, -, hN, rfl⟩ := tl_w1n (a := 0) (b := 200) (by decide) h1 (by decide)
  obtain ⟨D2, r1⟩ := p1_richm (D := d0) (by decide) (by decide) hN h1 h2
  exact ⟨-1, d0, D2, by rw [f_X5_richest, if_neg h1, if_neg h2, if_pos (by decide)], r1, p1_1 p1_T1⟩
