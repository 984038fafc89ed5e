/-! a coin that may be false; prices -/
theorem p1_in (x a b : Int32) {a' b' : Int64} (ha : a.toInt64 = a') (hb : b.toInt64 = b') : f_X6_in x.toInt64 a' b' = f_X5_isWithin x a b := by
  rw [← ha, ← hb]; exact tl_in x a b
theorem tl_cmp0 (x y : Int64) : lg_cmp x y = 0 ↔ x = y := by
  unfold lg_cmp
  split
  · rename_i h
    constructor
    · intro q; exact absurd q (by decide)
    · intro q; subst q; exact absurd h (by rw [gt_iff_lt, Int64.lt_iff_toInt_lt]; omega)
  · split
    · rename_i h h'; exact ⟨fun _ => h', fun _ => rfl⟩
    · rename_i h h'
      constructor
      · intro q; exact absurd q (by decide)
      · intro q; exact absurd q h'
theorem tl_parts : ∀ (n : Nat) (x1 x2 x3 : Int32) (x4 : Int64) (x6 : Int32) (D : am_M), b_X5_partsOfBillion_15 n x1 x2 x3 x4 x6 D = b_X6_tested_15 n x1 x2 x3 x4 x6 D := by
  intro n
  induction n with
  | zero => intros; rfl
  | succ n ih =>
    intro x1 x2 x3 x4 x6 D
    rw [b_X5_partsOfBillion_15, b_X6_tested_15, b_X5_partsOfBillion_37, b_X6_tested_37, ih]
theorem tl_partsT (x1 x3 : Int32) (D : am_M) (m : Nat) (hm : m < 1000) : ∀ (j i n : Nat) (x4 : Int64), i + j = m → j < n → ∃ v, b_X6_tested_15 n x1 (nI m) x3 x4 (nI i) D = some (v, D) := by
  intro j
  induction j with
  | zero =>
    intro i n x4 h hn
    obtain ⟨n, rfl⟩ : ∃ q, n = q + 1 := ⟨n - 1, by omega⟩
    have : i = m := by omega
    subst this
    exact ⟨x4, by rw [b_X6_tested_15, if_pos (nI_le (Nat.le_refl _) (by omega))]⟩
  | succ j ih =>
    intro i n x4 h hn
    obtain ⟨n, rfl⟩ : ∃ q, n = q + 1 := ⟨n - 1, by omega⟩
    obtain ⟨v, hv⟩ := ih (i + 1) n ((x4 * (if x3 ≤ nI i then 100 - x1 else x1).toInt64) / 100) (by omega) (by omega)
    exact ⟨v, by rw [b_X6_tested_15, if_neg (nI_ge (by omega) (by omega)), b_X6_tested_37, nI_1]; exact hv⟩
theorem tl_isFalse (tw : Nat) (a1 a2 a3 a4 a5 : Int32) (D : am_M) : ∃ r, f_X5_isFalse tw a1 a2 a3 a4 a5 D = some (r, D) ∧ f_X6_isFalse a1 a2 a3 a4 a5 D = some (r, D) := by
  have e1 := p1_in a1 0 100 (a' := 0) (b' := 100) (by decide) (by decide)
  have e2 := p1_in a2 0 100 (a' := 0) (b' := 100) (by decide) (by decide)
  have e3 := p1_in a3 0 100 (a' := 0) (b' := 100) (by decide) (by decide)
  have e4 := p1_in a4 0 9 (a' := 0) (b' := 9) (by decide) (by decide)
  have e5 := p1_in a5 0 a4 (a' := 0) (b' := a4.toInt64) (by decide) rfl
  rw [f_X5_isFalse, f_X6_isFalse, e1, e2, e3, e4, e5]
  by_cases h1 : f_X5_isWithin a1 0 100 = 0
  · rw [if_pos h1, if_pos h1]; exact ⟨_, rfl, rfl⟩
  by_cases h2 : f_X5_isWithin a2 0 100 = 0
  · rw [if_neg h1, if_neg h1, if_pos h2, if_pos h2]; exact ⟨_, rfl, rfl⟩
  by_cases h3 : f_X5_isWithin a3 0 100 = 0
  · rw [if_neg h1, if_neg h1, if_neg h2, if_neg h2, if_pos h3, if_pos h3]; exact ⟨_, rfl, rfl⟩
  by_cases h4 : f_X5_isWithin a4 0 9 = 0
  · rw [if_neg h1, if_neg h1, if_neg h2, if_neg h2, if_neg h3, if_neg h3, if_pos h4, if_pos h4]; exact ⟨_, rfl, rfl⟩
  by_cases h5 : f_X5_isWithin a5 0 a4 = 0
  · rw [if_neg h1, if_neg h1, if_neg h2, if_neg h2, if_neg h3, if_neg h3, if_neg h4, if_neg h4, if_pos h5, if_pos h5]; exact ⟨_, rfl, rfl⟩
  rw [if_neg h1, if_neg h1, if_neg h2, if_neg h2, if_neg h3, if_neg h3, if_neg h4, if_neg h4, if_neg h5, if_neg h5]
  obtain ⟨m, -, hm, rfl⟩ := tl_w1n (a := 0) (b := 9) (by decide) h4 (by decide)
  obtain ⟨v, hv⟩ := tl_partsT a2 a5 D m (by omega) m 0 am_N ((1000000000 * a1.toInt64) / 100) (by omega) (by rw [tl_N]; omega)
  obtain ⟨w, hw⟩ := tl_partsT a3 a5 D m (by omega) m 0 am_N ((1000000000 * (100 - a1).toInt64) / 100) (by omega) (by rw [tl_N]; omega)
  have p1 : f_X6_tested a1 a2 (nI m) a5 D = some (v, D) := hv
  have p2 : f_X6_tested (100 - a1) a3 (nI m) a5 D = some (w, D) := hw
  have p3 : f_X5_partsOfBillion a1 a2 (nI m) a5 D = some (v, D) := (tl_parts _ _ _ _ _ _ _).trans hv
  have p4 : f_X5_partsOfBillion (100 - a1) a3 (nI m) a5 D = some (w, D) := (tl_parts _ _ _ _ _ _ _).trans hw
  rw [p1, p3]
  simp only [Option.bind_some, p2, p4]
  by_cases h6 : lg_cmp (v + w) 0 = 0
  · rw [if_pos h6]; exact ⟨_, rfl, rfl⟩
  · have h7 : ¬ v + w = 0 := fun q => h6 ((tl_cmp0 _ _).mpr q)
    rw [if_neg h6, if_neg h7]; exact ⟨_, rfl, rfl⟩
theorem tl_prEq (tw : Nat) : ∀ (n : Nat) (x2 x3 x4 x5 x6 : Int32) (D : am_M), b_X5_prices_54 tw n x2 x3 x4 x5 x6 D = b_X6_prices_56 n x2 x3 x4 x5 x6 D := by
  intro n
  induction n with
  | zero => intros; rfl
  | succ n ih =>
    intro x2 x3 x4 x5 x6 D
    rw [b_X5_prices_54, b_X6_prices_56, ih]
theorem tl_prT (x2 x3 x4 : Int32) (D : am_M) : ∀ (j i n : Nat) (x5 : Int32), i + j = 501 → j < n → ∃ r, b_X6_prices_56 n x2 x3 x4 x5 (nI i) D = some (r, D) := by
  intro j
  induction j with
  | zero =>
    intro i n x5 h hn
    obtain ⟨n, rfl⟩ : ∃ q, n = q + 1 := ⟨n - 1, by omega⟩
    have : i = 501 := by omega
    subst this
    exact ⟨-1, by rw [b_X6_prices_56, if_pos (by decide)]⟩
  | succ j ih =>
    intro i n x5 h hn
    obtain ⟨n, rfl⟩ : ∃ q, n = q + 1 := ⟨n - 1, by omega⟩
    rw [b_X6_prices_56, if_neg (show ¬ (500 : Int32) < nI i from nI_nlt (a := 500) (b := i) (by omega) (by omega))]
    by_cases h1 : x5 * x2 / 100 + x3 = x5
    · rw [if_pos h1]
      by_cases h2 : x4 = 0
      · rw [if_pos h2]; exact ⟨_, rfl⟩
      · rw [if_neg h2]; exact ⟨_, rfl⟩
    · rw [if_neg h1]
      by_cases h2 : x5 * x2 / 100 + x3 ≤ 99999
      · rw [if_pos h2, nI_1]
        exact ih (i + 1) n _ (by omega) (by omega)
      · rw [if_neg h2]; exact ⟨_, rfl⟩
theorem tl_prices (tw : Nat) (a1 a2 a3 a4 : Int32) (D : am_M) : ∃ r, f_X5_prices tw a1 a2 a3 a4 D = some (r, D) ∧ f_X6_prices a1 a2 a3 a4 D = some (r, D) := by
  have e1 := p1_in a1 0 9999 (a' := 0) (b' := 9999) (by decide) (by decide)
  have e2 := p1_in a2 0 300 (a' := 0) (b' := 300) (by decide) (by decide)
  have e3 := p1_in a3 0 99 (a' := 0) (b' := 99) (by decide) (by decide)
  have e4 := p1_in a4 0 1 (a' := 0) (b' := 1) (by decide) (by decide)
  rw [f_X5_prices, f_X6_prices, e1, e2, e3, e4, tl_prEq]
  split
  · exact ⟨_, rfl, rfl⟩
  split
  · exact ⟨_, rfl, rfl⟩
  split
  · exact ⟨_, rfl, rfl⟩
  split
  · exact ⟨_, rfl, rfl⟩
  obtain ⟨r, hr⟩ := tl_prT a2 a3 a4 D 501 0 am_N a1 (by omega) (by rw [tl_N]; omega)
  exact ⟨r, hr, hr⟩
theorem so_isFalse {k tw : Nat} {tp : Bool} {D : am_M} (h : Sim k tw tp D) (a b c d e : Int32) : ∃ (r : Int32) (D1 D2 : am_M), f_X5_isFalse tw a b c d e D = some (r, D1) ∧ f_X6_isFalse a b c d e D1 = some (r, D2) ∧ Sim (k + 1) tw tp D2 := by
  obtain ⟨r, h1, h2⟩ := tl_isFalse tw a b c d e D
  exact ⟨r, D, D, h1, h2, h⟩
theorem so_prices {k tw : Nat} {tp : Bool} {D : am_M} (h : Sim k tw tp D) (a b c d : Int32) : ∃ (r : Int32) (D1 D2 : am_M), f_X5_prices tw a b c d D = some (r, D1) ∧ f_X6_prices a b c d D1 = some (r, D2) ∧ Sim (k + 1) tw tp D2 := by
  obtain ⟨r, h1, h2⟩ := tl_prices tw a b c d D
  exact ⟨r, D, D, h1, h2, h⟩
