/-! numbers, and what loops need -/
theorem tl_in (a b c : Int32) : f_X6_in a.toInt64 b.toInt64 c.toInt64 = f_X5_isWithin a b c := by
  have h1 : ∀ x y : Int32, x.toInt64 < y.toInt64 ↔ x < y := by
    intro x y
    rw [Int64.lt_iff_toInt_lt, Int32.lt_iff_toInt_lt, Int32.toInt_toInt64, Int32.toInt_toInt64]
  have h2 : ∀ x y : Int64, lg_cmp x y < 0 ↔ x < y := by
    intro x y
    unfold lg_cmp
    split
    · rename_i h
      constructor
      · intro q; exact absurd q (by decide)
      · intro q; exact absurd q (by rw [gt_iff_lt, Int64.lt_iff_toInt_lt] at h; rw [Int64.lt_iff_toInt_lt]; omega)
    · split
      · rename_i h h'
        subst h'
        constructor
        · intro q; exact absurd q (by decide)
        · intro q; exact absurd q (by rw [Int64.lt_iff_toInt_lt]; omega)
      · rename_i h h'
        constructor
        · intro _
          rw [gt_iff_lt, Int64.lt_iff_toInt_lt] at h
          have h3 : x.toInt ≠ y.toInt := fun q => h' (Int64.toInt_inj.mp q)
          rw [Int64.lt_iff_toInt_lt]
          omega
        · intro _; decide
  have h3 : ∀ x y : Int64, 0 < lg_cmp x y ↔ y < x := by
    intro x y
    unfold lg_cmp
    split
    · rename_i h
      constructor
      · intro _; exact h
      · intro _; decide
    · split
      · rename_i h h'
        constructor
        · intro q; exact absurd q (by decide)
        · intro q; exact absurd q h
      · rename_i h h'
        constructor
        · intro q; exact absurd q (by decide)
        · intro q; exact absurd q h
  unfold f_X6_in f_X5_isWithin
  simp only [h2, h3, h1]
theorem tl_w0 {x lo hi : Int32} (h : f_X5_isWithin x lo hi = 0) : x < lo ∨ hi < x := by
  unfold f_X5_isWithin at h
  split at h
  · exact Or.inl ‹_›
  · split at h
    · exact Or.inr ‹_›
    · exact absurd h (by decide)
theorem tl_w1 {x lo hi : Int32} (h : ¬ f_X5_isWithin x lo hi = 0) : lo ≤ x ∧ x ≤ hi := by
  unfold f_X5_isWithin at h
  split at h
  · exact absurd rfl h
  · split at h
    · exact absurd rfl h
    · exact ⟨Int32.not_lt.mp ‹_›, Int32.not_lt.mp ‹_›⟩
theorem tl_w1n {x : Int32} {a b : Nat} (hb : b < 2 ^ 31) (h : ¬ f_X5_isWithin x (nI a) (nI b) = 0) (ha : a < 2 ^ 31) : ∃ j : Nat, a ≤ j ∧ j ≤ b ∧ x = nI j := by
  obtain ⟨h1, h2⟩ := tl_w1 h
  have h0 : ¬ x < 0 := by
    intro q
    have := Int32.lt_of_lt_of_le q (Int32.le_trans (nI_pos' ha) h1)
    exact Int32.lt_irrefl this
  obtain ⟨j, hj, rfl⟩ := nI_of h0
  exact ⟨j, (nI_leI ha hj).mp h1, (nI_leI hj hb).mp h2, rfl⟩
theorem tl_wm1 (x : Int32) : f_X5_isWithin x 0 (-1) = 0 := by
  unfold f_X5_isWithin
  split
  · rfl
  · split
    · rfl
    · rename_i h h2
      have h3 := Int32.le_trans (Int32.not_lt.mp h) (Int32.not_lt.mp h2)
      exact absurd h3 (by decide)
theorem tl_ai {k n : Nat} (h : k < n) (hn : n < 2 ^ 31) : am_in (nI k) n = true := by
  simp only [am_in, Bool.and_eq_true, decide_eq_true_eq]
  exact ⟨nI_pos' (by omega), by rw [nI_clamp (by omega)]; exact h⟩
def chk2 (o5 : Option (Int32 × am_M)) (g : am_M → Option (Int32 × am_M)) : Bool := match o5 with
  | some q => (match g q.2 with
    | some q' => decide (q.1 = q'.1)
    | none => false)
  | none => false
theorem chk2_ok {o5 : Option (Int32 × am_M)} {g : am_M → Option (Int32 × am_M)} (h : chk2 o5 g = true) : ∃ (r : Int32) (D1 D2 : am_M), o5 = some (r, D1) ∧ g D1 = some (r, D2) := by
  unfold chk2 at h
  split at h
  · rename_i q
    split at h
    · rename_i q' hq
      obtain ⟨r, D1⟩ := q
      obtain ⟨r', D2⟩ := q'
      simp only [decide_eq_true_eq] at h
      subst h
      exact ⟨_, D1, D2, rfl, hq⟩
    · cases h
  · cases h
