/-- the fewest coins of 1 and w -/
def fw (w : Nat) : Nat → Nat → Nat
  | 0, _ => 0
  | f + 1, v => if v < w then v else fw w f (v - w) + 1
theorem fw_fuel (w : Nat) (hw : 1 ≤ w) : ∀ (f g v : Nat), v < f → v < g → fw w f v = fw w g v := by
  intro f
  induction f with
  | zero => intro g v h; omega
  | succ f ih =>
    intro g v h hg
    obtain ⟨g, rfl⟩ : ∃ q, g = q + 1 := ⟨g - 1, by omega⟩
    rw [fw, fw]
    split
    · rfl
    · rw [ih g (v - w) (by omega) (by omega)]
def fv (w v : Nat) : Nat := fw w (v + 1) v
theorem fv_lt {w v : Nat} (h : v < w) : fv w v = v := by rw [fv, fw, if_pos h]
theorem fv_ge {w v : Nat} (hw : 1 ≤ w) (h : w ≤ v) : fv w v = fv w (v - w) + 1 := by
  rw [fv, fw, if_neg (by omega), fv, fw_fuel w hw v (v - w + 1) (v - w) (by omega) (by omega)]
theorem fv_0 {w : Nat} (hw : 1 ≤ w) : fv w 0 = 0 := fv_lt (by omega)
theorem fv_le {w : Nat} (hw : 1 ≤ w) : ∀ (b v : Nat), v ≤ b → fv w v ≤ v := by
  intro b
  induction b with
  | zero => intro v h; have : v = 0 := by omega
            subst this; rw [fv_0 hw]; exact Nat.le_refl _
  | succ b ih =>
    intro v h
    by_cases hv : v < w
    · rw [fv_lt hv]; exact Nat.le_refl _
    · have := ih (v - w) (by omega)
      rw [fv_ge hw (by omega)]; omega
theorem fv_s {w : Nat} (hw : 1 ≤ w) : ∀ (b u : Nat), u ≤ b → 1 ≤ u → fv w u ≤ fv w (u - 1) + 1 := by
  intro b
  induction b with
  | zero => intro u h h1; omega
  | succ b ih =>
    intro u h h1
    by_cases hu : u < w
    · rw [fv_lt hu, fv_lt (by omega)]; omega
    · rw [fv_ge hw (by omega)]
      by_cases h2 : u - 1 < w
      · have : u - w = 0 := by omega
        rw [this, fv_0 hw, fv_lt h2]; omega
      · have e := ih (u - w) (by omega) (by omega)
        rw [fv_ge (v := u - 1) hw (by omega), show u - 1 - w = u - w - 1 by omega]
        omega
theorem fv_m {w v : Nat} (hw : 1 ≤ w) (h : w ≤ v) : fv w (v - w) ≤ fv w (v - 1) := by
  by_cases h2 : v - 1 < w
  · rw [show v - w = 0 by omega, fv_0 hw]; exact Nat.zero_le _
  · have e := fv_s hw (v - w) (v - w) (Nat.le_refl _) (by omega)
    rw [fv_ge (v := v - 1) hw (by omega), show v - 1 - w = v - w - 1 by omega]
    exact e
theorem fv_1 : ∀ v, fv 1 v = v := by
  intro v
  induction v with
  | zero => exact fv_0 (Nat.le_refl _)
  | succ v ih => rw [fv_ge (Nat.le_refl _) (by omega), Nat.add_sub_cancel, ih]
theorem tl_cl {i : Nat} (h : i < 2 ^ 31) : (nI i).toNatClampNeg = i := nI_clamp h
/-- the reference's table, no coin told -/
theorem p1_few (w : Nat) (hw : 1 ≤ w) (hw2 : w ≤ 60) : ∀ (m i n : Nat) (D : am_M), i + m = 201 → 1 ≤ i → m < n → D 56 5 = 0 → (∀ j, j < i → D 78 j = nI (fv w j)) → ∃ D', b_X6_findFewest_9 n (nI w) (nI i) D = some D' ∧ (∀ j, j < 201 → D' 78 j = nI (fv w j)) ∧ ∀ a, a ≠ 78 → D' a = D a := by
  intro m
  induction m with
  | zero =>
    intro i n D h h1 hn h5 hD
    obtain ⟨n, rfl⟩ : ∃ q, n = q + 1 := ⟨n - 1, by omega⟩
    have : i = 201 := by omega
    subst this
    exact ⟨D, by rw [b_X6_findFewest_9, if_pos (by decide)], hD, fun _ _ => rfl⟩
  | succ m ih =>
    intro i n D h h1 hn h5 hD
    obtain ⟨n, rfl⟩ : ∃ q, n = q + 1 := ⟨n - 1, by omega⟩
    have hs : nI i - 1 = nI (i - 1) := pk_sub h1
    have key : ∀ s : Nat, s + 1 = fv w i → ∃ D', b_X6_findFewest_120 (b_X6_findFewest_9 n) (nI w) (nI i) (nI s) D = some D' ∧ (∀ j, j < 201 → D' 78 j = nI (fv w j)) ∧ ∀ a, a ≠ 78 → D' a = D a := by
      intro s hs2
      obtain ⟨D', q1, q2, q3⟩ := ih (i + 1) n (am_up D 78 i (nI (s + 1))) (by omega) (by omega) (by omega) (by rw [tl_upo (by decide)]; exact h5) (fun j hj => by
        rw [tl_ups]
        by_cases hji : j = i
        · subst hji; simp [upd, hs2]
        · simp only [upd, if_neg hji]; exact hD j (by omega))
      refine ⟨D', ?_, q2, fun a ha => by rw [q3 a ha, tl_upo ha]⟩
      rw [b_X6_findFewest_120, if_pos (tl_ai (by omega) (by omega)), nI_1, nI_1, tl_cl (by omega)]
      exact q1
    rw [b_X6_findFewest_9, if_neg (show ¬ (200 : Int32) < nI i from nI_nlt (a := 200) (b := i) (by omega) (by omega)), hs, if_pos (tl_ai (by omega) (by omega)), tl_cl (by omega), hD (i - 1) (by omega), tl_N, b_X6_findFewest_28, h5, if_pos (by decide)]
    by_cases hiw : i < w
    · rw [if_pos (nI_lt hiw (by omega)), b_X6_findFewest_119]
      exact key (fv w (i - 1)) (by rw [fv_lt hiw, fv_lt (by omega)]; omega)
    · have hsw : nI i - nI w = nI (i - w) := pk_sub (by omega)
      have hm := fv_m (v := i) hw (by omega)
      have hg := fv_ge (v := i) hw (by omega)
      have hle1 := fv_le hw (i - 1) (i - 1) (Nat.le_refl _)
      have hle2 := fv_le hw (i - w) (i - w) (Nat.le_refl _)
      rw [if_neg (nI_nlt (by omega) (by omega)), hsw, if_pos (tl_ai (by omega) (by omega)), tl_cl (by omega), hD (i - w) (by omega)]
      by_cases hc : fv w (i - 1) ≤ fv w (i - w)
      · rw [if_pos (nI_le hc (by omega)), b_X6_findFewest_119]
        exact key _ (by omega)
      · rw [if_neg (nI_ge (by omega) (by omega))]
        exact key _ (by omega)
theorem p1_fewest (w : Nat) (hw : 1 ≤ w) (hw2 : w ≤ 60) {D : am_M} (h5 : D 56 5 = 0) : ∃ D', f_X6_findFewest (nI w) D = some D' ∧ (∀ j, j < 201 → D' 78 j = nI (fv w j)) ∧ ∀ a, a ≠ 78 → D' a = D a := by
  obtain ⟨D', q1, q2, q3⟩ := p1_few w hw hw2 200 1 am_N (am_up D 78 0 0) (by omega) (by omega) (by rw [tl_N]; omega) (by rw [tl_upo (by decide)]; exact h5) (fun j hj => by
    have : j = 0 := by omega
    subst this
    rw [tl_ups, fv_0 hw]; simp [upd]; rfl)
  exact ⟨D', q1, q2, fun a ha => by rw [q3 a ha, tl_upo ha]⟩
theorem p1_isCoin {D : am_M} (h5 : D 56 5 = 0) (x : Int32) : f_X6_isCoin x D = some (if x = 1 then 1 else 0, D) := by
  rw [f_X6_isCoin, tl_N, b_X6_isCoin_13, h5, if_pos (by decide)]
  by_cases h : x = 1
  · rw [if_pos h]; rfl
  · rw [if_neg h]; rfl
