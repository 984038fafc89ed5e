/-! a life planned: the class's, up to the walk -/
theorem j_fill {A N : Nat} {x : Int32} (hN : N ≤ 1000) : ∀ (m i k : Nat) (D : am_M), i + m = N → m < k → (∀ j, j < i → D A j = x) → ∃ D', b_J7_fill_5 A N k x (nI i) (nI N) D = some D' ∧ (∀ j, j < N → D' A j = x) ∧ ∀ a, a ≠ A → D' a = D a := by
  intro m
  induction m with
  | zero =>
    intro i k D hm hk h
    obtain ⟨k, rfl⟩ : ∃ q, k = q + 1 := ⟨k - 1, by omega⟩
    have : i = N := by omega
    subst this
    exact ⟨D, by rw [b_J7_fill_5, if_pos (nI_le (Nat.le_refl _) (by omega))], h, fun _ _ => rfl⟩
  | succ m ih =>
    intro i k D hm hk h
    obtain ⟨k, rfl⟩ : ∃ q, k = q + 1 := ⟨k - 1, by omega⟩
    obtain ⟨D', i1, i2, i3⟩ := ih (i + 1) k (am_up D A i x) (by omega) (by omega) (fun j hj => by
      rw [tl_upi2]
      by_cases e : j = i
      · rw [if_pos e]
      · rw [if_neg e]; exact h j (by omega))
    exact ⟨D', by rw [b_J7_fill_5, if_neg (nI_ge (by omega) (by omega)), if_pos (tl_ai (by omega) (by omega)), tl_cl2 (by omega), nI_1]; exact i1, i2, fun a ha => by rw [i3 a ha, tl_upo2 ha]⟩
def Lh (h : Nat) (D : am_M) : Prop := D 45 15 = nI h
theorem Lp_u {w n t i : Nat} {D : am_M} {x : Int32} (h : i = 15 ∨ i = 5) (q : Lp w n t D) : Lp w n t (am_up D 45 i x) := by
  obtain ⟨q1, q2, q3, q4⟩ := q
  exact ⟨by rw [tl_upi2, if_neg (by omega)]; exact q1, by rw [tl_upi2, if_neg (by omega)]; exact q2, by rw [tl_upi2, if_neg (by omega)]; exact q3, by rw [tl_upi2, if_neg (by omega)]; exact q4⟩
theorem l_ow {T w n t0 N : Nat} (hT : T ≤ 14) (hN : N ≤ 8) (hn : n ≤ 48) : ∀ (m d k h : Nat) (D : am_M), d + m = N → m < k → h ≤ n → D T 5 = nI N → Lp w n t0 D → Lh h D → ∃ D', b_X1_countOwed_15 T k (nI d) D = some D' ∧ (∃ h', h' ≤ n ∧ Lh h' D') ∧ Lp w n t0 D' ∧ (∀ i, i ≠ 15 → D' 45 i = D 45 i) ∧ ∀ a, a ≠ 48 → a ≠ 45 → D' a = D a := by
  intro m
  induction m with
  | zero =>
    intro d k h D hm hk hh h5 hL hH
    obtain ⟨k, rfl⟩ : ∃ q, k = q + 1 := ⟨k - 1, by omega⟩
    exact ⟨D, by rw [b_X1_countOwed_15, h5, if_pos (nI_le (by omega) (by omega))], ⟨h, hh, hH⟩, hL, fun _ _ => rfl, fun _ _ _ => rfl⟩
  | succ m ih =>
    intro d k h D hm hk hh h5 hL hH
    obtain ⟨k, rfl⟩ : ∃ q, k = q + 1 := ⟨k - 1, by omega⟩
    rw [b_X1_countOwed_15, h5, if_neg (nI_ge (by omega) (by omega)), if_pos (tl_ai (by omega) (by omega)), nI_1]
    have go := ih (d + 1) k h D (by omega) (by omega) hh h5 hL hH
    split
    · split
      · rw [b_X1_countOwed_94, nI_1]; exact go
      · rename_i hw
        generalize D (T + 3) (nI d).toNatClampNeg - D 45 8 = x at *
        rw [hL.2.2.1] at hw
        obtain ⟨j, hj, rfl⟩ := m1_w (by omega) hw
        rw [if_pos (tl_ai (by omega) (by omega)), b_X1_countOwed_94, nI_1 d]
        generalize hU : am_up D 48 (nI j).toNatClampNeg (D 48 (nI j).toNatClampNeg + D (T + 4) (nI d).toNatClampNeg) = U
        have e45 : U 45 = D 45 := by rw [← hU, tl_upo2 (by decide)]
        have ex : am_max (U 45 15) (nI j + 1) = nI (max h (j + 1)) := by
          rw [e45, hH, nI_1]
          unfold am_max
          by_cases hc : h < j + 1
          · rw [if_pos (nI_lt hc (by omega)), Nat.max_eq_right (by omega)]
          · rw [if_neg (nI_nlt (by omega) (by omega)), Nat.max_eq_left (by omega)]
        rw [ex]
        obtain ⟨D', i1, i2, i3, i4, i5⟩ := ih (d + 1) k (max h (j + 1)) (am_up U 45 15 (nI (max h (j + 1)))) (by omega) (by omega) (by omega) (by rw [tl_upo2 (by omega), ← hU, tl_upo2 (by omega)]; exact h5) (Lp_u (Or.inl rfl) (Lp_f e45 hL)) (by unfold Lh; rw [tl_upi2, if_pos rfl])
        exact ⟨D', i1, i2, i3, fun i hi => by rw [i4 i hi, tl_upi2, if_neg hi, e45], fun a x1 x2 => by rw [i5 a x1 x2, tl_upo2 x2, ← hU, tl_upo2 x1]⟩
    · exact go
theorem l_owed {T w n t0 N : Nat} {D : am_M} (hT : T ≤ 14) (hN : N ≤ 8) (hn : n ≤ 48) (h5 : D T 5 = nI N) (hL : Lp w n t0 D) : ∃ D', f_X1_countOwed T D = some D' ∧ (∃ h', h' ≤ n ∧ Lh h' D') ∧ Lp w n t0 D' ∧ (∀ i, i ≠ 15 → D' 45 i = D 45 i) ∧ ∀ a, a ≠ 48 → a ≠ 45 → D' a = D a := by
  obtain ⟨D1, f1, -, f3⟩ := j_fill (A := 48) (N := 48) (x := 0) (by decide) 48 0 am_N D rfl (by decide) (fun j hj => absurd hj (by omega))
  have f1' : f_J7_fill 48 48 0 D = some D1 := f1
  obtain ⟨D', i1, i2, i3, i4, i5⟩ := l_ow (N := N) hT hN hn N 0 am_N 0 (am_up D1 45 15 0) (by omega) (by show N < 100000; omega) (by omega) (by rw [tl_upo2 (by omega), f3 T (by omega)]; exact h5) (Lp_u (Or.inl rfl) (Lp_f (f3 45 (by decide)) hL)) (by unfold Lh; rw [tl_upi2, if_pos rfl]; rfl)
  exact ⟨D', by rw [f_X1_countOwed, f1', Option.bind_some]; exact i1, i2, i3, fun i hi => by rw [i4 i hi, tl_upi2, if_neg hi, f3 45 (by decide)], fun a x1 x2 => by rw [i5 a x1 x2, tl_upo2 x2, f3 a x1]⟩
theorem l_lt {w n t0 k : Nat} {D : am_M} (h : Lp w n t0 D) (ht : t0 ≤ 99) (hk : k ≤ 48) : f_X1_leastTired (nI k) D = nI (t0 - 4 * k) := by
  rw [f_X1_leastTired, h.2.2.2, show (4 : Int32) * nI k = nI (4 * k) from pk_mul 4 k]
  exact n_max2 (by omega) (by omega)
theorem l_mt {w n t0 k : Nat} {D : am_M} (h : Lp w n t0 D) (ht : t0 ≤ 99) (hk : k ≤ 48) : f_X1_mostTired (nI k) D = nI (min (t0 + 3 * k) 99) := by
  rw [f_X1_mostTired, h.2.2.2, show (3 : Int32) * nI k = nI (3 * k) from pk_mul 3 k, nI_add]
  exact n_min (m := 99) (by omega) (by omega)
theorem l_clr {z : Nat} (hz : z < 44100) : ∀ (m x k : Nat) (D : am_M), z < x + m → m < k → x + m ≤ 90000 → ∃ D', b_X1_clearHour_29 k (nI z) (nI x) D = some D' ∧ ∀ a, a ≠ 83 → D' a = D a := by
  intro m
  induction m with
  | zero =>
    intro x k D hm hk hx
    obtain ⟨k, rfl⟩ : ∃ q, k = q + 1 := ⟨k - 1, by omega⟩
    exact ⟨D, by rw [b_X1_clearHour_29, if_pos (nI_lt (by omega) (by omega))], fun _ _ => rfl⟩
  | succ m ih =>
    intro x k D hm hk hx
    obtain ⟨k, rfl⟩ : ∃ q, k = q + 1 := ⟨k - 1, by omega⟩
    by_cases hc : z < x
    · exact ⟨D, by rw [b_X1_clearHour_29, if_pos (nI_lt (by omega) (by omega))], fun _ _ => rfl⟩
    · obtain ⟨D', i1, i2⟩ := ih (x + 1) k (am_up D 83 (nI x).toNatClampNeg (-1)) (by omega) (by omega) (by omega)
      exact ⟨D', by rw [b_X1_clearHour_29, if_neg (nI_nlt (by omega) (by omega)), if_pos (tl_ai (by omega) (by omega)), nI_1]; exact i1, fun a ha => by rw [i2 a ha, tl_upo2 ha]⟩
theorem l_clear {w n t0 k : Nat} {D : am_M} (h : Lp w n t0 D) (h2 : 2 ≤ w) (hw : w ≤ 9) (ht : t0 ≤ 99) (hk : k ≤ 48) : ∃ D', f_X1_clearHour (nI k) D = some D' ∧ ∀ a, a ≠ 83 → D' a = D a := by
  have e0 : f_X1_place (nI k) (nI (t0 - 4 * k)) 0 D = nI (k * (100 * w) + (t0 - 4 * k) * w + 0) := l_pl h k (t0 - 4 * k) 0
  have b0 := l_b (k := k) (t := t0 - 4 * k) (s := 0) hw hk (by omega) (by omega)
  rw [f_X1_clearHour, l_lt h ht hk, l_mt h ht hk, h.1, show nI w - 1 = nI (w - 1) from pk_sub (b := 1) (by omega), l_pl h, e0]
  exact l_clr (l_b hw hk (by omega) (by omega)) 44100 _ am_N D (by have := l_b (k := k) (t := min (t0 + 3 * k) 99) (s := w - 1) hw hk (by omega) (by omega); omega) (by decide) (by omega) |> fun ⟨D', i1, i2⟩ => ⟨D', i1, i2⟩
theorem l_off {w n t0 : Nat} {D : am_M} {x q : Int32} (h : am_in x 44100 = true) (hL : Lp w n t0 D) : ∃ D', f_X1_offer x q D = some D' ∧ ∀ a, a ≠ 83 → D' a = D a := by
  rw [f_X1_offer, if_pos h]
  split
  · exact ⟨D, rfl, fun _ _ => rfl⟩
  · exact ⟨_, rfl, fun a ha => tl_upo2 ha⟩
theorem l_sp23 {w n t0 k t x : Nat} {hh : Int32} (h2 : 2 ≤ w) (hw : w ≤ 9) (hk : k < 48) (ht : t ≤ 99) (hx : x = k * (100 * w) + t * w) {k6 : Int32 → Int32 → Int32 → am_M → Option am_M} : ∀ (m s f : Nat) (D : am_M), s + m = w → m < f → Lp w n t0 D → ∃ D', b_X1_spreadHour_23 k6 f (nI k) hh (nI t) (nI x) (nI s) D = k6 (nI k) hh (nI (t + 1)) D' ∧ ∀ a, a ≠ 83 → D' a = D a := by
  intro m
  induction m with
  | zero =>
    intro s f D hm hf h
    obtain ⟨f, rfl⟩ : ∃ q, f = q + 1 := ⟨f - 1, by omega⟩
    exact ⟨D, by rw [b_X1_spreadHour_23, h.1, if_pos (nI_le (by omega) (by omega)), nI_1], fun _ _ => rfl⟩
  | succ m ih =>
    intro s f D hm hf h
    obtain ⟨f, rfl⟩ : ∃ q, f = q + 1 := ⟨f - 1, by omega⟩
    have hb := l_b (k := k) (t := t) (s := s) hw (by omega) ht (by omega)
    have last : ∀ (E : am_M) (y : Int32), E 45 = D 45 → ∃ D', b_X1_spreadHour_80 k6 (b_X1_spreadHour_23 k6 f) (nI k) hh (nI t) (nI x) (nI s) y E = k6 (nI k) hh (nI (t + 1)) D' ∧ ∀ a, a ≠ 83 → D' a = E a := by
      intro E y hE
      have hLE : Lp w n t0 E := Lp_f hE h
      obtain ⟨D1, o1, o2⟩ := l_off (q := y - E 48 (nI k).toNatClampNeg) (l_aw (k := k + 1) (t := t) hLE h2 hw (by omega) ht) hLE
      obtain ⟨D', i1, i2⟩ := ih (s + 1) f D1 (by omega) (by omega) (Lp_f (o2 45 (by decide)) hLE)
      refine ⟨D', ?_, fun a ha => by rw [i2 a ha, o2 a ha]⟩
      rw [b_X1_spreadHour_80, if_pos (tl_ai (by omega) (by omega)), nI_1 k, o1, Option.bind_some, nI_1 s]
      exact i1
    rw [b_X1_spreadHour_23, h.1, if_neg (nI_ge (by omega) (by omega)), nI_add, if_pos (tl_ai (by omega) (by omega))]
    split
    · rw [nI_1 s]
      exact ih (s + 1) f D (by omega) (by omega) h
    · split
      · exact last D _ rfl
      · rw [f_X1_purseAsleep, if_pos (tl_ai (by omega) (by omega)), Option.bind_some, nI_1 k]
        obtain ⟨D1, o1, o2⟩ := l_off (q := am_min (D 83 (nI (x + s)).toNatClampNeg + f_X1_earned (nI s) D) 9999 - D 48 (nI k).toNatClampNeg) (l_as (k := k + 1) (t := t) (s := s) h h2 hw (by omega) ht (by omega)) h
        rw [o1, Option.bind_some]
        obtain ⟨D', i1, i2⟩ := last D1 (D 83 (nI (x + s)).toNatClampNeg) (o2 45 (by decide))
        exact ⟨D', i1, fun a ha => by rw [i2 a ha, o2 a ha]⟩
theorem l_sp6 {w n t0 k z : Nat} (h2 : 2 ≤ w) (hw : w ≤ 9) (hk : k < 48) (hz : z ≤ 99) : ∀ (m t f : Nat) (D : am_M), z < t + m → m < f → t + m ≤ 1000 → Lp w n t0 D → ∃ D', b_X1_spreadHour_6 f (nI k) (nI z) (nI t) D = some D' ∧ ∀ a, a ≠ 83 → D' a = D a := by
  intro m
  induction m with
  | zero =>
    intro t f D hm hf ht h
    obtain ⟨f, rfl⟩ : ∃ q, f = q + 1 := ⟨f - 1, by omega⟩
    exact ⟨D, by rw [b_X1_spreadHour_6, if_pos (nI_lt (by omega) (by omega))], fun _ _ => rfl⟩
  | succ m ih =>
    intro t f D hm hf ht h
    obtain ⟨f, rfl⟩ : ∃ q, f = q + 1 := ⟨f - 1, by omega⟩
    by_cases hc : z < t
    · exact ⟨D, by rw [b_X1_spreadHour_6, if_pos (nI_lt (by omega) (by omega))], fun _ _ => rfl⟩
    · obtain ⟨D1, a1, a2⟩ := l_sp23 (w := w) (n := n) (t0 := t0) (k := k) (t := t) (x := k * (100 * w) + t * w) (hh := nI z) (k6 := b_X1_spreadHour_6 f) h2 hw hk (by omega) rfl w 0 am_N D (by omega) (by show w < 100000; omega) h
      obtain ⟨D', i1, i2⟩ := ih (t + 1) f D1 (by omega) (by omega) (by omega) (Lp_f (a2 45 (by decide)) h)
      refine ⟨D', ?_, fun a ha => by rw [i2 a ha, a2 a ha]⟩
      have e0 : f_X1_place (nI k) (nI t) 0 D = nI (k * (100 * w) + t * w) := l_pl h k t 0
      rw [b_X1_spreadHour_6, if_neg (nI_nlt (by omega) (by omega)), e0]
      exact a1.trans i1
theorem l_sph {w n t0 k : Nat} {D : am_M} (h2 : 2 ≤ w) (hw : w ≤ 9) (hk : k < 48) (ht : t0 ≤ 99) (h : Lp w n t0 D) : ∃ D', f_X1_spreadHour (nI k) (f_X1_mostTired (nI k) D) D = some D' ∧ ∀ a, a ≠ 83 → D' a = D a := by
  rw [f_X1_spreadHour, l_mt h ht (by omega), l_lt h ht (by omega)]
  exact l_sp6 h2 hw hk (by omega) 100 _ am_N D (by omega) (by decide) (by omega) h
theorem l_sp54 {w n t0 q : Nat} (h2 : 2 ≤ w) (hw : w ≤ 9) (hq : q ≤ 48) (ht : t0 ≤ 99) : ∀ (m k f : Nat) (D : am_M), k + m = q → m < f → Lp w n t0 D → Lh q D → ∃ D', b_X1_spread_54 f (nI k) D = some D' ∧ ∀ a, a ≠ 83 → D' a = D a := by
  intro m
  induction m with
  | zero =>
    intro k f D hm hf h hh
    obtain ⟨f, rfl⟩ : ∃ q, f = q + 1 := ⟨f - 1, by omega⟩
    exact ⟨D, by rw [b_X1_spread_54, hh, if_pos (nI_le (by omega) (by omega))], fun _ _ => rfl⟩
  | succ m ih =>
    intro k f D hm hf h hh
    obtain ⟨f, rfl⟩ : ∃ q, f = q + 1 := ⟨f - 1, by omega⟩
    obtain ⟨D1, a1, a2⟩ := l_sph (k := k) h2 hw (by omega) ht h
    obtain ⟨D', i1, i2⟩ := ih (k + 1) f D1 (by omega) (by omega) (Lp_f (a2 45 (by decide)) h) (by unfold Lh; rw [a2 45 (by decide)]; exact hh)
    exact ⟨D', by rw [b_X1_spread_54, hh, if_neg (nI_ge (by omega) (by omega)), a1, Option.bind_some, nI_1]; exact i1, fun a ha => by rw [i2 a ha, a2 a ha]⟩
theorem l_sp2 {w n t0 q y : Nat} (h2 : 2 ≤ w) (hw : w ≤ 9) (hq : q ≤ 48) (ht : t0 ≤ 99) (hy : y < 1000000) : ∀ (m k f : Nat) (D : am_M), k + m = q + 1 → m < f → Lp w n t0 D → Lh q D → D 45 10 = nI y → ∃ D', b_X1_spread_2 f (nI k) D = some D' ∧ ∀ a, a ≠ 83 → D' a = D a := by
  intro m
  induction m with
  | zero =>
    intro k f D hm hf h hh h10
    obtain ⟨f, rfl⟩ : ∃ q, f = q + 1 := ⟨f - 1, by omega⟩
    have e1 : am_min (nI y) (nI w - 1) = nI (min y (w - 1)) := by
      rw [show nI w - 1 = nI (w - 1) from pk_sub (b := 1) (by omega)]; exact n_min hy (by omega)
    obtain ⟨D', i1, i2⟩ := l_sp54 (w := w) (n := n) (t0 := t0) (q := q) h2 hw hq ht q 0 am_N (am_up D 83 (f_X1_place 0 (nI t0) (nI (min y (w - 1))) D).toNatClampNeg (D 45 11)) (by omega) (by show q < 100000; omega) (Lp_f (tl_upo2 (by decide)) h) (by unfold Lh; rw [tl_upo2 (by decide)]; exact hh)
    exact ⟨D', by rw [b_X1_spread_2, hh, if_pos (nI_lt (by omega) (by omega)), h.2.2.2, h10, h.1, e1, if_pos (show am_in (f_X1_place 0 (nI t0) (nI (min y (w - 1))) D) 44100 = true from l_in (k := 0) h hw (by omega) ht (by omega))]; exact i1, fun a ha => by rw [i2 a ha, tl_upo2 ha]⟩
  | succ m ih =>
    intro k f D hm hf h hh h10
    obtain ⟨f, rfl⟩ : ∃ q, f = q + 1 := ⟨f - 1, by omega⟩
    obtain ⟨D1, a1, a2⟩ := l_clear (k := k) h h2 hw ht (by omega)
    obtain ⟨D', i1, i2⟩ := ih (k + 1) f D1 (by omega) (by omega) (Lp_f (a2 45 (by decide)) h) (by unfold Lh; rw [a2 45 (by decide)]; exact hh) (by rw [a2 45 (by decide)]; exact h10)
    exact ⟨D', by rw [b_X1_spread_2, hh, if_neg (nI_nlt (by omega) (by omega)), a1, Option.bind_some, nI_1]; exact i1, fun a ha => by rw [i2 a ha, a2 a ha]⟩
theorem l_me40 {w n t0 q l t : Nat} {x3 : Int32} (h2 : 2 ≤ w) (hw : w ≤ 9) (hq : q ≤ 48) (hl : l ≤ 48) (ht : t ≤ 99) {D : am_M} (h : Lp w n t0 D) (hh : Lh q D) {k31 : Int32 → Int32 → Int32 → Int32 → am_M → Option (Int32 × am_M)} : ∀ (m s f : Nat) (x1 : Int32), s + m = w → m < f → ∃ x', b_X1_mostAtEnd_40 k31 f x1 (nI l) x3 (nI t) (nI s) D = k31 x' (nI l) x3 (nI (t + 1)) D := by
  intro m
  induction m with
  | zero =>
    intro s f x1 hm hf
    obtain ⟨f, rfl⟩ : ∃ q, f = q + 1 := ⟨f - 1, by omega⟩
    exact ⟨x1, by rw [b_X1_mostAtEnd_40, h.1, if_pos (nI_le (by omega) (by omega)), nI_1]⟩
  | succ m ih =>
    intro s f x1 hm hf
    obtain ⟨f, rfl⟩ : ∃ q, f = q + 1 := ⟨f - 1, by omega⟩
    rw [b_X1_mostAtEnd_40, h.1, if_neg (nI_ge (by omega) (by omega)), hh, if_pos (l_in h hw hq ht (by omega)), if_pos (l_in h hw hl ht (by omega)), nI_1]
    split
    · exact ih (s + 1) f _ (by omega) (by omega)
    · exact ih (s + 1) f _ (by omega) (by omega)
theorem l_me31 {w n t0 q l z : Nat} (h2 : 2 ≤ w) (hw : w ≤ 9) (hq : q ≤ 48) (hl : l ≤ 48) (hz : z ≤ 99) {D : am_M} (h : Lp w n t0 D) (hh : Lh q D) : ∀ (m t f : Nat) (x1 : Int32), z < t + m → m < f → t + m ≤ 1000 → ∃ r, b_X1_mostAtEnd_31 f x1 (nI l) (nI z) (nI t) D = some (r, D) := by
  intro m
  induction m with
  | zero =>
    intro t f x1 hm hf ht
    obtain ⟨f, rfl⟩ : ∃ q, f = q + 1 := ⟨f - 1, by omega⟩
    exact ⟨x1, by rw [b_X1_mostAtEnd_31, if_pos (nI_lt (by omega) (by omega))]⟩
  | succ m ih =>
    intro t f x1 hm hf ht
    obtain ⟨f, rfl⟩ : ∃ q, f = q + 1 := ⟨f - 1, by omega⟩
    by_cases hc : z < t
    · exact ⟨x1, by rw [b_X1_mostAtEnd_31, if_pos (nI_lt (by omega) (by omega))]⟩
    · obtain ⟨x', e⟩ := l_me40 (l := l) (t := t) (x3 := nI z) (k31 := b_X1_mostAtEnd_31 f) h2 hw hq hl (by omega) h hh w 0 am_N x1 (by omega) (by show w < 100000; omega)
      obtain ⟨r, i1⟩ := ih (t + 1) f x' (by omega) (by omega) (by omega)
      refine ⟨r, ?_⟩
      rw [b_X1_mostAtEnd_31, if_neg (nI_nlt (by omega) (by omega))]
      exact e.trans i1
theorem l_most {w n t0 q : Nat} {D : am_M} (h2 : 2 ≤ w) (hw : w ≤ 9) (hn : n ≤ 48) (hq : q ≤ n) (ht : t0 ≤ 99) (h : Lp w n t0 D) (hh : Lh q D) : ∃ r, f_X1_mostAtEnd D = some (r, D) := by
  rw [f_X1_mostAtEnd, hh, h.2.2.1, pk_sub hq, l_mt h ht (by omega), l_lt h ht (by omega)]
  exact l_me31 h2 hw (by omega) (by omega) (by omega) h hh 100 _ am_N (-1) (by omega) (by decide) (by omega)
theorem l_na {w n t0 q k t s : Nat} {D : am_M} (hw : w ≤ 9) (hn : n ≤ 48) (hq : q ≤ n) (hk : k ≤ n) (ht : t ≤ 99) (hs : s < w) (h : Lp w n t0 D) (hh : Lh q D) : ∃ r, f_X1_needAt (nI k) (nI t) (nI s) D = some (r, D) := by
  rw [f_X1_needAt, hh, h.2.2.1, pk_sub hk, if_pos (l_in h hw (by omega) ht hs), if_pos (l_in h hw (by omega) ht hs)]
  split
  · exact ⟨_, rfl⟩
  · exact ⟨_, rfl⟩
theorem l_nb {k : Nat} {x y : Int32} {D : am_M} (hk : k < 48) : ∃ r, f_X1_needBefore (nI k) x y D = some (r, D) := by
  rw [f_X1_needBefore, if_pos (tl_ai (by omega) (by omega))]
  split
  · exact ⟨_, rfl⟩
  · split
    · exact ⟨_, rfl⟩
    · exact ⟨_, rfl⟩
theorem l_no {w n t0 q k t s : Nat} {D : am_M} (h2 : 2 ≤ w) (hw : w ≤ 9) (hn : n ≤ 48) (hq : q ≤ n) (hk : k < n) (ht : t ≤ 99) (hs : s < w) (h : Lp w n t0 D) (hh : Lh q D) : ∃ r, f_X1_needOf (nI k) (nI t) (nI s) D = some (r, D) := by
  obtain ⟨r1, e1⟩ := l_na (k := k + 1) (t := min (t + 3) 99) (s := 0) hw hn hq (by omega) (by omega) (by omega) h hh
  obtain ⟨r2, e2⟩ := l_nb (k := k) (x := r1) (y := 0) (D := D) (by omega)
  obtain ⟨r3, e3⟩ := l_na (k := k + 1) (t := t - 4) (s := min (s + 1) (w - 1)) hw hn hq (by omega) (by omega) (by omega) h hh
  obtain ⟨r4, e4⟩ := l_nb (k := k) (x := r3) (y := f_X1_earned (nI s) D) (D := D) (by omega)
  have e1' : f_X1_needAt (nI (k + 1)) (nI (min (t + 3) 99)) 0 D = some (r1, D) := e1
  rw [f_X1_needOf, l_wk ht, nI_1, e1', Option.bind_some]
  show ∃ r, ((f_X1_needBefore (nI k) r1 0 D).bind _) = _
  rw [e2, Option.bind_some]
  split
  · exact ⟨_, rfl⟩
  · show ∃ r, ((f_X1_needAt (nI (k + 1)) (f_X1_easedBySleep (nI t)) (f_X1_longerSleep (nI s) D) D).bind _) = _
    rw [l_ea ht, l_lo h h2 hw hs, e3, Option.bind_some]
    show ∃ r, ((f_X1_needBefore (nI k) r3 (f_X1_earned (nI s) D) D).bind _) = _
    rw [e4, Option.bind_some]
    split
    · exact ⟨_, rfl⟩
    · split
      · exact ⟨_, rfl⟩
      · exact ⟨_, rfl⟩
theorem l_tn23 {w n t0 q k t x : Nat} {hi : Int32} (h2 : 2 ≤ w) (hw : w ≤ 9) (hn : n ≤ 48) (hq : q ≤ n) (hk : k < n) (ht : t ≤ 99) (hx : x = k * (100 * w) + t * w) {k6 : Int32 → Int32 → Int32 → am_M → Option am_M} : ∀ (m s f : Nat) (D : am_M), s + m = w → m < f → Lp w n t0 D → Lh q D → ∃ D', b_X1_turnHourToNeeds_23 k6 f (nI k) hi (nI t) (nI x) (nI s) D = k6 (nI k) hi (nI (t + 1)) D' ∧ ∀ a, a ≠ 83 → D' a = D a := by
  intro m
  induction m with
  | zero =>
    intro s f D hm hf h hh
    obtain ⟨f, rfl⟩ : ∃ q, f = q + 1 := ⟨f - 1, by omega⟩
    exact ⟨D, by rw [b_X1_turnHourToNeeds_23, h.1, if_pos (nI_le (by omega) (by omega)), nI_1], fun _ _ => rfl⟩
  | succ m ih =>
    intro s f D hm hf h hh
    obtain ⟨f, rfl⟩ : ∃ q, f = q + 1 := ⟨f - 1, by omega⟩
    have hb := l_b (k := k) (t := t) (s := s) hw (by omega) ht (by omega)
    obtain ⟨r, e⟩ := l_no (k := k) (t := t) (s := s) h2 hw hn hq hk ht (by omega) h hh
    rw [b_X1_turnHourToNeeds_23, h.1, if_neg (nI_ge (by omega) (by omega)), nI_add, if_pos (tl_ai (by omega) (by omega)), e, Option.bind_some, nI_1]
    split
    · exact ih (s + 1) f D (by omega) (by omega) h hh
    · obtain ⟨D', i1, i2⟩ := ih (s + 1) f (am_up D 83 (nI (x + s)).toNatClampNeg r) (by omega) (by omega) (Lp_f (tl_upo2 (by decide)) h) (by unfold Lh; rw [tl_upo2 (by decide)]; exact hh)
      exact ⟨D', i1, fun a ha => by rw [i2 a ha, tl_upo2 ha]⟩
theorem l_tn6 {w n t0 q k z : Nat} (h2 : 2 ≤ w) (hw : w ≤ 9) (hn : n ≤ 48) (hq : q ≤ n) (hk : k < n) (hz : z ≤ 99) : ∀ (m t f : Nat) (D : am_M), z < t + m → m < f → t + m ≤ 1000 → Lp w n t0 D → Lh q D → ∃ D', b_X1_turnHourToNeeds_6 f (nI k) (nI z) (nI t) D = some D' ∧ ∀ a, a ≠ 83 → D' a = D a := by
  intro m
  induction m with
  | zero =>
    intro t f D hm hf ht h hh
    obtain ⟨f, rfl⟩ : ∃ q, f = q + 1 := ⟨f - 1, by omega⟩
    exact ⟨D, by rw [b_X1_turnHourToNeeds_6, if_pos (nI_lt (by omega) (by omega))], fun _ _ => rfl⟩
  | succ m ih =>
    intro t f D hm hf ht h hh
    obtain ⟨f, rfl⟩ : ∃ q, f = q + 1 := ⟨f - 1, by omega⟩
    by_cases hc : z < t
    · exact ⟨D, by rw [b_X1_turnHourToNeeds_6, if_pos (nI_lt (by omega) (by omega))], fun _ _ => rfl⟩
    · obtain ⟨D1, a1, a2⟩ := l_tn23 (w := w) (n := n) (t0 := t0) (q := q) (k := k) (t := t) (x := k * (100 * w) + t * w) (hi := nI z) (k6 := b_X1_turnHourToNeeds_6 f) h2 hw hn hq hk (by omega) rfl w 0 am_N D (by omega) (by show w < 100000; omega) h hh
      obtain ⟨D', i1, i2⟩ := ih (t + 1) f D1 (by omega) (by omega) (by omega) (Lp_f (a2 45 (by decide)) h) (by unfold Lh; rw [a2 45 (by decide)]; exact hh)
      refine ⟨D', ?_, fun a ha => by rw [i2 a ha, a2 a ha]⟩
      have e0 : f_X1_place (nI k) (nI t) 0 D = nI (k * (100 * w) + t * w) := l_pl h k t 0
      rw [b_X1_turnHourToNeeds_6, if_neg (nI_nlt (by omega) (by omega)), e0]
      exact a1.trans i1
theorem l_tn7 {w n t0 q : Nat} (h2 : 2 ≤ w) (hw : w ≤ 9) (hn : n ≤ 48) (hq : q ≤ n) (ht : t0 ≤ 99) : ∀ (k f : Nat) (D : am_M), k ≤ q → k < f → Lp w n t0 D → Lh q D → ∃ D', b_X1_turnToNeeds_7 f (nI k - 1) D = some D' ∧ ∀ a, a ≠ 83 → D' a = D a := by
  intro k
  induction k with
  | zero =>
    intro f D hk hf h hh
    obtain ⟨f, rfl⟩ : ∃ q, f = q + 1 := ⟨f - 1, by omega⟩
    exact ⟨D, by rw [b_X1_turnToNeeds_7, if_pos (show nI 0 - 1 ≤ 0 by decide)], fun _ _ => rfl⟩
  | succ k ih =>
    intro f D hk hf h hh
    obtain ⟨f, rfl⟩ : ∃ q, f = q + 1 := ⟨f - 1, by omega⟩
    rw [nI_pred]
    by_cases hk0 : k = 0
    · subst hk0
      exact ⟨D, by rw [b_X1_turnToNeeds_7, if_pos (show nI 0 ≤ 0 by decide)], fun _ _ => rfl⟩
    · obtain ⟨D1, a1, a2⟩ := l_tn6 (w := w) (n := n) (t0 := t0) (q := q) (k := k) (z := min (t0 + 3 * k) 99) h2 hw hn hq (by omega) (by omega) 100 (t0 - 4 * k) am_N D (by omega) (by decide) (by omega) h hh
      obtain ⟨D', i1, i2⟩ := ih f D1 (by omega) (by omega) (Lp_f (a2 45 (by decide)) h) (by unfold Lh; rw [a2 45 (by decide)]; exact hh)
      refine ⟨D', ?_, fun a ha => by rw [i2 a ha, a2 a ha]⟩
      rw [b_X1_turnToNeeds_7, if_neg (nI_nle (by omega) (by omega)), l_mt h ht (by omega), f_X1_turnHourToNeeds, l_lt h ht (by omega), a1, Option.bind_some, show nI k + (-1) = nI k - 1 from (Int32.sub_eq_add_neg _ _).symm]
      exact i1
