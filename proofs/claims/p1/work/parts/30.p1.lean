def p1_I (k tw : Nat) (tp : Bool) (D : am_M) : Prop := lyT tw ∧ (k = 0 → tw = 1 ∧ tp = false ∧ D = d0)
theorem p1_0 {k tw : Nat} {tp : Bool} {D : am_M} (hk : k < 1) (h : p1_I k tw tp D) : tw = 1 ∧ tp = false ∧ D = d0 := h.2 (by omega)
theorem p1_1 {k tw : Nat} {tp : Bool} {D : am_M} (h : lyT tw) : p1_I (k + 1) tw tp D := ⟨h, fun q => by omega⟩
theorem p1_T1 : lyT 1 := Or.inl rfl
theorem p1_c {K : Nat} {o5 : Option (Int32 × am_M)} {g : am_M → Option (Int32 × am_M)} {k : Nat} {tp : Bool} (h : chk2 o5 g = true) : ∃ (r : Int32) (D1 D2 : am_M), o5 = some (r, D1) ∧ g D1 = some (r, D2) ∧ p1_I (k + 1) 1 tp D2 := by
  obtain ⟨r, D1, D2, h1, h2⟩ := chk2_ok h
  exact ⟨r, D1, D2, h1, h2, p1_1 p1_T1⟩
/-- both refuse -/
theorem p1_r {r : Int32} {o5 : Option (Int32 × am_M)} {g : am_M → Option (Int32 × am_M)} {k : Nat} {tp : Bool} (h5 : o5 = some (r, d0)) (h6 : g d0 = some (r, d0)) : ∃ (r : Int32) (D1 D2 : am_M), o5 = some (r, D1) ∧ g D1 = some (r, D2) ∧ p1_I (k + 1) 1 tp D2 := ⟨r, d0, d0, h5, h6, p1_1 p1_T1⟩
theorem p1_np5 (x : Int32) : f_X5_isPerson 1 x d0 = 0 := tl_wm1 x
theorem p1_np6 (x : Int32) : f_X6_isPerson x d0 = 0 := (tl_in x 0 (-1)).trans (tl_wm1 x)
theorem p1_in (x a b : Int32) {a' b' : Int64} (ha : a.toInt64 = a') (hb : b.toInt64 = b') : f_X6_in x.toInt64 a' b' = f_X5_isWithin x a b := by
  rw [← ha, ← hb]; exact tl_in x a b
theorem p1_feed : ok_feed 1 p1_I := by
  intro k tw tp D hk hI a1
  obtain ⟨rfl, rfl, rfl⟩ := p1_0 hk hI
  have e := p1_in a1 0 255 (a' := 0) (b' := 255) (by decide) (by decide)
  by_cases h : f_X5_isWithin a1 0 255 = 0
  · exact p1_r (r := -1000000002) (by rw [f_X5_feed, if_pos h]) (by rw [f_X6_feed, e, if_pos h])
  · refine ⟨1, _, _, by rw [f_X5_feed, if_neg h, if_pos (by decide), f_X3_add, if_neg (by decide), if_pos (by decide)]; rfl, by rw [f_X6_feed, e, if_neg h, if_neg (by show ¬ (0 : Int32) = 250; decide), if_pos (by show am_in 0 250 = true; decide)]; rfl, p1_1 p1_T1⟩
theorem p1_fault : ok_fault 1 p1_I := by
  intro k tw tp D hk hI
  obtain ⟨rfl, rfl, rfl⟩ := p1_0 hk hI
  exact ⟨-1, by decide, by decide, p1_1 p1_T1⟩
theorem p1_told : ok_told 1 p1_I := by
  intro k tw tp D hk hI a1
  obtain ⟨rfl, rfl, rfl⟩ := p1_0 hk hI
  by_cases h0 : a1 = 0
  · subst h0; exact p1_c (K := 1) (by decide +kernel)
  by_cases h1 : a1 = 1
  · subst h1; exact p1_c (K := 1) (by decide +kernel)
  by_cases h2 : a1 = 2
  · subst h2; exact p1_c (K := 1) (by decide +kernel)
  by_cases h3 : a1 = 3
  · subst h3; exact p1_c (K := 1) (by decide +kernel)
  by_cases h4 : a1 = 4
  · subst h4; exact p1_c (K := 1) (by decide +kernel)
  by_cases h5 : a1 = 5
  · subst h5; exact p1_c (K := 1) (by decide +kernel)
  by_cases h6 : a1 = 6
  · subst h6; exact p1_c (K := 1) (by decide +kernel)
  by_cases h7 : a1 = 7
  · subst h7; exact p1_c (K := 1) (by decide +kernel)
  by_cases h8 : a1 = 8
  · subst h8; exact p1_c (K := 1) (by decide +kernel)
  by_cases h9 : a1 = 9
  · subst h9; exact p1_c (K := 1) (by decide +kernel)
  by_cases h10 : a1 = 10
  · subst h10; exact p1_c (K := 1) (by decide +kernel)
  by_cases h11 : a1 = 11
  · subst h11; exact p1_c (K := 1) (by decide +kernel)
  exact p1_r (r := -1000000002) (by rw [f_X5_told]; simp only [if_neg h0, if_neg h1, if_neg h2, if_neg h3, if_neg h4, if_neg h5, if_neg h6, if_neg h7, if_neg h8, if_neg h9, if_neg h10, if_neg h11]) (by rw [f_X6_told]; simp only [if_neg h0, if_neg h1, if_neg h2, if_neg h3, if_neg h4, if_neg h5, if_neg h6, if_neg h7, if_neg h8, if_neg h9, if_neg h10, if_neg h11])
theorem p1_person : ok_person 1 p1_I := by
  intro k tw tp D hk hI a1 a2
  obtain ⟨rfl, rfl, rfl⟩ := p1_0 hk hI
  exact p1_r (r := -1000000001) (by rw [f_X5_person, if_pos (p1_np5 a1)]) (by rw [f_X6_person, if_pos (p1_np6 a1)])
theorem p1_row : ok_row 1 p1_I := by
  intro k tw tp D hk hI a1 a2
  obtain ⟨rfl, rfl, rfl⟩ := p1_0 hk hI
  exact p1_r (r := -1000000001) (by rw [f_X5_row, if_pos (p1_np5 a1)]) (by rw [f_X6_row, if_pos (p1_np6 a1)])
theorem p1_coin : ok_coin 1 p1_I := by
  intro k tw tp D hk hI a1
  obtain ⟨rfl, rfl, rfl⟩ := p1_0 hk hI
  exact p1_r (r := -1000000001) (by rw [f_X5_coin]; exact if_pos (tl_wm1 a1)) (by rw [f_X6_coin]; exact if_pos (p1_np6 a1))
theorem p1_debt : ok_debt 1 p1_I := by
  intro k tw tp D hk hI a1 a2
  obtain ⟨rfl, rfl, rfl⟩ := p1_0 hk hI
  exact p1_r (r := -1000000001) (by rw [f_X5_debt]; exact if_pos (tl_wm1 a1)) (by rw [f_X6_debt]; exact if_pos (p1_np6 a1))
theorem p1_ref (x : Int32) : f_X6_hoursRefused x d0 = f_X5_refusalOfHours 1 x d0 ∧ ¬ f_X5_refusalOfHours 1 x d0 = 0 := by
  have e := p1_in x 1 96 (a' := 1) (b' := 96) (by decide) (by decide)
  unfold f_X6_hoursRefused f_X5_refusalOfHours
  rw [e]
  by_cases h : f_X5_isWithin x 1 96 = 0
  · rw [if_pos h, if_pos h]; exact ⟨rfl, by decide⟩
  · rw [if_neg h, if_neg h, if_pos (by decide), if_pos (by decide)]; exact ⟨rfl, by decide⟩
theorem p1_hour : ok_hour 1 p1_I := by
  intro k tw tp D hk hI a1
  obtain ⟨rfl, rfl, rfl⟩ := p1_0 hk hI
  obtain ⟨e, h⟩ := p1_ref a1
  refine p1_r (r := f_X5_refusalOfHours 1 a1 d0) (by rw [f_X5_hour, if_neg h]) ?_
  rw [f_X6_hour, e, show am_N = 99999 + 1 from rfl, b_X6_hour_8]
  split
  · rw [b_X6_hour_27, if_neg h]
  · rw [b_X6_hour_27, if_neg h]
theorem p1_drift : ok_drift 1 p1_I := by
  intro k tw tp D hk hI a1
  obtain ⟨rfl, rfl, rfl⟩ := p1_0 hk hI
  obtain ⟨e, h⟩ := p1_ref a1
  refine p1_r (r := f_X5_refusalOfHours 1 a1 d0) (by rw [f_X5_drift, if_neg h]) ?_
  rw [f_X6_drift, e, show am_N = 99999 + 1 from rfl, b_X6_drift_8]
  split
  · rw [b_X6_drift_84, if_neg h]
  · rw [b_X6_drift_84, if_neg h]
theorem p1_give : ok_give 1 p1_I := by
  intro k tw tp D hk hI a1 a2 a3
  obtain ⟨rfl, rfl, rfl⟩ := p1_0 hk hI
  exact p1_r (r := -1000000001) (by rw [f_X5_give, if_pos (p1_np5 a1)]) (by rw [f_X6_give, if_pos (p1_np6 a1)])
theorem p1_change : ok_change 1 p1_I := by
  intro k tw tp D hk hI a1 a2 a3
  obtain ⟨rfl, rfl, rfl⟩ := p1_0 hk hI
  exact p1_r (r := -1000000001) (by rw [f_X5_change, if_pos (p1_np5 a1)]) (by rw [f_X6_change, if_pos (p1_np6 a1)])
theorem p1_life : ok_life 1 p1_I := by
  intro k tw tp D hk hI a1 a2 a3
  obtain ⟨rfl, rfl, rfl⟩ := p1_0 hk hI
  exact ⟨-1000000001, false, d0, d0, by rw [f_X5_life, if_pos (p1_np5 a1)], by rw [f_X6_life, if_pos (p1_np6 a1)], p1_1 p1_T1⟩
theorem p1_shift : ok_shift 1 p1_I := by
  intro k tw tp D hk hI a1 a2
  obtain ⟨rfl, rfl, rfl⟩ := p1_0 hk hI
  exact p1_r (r := -1000000001) (by rw [f_X5_shift, if_pos (p1_np5 a2)]) (by rw [f_X6_shift, if_pos (p1_np6 a2)])
theorem p1_write : ok_write 1 p1_I := by
  intro k tw tp D hk hI a1 a2
  obtain ⟨rfl, rfl, rfl⟩ := p1_0 hk hI
  exact p1_r (r := -1000000001) (by rw [f_X5_write, if_pos (p1_np5 a1)]) (by rw [f_X6_write, if_pos (p1_np6 a1)])
theorem p1_tear : ok_tear 1 p1_I := by
  intro k tw tp D hk hI
  obtain ⟨rfl, rfl, rfl⟩ := p1_0 hk hI
  exact p1_c (K := 1) (by decide +kernel)
theorem p1_judge : ok_judge 1 p1_I := by
  intro k tw tp D hk hI
  obtain ⟨rfl, rfl, rfl⟩ := p1_0 hk hI
  exact p1_c (K := 1) (by decide +kernel)
theorem p1_seed : ok_seed 1 p1_I := by
  intro k tw tp D hk hI a1
  obtain ⟨rfl, rfl, rfl⟩ := p1_0 hk hI
  by_cases h : 0 ≤ a1
  · exact ⟨0, am_up d0 25 7 a1, am_up (am_up d0 25 7 a1) 56 12 a1, by rw [f_X5_seed, if_pos h]; rfl, by rw [f_X6_seed, if_pos h]; rfl, p1_1 p1_T1⟩
  · exact p1_r (r := -1000000002) (by rw [f_X5_seed, if_neg h]) (by rw [f_X6_seed, if_neg h])
theorem p1_01 {x : Int32} (h : ¬ f_X5_isWithin x 0 1 = 0) : x = 0 ∨ x = 1 := by
  obtain ⟨j, h1, h2, rfl⟩ := tl_w1n (a := 0) (b := 1) (by decide) h (by decide)
  match j, h2 with
  | 0, _ => exact Or.inl rfl
  | 1, _ => exact Or.inr rfl
theorem p1_keep : ok_keep 1 p1_I := by
  intro k tw tp D hk hI a1
  obtain ⟨rfl, rfl, rfl⟩ := p1_0 hk hI
  have e := p1_in a1 0 1 (a' := 0) (b' := 1) (by decide) (by decide)
  by_cases h : f_X5_isWithin a1 0 1 = 0
  · exact p1_r (r := -1000000001) (by rw [f_X5_keep, if_pos h]) (by rw [f_X6_keep, e, if_pos h])
  · rcases p1_01 h with rfl | rfl
    · exact p1_c (K := 1) (by decide +kernel)
    · exact p1_c (K := 1) (by decide +kernel)
theorem p1_goBack : ok_goBack 1 p1_I := by
  intro k tw tp D hk hI a1
  obtain ⟨rfl, rfl, rfl⟩ := p1_0 hk hI
  have e := p1_in a1 0 1 (a' := 0) (b' := 1) (by decide) (by decide)
  by_cases h : f_X5_isWithin a1 0 1 = 0
  · exact p1_r (r := -1000000001) (by rw [f_X5_goBack, if_pos h]) (by rw [f_X6_goBack, e, if_pos h])
  · rcases p1_01 h with rfl | rfl
    · exact p1_c (K := 1) (by decide +kernel)
    · exact p1_c (K := 1) (by decide +kernel)
theorem p1_firstShort : ok_firstShort 1 p1_I := by
  intro k tw tp D hk hI a1
  obtain ⟨rfl, rfl, rfl⟩ := p1_0 hk hI
  have e := p1_in a1 0 1 (a' := 0) (b' := 1) (by decide) (by decide)
  by_cases h : f_X5_isWithin a1 0 1 = 0
  · exact p1_r (r := -1000000002) (by rw [f_X5_firstShort, if_pos h]) (by rw [f_X6_firstShort, e, if_pos h])
  · rcases p1_01 h with rfl | rfl
    · exact p1_c (K := 1) (by decide +kernel)
    · exact p1_c (K := 1) (by decide +kernel)
theorem p1_capital : ok_capital 1 p1_I := by
  intro k tw tp D hk hI
  obtain ⟨rfl, rfl, rfl⟩ := p1_0 hk hI
  obtain ⟨r, D1, D2, h1, h2⟩ := chk2_ok (o5 := (f_X5_capital 1 d0).bind fun q => if q.2.1 = 14 then some (q.1, q.2.2) else none) (g := f_X6_capital) (by decide +kernel)
  obtain ⟨q, e1, e2⟩ := am_bind h1
  obtain ⟨e3, e4⟩ := am_chk e2
  cases e4
  exact ⟨q.1, q.2.1, q.2.2, D2, e1, h2, p1_1 (by rw [e3]; exact Or.inr rfl)⟩
theorem p1_run : ok_run 1 p1_I := by
  intro k tw tp D hk hI a1 a2
  obtain ⟨rfl, rfl, rfl⟩ := p1_0 hk hI
  have e := p1_in a1 0 999 (a' := 0) (b' := 999) (by decide) (by decide)
  have e2 := p1_in a2 0 1 (a' := 0) (b' := 1) (by decide) (by decide)
  by_cases h : f_X5_isWithin a1 0 999 = 0
  · exact p1_r (r := -1000000002) (by rw [f_X5_run, if_pos h]) (by rw [f_X6_run, e, if_pos h])
  · by_cases h2 : f_X5_isWithin a2 0 1 = 0
    · exact p1_r (r := -1000000002) (by rw [f_X5_run, if_neg h, if_pos h2]) (by rw [f_X6_run, e, e2, if_neg h, if_pos h2])
    · refine p1_r (r := 0) ?_ ?_
      · rw [f_X5_run, if_neg h, if_neg h2, show am_N = 99999 + 1 from rfl, b_X5_run_34, if_pos (by decide), b_X5_run_120]
        split <;> rfl
      · rw [f_X6_run, e, e2, if_neg h, if_neg h2, show am_N = 99999 + 1 from rfl, b_X6_run_39, if_pos (by decide)]
        split <;> rfl
