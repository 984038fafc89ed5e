/-! images -/
theorem so_goBack {k tw : Nat} {tp : Bool} {D : am_M} (h : Sim k tw tp D) (a : Int32) : ∃ (r : Int32) (D1 D2 : am_M), f_X5_goBack tw a D = some (r, D1) ∧ f_X6_goBack a D1 = some (r, D2) ∧ Sim (k + 1) tw tp D2 := by
  have h0 := h
  obtain ⟨t, s, q⟩ := h
  have hP := q.2.1.2.2.2.1
  obtain ⟨k0, k1, u1, u2, u3, u4, u5⟩ := q.2.2.2.2.2.2.2.2.1
  by_cases hw : f_X5_isWithin a 0 1 = 0
  · exact ⟨_, D, D, by rw [f_X5_goBack, if_pos hw], by rw [f_X6_goBack, in_6 a 0 1 0 1 rfl rfl, if_pos hw], h0⟩
  obtain ⟨x, -, x2, rfl⟩ := tl_w1n (a := 0) (b := 1) (by decide) hw (by decide)
  have hcl : (nI x).toNatClampNeg = x := tl_cl2 (by omega)
  have bit : f_X5_isIn (D 0 6) (nI x) = 0 ↔ D 82 x = 0 := by
    rw [u1]
    have h : x = 0 ∨ x = 1 := by omega
    rcases h with rfl | rfl
    · rw [u2]; cases k0 <;> cases k1 <;> decide
    · rw [u3]; cases k0 <;> cases k1 <;> decide
  by_cases hk : D 82 x = 0
  · exact ⟨_, D, D, by rw [f_X5_goBack, if_neg hw, if_pos (bit.mpr hk)], by rw [f_X6_goBack, in_6 _ 0 1 0 1 rfl rfl, if_neg hw, if_pos (tl_ai (by omega) (by omega)), hcl, if_pos hk], h0⟩
  have him : ∃ M, f_X5_imageOf tw (nI x) = M ∧ (25 + 5 ≤ M ∧ M ≤ 50) ∧ Im M (139 * x) (q_pe t) D := by
    have h : x = 0 ∨ x = 1 := by omega
    rcases h with rfl | rfl
    · refine ⟨35, rfl, by decide, u4 ?_⟩
      cases k0
      · exact absurd u2 hk
      · rfl
    · refine ⟨40, rfl, by decide, u5 ?_⟩
      cases k1
      · exact absurd u3 hk
      · rfl
  obtain ⟨M, eM, hM, m, i1, i2, i3, i4⟩ := him
  obtain ⟨D1, c1, c2, c3⟩ := c_copyM (M := 25) (N := M) (by omega) hP i3
  obtain ⟨D2, g1, g2, g3⟩ := m_goback x2 138 0 am_N D1 (by omega) (by decide)
  have e81 : D1 81 = D 81 := c3 81 (by omega)
  have f81 : D2 81 = D 81 := by rw [g2 81 (by decide), e81]
  refine ⟨1, D1, am_up D2 56 12 (D2 81 (139 * x + 138)), by rw [f_X5_goBack, if_neg hw, if_neg (fun z => hk (bit.mp z)), eM, c1]; rfl, by rw [f_X6_goBack, in_6 _ 0 1 0 1 rfl rfl, if_neg hw, if_pos (tl_ai (by omega) (by omega)), hcl, c3 82 (by omega), if_neg hk]; exact g1, t, m, Si_n q (fun a a1 a2 a3 _ => by rw [tl_upo2 a1, g2 a a2, c3 a (by omega)]) (fun i hi => by rw [tl_upi2, if_neg hi, g2 56 (by decide), c3 56 (by omega)]) ⟨i1, i2, cMo_f (fun a _ _ => by rw [tl_upo2 (by omega), g2 a (by omega)]) c2, ?_⟩⟩
  obtain ⟨y1, y2, y3, y4, y5, y6, y7, y8⟩ := i4
  have e62 : ∀ j, j < 138 → am_up D2 56 12 (D2 81 (139 * x + 138)) 62 j = D 81 (139 * x + j) := fun j hj => by rw [tl_upo2 (by decide), g3 j hj, if_neg (by omega), e81]
  exact ⟨fun p hp => by rw [e62 p (by omega)]; exact y1 p hp, fun p hp => by rw [e62 _ (by omega)]; exact y2 p hp, fun p hp => by rw [e62 _ (by omega)]; exact y3 p hp, fun j hj => by rw [e62 _ (by omega)]; exact y4 j hj, by rw [e62 _ (by omega)]; exact y5, by rw [e62 _ (by omega)]; exact y6, by rw [e62 _ (by omega)]; exact y7, by rw [tl_upi2, if_pos rfl, f81]; exact y8⟩
