/-! images -/
theorem so_goBack {k tw : Nat} {tp : Bool} {D : am_M} (h : Sim k tw tp D) (a : Int32) : ∃ (r : Int32) (D1 D2 : am_M), f_X5_goBack tw a D = some (r, D1) ∧ f_X6_goBack a D1 = some (r, D2) ∧ Sim (k + 1) tw tp D2 := by
  have h0 := h
  obtain ⟨t, s, q⟩ := h
  have hP := q.2.1.2.2.2.1
  obtain ⟨k0, k1, u1, u2, u3, u4, u5⟩ := q.2.2.2.2.2.2.2.2.1
  by_cases hw : f_X5_isWithin a 0 1 = 0
  · exact ⟨_, D, D, by rw [f_X5_goBack, if_pos hw], by rw [f_X6_goBack, in_6 a 0 1 0 1 rfl rfl, if_pos hw], h0⟩
  obtain ⟨x, -, x2, rfl⟩ := tl_w1n (a := 0) (b := 1) (by decide) hw (by decide)
  have hcl : (nI x).toNatClampNeg = x := tl_cl2 (by omega)
  have bit : f_X5_isIn (D 0 6) (nI x) = 0 ↔ D 82 x = 0 := by
    rw [u1]
    have h : x = 0 ∨ x = 1 := by omega
    rcases h with rfl | rfl
    · rw [u2]; cases k0 <;> cases k1 <;> decide
    · rw [u3]; cases k0 <;> cases k1 <;> decide
  by_cases hk : D 82 x = 0
  · exact ⟨_, D, D, by rw [f_X5_goBack, if_neg hw, if_pos (bit.mpr hk)], by rw [f_X6_goBack, in_6 _ 0 1 0 1 rfl rfl, if_neg hw, if_pos (tl_ai (by omega) (by omega)), hcl, if_pos hk], h0⟩
  have him : ∃ M, f_X5_imageOf tw (nI x) = M ∧ (25 + 5 ≤ M ∧ M ≤ 50) ∧ Im M (139 * x) (q_pe t) D := by
    have h : x = 0 ∨ x = 1 := by omega
    rcases h with rfl | rfl
    · refine ⟨35, rfl, by decide, u4 ?_⟩
      cases k0
      · exact absurd u2 hk
      · rfl
    · refine ⟨40, rfl, by decide, u5 ?_⟩
      cases k1
      · exact absurd u3 hk
      · rfl
  obtain ⟨M, eM, hM, m, i1, i2, i3, i4⟩ := him
  obtain ⟨D1, c1, c2, c3⟩ := c_copyM (M := 25) (N := M) (by omega) hP i3
  obtain ⟨D2, g1, g2, g3⟩ := m_goback x2 138 0 am_N D1 (by omega) (by decide)
  have e81 : D1 81 = D 81 := c3 81 (by omega)
  have f81 : D2 81 = D 81 := by rw [g2 81 (by decide), e81]
  refine ⟨1, D1, am_up D2 56 12 (D2 81 (139 * x + 138)), by rw [f_X5_goBack, if_neg hw, if_neg (fun z => hk (bit.mp z)), eM, c1]; rfl, by rw [f_X6_goBack, in_6 _ 0 1 0 1 rfl rfl, if_neg hw, if_pos (tl_ai (by omega) (by omega)), hcl, c3 82 (by omega), if_neg hk]; exact g1, t, m, Si_n q (fun a a1 a2 a3 _ => by rw [tl_upo2 a1, g2 a a2, c3 a (by omega)]) (fun i hi => by rw [tl_upi2, if_neg hi, g2 56 (by decide), c3 56 (by omega)]) ⟨i1, i2, cMo_f (fun a _ _ => by rw [tl_upo2 (by omega), g2 a (by omega)]) c2, ?_⟩⟩
  obtain ⟨y1, y2, y3, y4, y5, y6, y7, y8⟩ := i4
  have e62 : ∀ j, j < 138 → am_up D2 56 12 (D2 81 (139 * x + 138)) 62 j = D 81 (139 * x + j) := fun j hj => by rw [tl_upo2 (by decide), g3 j hj, if_neg (by omega), e81]
  exact ⟨fun p hp => by rw [e62 p (by omega)]; exact y1 p hp, fun p hp => by rw [e62 _ (by omega)]; exact y2 p hp, fun p hp => by rw [e62 _ (by omega)]; exact y3 p hp, fun j hj => by rw [e62 _ (by omega)]; exact y4 j hj, by rw [e62 _ (by omega)]; exact y5, by rw [e62 _ (by omega)]; exact y6, by rw [e62 _ (by omega)]; exact y7, by rw [tl_upi2, if_pos rfl, f81]; exact y8⟩
theorem Si_k {tw : Nat} {t : To} {s : Mo} {D E : am_M} (q : Si tw t s D) (h1 : ∀ a, a ≠ 0 → a < 35 ∨ 45 ≤ a → a < 81 ∨ 82 < a → E a = D a) (h2 : E 0 11 = D 0 11) (n : Kp (q_pe t) E) : Si tw t s E := by
  obtain ⟨q1, q2, q3, q4, q5, q6, ⟨q7, q8⟩, q9, q10, q11, q12⟩ := q
  obtain ⟨l1, l2⟩ := lyT_le q1
  exact ⟨q1, q2, cTo_f (fun a _ _ => h1 a (by omega) (by omega) (by omega)) q3, mTo_f (fun k hk => by rw [h1 56 (by omega) (by omega) (by omega)]) (fun a _ _ => h1 a (by omega) (by omega) (by omega)) q4, Nw_f (fun a _ _ => h1 a (by omega) (by omega) (by omega)) (h1 _ (by omega) (by omega) (by omega)) (by rw [h1 56 (by omega) (by omega) (by omega)]) q5, Rd_f (h1 _ (by omega) (by omega) (by omega)) (h1 _ (by omega) (by omega) (by omega)) (h1 _ (by omega) (by omega) (by omega)) (by rw [h1 56 (by omega) (by omega) (by omega)]) (by rw [h1 56 (by omega) (by omega) (by omega)]) q6, ⟨Zs_f (h1 _ (by omega) (by omega) (by omega)) (h1 _ (by omega) (by omega) (by omega)) q7, Zs_f (h1 _ (by omega) (by omega) (by omega)) (h1 _ (by omega) (by omega) (by omega)) q8⟩, Bk_f h2 (by rw [h1 56 (by omega) (by omega) (by omega)]) (h1 _ (by omega) (by omega) (by omega)) (h1 _ (by omega) (by omega) (by omega)) (h1 _ (by omega) (by omega) (by omega)) (h1 _ (by omega) (by omega) (by omega)) q9, n, Pl_f (by rw [h1 45 (by omega) (by omega) (by omega)]) q11, Tb_f (fun a _ _ => h1 a (by omega) (by omega) (by omega)) q12⟩
theorem iMo_g {o P : Nat} {s : Mo} {D E : am_M} (hP : P ≤ 5) (h : ∀ j, j < 139 → E 81 (o + j) = D 81 (o + j)) (q : iMo o P s D) : iMo o P s E := by
  obtain ⟨y1, y2, y3, y4, y5, y6, y7, y8⟩ := q
  exact ⟨fun p hp => by rw [h _ (by omega)]; exact y1 p hp, fun p hp => by rw [h _ (by omega)]; exact y2 p hp, fun p hp => by rw [h _ (by omega)]; exact y3 p hp, fun j hj => by rw [h _ (by omega)]; exact y4 j hj, by rw [h _ (by omega)]; exact y5, by rw [h _ (by omega)]; exact y6, by rw [h _ (by omega)]; exact y7, by rw [h _ (by omega)]; exact y8⟩
theorem so_keep {k tw : Nat} {tp : Bool} {D : am_M} (h : Sim k tw tp D) (a : Int32) : ∃ (r : Int32) (D1 D2 : am_M), f_X5_keep tw a D = some (r, D1) ∧ f_X6_keep a D1 = some (r, D2) ∧ Sim (k + 1) tw tp D2 := by
  have h0 := h
  obtain ⟨t, s, q⟩ := h
  have hP := q.2.1.2.2.2.1
  obtain ⟨nb, nh, n3, n4⟩ := q.2.2.2.2.1
  obtain ⟨k0, k1, u1, u2, u3, u4, u5⟩ := q.2.2.2.2.2.2.2.2.1
  by_cases hw : f_X5_isWithin a 0 1 = 0
  · exact ⟨_, D, D, by rw [f_X5_keep, if_pos hw], by rw [f_X6_keep, in_6 a 0 1 0 1 rfl rfl, if_pos hw], h0⟩
  obtain ⟨x, -, x2, rfl⟩ := tl_w1n (a := 0) (b := 1) (by decide) hw (by decide)
  have eM : f_X5_imageOf tw (nI x) = 35 + 5 * x := by
    have h : x = 0 ∨ x = 1 := by omega
    rcases h with rfl | rfl <;> rfl
  obtain ⟨D1, c1, c2, c3⟩ := c_copyM (M := 35 + 5 * x) (N := 25) (by omega) hP n3
  have e06 : D1 0 6 = nI (kp k0 k1) := by rw [c3 0 (by omega)]; exact u1
  generalize hE1 : am_up D1 0 6 (nI (kp k0 k1) ||| ((1 : Int32) <<< (nI x &&& 31))) = E1
  have g1 : ∀ a, a ≠ 0 → E1 a = D1 a := fun a ha => by rw [← hE1, tl_upo2 ha]
  obtain ⟨D2, m1, m2, m3⟩ := m_keep x2 138 0 am_N E1 (by omega) (by decide)
  generalize hE : am_up (am_up D2 81 (139 * x + 138) (D2 56 12)) 82 x 1 = E
  have gE : ∀ a, a ≠ 81 → a ≠ 82 → E a = E1 a := fun a a1 a2 => by rw [← hE, tl_upo2 a2, tl_upo2 a1, m2 a a1]
  have gD : ∀ a, a ≠ 0 → a < 35 ∨ 45 ≤ a → a < 81 ∨ 82 < a → E a = D a := fun a a1 a2 a3 => by rw [gE a (by omega) (by omega), g1 a a1, c3 a (by omega)]
  have e62 : E1 62 = D 62 := by rw [g1 62 (by decide), c3 62 (by omega)]
  have e56 : E1 56 = D 56 := by rw [g1 56 (by decide), c3 56 (by omega)]
  have e81 : ∀ j, E 81 j = if j = 139 * x + 138 then D 56 12 else if 139 * x ≤ j ∧ j < 139 * x + 138 then D 62 (j - 139 * x) else D 81 j := fun j => by
    rw [← hE, tl_upo2 (by decide), tl_upi2, m2 56 (by decide), e56, m3 j, e62, g1 81 (by decide), c3 81 (by omega)]; rfl
  have e82 : ∀ j, E 82 j = if j = x then 1 else D 82 j := fun j => by
    rw [← hE, tl_upi2, tl_upo2 (by decide), m2 82 (by decide), g1 82 (by decide), c3 82 (by omega)]
  have e0 : E 0 6 = nI (kp k0 k1) ||| ((1 : Int32) <<< (nI x &&& 31)) := by rw [gE 0 (by decide) (by decide), ← hE1, tl_upi2, if_pos rfl]
  have new : Im (35 + 5 * x) (139 * x) (q_pe t) E := by
    refine ⟨s, nb, nh, cMo_f (fun a _ _ => by rw [gE a (by omega) (by omega), g1 a (by omega)]) c2, ?_⟩
    obtain ⟨y1, y2, y3, y4, y5, y6, y7, y8⟩ := n4
    have e : ∀ j, j < 138 → E 81 (139 * x + j) = D 62 j := fun j hj => by rw [e81, if_neg (by omega), if_pos (by omega), Nat.add_sub_cancel_left]
    exact ⟨fun p hp => by rw [e _ (by omega)]; exact y1 p hp, fun p hp => by rw [e _ (by omega)]; exact y2 p hp, fun p hp => by rw [e _ (by omega)]; exact y3 p hp, fun j hj => by rw [e _ (by omega)]; exact y4 j hj, by rw [e _ (by omega)]; exact y5, by rw [e _ (by omega)]; exact y6, by rw [e _ (by omega)]; exact y7, by rw [e81, if_pos rfl]; exact y8⟩
  have old : ∀ M o, M = 35 + 5 * (1 - x) → o = 139 * (1 - x) → Im M o (q_pe t) D → Im M o (q_pe t) E := by
    intro M o hM ho ⟨m, i1, i2, i3, i4⟩
    refine ⟨m, i1, i2, cMo_f (fun a _ _ => by rw [gE a (by omega) (by omega), g1 a (by omega), c3 a (by omega)]) i3, iMo_g hP (fun j hj => ?_) i4⟩
    rw [e81, if_neg (by omega), if_neg (by omega)]
  refine ⟨1, E1, E, by rw [f_X5_keep, if_neg hw, eM, c1, Option.bind_some, e06, hE1], by rw [f_X6_keep, in_6 _ 0 1 0 1 rfl rfl, if_neg hw, ← hE]; exact m1, t, s, Si_k q gD (by rw [gE 0 (by decide) (by decide), ← hE1, tl_upi2, if_neg (by decide), c3 0 (by omega)]) ?_⟩
  have h : x = 0 ∨ x = 1 := by omega
  rcases h with rfl | rfl
  · refine ⟨true, k1, ?_, ?_, ?_, fun _ => new, fun hk => old 40 139 rfl rfl (u5 hk)⟩
    · rw [e0]; cases k0 <;> cases k1 <;> decide
    · rw [e82]; rfl
    · rw [e82, if_neg (by decide)]; exact u3
  · refine ⟨k0, true, ?_, ?_, ?_, fun hk => old 35 0 rfl rfl (u4 hk), fun _ => new⟩
    · rw [e0]; cases k0 <;> cases k1 <;> decide
    · rw [e82, if_neg (by decide)]; exact u2
    · rw [e82]; rfl
