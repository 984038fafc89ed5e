/-! calls that look or write a little -/
theorem so_feed {k tw : Nat} {tp : Bool} {D : am_M} (h : Sim k tw tp D) (a : Int32) : ∃ (r : Int32) (D1 D2 : am_M), f_X5_feed tw a D = some (r, D1) ∧ f_X6_feed a D1 = some (r, D2) ∧ Sim (k + 1) tw tp D2 := by
  have h0 := h
  obtain ⟨t, s, q⟩ := h
  obtain ⟨q1, q2, q3, q4, q5, ⟨qf, n, tx, r1, r2, r3, r4⟩, ⟨q7, q8⟩, q9, q10, q11, q12⟩ := q
  obtain ⟨l1, l2⟩ := lyT_le q1
  by_cases hw : f_X5_isWithin a 0 255 = 0
  · exact ⟨_, D, D, by rw [f_X5_feed, if_pos hw], by rw [f_X6_feed, in_6 a 0 255 0 255 rfl rfl, if_pos hw], h0⟩
  · obtain ⟨j, -, j2, rfl⟩ := tl_w1n (a := 0) (b := 255) (by decide) hw (by decide)
    by_cases hn : n = 250
    · subst hn
      exact ⟨_, D, D, by rw [f_X5_feed, if_neg hw, r2, if_neg (by decide)], by rw [f_X6_feed, in_6 _ 0 255 0 255 rfl rfl, if_neg hw, r3, if_pos (show nI 250 = 250 from rfl)], h0⟩
    · have hcl : (nI n).toNatClampNeg = n := tl_cl2 (by omega)
      refine ⟨nI (n + 1), am_up (am_up D 13 n (nI j)) 12 4 (nI (n + 1)), am_up (am_up (am_up (am_up D 13 n (nI j)) 12 4 (nI (n + 1))) 63 n (nI j)) 56 14 (nI (n + 1)), ?_, ?_, ?_⟩
      · rw [f_X5_feed, if_neg hw, r2, if_pos (show nI n < 250 from nI_lt (b := 250) (by omega) (by omega)), f_X3_add, r2, if_neg (show ¬ (250 : Int32) ≤ nI n from nI_ge (a := n) (b := 250) (by omega) (by omega)), if_pos (tl_ai (by omega) (by omega)), hcl]
        simp [up_ap, r2, nI_1]
      · have e1 : (am_up (am_up D 13 n (nI j)) 12 4 (nI (n + 1))) 56 14 = nI n := by simp [up_ap, r3]
        rw [f_X6_feed, in_6 _ 0 255 0 255 rfl rfl, if_neg hw, e1, if_neg (show ¬ nI n = 250 from fun q => hn ((nI_eq (b := 250) (by omega) (by omega)).mp q)), if_pos (tl_ai (by omega) (by omega)), hcl]
        simp [up_ap, r3, nI_1]
      · generalize hE : am_up (am_up (am_up (am_up D 13 n (nI j)) 12 4 (nI (n + 1))) 63 n (nI j)) 56 14 (nI (n + 1)) = E
        have g1 : ∀ a, a ≠ 12 → a ≠ 13 → a ≠ 56 → a ≠ 63 → E a = D a := fun a a1 a2 a3 a4 => by rw [← hE, tl_upo2 a3, tl_upo2 a4, tl_upo2 a1, tl_upo2 a2]
        have g2 : ∀ i, i ≠ 14 → E 56 i = D 56 i := fun i hi => by rw [← hE]; simp [up_ap, hi]
        have g3 : ∀ i, i ≠ 4 → E 12 i = D 12 i := fun i hi => by rw [← hE]; simp [up_ap, hi]
        have g4 : E 56 14 = nI (n + 1) := by rw [← hE]; simp [up_ap]
        have g5 : E 12 4 = nI (n + 1) := by rw [← hE]; simp [up_ap]
        have g6 : ∀ i, E 13 i = if i = n then nI j else D 13 i := fun i => by rw [← hE]; simp [up_ap]
        have g7 : ∀ i, E 63 i = if i = n then nI j else D 63 i := fun i => by rw [← hE]; simp [up_ap]
        refine ⟨t, s, q1, q2, cTo_f (fun a a1 a2 => ?_) q3, mTo_f (fun i hi => g2 i (by omega)) (fun a a1 a2 => g1 a (by omega) (by omega) (by omega) (by omega)) q4, Nw_f (fun a a1 a2 => g1 a (by omega) (by omega) (by omega) (by omega)) (g1 _ (by decide) (by decide) (by decide) (by decide)) (g2 _ (by decide)) q5, ⟨by rw [g3 6 (by decide), g2 15 (by decide)]; exact qf, n + 1, un tx n j, by omega, g5, g4, fun i hi => ?_⟩, ⟨Zs_f (g1 _ (by rcases q1 with e | e <;> omega) (by rcases q1 with e | e <;> omega) (by omega) (by omega)) (g1 _ (by rcases q1 with e | e <;> omega) (by rcases q1 with e | e <;> omega) (by omega) (by omega)) q7, Zs_f (g1 _ (by rcases q1 with e | e <;> omega) (by rcases q1 with e | e <;> omega) (by omega) (by omega)) (g1 _ (by rcases q1 with e | e <;> omega) (by rcases q1 with e | e <;> omega) (by omega) (by omega)) q8⟩, Bk_f (by rw [g1 0 (by decide) (by decide) (by decide) (by decide)]) (g2 39 (by decide)) (g1 _ (by decide) (by decide) (by decide) (by decide)) (g1 _ (by decide) (by decide) (by decide) (by decide)) (g1 _ (by decide) (by decide) (by decide) (by decide)) (g1 _ (by decide) (by decide) (by decide) (by decide)) q9, Kp_f (by rw [g1 0 (by decide) (by decide) (by decide) (by decide)]) (fun a a1 a2 => g1 a (by omega) (by omega) (by omega) (by omega)) (g1 _ (by decide) (by decide) (by decide) (by decide)) (g1 _ (by decide) (by decide) (by decide) (by decide)) q10, Pl_f (by rw [g1 45 (by decide) (by decide) (by decide) (by decide)]) q11, Tb_f (fun a a1 a2 => g1 a (by omega) (by omega) (by omega) (by omega)) q12⟩
        · exact g1 a (by rcases q1 with e | e <;> omega) (by rcases q1 with e | e <;> omega) (by omega) (by omega)
        · rw [g6, g7]
          by_cases hi' : i = n
          · subst hi'
            rw [un_s, if_pos rfl, if_pos rfl]
            exact ⟨j2, rfl, rfl⟩
          · rw [un_n hi', if_neg hi', if_neg hi']
            exact r4 i (by omega)
theorem so_fault {k tw : Nat} {tp : Bool} {D : am_M} (h : Sim k tw tp D) : ∃ r : Int32, f_X5_fault tw D = r ∧ f_X6_fault D = r ∧ Sim (k + 1) tw tp D := by
  obtain ⟨t, s, q⟩ := h
  exact ⟨D 12 6, rfl, q.2.2.2.2.2.1.1.symm, t, s, q⟩
theorem iP5 {tw : Nat} {t : To} {D : am_M} (h : cTo tw t D) (x : Int32) : f_X5_isPerson tw x D = f_X5_isWithin x 0 (nI (q_pe t) - 1) := by rw [f_X5_isPerson, h.2.2.2.1]
theorem iP6 {t : To} {D : am_M} (h : mTo t D) (x : Int32) : f_X6_isPerson x D = f_X5_isWithin x 0 (nI (q_pe t) - 1) := by rw [f_X6_isPerson, h.2.2.2.1]; exact in_6 x 0 _ 0 _ rfl rfl
theorem n_24 {p h : Nat} : nI p * 24 + nI h = nI (24 * p + h) := by rw [show (24 : Int32) = nI 24 from rfl, pk_mul, nI_add, Nat.mul_comm]
theorem n_15 {p h : Nat} : 15 + 24 * nI p + nI h = nI (15 + (24 * p + h)) := by rw [show (24 : Int32) = nI 24 from rfl, show (15 : Int32) = nI 15 from rfl, pk_mul, nI_add, nI_add, Nat.add_assoc]
theorem so_person {k tw : Nat} {tp : Bool} {D : am_M} (h : Sim k tw tp D) (a b : Int32) : ∃ (r : Int32) (D1 D2 : am_M), f_X5_person tw a b D = some (r, D1) ∧ f_X6_person a b D1 = some (r, D2) ∧ Sim (k + 1) tw tp D2 := by
  have h0 := h
  obtain ⟨t, s, q1, q2, q3, q4, ⟨-, -, n3, n4⟩, -⟩ := h
  have hP := q2.2.2.2.1
  by_cases hw : f_X5_isWithin a 0 (nI (q_pe t) - 1) = 0
  · exact ⟨_, D, D, by rw [f_X5_person, iP5 q3, if_pos hw], by rw [f_X6_person, iP6 q4, if_pos hw], h0⟩
  · obtain ⟨p, hp, rfl⟩ := m1_w (by omega) hw
    have hcl : (nI p).toNatClampNeg = p := tl_cl2 (by omega)
    have hc5 : (nI (5 + p)).toNatClampNeg = 5 + p := tl_cl2 (by omega)
    have hc10 : (nI (10 + p)).toNatClampNeg = 10 + p := tl_cl2 (by omega)
    refine ⟨if b = 0 then nI (o_ti s p) else if b = 1 then nI (o_pu s p) else if b = 2 then nI (o_sl s p) else if b = 3 then nI (q_ya t p) else (-1000000002), D, D, ?_, ?_, h0⟩
    · rw [f_X5_person, iP5 q3, if_neg hw]
      simp only [if_pos (tl_ai (k := p) (n := 5) (by omega) (by omega)), hcl, n3.1 p hp, n3.2.1 p hp, n3.2.2.1 p hp, q3.2.2.2.2.2.2.2.2 p hp]
      repeat' split
      all_goals rfl
    · rw [f_X6_person, iP6 q4, if_neg hw]
      simp only [n_10, n_5, if_pos (tl_ai (k := p) (n := 5) (by omega) (by omega)), if_pos (tl_ai (k := p) (n := 138) (by omega) (by omega)), if_pos (tl_ai (k := 5 + p) (n := 138) (by omega) (by omega)), if_pos (tl_ai (k := 10 + p) (n := 138) (by omega) (by omega)), hcl, hc5, hc10, n4.1 p hp, n4.2.1 p hp, n4.2.2.1 p hp, q4.2.2.2.2.2.2.2.2 p hp]
      repeat' split
      all_goals rfl
theorem so_row {k tw : Nat} {tp : Bool} {D : am_M} (h : Sim k tw tp D) (a b : Int32) : ∃ (r : Int32) (D1 D2 : am_M), f_X5_row tw a b D = some (r, D1) ∧ f_X6_row a b D1 = some (r, D2) ∧ Sim (k + 1) tw tp D2 := by
  have h0 := h
  obtain ⟨t, s, q1, q2, q3, q4, ⟨-, -, n3, n4⟩, -⟩ := h
  have hP := q2.2.2.2.1
  by_cases hw : f_X5_isWithin a 0 (nI (q_pe t) - 1) = 0
  · exact ⟨_, D, D, by rw [f_X5_row, iP5 q3, if_pos hw], by rw [f_X6_row, iP6 q4, if_pos hw], h0⟩
  · obtain ⟨p, hp, rfl⟩ := m1_w (by omega) hw
    by_cases hw2 : f_X5_isWithin b 0 23 = 0
    · exact ⟨_, D, D, by rw [f_X5_row, iP5 q3, if_neg hw, if_pos hw2], by rw [f_X6_row, iP6 q4, if_neg hw, in_6 b 0 23 0 23 rfl rfl, if_pos hw2], h0⟩
    · obtain ⟨j, -, j2, rfl⟩ := tl_w1n (a := 0) (b := 23) (by decide) hw2 (by decide)
      have hk : 24 * p + j < 24 * q_pe t := by omega
      exact ⟨nI (o_ro s (24 * p + j)), D, D, by rw [f_X5_row, iP5 q3, if_neg hw, if_neg hw2, n_24, if_pos (tl_ai (by omega) (by omega)), tl_cl2 (by omega), n3.2.2.2.1 _ hk], by rw [f_X6_row, iP6 q4, if_neg hw, in_6 _ 0 23 0 23 rfl rfl, if_neg hw2, n_15, if_pos (tl_ai (by omega) (by omega)), tl_cl2 (by omega), n4.2.2.2.1 _ hk], h0⟩
theorem so_coin {k tw : Nat} {tp : Bool} {D : am_M} (h : Sim k tw tp D) (a : Int32) : ∃ (r : Int32) (D1 D2 : am_M), f_X5_coin tw a D = some (r, D1) ∧ f_X6_coin a D1 = some (r, D2) ∧ Sim (k + 1) tw tp D2 := by
  have h0 := h
  obtain ⟨t, s, q1, q2, q3, q4, -⟩ := h
  have hP := q2.2.2.2.2.1
  have e5 := q3.2.2.2.2.1
  have e6 := q4.2.2.2.2.1
  by_cases hw : f_X5_isWithin a 0 (nI (q_cn t) - 1) = 0
  · exact ⟨_, D, D, by rw [f_X5_coin, e5, if_pos hw], by rw [f_X6_coin, e6, in_6 a 0 _ 0 _ rfl rfl, if_pos hw], h0⟩
  · obtain ⟨p, hp, rfl⟩ := m1_w (by omega) hw
    exact ⟨nI (q_co t p), D, D, by rw [f_X5_coin, e5, if_neg hw, if_pos (tl_ai (by omega) (by omega)), tl_cl2 (by omega), q3.2.2.2.2.2.2.1 p hp], by rw [f_X6_coin, e6, in_6 _ 0 _ 0 _ rfl rfl, if_neg hw, if_pos (tl_ai (by omega) (by omega)), tl_cl2 (by omega), q4.2.2.2.2.2.2.1 p hp], h0⟩
theorem so_debt {k tw : Nat} {tp : Bool} {D : am_M} (h : Sim k tw tp D) (a b : Int32) : ∃ (r : Int32) (D1 D2 : am_M), f_X5_debt tw a b D = some (r, D1) ∧ f_X6_debt a b D1 = some (r, D2) ∧ Sim (k + 1) tw tp D2 := by
  have h0 := h
  obtain ⟨t, s, q1, q2, q3, q4, ⟨-, -, n3, n4⟩, -⟩ := h
  have hP := q2.2.2.2.2.2.1
  have e5 := q3.2.2.2.2.2.1
  have e6 := q4.2.2.2.2.2.1
  by_cases hw : f_X5_isWithin a 0 (nI (q_dn t) - 1) = 0
  · exact ⟨_, D, D, by rw [f_X5_debt, e5, if_pos hw], by rw [f_X6_debt, e6, in_6 a 0 _ 0 _ rfl rfl, if_pos hw], h0⟩
  · obtain ⟨p, hp, rfl⟩ := m1_w (by omega) hw
    have hcl : (nI p).toNatClampNeg = p := tl_cl2 (by omega)
    obtain ⟨c1, c2, c3⟩ := q3.2.2.2.2.2.2.2.1 p hp
    obtain ⟨m1, m2, m3⟩ := q4.2.2.2.2.2.2.2.1 p hp
    refine ⟨if b = 0 then nI (q_dw t p) else if b = 1 then nI (q_dh t p) else if b = 2 then nI (q_dv t p) else if b = 3 then (if f_X5_isIn (nI (o_pa s)) (nI p) = 0 then (if f_X5_isIn (nI (o_mi s)) (nI p) = 0 then 0 else 2) else 1) else (-1000000002), D, D, ?_, ?_, h0⟩
    · rw [f_X5_debt, e5, if_neg hw]
      simp only [if_pos (tl_ai (k := p) (n := 8) (by omega) (by omega)), hcl, c1, c2, c3, f_X5_debtState, n3.2.2.2.2.1, n3.2.2.2.2.2.1]
      repeat' split
      all_goals rfl
    · rw [f_X6_debt, e6, in_6 _ 0 _ 0 _ rfl rfl, if_neg hw]
      simp only [if_pos (tl_ai (k := p) (n := 8) (by omega) (by omega)), hcl, m1, m2, m3, has_is, n4.2.2.2.2.1, n4.2.2.2.2.2.1]
      repeat' split
      all_goals rfl
