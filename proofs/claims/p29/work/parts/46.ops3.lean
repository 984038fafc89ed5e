/-! give, the book, the hours -/
theorem n_atm2 {a m : Nat} (ha : a < 1000000) (hm : m < 1000000) : f_X6_atMost (nI a) (nI m) = nI (min a m) := by
  unfold f_X6_atMost
  by_cases h : m ≤ a
  · rw [if_pos (nI_le h (by omega)), Nat.min_eq_right h]
  · rw [if_neg (nI_ge (a := a) (b := m) (by omega) (by omega)), Nat.min_eq_left (by omega)]
theorem so_give {k tw : Nat} {tp : Bool} {D : am_M} (h : Sim k tw tp D) (a b c : Int32) : ∃ (r : Int32) (D1 D2 : am_M), f_X5_give tw a b c D = some (r, D1) ∧ f_X6_give a b c D1 = some (r, D2) ∧ Sim (k + 1) tw tp D2 := by
  have h0 := h
  obtain ⟨t, s, q⟩ := h
  have q3 := q.2.2.1
  have q4 := q.2.2.2.1
  have hP := q.2.1.2.2.2.1
  obtain ⟨nb, nh, n3, n4⟩ := q.2.2.2.2.1
  by_cases hw : f_X5_isWithin a 0 (nI (q_pe t) - 1) = 0
  · exact ⟨_, D, D, by rw [f_X5_give, iP5 q3, if_pos hw], by rw [f_X6_give, iP6 q4, if_pos hw], h0⟩
  by_cases hw2 : f_X5_isWithin b 0 (nI (q_pe t) - 1) = 0
  · exact ⟨_, D, D, by rw [f_X5_give, iP5 q3, if_neg hw, iP5 q3, if_pos hw2], by rw [f_X6_give, iP6 q4, if_neg hw, iP6 q4, if_pos hw2], h0⟩
  obtain ⟨p, hp, rfl⟩ := m1_w (by omega) hw
  obtain ⟨r, hr, rfl⟩ := m1_w (by omega) hw2
  by_cases he : nI p = nI r
  · exact ⟨_, D, D, by rw [f_X5_give, iP5 q3, if_neg hw, iP5 q3, if_neg hw2, if_pos he], by rw [f_X6_give, iP6 q4, if_neg hw, iP6 q4, if_neg hw2, if_pos he], h0⟩
  by_cases hw3 : f_X5_isWithin c 1 999 = 0
  · exact ⟨_, D, D, by rw [f_X5_give, iP5 q3, if_neg hw, iP5 q3, if_neg hw2, if_neg he, if_pos hw3], by rw [f_X6_give, iP6 q4, if_neg hw, iP6 q4, if_neg hw2, if_neg he, in_6 c 1 999 1 999 rfl rfl, if_pos hw3], h0⟩
  obtain ⟨v, -, v2, rfl⟩ := tl_w1n (a := 1) (b := 999) (by decide) hw3 (by decide)
  have hpr : r ≠ p := fun q => he (by rw [q])
  have hcp : (nI p).toNatClampNeg = p := tl_cl2 (by omega)
  have hcr : (nI r).toNatClampNeg = r := tl_cl2 (by omega)
  have hcp' : (nI (10 + p)).toNatClampNeg = 10 + p := tl_cl2 (by omega)
  have hcr' : (nI (10 + r)).toNatClampNeg = 10 + r := tl_cl2 (by omega)
  have bp := nb.2.2.1 p hp
  have br := nb.2.2.1 r hr
  by_cases hv : v ≤ o_pu s p
  · have hle : nI v ≤ nI (o_pu s p) := nI_le hv (by omega)
    have em : am_min (nI (o_pu s r) + nI v) 9999 = nI (min (o_pu s r + v) 9999) := by rw [nI_add]; exact n_min (m := 9999) (by omega) (by omega)
    have em' : f_X6_atMost (nI (o_pu s r) + nI v) 9999 = nI (min (o_pu s r + v) 9999) := by rw [nI_add]; exact n_atm2 (m := 9999) (by omega) (by omega)
    refine ⟨nI (o_pu s p - v), am_up (am_up D 28 p (nI (o_pu s p - v))) 28 r (nI (min (o_pu s r + v) 9999)), am_up (am_up (am_up (am_up D 28 p (nI (o_pu s p - v))) 28 r (nI (min (o_pu s r + v) 9999))) 62 (10 + p) (nI (o_pu s p - v))) 62 (10 + r) (nI (min (o_pu s r + v) 9999)), ?_, ?_, t, (o_ti s, o_sl s, un (un (o_pu s) p (o_pu s p - v)) r (min (o_pu s r + v) 9999), o_ro s, o_pa s, o_mi s, o_hr s, o_se s), Si_n q (fun a a1 a2 a3 _ => by rw [tl_upo2 a2, tl_upo2 a2, tl_upo2 (by omega), tl_upo2 (by omega)]) (fun k hk => by rw [tl_upo2 (by decide), tl_upo2 (by decide), tl_upo2 (by decide), tl_upo2 (by decide)]) ⟨?_, nh, ?_, ?_⟩⟩
    · rw [f_X5_give, iP5 q3, if_neg hw, iP5 q3, if_neg hw2, if_neg he, if_neg hw3, if_pos (tl_ai (by omega) (by omega)), hcp, n3.2.2.1 p hp, if_pos hle, if_pos (tl_ai (by omega) (by omega)), hcr, pk_sub hv]
      have e1 : am_up D 28 p (nI (o_pu s p - v)) 28 r = nI (o_pu s r) := by rw [tl_upi2, if_neg hpr]; exact n3.2.2.1 r hr
      rw [e1, em, tl_upi2, if_neg (Ne.symm hpr), tl_upi2, if_pos rfl]
    · generalize hE : am_up (am_up D 28 p (nI (o_pu s p - v))) 28 r (nI (min (o_pu s r + v) 9999)) = E
      have g : ∀ a, a ≠ 28 → E a = D a := fun a h => by rw [← hE, tl_upo2 h, tl_upo2 h]
      have q4' : mTo t E := mTo_f (fun i _ => by rw [g 56 (by decide)]) (fun a _ _ => g a (by omega)) q4
      rw [f_X6_give, iP6 q4', if_neg hw, iP6 q4', if_neg hw2, if_neg he, in_6 _ 1 999 1 999 rfl rfl, if_neg hw3, n_10, n_10, if_pos (tl_ai (by omega) (by omega)), hcp', g 62 (by decide), n4.2.2.1 p hp, if_pos hle, if_pos (tl_ai (by omega) (by omega)), hcr', pk_sub hv]
      have e1 : am_up E 62 (10 + p) (nI (o_pu s p - v)) 62 (10 + r) = nI (o_pu s r) := by rw [tl_upi2, if_neg (by omega), g 62 (by decide)]; exact n4.2.2.1 r hr
      rw [e1, em', tl_upi2, if_neg (by omega), tl_upi2, if_pos rfl]
    · refine ⟨nb.1, nb.2.1, fun j hj => ?_, nb.2.2.2⟩
      show un _ _ _ j ≤ 9999
      unfold un
      split
      · exact Nat.min_le_right _ _
      · split
        · omega
        · exact nb.2.2.1 j hj
    · obtain ⟨x1, x2, x3, x4, x5, x6, x7, x8⟩ := n3
      have g : ∀ a, a ≠ 28 → a ≠ 62 → (am_up (am_up (am_up (am_up D 28 p (nI (o_pu s p - v))) 28 r (nI (min (o_pu s r + v) 9999))) 62 (10 + p) (nI (o_pu s p - v))) 62 (10 + r) (nI (min (o_pu s r + v) 9999))) a = D a := fun a h h' => by rw [tl_upo2 h', tl_upo2 h', tl_upo2 h, tl_upo2 h]
      refine ⟨fun p hp => ?_, fun p hp => ?_, fun j hj => ?_, fun k hk => ?_, ?_, ?_, ?_, ?_⟩
      · rw [g 26 (by decide) (by decide)]; exact x1 p hp
      · rw [g 27 (by decide) (by decide)]; exact x2 p hp
      · rw [tl_upo2 (by decide), tl_upo2 (by decide), tl_upi2, tl_upi2]
        show _ = nI (un _ _ _ j)
        unfold un
        split
        · rfl
        · split
          · rfl
          · exact x3 j hj
      · rw [g 29 (by decide) (by decide)]; exact x4 k hk
      · rw [g 25 (by decide) (by decide)]; exact x5
      · rw [g 25 (by decide) (by decide)]; exact x6
      · rw [g 25 (by decide) (by decide)]; exact x7
      · rw [g 25 (by decide) (by decide)]; exact x8
    · obtain ⟨x1, x2, x3, x4, x5, x6, x7, x8⟩ := n4
      have g : ∀ i, i ≠ 10 + p → i ≠ 10 + r → (am_up (am_up (am_up (am_up D 28 p (nI (o_pu s p - v))) 28 r (nI (min (o_pu s r + v) 9999))) 62 (10 + p) (nI (o_pu s p - v))) 62 (10 + r) (nI (min (o_pu s r + v) 9999))) 62 i = D 62 i := fun i h h' => by rw [tl_upi2, if_neg h', tl_upi2, if_neg h, tl_upo2 (by decide), tl_upo2 (by decide)]
      refine ⟨fun p hp => ?_, fun p hp => ?_, fun j hj => ?_, fun k hk => ?_, ?_, ?_, ?_, ?_⟩
      · rw [g _ (by omega) (by omega)]; exact x1 p hp
      · rw [g _ (by omega) (by omega)]; exact x2 p hp
      · rw [tl_upi2, tl_upi2, tl_upo2 (by decide), tl_upo2 (by decide)]
        show _ = nI (un _ _ _ j)
        unfold un
        by_cases e : j = r
        · rw [if_pos e, if_pos (by omega)]
        · rw [if_neg e, if_neg (by omega)]
          by_cases e' : j = p
          · rw [if_pos e', if_pos (by omega)]
          · rw [if_neg e', if_neg (by omega)]; exact x3 j hj
      · rw [g _ (by omega) (by omega)]; exact x4 k hk
      · rw [g _ (by omega) (by omega)]; exact x5
      · rw [g _ (by omega) (by omega)]; exact x6
      · rw [g _ (by omega) (by omega)]; exact x7
      · rw [tl_upo2 (by decide), tl_upo2 (by decide), tl_upo2 (by decide), tl_upo2 (by decide)]; exact x8
  · have hle : ¬ nI v ≤ nI (o_pu s p) := nI_ge (by omega) (by omega)
    exact ⟨_, D, D, by rw [f_X5_give, iP5 q3, if_neg hw, iP5 q3, if_neg hw2, if_neg he, if_neg hw3, if_pos (tl_ai (by omega) (by omega)), hcp, n3.2.2.1 p hp, if_neg hle], by rw [f_X6_give, iP6 q4, if_neg hw, iP6 q4, if_neg hw2, if_neg he, in_6 _ 1 999 1 999 rfl rfl, if_neg hw3, n_10, if_pos (tl_ai (by omega) (by omega)), hcp', n4.2.2.1 p hp, if_neg hle], h0⟩
/-- only the book has changed -/
theorem Si_b {tw : Nat} {t : To} {s : Mo} {D E : am_M} (q : Si tw t s D) (h1 : ∀ a, a ≠ 0 → a ≠ 54 → a ≠ 55 → a ≠ 56 → a ≠ 79 → a ≠ 80 → E a = D a) (h2 : ∀ k, k ≠ 39 → E 56 k = D 56 k) (h3 : E 0 6 = D 0 6) (n : Bk (q_pe t) E) : Si tw t s E := by
  obtain ⟨q1, q2, q3, q4, q5, q6, ⟨q7, q8⟩, q9, q10, q11, q12⟩ := q
  obtain ⟨l1, l2⟩ := lyT_le q1
  have g : ∀ a, a ≠ 0 → a < 54 ∨ 56 < a → a < 79 ∨ 80 < a → E a = D a := fun a x y z => h1 a x (by omega) (by omega) (by omega) (by omega) (by omega)
  exact ⟨q1, q2, cTo_f (fun a _ _ => g a (by omega) (by omega) (by omega)) q3, mTo_f (fun k hk => h2 k (by omega)) (fun a _ _ => g a (by omega) (by omega) (by omega)) q4, Nw_f (fun a _ _ => g a (by omega) (by omega) (by omega)) (g _ (by omega) (by omega) (by omega)) (h2 _ (by omega)) q5, Rd_f (g _ (by omega) (by omega) (by omega)) (g _ (by omega) (by omega) (by omega)) (g _ (by omega) (by omega) (by omega)) (h2 _ (by omega)) (h2 _ (by omega)) q6, ⟨Zs_f (g _ (by omega) (by omega) (by omega)) (g _ (by omega) (by omega) (by omega)) q7, Zs_f (g _ (by omega) (by omega) (by omega)) (g _ (by omega) (by omega) (by omega)) q8⟩, n, Kp_f h3 (fun a _ _ => g a (by omega) (by omega) (by omega)) (g _ (by omega) (by omega) (by omega)) (g _ (by omega) (by omega) (by omega)) q10, Pl_f (by rw [g _ (by omega) (by omega) (by omega)]) q11, Tb_f (fun a _ _ => g a (by omega) (by omega) (by omega)) q12⟩
theorem so_tear {k tw : Nat} {tp : Bool} {D : am_M} (h : Sim k tw tp D) : ∃ (r : Int32) (D1 D2 : am_M), f_X5_tear tw D = some (r, D1) ∧ f_X6_tear D1 = some (r, D2) ∧ Sim (k + 1) tw tp D2 := by
  obtain ⟨t, s, q⟩ := h
  obtain ⟨n, bw, b1, b2, b3, b4⟩ := q.2.2.2.2.2.2.2.1
  refine ⟨nI n, am_up D 0 11 0, am_up (am_up D 0 11 0) 56 39 0, by rw [f_X5_tear, b2], by rw [f_X6_tear, tl_upo2 (by decide), b3], t, s, Si_b q (fun a a1 _ _ a4 _ _ => by rw [tl_upo2 a4, tl_upo2 a1]) (fun k hk => by rw [tl_upi2, if_neg hk, tl_upo2 (by decide)]) (by rw [tl_upo2 (by decide), tl_upi2, if_neg (by decide)]) ⟨0, bw, by omega, ?_, ?_, fun e he => absurd he (by omega)⟩⟩
  · rw [tl_upo2 (by decide), tl_upi2, if_pos rfl]; rfl
  · rw [tl_upi2, if_pos rfl]; rfl
theorem so_write {k tw : Nat} {tp : Bool} {D : am_M} (h : Sim k tw tp D) (a b : Int32) : ∃ (r : Int32) (D1 D2 : am_M), f_X5_write tw a b D = some (r, D1) ∧ f_X6_write a b D1 = some (r, D2) ∧ Sim (k + 1) tw tp D2 := by
  have h0 := h
  obtain ⟨t, s, q⟩ := h
  have q3 := q.2.2.1
  have q4 := q.2.2.2.1
  have hP := q.2.1.2.2.2.1
  obtain ⟨n, bw, b1, b2, b3, b4⟩ := q.2.2.2.2.2.2.2.1
  by_cases hw : f_X5_isWithin a 0 (nI (q_pe t) - 1) = 0
  · exact ⟨_, D, D, by rw [f_X5_write, iP5 q3, if_pos hw], by rw [f_X6_write, iP6 q4, if_pos hw], h0⟩
  by_cases hw2 : f_X5_isWithin b 0 9999 = 0
  · exact ⟨_, D, D, by rw [f_X5_write, iP5 q3, if_neg hw, if_pos hw2], by rw [f_X6_write, iP6 q4, if_neg hw, in_6 b 0 9999 0 9999 rfl rfl, if_pos hw2], h0⟩
  obtain ⟨p, hp, rfl⟩ := m1_w (by omega) hw
  by_cases hn : n = 15
  · subst hn
    exact ⟨_, D, D, by rw [f_X5_write, iP5 q3, if_neg hw, if_neg hw2, b2, if_neg (show ¬ nI 15 < 15 by decide)], by rw [f_X6_write, iP6 q4, if_neg hw, in_6 b 0 9999 0 9999 rfl rfl, if_neg hw2, b3, if_pos (show nI 15 = 15 from rfl)], h0⟩
  have hcl : (nI n).toNatClampNeg = n := tl_cl2 (by omega)
  refine ⟨nI (n + 1), am_up (am_up (am_up D 54 n (nI p)) 55 n b) 0 11 (nI (n + 1)), am_up (am_up (am_up (am_up (am_up (am_up D 54 n (nI p)) 55 n b) 0 11 (nI (n + 1))) 79 n (nI p)) 80 n b) 56 39 (nI (n + 1)), ?_, ?_, t, s, ?_⟩
  · have e1 : am_up D 54 n (nI p) 0 11 = nI n := by rw [tl_upo2 (by decide)]; exact b2
    have e2 : am_up (am_up D 54 n (nI p)) 55 n b 0 11 = nI n := by rw [tl_upo2 (by decide)]; exact e1
    rw [f_X5_write, iP5 q3, if_neg hw, if_neg hw2, b2, if_pos (show nI n < 15 from nI_lt (b := 15) (by omega) (by omega)), if_pos (tl_ai (by omega) (by omega)), hcl, e1, if_pos (tl_ai (by omega) (by omega)), hcl, e2, nI_1, tl_upi2, if_pos rfl]
  · generalize hE : am_up (am_up (am_up D 54 n (nI p)) 55 n b) 0 11 (nI (n + 1)) = E
    have g : ∀ a, 56 ≤ a → E a = D a := fun a h => by rw [← hE, tl_upo2 (by omega), tl_upo2 (by omega), tl_upo2 (by omega)]
    have q4' : mTo t E := mTo_f (fun i _ => by rw [g 56 (by decide)]) (fun a _ _ => g a (by omega)) q4
    have e0 : E 56 39 = nI n := by rw [g 56 (by decide)]; exact b3
    have e1 : am_up E 79 n (nI p) 56 39 = nI n := by rw [tl_upo2 (by decide)]; exact e0
    have e2 : am_up (am_up E 79 n (nI p)) 80 n b 56 39 = nI n := by rw [tl_upo2 (by decide)]; exact e1
    rw [f_X6_write, iP6 q4', if_neg hw, in_6 b 0 9999 0 9999 rfl rfl, if_neg hw2, e0, if_neg (show ¬ nI n = 15 from fun q => hn ((nI_eq (b := 15) (by omega) (by omega)).mp q)), if_pos (tl_ai (by omega) (by omega)), hcl, e1, if_pos (tl_ai (by omega) (by omega)), hcl, e2, nI_1, tl_upi2, if_pos rfl]
  · generalize hE : am_up (am_up (am_up (am_up (am_up (am_up D 54 n (nI p)) 55 n b) 0 11 (nI (n + 1))) 79 n (nI p)) 80 n b) 56 39 (nI (n + 1)) = E
    refine Si_b q (fun a a1 a2 a3 a4 a5 a6 => by rw [← hE, tl_upo2 a4, tl_upo2 a6, tl_upo2 a5, tl_upo2 a1, tl_upo2 a3, tl_upo2 a2]) (fun k hk => by rw [← hE]; simp [up_ap, hk]) (by rw [← hE]; simp [up_ap]) ⟨n + 1, un bw n p, by omega, by rw [← hE]; simp [up_ap], by rw [← hE]; simp [up_ap], fun e he => ?_⟩
    have g1 : E 54 e = if e = n then nI p else D 54 e := by rw [← hE]; simp [up_ap]
    have g2 : E 55 e = if e = n then b else D 55 e := by rw [← hE]; simp [up_ap]
    have g3 : E 79 e = if e = n then nI p else D 79 e := by rw [← hE]; simp [up_ap]
    have g4 : E 80 e = if e = n then b else D 80 e := by rw [← hE]; simp [up_ap]
    rw [g1, g2, g3, g4]
    by_cases hi : e = n
    · subst hi
      rw [un_s, if_pos rfl, if_pos rfl, if_pos rfl, if_pos rfl]
      exact ⟨hp, rfl, rfl, rfl⟩
    · rw [un_n hi, if_neg hi, if_neg hi, if_neg hi, if_neg hi]
      exact b4 e (by omega)
theorem so_judge {k tw : Nat} {tp : Bool} {D : am_M} (h : Sim k tw tp D) : ∃ (r : Int32) (D1 D2 : am_M), f_X5_judge tw D = some (r, D1) ∧ f_X6_judge D1 = some (r, D2) ∧ Sim (k + 1) tw tp D2 := by
  have h0 := h
  obtain ⟨t, s, q⟩ := h
  have hP := q.2.1.2.2.2.1
  obtain ⟨nb, nh, n3, n4⟩ := q.2.2.2.2.1
  obtain ⟨n, bw, b1, b2, b3, b4⟩ := q.2.2.2.2.2.2.2.1
  have key : ∀ (m e f : Nat), e + m = n → m < f → ∃ r, b_X5_judge_2 tw f (nI e) D = some (r, D) ∧ b_X6_judge_2 f (nI e) D = some (r, D) := by
    intro m
    induction m with
    | zero =>
      intro e f hm hf
      obtain ⟨f, rfl⟩ : ∃ q, f = q + 1 := ⟨f - 1, by omega⟩
      have : e = n := by omega
      subst this
      exact ⟨-1, by rw [b_X5_judge_2, b2, if_pos (nI_le (Nat.le_refl _) (by omega))], by rw [b_X6_judge_2, b3, if_pos (nI_le (Nat.le_refl _) (by omega))]⟩
    | succ m ih =>
      intro e f hm hf
      obtain ⟨f, rfl⟩ : ∃ q, f = q + 1 := ⟨f - 1, by omega⟩
      obtain ⟨w1, w2, w3, w4⟩ := b4 e (by omega)
      have hcl : (nI e).toNatClampNeg = e := tl_cl2 (by omega)
      rw [b_X5_judge_2, b_X6_judge_2, b2, b3, if_neg (nI_ge (by omega) (by omega)), if_neg (nI_ge (by omega) (by omega)), if_pos (tl_ai (by omega) (by omega)), if_pos (tl_ai (by omega) (by omega)), hcl, w2, w3, n_10, if_pos (tl_ai (by omega) (by omega)), if_pos (tl_ai (by omega) (by omega)), tl_cl2 (by omega), tl_cl2 (by omega), n3.2.2.1 _ w1, n4.2.2.1 _ w1, w4, nI_1]
      by_cases hc : nI (o_pu s (bw e)) = D 80 e
      · rw [if_pos hc, if_pos hc]
        exact ih (e + 1) f (by omega) (by omega)
      · rw [if_neg hc, if_neg hc]
        exact ⟨_, rfl, rfl⟩
  obtain ⟨r, k1, k2⟩ := key n 0 am_N (by omega) (by show n < 100000; omega)
  exact ⟨r, D, D, k1, k2, h0⟩
