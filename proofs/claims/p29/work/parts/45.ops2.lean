/-! calls that change the moment a little -/
theorem so_ite {c : Prop} [Decidable c] {x y : Int32} {D : am_M} : some ((if c then x else y), D) = if c then some (x, D) else some (y, D) := by split <;> rfl
def aS (f : Nat → Nat) : Nat → Nat
  | 0 => 0
  | p + 1 => if 0 < f p then aS f p ||| 2 ^ p else aS f p
theorem c_slp {P : Nat} {f : Nat → Nat} {D : am_M} (hP : P ≤ 5) (hb : ∀ p, p < P → f p < 2 ^ 31) (h : ∀ p, p < P → D 27 p = nI (f p)) : ∀ (m p n : Nat), p + m = P → m < n → b_X2_sleepers_4 25 n (nI P) (nI (aS f p)) (nI p) D = some (nI (aS f P), D) := by
  intro m
  induction m with
  | zero =>
    intro p n hm hn
    obtain ⟨n, rfl⟩ : ∃ q, n = q + 1 := ⟨n - 1, by omega⟩
    have : p = P := by omega
    subst this
    rw [b_X2_sleepers_4, if_pos (nI_le (Nat.le_refl _) (by omega))]
  | succ m ih =>
    intro p n hm hn
    obtain ⟨n, rfl⟩ : ∃ q, n = q + 1 := ⟨n - 1, by omega⟩
    rw [b_X2_sleepers_4, if_neg (nI_ge (by omega) (by omega)), if_pos (tl_ai (by omega) (by omega)), tl_cl2 (by omega), h p (by omega), nI_1, n_shl p (by omega), n_or, ← ih (p + 1) n (by omega) (by omega), aS]
    by_cases hs : 0 < f p
    · rw [if_pos hs, if_neg (show ¬ nI (f p) ≤ (0 : Int32) from nI_nle hs (hb p (by omega)))]
    · rw [if_neg hs, if_pos (show nI (f p) ≤ (0 : Int32) from nI_le (b := 0) (by omega) (by omega))]
theorem m_slp {P : Nat} {f : Nat → Nat} {D : am_M} (hP : P ≤ 5) (h3 : D 56 3 = nI P) (hb : ∀ p, p < P → f p < 2 ^ 31) (h : ∀ p, p < P → D 62 (5 + p) = nI (f p)) : ∀ (m p n : Nat), p + m = P → m < n → b_X6_asleep_4 n (nI (aS f p)) (nI p) D = some (nI (aS f P), D) := by
  intro m
  induction m with
  | zero =>
    intro p n hm hn
    obtain ⟨n, rfl⟩ : ∃ q, n = q + 1 := ⟨n - 1, by omega⟩
    have : p = P := by omega
    subst this
    rw [b_X6_asleep_4, h3, if_pos (nI_le (Nat.le_refl _) (by omega))]
  | succ m ih =>
    intro p n hm hn
    obtain ⟨n, rfl⟩ : ∃ q, n = q + 1 := ⟨n - 1, by omega⟩
    rw [b_X6_asleep_4, h3, if_neg (nI_ge (by omega) (by omega)), n_5, if_pos (tl_ai (by omega) (by omega)), tl_cl2 (by omega), h p (by omega), nI_1, n_shl p (by omega), n_or, ← ih (p + 1) n (by omega) (by omega), aS]
    by_cases hs : 0 < f p
    · rw [if_pos hs, if_neg (show ¬ nI (f p) ≤ (0 : Int32) from nI_nle hs (hb p (by omega)))]
    · rw [if_neg hs, if_pos (show nI (f p) ≤ (0 : Int32) from nI_le (b := 0) (by omega) (by omega)), show nI (aS f p) ||| 0 = nI (aS f p) from by rw [show (0 : Int32) = nI 0 from rfl, n_or, Nat.or_zero]]
theorem so_told {k tw : Nat} {tp : Bool} {D : am_M} (h : Sim k tw tp D) (a : Int32) : ∃ (r : Int32) (D1 D2 : am_M), f_X5_told tw a D = some (r, D1) ∧ f_X6_told a D1 = some (r, D2) ∧ Sim (k + 1) tw tp D2 := by
  have h0 := h
  obtain ⟨t, s, q1, q2, q3, q4, ⟨nb, nh, n3, n4⟩, ⟨-, n, tx, -, r2, r3, -⟩, -, ⟨bn, bw, -, b2, b3, -⟩, -⟩ := h
  have hP := q2.2.2.2.1
  have hb : ∀ p, p < q_pe t → o_sl s p < 2 ^ 31 := fun p hp => by have := nb.2.1 p hp; omega
  have e1 : f_X2_sleepers 25 (nI (q_pe t)) D = some (nI (aS (o_sl s) (q_pe t)), D) := c_slp hP hb n3.2.1 (q_pe t) 0 am_N (by omega) (by show _ < 100000; omega)
  have e2 : f_X6_asleep D = some (nI (aS (o_sl s) (q_pe t)), D) := m_slp hP q4.2.2.2.1 hb n4.2.1 (q_pe t) 0 am_N (by omega) (by show _ < 100000; omega)
  obtain ⟨c0, c1, c2, c3, c4, c5, -⟩ := q3
  obtain ⟨m0, m1, m2, m3, m4, m5, -⟩ := q4
  refine ⟨if a = 0 then nI (q_be t) else if a = 1 then nI (q_de t) else if a = 2 then nI (q_ga t) else if a = 3 then nI (q_pe t) else if a = 4 then nI (q_cn t) else if a = 5 then nI (q_dn t) else if a = 6 then nI n else if a = 7 then nI (o_hr s) else if a = 8 then nI (o_pa s) else if a = 9 then nI (o_mi s) else if a = 10 then nI (aS (o_sl s) (q_pe t)) else if a = 11 then nI bn else (-1000000002), D, D, ?_, ?_, h0⟩
  · rw [f_X5_told]
    simp only [c0, c1, c2, c3, c4, c5, r2, b2, n3.2.2.2.2.1, n3.2.2.2.2.2.1, n3.2.2.2.2.2.2.1, e1, Option.bind_some, so_ite]
  · rw [f_X6_told]
    simp only [m0, m1, m2, m3, m4, m5, r3, b3, n4.2.2.2.2.1, n4.2.2.2.2.2.1, n4.2.2.2.2.2.2.1, e2, Option.bind_some, so_ite]
theorem so_seed {k tw : Nat} {tp : Bool} {D : am_M} (h : Sim k tw tp D) (a : Int32) : ∃ (r : Int32) (D1 D2 : am_M), f_X5_seed tw a D = some (r, D1) ∧ f_X6_seed a D1 = some (r, D2) ∧ Sim (k + 1) tw tp D2 := by
  have h0 := h
  obtain ⟨t, s, q⟩ := h
  obtain ⟨nb, nh, n3, n4⟩ := q.2.2.2.2.1
  by_cases ha : 0 ≤ a
  · obtain ⟨j, hj, rfl⟩ := nI_of (Int32.not_lt.mpr ha)
    refine ⟨nI (o_se s), am_up D 25 7 (nI j), am_up (am_up D 25 7 (nI j)) 56 12 (nI j), by rw [f_X5_seed, if_pos ha, n3.2.2.2.2.2.2.2], by rw [f_X6_seed, if_pos ha, tl_upo2 (by decide), n4.2.2.2.2.2.2.2], t, (o_ti s, o_sl s, o_pu s, o_ro s, o_pa s, o_mi s, o_hr s, j), Si_n q (fun a a1 a2 a3 _ => by rw [tl_upo2 a1, tl_upo2 (by omega)]) (fun k hk => by rw [tl_upi2, if_neg hk, tl_upo2 (by decide)]) ⟨?_, nh, ?_, ?_⟩⟩
    · exact ⟨nb.1, nb.2.1, nb.2.2.1, nb.2.2.2.1, nb.2.2.2.2.1, nb.2.2.2.2.2.1, by show j < _; omega⟩
    · obtain ⟨x1, x2, x3, x4, x5, x6, x7, x8⟩ := n3
      refine ⟨fun p hp => ?_, fun p hp => ?_, fun p hp => ?_, fun k hk => ?_, ?_, ?_, ?_, ?_⟩
      · rw [tl_upo2 (by decide), tl_upo2 (by decide)]; exact x1 p hp
      · rw [tl_upo2 (by decide), tl_upo2 (by decide)]; exact x2 p hp
      · rw [tl_upo2 (by decide), tl_upo2 (by decide)]; exact x3 p hp
      · rw [tl_upo2 (by decide), tl_upo2 (by decide)]; exact x4 k hk
      · rw [tl_upo2 (by decide), tl_upi2, if_neg (by decide)]; exact x5
      · rw [tl_upo2 (by decide), tl_upi2, if_neg (by decide)]; exact x6
      · rw [tl_upo2 (by decide), tl_upi2, if_neg (by decide)]; exact x7
      · rw [tl_upo2 (by decide), tl_upi2, if_pos rfl]
    · obtain ⟨x1, x2, x3, x4, x5, x6, x7, x8⟩ := n4
      refine ⟨fun p hp => ?_, fun p hp => ?_, fun p hp => ?_, fun k hk => ?_, ?_, ?_, ?_, ?_⟩
      · rw [tl_upo2 (by decide), tl_upo2 (by decide)]; exact x1 p hp
      · rw [tl_upo2 (by decide), tl_upo2 (by decide)]; exact x2 p hp
      · rw [tl_upo2 (by decide), tl_upo2 (by decide)]; exact x3 p hp
      · rw [tl_upo2 (by decide), tl_upo2 (by decide)]; exact x4 k hk
      · rw [tl_upo2 (by decide), tl_upo2 (by decide)]; exact x5
      · rw [tl_upo2 (by decide), tl_upo2 (by decide)]; exact x6
      · rw [tl_upo2 (by decide), tl_upo2 (by decide)]; exact x7
      · rw [tl_upi2, if_pos rfl]
  · exact ⟨_, D, D, by rw [f_X5_seed, if_neg ha], by rw [f_X6_seed, if_neg ha], h0⟩
theorem so_change {k tw : Nat} {tp : Bool} {D : am_M} (h : Sim k tw tp D) (a b c : Int32) : ∃ (r : Int32) (D1 D2 : am_M), f_X5_change tw a b c D = some (r, D1) ∧ f_X6_change a b c D1 = some (r, D2) ∧ Sim (k + 1) tw tp D2 := by
  have h0 := h
  obtain ⟨t, s, q⟩ := h
  have q3 := q.2.2.1
  have q4 := q.2.2.2.1
  have hP := q.2.1.2.2.2.1
  obtain ⟨nb, nh, n3, n4⟩ := q.2.2.2.2.1
  by_cases hw : f_X5_isWithin a 0 (nI (q_pe t) - 1) = 0
  · exact ⟨_, D, D, by rw [f_X5_change, iP5 q3, if_pos hw], by rw [f_X6_change, iP6 q4, if_pos hw], h0⟩
  · obtain ⟨p, hp, rfl⟩ := m1_w (by omega) hw
    by_cases hw2 : f_X5_isWithin b 0 23 = 0
    · exact ⟨_, D, D, by rw [f_X5_change, iP5 q3, if_neg hw, if_pos hw2], by rw [f_X6_change, iP6 q4, if_neg hw, in_6 b 0 23 0 23 rfl rfl, if_pos hw2], h0⟩
    · obtain ⟨j, -, j2, rfl⟩ := tl_w1n (a := 0) (b := 23) (by decide) hw2 (by decide)
      by_cases hw3 : f_X5_isWithin c 0 2 = 0
      · exact ⟨_, D, D, by rw [f_X5_change, iP5 q3, if_neg hw, if_neg hw2, if_pos hw3], by rw [f_X6_change, iP6 q4, if_neg hw, in_6 _ 0 23 0 23 rfl rfl, if_neg hw2, in_6 c 0 2 0 2 rfl rfl, if_pos hw3], h0⟩
      · obtain ⟨x, -, x2, rfl⟩ := tl_w1n (a := 0) (b := 2) (by decide) hw3 (by decide)
        have hk : 24 * p + j < 24 * q_pe t := by omega
        refine ⟨nI (o_ro s (24 * p + j)), am_up D 29 (24 * p + j) (nI x), am_up (am_up D 29 (24 * p + j) (nI x)) 62 (15 + (24 * p + j)) (nI x), by rw [f_X5_change, iP5 q3, if_neg hw, if_neg hw2, if_neg hw3, n_24, if_pos (tl_ai (by omega) (by omega)), tl_cl2 (by omega), n3.2.2.2.1 _ hk], by rw [f_X6_change, iP6 (mTo_f (fun i _ => by rw [tl_upo2 (by decide)]) (fun a _ _ => tl_upo2 (by omega)) q4), if_neg hw, in_6 _ 0 23 0 23 rfl rfl, if_neg hw2, in_6 _ 0 2 0 2 rfl rfl, if_neg hw3, n_15, if_pos (tl_ai (by omega) (by omega)), tl_cl2 (by omega), tl_upo2 (by decide), n4.2.2.2.1 _ hk], t, (o_ti s, o_sl s, o_pu s, un (o_ro s) (24 * p + j) x, o_pa s, o_mi s, o_hr s, o_se s), Si_n q (fun a a1 a2 a3 _ => by rw [tl_upo2 a2, tl_upo2 (by omega)]) (fun k hk => by rw [tl_upo2 (by decide), tl_upo2 (by decide)]) ⟨?_, nh, ?_, ?_⟩⟩
        · refine ⟨nb.1, nb.2.1, nb.2.2.1, fun k hk => ?_, nb.2.2.2.2⟩
          show un _ _ _ k ≤ 2
          unfold un
          split
          · exact x2
          · exact nb.2.2.2.1 k hk
        · obtain ⟨x1, x2, x3, x4, x5, x6, x7, x8⟩ := n3
          refine ⟨fun p hp => ?_, fun p hp => ?_, fun p hp => ?_, fun k hk => ?_, ?_, ?_, ?_, ?_⟩
          · rw [tl_upo2 (by decide), tl_upo2 (by decide)]; exact x1 p hp
          · rw [tl_upo2 (by decide), tl_upo2 (by decide)]; exact x2 p hp
          · rw [tl_upo2 (by decide), tl_upo2 (by decide)]; exact x3 p hp
          · rw [tl_upo2 (by decide), tl_upi2]
            show _ = nI (un _ _ _ k)
            unfold un
            split
            · rfl
            · exact x4 k hk
          · rw [tl_upo2 (by decide), tl_upo2 (by decide)]; exact x5
          · rw [tl_upo2 (by decide), tl_upo2 (by decide)]; exact x6
          · rw [tl_upo2 (by decide), tl_upo2 (by decide)]; exact x7
          · rw [tl_upo2 (by decide), tl_upo2 (by decide)]; exact x8
        · obtain ⟨x1, x2, x3, x4, x5, x6, x7, x8⟩ := n4
          refine ⟨fun p hp => ?_, fun p hp => ?_, fun p hp => ?_, fun k hk => ?_, ?_, ?_, ?_, ?_⟩
          · rw [tl_upi2, if_neg (by omega), tl_upo2 (by decide)]; exact x1 p hp
          · rw [tl_upi2, if_neg (by omega), tl_upo2 (by decide)]; exact x2 p hp
          · rw [tl_upi2, if_neg (by omega), tl_upo2 (by decide)]; exact x3 p hp
          · rw [tl_upi2, tl_upo2 (by decide)]
            show _ = nI (un _ _ _ k)
            unfold un
            by_cases e : k = 24 * p + j
            · rw [if_pos e, if_pos (by omega)]
            · rw [if_neg e, if_neg (by omega)]; exact x4 k hk
          · rw [tl_upi2, if_neg (by omega), tl_upo2 (by decide)]; exact x5
          · rw [tl_upi2, if_neg (by omega), tl_upo2 (by decide)]; exact x6
          · rw [tl_upi2, if_neg (by omega), tl_upo2 (by decide)]; exact x7
          · rw [tl_upo2 (by decide), tl_upo2 (by decide)]; exact x8
