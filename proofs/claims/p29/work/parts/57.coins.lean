/-! an amount in the fewest coins -/
theorem taken {x : Nat} {f : Nat → Nat} {D E : am_M} {k58 : Int32 → Int32 → Int32 → Int32 → am_M → Option (Int32 × am_M)} {x2 : Int32} (hx : 1 ≤ x) (hx2 : x ≤ 60) (hle : ∀ v, v ≤ 200 → f v ≤ v) (hp : ∀ v, 1 ≤ v → v ≤ 200 → 1 ≤ f v) (hD : ∀ v, v ≤ 200 → D 52 v = nI (f v)) (hE : ∀ v, v ≤ 200 → E 78 v = nI (f v)) (hc : f_X6_isCoin (nI x) E = some (1, E)) : ∀ (l j n n' : Nat), l ≤ 200 → l < n → l < n' → ∃ j' l', b_X0_countTaken_5 n (nI x) (nI l) (nI j) D = some (nI (j + j'), D) ∧ b_X6_coins_67 k58 n' x2 (nI l) (nI j) (nI x) E = k58 x2 (nI l') (nI (j + j')) (nI x + (-1)) E ∧ l' + j' * x = l := by
  intro l
  induction l using Nat.strongRecOn with
  | ind l ih =>
    intro j n n' hl hn hn'
    obtain ⟨n, rfl⟩ : ∃ q, n = q + 1 := ⟨n - 1, by omega⟩
    obtain ⟨n', rfl⟩ : ∃ q, n' = q + 1 := ⟨n' - 1, by omega⟩
    rw [b_X0_countTaken_5, b_X6_coins_67, hc, Option.bind_some]
    show ∃ j' l', _ ∧ (if (1 : Int32) = 0 then _ else if nI l < nI x then _ else if am_in (nI l - nI x) 201 = true then (if am_in (nI l) 201 = true then (if E 78 (nI l - nI x).toNatClampNeg = E 78 (nI l).toNatClampNeg - 1 then b_X6_coins_67 k58 n' x2 (nI l - nI x) (nI j + 1) (nI x) E else k58 x2 (nI l) (nI j) (nI x + (-1)) E) else none) else none) = _ ∧ _
    rw [if_neg (show ¬ (1 : Int32) = 0 by decide)]
    by_cases hlx : l < x
    · rw [if_pos (nI_lt hlx (by omega)), if_pos (nI_lt hlx (by omega))]
      exact ⟨0, l, rfl, rfl, by omega⟩
    · have b1 := hle l hl
      have b2 := hle (l - x) (by omega)
      have b3 := hp l (by omega) hl
      have e1 : nI (f l) - 1 = nI (f l - 1) := pk_sub (b := 1) b3
      rw [if_neg (nI_nlt (by omega) (by omega)), if_neg (nI_nlt (by omega) (by omega)), pk_sub (by omega), if_pos (tl_ai (by omega) (by omega)), if_pos (tl_ai (by omega) (by omega)), if_pos (tl_ai (by omega) (by omega)), if_pos (tl_ai (by omega) (by omega)), tl_cl2 (by omega), tl_cl2 (by omega), hD l hl, hD (l - x) (by omega), hE l hl, hE (l - x) (by omega), e1, nI_1, nI_1]
      by_cases he : f (l - x) + 1 = f l
      · rw [if_pos (by rw [he]), if_pos (by rw [show f (l - x) = f l - 1 by omega])]
        obtain ⟨j', l', i1, i2, i3⟩ := ih (l - x) (by omega) (j + 1) n n' (by omega) (by omega) (by omega)
        exact ⟨j' + 1, l', by rw [i1, show j + 1 + j' = j + (j' + 1) by omega], by rw [i2, show j + 1 + j' = j + (j' + 1) by omega], by rw [Nat.succ_mul]; omega⟩
      · rw [if_neg (fun q => he ((nI_eq (by omega) (by omega)).mp q)), if_neg (fun q => he (by have := (nI_eq (by omega) (by omega)).mp q; omega))]
        exact ⟨0, l, rfl, rfl, by omega⟩
theorem counts {t : To} {w : Nat} {f : Nat → Nat} {D E : am_M} (ht : bTo t) (hw : 1 ≤ w) (hw2 : w ≤ 60) (hle : ∀ v, v ≤ 200 → f v ≤ v) (hp : ∀ v, 1 ≤ v → v ≤ 200 → 1 ≤ f v) (hk : ∀ w, 1 ≤ w → w ≤ 60 → ((isC t w → D 51 w = 1) ∧ (¬ isC t w → D 51 w = 0))) (hD : ∀ v, v ≤ 200 → D 52 v = nI (f v)) (hE : ∀ v, v ≤ 200 → E 78 v = nI (f v)) (h5 : E 56 5 = nI (q_cn t)) (h58 : ∀ c, c < q_cn t → E 58 c = nI (q_co t c)) : ∀ (m x l j n n' : Nat), x + 1 = w + m → x ≤ 60 → l ≤ 200 → m < n → m < n' → (m = 0 → ¬ isC t w → j = 0) → ∃ r, b_X0_countOf_30 n (nI w) (nI l) (nI j) (nI x) D = some (nI r, D) ∧ b_X6_coins_58 n' (nI w) (nI l) (nI j) (nI x) E = some (nI r, E) ∧ (¬ isC t w → r = 0) := by
  intro m
  induction m with
  | zero =>
    intro x l j n n' hm hx hl hn hn' hj
    obtain ⟨n, rfl⟩ : ∃ q, n = q + 1 := ⟨n - 1, by omega⟩
    obtain ⟨n', rfl⟩ : ∃ q, n' = q + 1 := ⟨n' - 1, by omega⟩
    exact ⟨j, by rw [b_X0_countOf_30, if_pos (nI_lt (by omega) (by omega))], by rw [b_X6_coins_58, if_pos (nI_lt (by omega) (by omega))], hj rfl⟩
  | succ m ih =>
    intro x l j n n' hm hx hl hn hn' hj
    obtain ⟨n, rfl⟩ : ∃ q, n = q + 1 := ⟨n - 1, by omega⟩
    obtain ⟨n', rfl⟩ : ∃ q, n' = q + 1 := ⟨n' - 1, by omega⟩
    have em : nI x + (-1) = nI (x - 1) := by
      obtain ⟨y, rfl⟩ : ∃ y, x = y + 1 := ⟨x - 1, by omega⟩
      rw [pk_m1, Nat.add_sub_cancel]
    obtain ⟨r0, z1, z2, z3⟩ := m_isC (w := x) ht hx h5 h58
    rw [b_X0_countOf_30, b_X6_coins_58, if_neg (nI_nlt (by omega) (by omega)), if_neg (nI_nlt (by omega) (by omega)), if_pos (tl_ai (by omega) (by omega)), tl_cl2 (by omega)]
    by_cases hc : isC t x
    · rw [(hk x (by omega) hx).1 hc, if_neg (show ¬ (1 : Int32) = 0 by decide)]
      rw [z2 hc] at z1
      obtain ⟨j', l', t1, t2, t3⟩ := taken (k58 := b_X6_coins_58 n') (x2 := nI w) (by omega) hx hle hp hD hE z1 l 0 am_N am_N hl (by show l < 100000; omega) (by show l < 100000; omega)
      have t1' : f_X0_countTaken (nI x) (nI l) D = some (nI j', D) := by
        rw [Nat.zero_add] at t1
        exact t1
      have t2' : b_X6_coins_67 (b_X6_coins_58 n') am_N (nI w) (nI l) 0 (nI x) E = b_X6_coins_58 n' (nI w) (nI l') (nI j') (nI x + (-1)) E := by
        rw [Nat.zero_add] at t2
        exact t2
      obtain ⟨r, r1, r2, r3⟩ := ih (x - 1) l' j' n n' (by omega) (by omega) (by omega) (by omega) (by omega) (fun h0 h1 => absurd (show isC t w by rw [show w = x by omega]; exact hc) h1)
      refine ⟨r, ?_, by rw [t2', em]; exact r2, r3⟩
      rw [t1', Option.bind_some, b_X0_countOf_57]
      show b_X0_countOf_30 n (nI w) (nI l - nI j' * nI x) (nI j') (nI x + (-1)) D = _
      rw [pk_mul, pk_sub (by omega), em, show l - j' * x = l' by omega]
      exact r1
    · rw [(hk x (by omega) hx).2 hc, if_pos rfl, b_X0_countOf_57]
      rw [z3 hc] at z1
      obtain ⟨r, r1, r2, r3⟩ := ih (x - 1) l 0 n n' (by omega) (by omega) hl (by omega) (by omega) (fun _ _ => rfl)
      refine ⟨r, ?_, ?_, r3⟩
      · rw [show nI l - 0 * nI x = nI l from by simp, em]
        exact r1
      · rw [tl_N, b_X6_coins_67, z1, Option.bind_some, if_pos (show (0 : Int32) = 0 from rfl), em]
        exact r2
theorem so_coins {k tw : Nat} {tp : Bool} {D : am_M} (h : Sim k tw tp D) (a b : Int32) : ∃ (r : Int32) (D1 D2 : am_M), f_X5_coins tw a b D = some (r, D1) ∧ f_X6_coins a b D1 = some (r, D2) ∧ Sim (k + 1) tw tp D2 := by
  have h0 := h
  obtain ⟨t, s, q⟩ := h
  have q3 := q.2.2.1
  have q4 := q.2.2.2.1
  have ht := q.2.1
  obtain ⟨l1, l2⟩ := lyT_le q.1
  by_cases hw : f_X5_isWithin a 0 200 = 0
  · exact ⟨_, D, D, by rw [f_X5_coins, if_pos hw], by rw [f_X6_coins, in_6 a 0 200 0 200 rfl rfl, if_pos hw], h0⟩
  obtain ⟨v, -, hv, rfl⟩ := tl_w1n (a := 0) (b := 200) (by decide) hw (by decide)
  obtain ⟨D1, p1, p2, p3, p4⟩ := c_prep l2 ht q3 q.2.2.2.2.2.2.2.2.2.2
  obtain ⟨D2, g, g1, g2, g3, g4⟩ := m_ff (w := 1) (D := D1) ht (by decide) (by decide) (by rw [p4 56 (by decide)]; exact q4.2.2.2.2.1) (fun c hc => by rw [p4 58 (by decide)]; exact q4.2.2.2.2.2.2.1 c hc)
  have g1' : f_X6_findFewest 1 D1 = some D2 := g1
  have g2' : FW (isC t) 200 g := FW_s g2 (fun c => ⟨fun h => h.elim id (fun e => Or.inl e), fun h => Or.inl h⟩)
  have hk : Tok t D1 := by
    rcases p2.1 with x | x
    · rw [p3] at x; exact absurd x (by decide)
    · exact x.2
  obtain ⟨k1, f, k2, k3⟩ := hk
  have k3' : ∀ v, v ≤ 200 → D1 52 v = nI (g v) := fun v hv => by rw [k3 v hv, FW_u k2 g2' v hv]
  have hS : Sim (k + 1) tw tp D2 := ⟨t, s, Si_t q (fun a a1 a2 => by rw [g4 a a2, p4 a a1]) (Tb_f (fun a _ _ => g4 a (by omega)) p2)⟩
  by_cases hm : b = (-1)
  · subst hm
    refine ⟨nI (g v), D1, D2, ?_, ?_, hS⟩
    · rw [f_X5_coins, if_neg hw, if_pos rfl, b_X5_coins_32, p1, Option.bind_some, if_pos rfl, if_pos (tl_ai (by omega) (by omega)), tl_cl2 (by omega), k3' v hv]
    · rw [f_X6_coins, in_6 _ 0 200 0 200 rfl rfl, if_neg hw, if_pos rfl, b_X6_coins_32, g1', Option.bind_some, if_pos rfl, if_pos (tl_ai (by omega) (by omega)), tl_cl2 (by omega), g3 v hv]
  by_cases hw2 : f_X5_isWithin b 1 60 = 0
  · exact ⟨_, D, D, by rw [f_X5_coins, if_neg hw, if_neg hm, if_pos hw2], by rw [f_X6_coins, in_6 _ 0 200 0 200 rfl rfl, if_neg hw, if_neg hm, in_6 b 1 60 1 60 rfl rfl, if_pos hw2], h0⟩
  obtain ⟨w, w1, w60, rfl⟩ := tl_w1n (a := 1) (b := 60) (by decide) hw2 (by decide)
  obtain ⟨r, r1, r2, r3⟩ := counts (D := D1) (E := D2) ht w1 w60 (FW_le g2' (Or.inl rfl)) (fun v v1 v2 => FW_p g2' v1 v2) k1 k3' g3 (by rw [g4 56 (by decide), p4 56 (by decide)]; exact q4.2.2.2.2.1) (fun c hc => by rw [g4 58 (by decide), p4 58 (by decide)]; exact q4.2.2.2.2.2.2.1 c hc) (61 - w) 60 v 0 am_N am_N (by omega) (by decide) hv (by show _ < 100000; omega) (by show _ < 100000; omega) (fun _ _ => rfl)
  refine ⟨nI r, D1, D2, ?_, ?_, hS⟩
  · have e : f_X0_countOf (nI w) (nI v) D1 = some (nI r, D1) := by
      rw [f_X0_countOf, if_neg hw2, if_pos (tl_ai (by omega) (by omega)), tl_cl2 (by omega)]
      by_cases hc : isC t w
      · rw [(k1 w w1 w60).1 hc, if_neg (by decide)]
        exact r1
      · rw [(k1 w w1 w60).2 hc, if_pos rfl, r3 hc]; rfl
    rw [f_X5_coins, if_neg hw, if_neg hm, if_neg hw2, b_X5_coins_32, p1, Option.bind_some, if_neg hm, e]
    rfl
  · rw [f_X6_coins, in_6 _ 0 200 0 200 rfl rfl, if_neg hw, if_neg hm, in_6 _ 1 60 1 60 rfl rfl, if_neg hw2, b_X6_coins_32, g1', Option.bind_some, if_neg hm]
    exact r2
