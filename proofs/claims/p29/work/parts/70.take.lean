/-! the reference takes what it read -/
theorem r_56 : ∀ (m j k : Nat) (D : am_M), j + m = 138 → m < k → (∀ i, i < j → D 62 i = 0) → ∃ D', b_X6_takeRead_56 k (nI j) D = b_X6_takeRead_78 am_N 0 D' ∧ (∀ i, i < 138 → D' 62 i = 0) ∧ ∀ a, a ≠ 62 → D' a = D a := by
  intro m
  induction m with
  | zero =>
    intro j k D hm hk h
    obtain ⟨k, rfl⟩ : ∃ q, k = q + 1 := ⟨k - 1, by omega⟩
    have : j = 138 := by omega
    subst this
    exact ⟨D, by rw [b_X6_takeRead_56, if_pos (show (138 : Int32) ≤ nI 138 by decide)], h, fun _ _ => rfl⟩
  | succ m ih =>
    intro j k D hm hk h
    obtain ⟨k, rfl⟩ : ∃ q, k = q + 1 := ⟨k - 1, by omega⟩
    obtain ⟨D', i1, i2, i3⟩ := ih (j + 1) k (am_up D 62 j 0) (by omega) (by omega) (fun i hi => by
      rw [tl_upi2]
      by_cases e : i = j
      · rw [if_pos e]
      · rw [if_neg e]; exact h i (by omega))
    exact ⟨D', by rw [b_X6_takeRead_56, if_neg (show ¬ (138 : Int32) ≤ nI j from nI_ge (b := 138) (by omega) (by omega)), if_pos (tl_ai (by omega) (by omega)), tl_cl2 (by omega), nI_1]; exact i1, i2, fun a ha => by rw [i3 a ha, tl_upo2 ha]⟩
theorem r_78 {P : Nat} (hP : P ≤ 5) : ∀ (m p k : Nat) (D : am_M), p + m = P → m < k → D 56 3 = nI P → ∃ D', b_X6_takeRead_78 k (nI p) D = b_X6_takeRead_133 am_N 0 D' ∧ (∀ i, p ≤ i → i < P → D' 62 i = D 65 i ∧ D' 62 (10 + i) = D 66 i ∧ D' 57 i = D 68 i) ∧ (∀ i, (i < p ∨ P ≤ i) → (i < 10 + p ∨ 10 + P ≤ i) → D' 62 i = D 62 i) ∧ (∀ i, i < p ∨ P ≤ i → D' 57 i = D 57 i) ∧ ∀ a, a ≠ 62 → a ≠ 57 → D' a = D a := by
  intro m
  induction m with
  | zero =>
    intro p k D hm hk h3
    obtain ⟨k, rfl⟩ : ∃ q, k = q + 1 := ⟨k - 1, by omega⟩
    exact ⟨D, by rw [b_X6_takeRead_78, h3, if_pos (nI_le (by omega) (by omega))], fun i i1 i2 => absurd i2 (by omega), fun _ _ _ => rfl, fun _ _ => rfl, fun _ _ _ => rfl⟩
  | succ m ih =>
    intro p k D hm hk h3
    obtain ⟨k, rfl⟩ : ∃ q, k = q + 1 := ⟨k - 1, by omega⟩
    have e : b_X6_takeRead_78 (k + 1) (nI p) D = b_X6_takeRead_78 k (nI (p + 1)) (am_up (am_up (am_up D 62 p (D 65 p)) 62 (10 + p) (D 66 p)) 57 p (D 68 p)) := by
      rw [b_X6_takeRead_78, h3, if_neg (nI_ge (by omega) (by omega)), if_pos (tl_ai (by omega) (by omega)), if_pos (tl_ai (by omega) (by omega)), n_10, if_pos (tl_ai (by omega) (by omega)), tl_cl2 (by omega), tl_cl2 (by omega), b_X6_takeRead_125, nI_1, tl_upo2 (show (66 : Nat) ≠ 62 by decide), tl_upo2 (show (68 : Nat) ≠ 62 by decide), tl_upo2 (show (68 : Nat) ≠ 62 by decide)]
    rw [e]
    generalize hU : am_up (am_up (am_up D 62 p (D 65 p)) 62 (10 + p) (D 66 p)) 57 p (D 68 p) = U
    have u62 : ∀ i, U 62 i = if i = 10 + p then D 66 p else if i = p then D 65 p else D 62 i := fun i => by rw [← hU, tl_upo2 (by decide), tl_upi2, tl_upi2]
    have u57 : ∀ i, U 57 i = if i = p then D 68 p else D 57 i := fun i => by rw [← hU, tl_upi2, tl_upo2 (by decide), tl_upo2 (by decide)]
    have uo : ∀ a, a ≠ 62 → a ≠ 57 → U a = D a := fun a x1 x2 => by rw [← hU, tl_upo2 x2, tl_upo2 x1, tl_upo2 x1]
    obtain ⟨D', i1, i2, i3, i4, i5⟩ := ih (p + 1) k U (by omega) (by omega) (by rw [uo 56 (by decide) (by decide)]; exact h3)
    refine ⟨D', i1, fun i x1 x2 => ?_, fun i x1 x2 => ?_, fun i x1 => ?_, fun a x1 x2 => by rw [i5 a x1 x2, uo a x1 x2]⟩
    · by_cases e : i = p
      · subst e
        rw [i3 i (by omega) (by omega), u62, if_neg (by omega), if_pos rfl, i3 (10 + i) (by omega) (by omega), u62, if_pos rfl, i4 i (by omega), u57, if_pos rfl]
        exact ⟨rfl, rfl, rfl⟩
      · have := i2 i (by omega) x2
        rw [uo 65 (by decide) (by decide), uo 66 (by decide) (by decide), uo 68 (by decide) (by decide)] at this
        exact this
    · rw [i3 i (by omega) (by omega), u62, if_neg (by omega), if_neg (by omega)]
    · rw [i4 i (by omega), u57, if_neg (by omega)]
theorem r_133 {P : Nat} (hP : P ≤ 5) : ∀ (m j k : Nat) (D : am_M), j + m = 24 * P → m < k → D 56 3 = nI P → ∃ D', b_X6_takeRead_133 k (nI j) D = b_X6_takeRead_167 am_N 0 D' ∧ (∀ i, j ≤ i → i < 24 * P → D' 62 (15 + i) = D 67 i) ∧ (∀ i, i < 15 + j ∨ 15 + 24 * P ≤ i → D' 62 i = D 62 i) ∧ ∀ a, a ≠ 62 → D' a = D a := by
  intro m
  induction m with
  | zero =>
    intro j k D hm hk h3
    obtain ⟨k, rfl⟩ : ∃ q, k = q + 1 := ⟨k - 1, by omega⟩
    exact ⟨D, by rw [b_X6_takeRead_133, h3, show (24 : Int32) * nI P = nI (24 * P) from pk_mul 24 P, if_pos (nI_le (by omega) (by omega))], fun i i1 i2 => absurd i2 (by omega), fun _ _ => rfl, fun _ _ => rfl⟩
  | succ m ih =>
    intro j k D hm hk h3
    obtain ⟨k, rfl⟩ : ∃ q, k = q + 1 := ⟨k - 1, by omega⟩
    obtain ⟨D', i1, i2, i3, i4⟩ := ih (j + 1) k (am_up D 62 (15 + j) (D 67 j)) (by omega) (by omega) (by rw [tl_upo2 (by decide)]; exact h3)
    refine ⟨D', ?_, fun i x1 x2 => ?_, fun i x1 => ?_, fun a ha => by rw [i4 a ha, tl_upo2 ha]⟩
    · rw [b_X6_takeRead_133, h3, show (24 : Int32) * nI P = nI (24 * P) from pk_mul 24 P, if_neg (nI_ge (by omega) (by omega)), if_pos (tl_ai (by omega) (by omega)), show (15 : Int32) + nI j = nI (15 + j) from nI_add 15 j, if_pos (tl_ai (by omega) (by omega)), tl_cl2 (by omega), tl_cl2 (by omega), nI_1]
      exact i1
    · by_cases e : i = j
      · rw [i3 (15 + i) (by omega), tl_upi2, if_pos (by omega), e]
      · rw [i2 i (by omega) x2, tl_upo2 (by decide)]
    · rw [i3 i (by omega), tl_upi2, if_neg (by omega)]
theorem r_167 {N : Nat} (hN : N ≤ 4) : ∀ (m c k : Nat) (D : am_M), c + m = N → m < k → D 56 5 = nI N → ∃ D', b_X6_takeRead_167 k (nI c) D = b_X6_takeRead_195 am_N 0 D' ∧ (∀ i, c ≤ i → i < N → D' 58 i = D 69 i) ∧ (∀ i, i < c ∨ N ≤ i → D' 58 i = D 58 i) ∧ ∀ a, a ≠ 58 → D' a = D a := by
  intro m
  induction m with
  | zero =>
    intro c k D hm hk h3
    obtain ⟨k, rfl⟩ : ∃ q, k = q + 1 := ⟨k - 1, by omega⟩
    exact ⟨D, by rw [b_X6_takeRead_167, h3, if_pos (nI_le (by omega) (by omega))], fun i i1 i2 => absurd i2 (by omega), fun _ _ => rfl, fun _ _ => rfl⟩
  | succ m ih =>
    intro c k D hm hk h3
    obtain ⟨k, rfl⟩ : ∃ q, k = q + 1 := ⟨k - 1, by omega⟩
    obtain ⟨D', i1, i2, i3, i4⟩ := ih (c + 1) k (am_up D 58 c (D 69 c)) (by omega) (by omega) (by rw [tl_upo2 (by decide)]; exact h3)
    refine ⟨D', ?_, fun i x1 x2 => ?_, fun i x1 => ?_, fun a ha => by rw [i4 a ha, tl_upo2 ha]⟩
    · rw [b_X6_takeRead_167, h3, if_neg (nI_ge (by omega) (by omega)), if_pos (tl_ai (by omega) (by omega)), tl_cl2 (by omega), nI_1]
      exact i1
    · by_cases e : i = c
      · rw [i3 i (by omega), tl_upi2, if_pos e, e]
      · rw [i2 i (by omega) x2, tl_upo2 (by decide)]
    · rw [i3 i (by omega), tl_upi2, if_neg (by omega)]
theorem r_195 {N : Nat} (hN : N ≤ 8) : ∀ (m c k : Nat) (D : am_M), c + m = N → m < k → D 56 7 = nI N → ∃ D', b_X6_takeRead_195 k (nI c) D = some D' ∧ (∀ i, c ≤ i → i < N → D' 59 i = D 70 i ∧ D' 60 i = D 71 i ∧ D' 61 i = D 72 i) ∧ (∀ i, i < c ∨ N ≤ i → D' 59 i = D 59 i ∧ D' 60 i = D 60 i ∧ D' 61 i = D 61 i) ∧ ∀ a, a ≠ 59 → a ≠ 60 → a ≠ 61 → D' a = D a := by
  intro m
  induction m with
  | zero =>
    intro c k D hm hk h3
    obtain ⟨k, rfl⟩ : ∃ q, k = q + 1 := ⟨k - 1, by omega⟩
    exact ⟨D, by rw [b_X6_takeRead_195, h3, if_pos (nI_le (by omega) (by omega))], fun i i1 i2 => absurd i2 (by omega), fun _ _ => ⟨rfl, rfl, rfl⟩, fun _ _ _ _ => rfl⟩
  | succ m ih =>
    intro c k D hm hk h3
    obtain ⟨k, rfl⟩ : ∃ q, k = q + 1 := ⟨k - 1, by omega⟩
    have e : b_X6_takeRead_195 (k + 1) (nI c) D = b_X6_takeRead_195 k (nI (c + 1)) (am_up (am_up (am_up D 59 c (D 70 c)) 60 c (D 71 c)) 61 c (D 72 c)) := by
      rw [b_X6_takeRead_195, h3, if_neg (nI_ge (by omega) (by omega)), if_pos (tl_ai (by omega) (by omega)), tl_cl2 (by omega), b_X6_takeRead_239, nI_1, tl_upo2 (show (71 : Nat) ≠ 59 by decide), tl_upo2 (show (72 : Nat) ≠ 60 by decide), tl_upo2 (show (72 : Nat) ≠ 59 by decide)]
    rw [e]
    generalize hU : am_up (am_up (am_up D 59 c (D 70 c)) 60 c (D 71 c)) 61 c (D 72 c) = U
    have u9 : ∀ i, U 59 i = if i = c then D 70 c else D 59 i := fun i => by rw [← hU, tl_upo2 (by decide), tl_upo2 (by decide), tl_upi2]
    have u0 : ∀ i, U 60 i = if i = c then D 71 c else D 60 i := fun i => by rw [← hU, tl_upo2 (by decide), tl_upi2, tl_upo2 (by decide)]
    have u1 : ∀ i, U 61 i = if i = c then D 72 c else D 61 i := fun i => by rw [← hU, tl_upi2, tl_upo2 (by decide), tl_upo2 (by decide)]
    have uo : ∀ a, a ≠ 59 → a ≠ 60 → a ≠ 61 → U a = D a := fun a x1 x2 x3 => by rw [← hU, tl_upo2 x3, tl_upo2 x2, tl_upo2 x1]
    obtain ⟨D', i1, i2, i3, i4⟩ := ih (c + 1) k U (by omega) (by omega) (by rw [uo 56 (by decide) (by decide) (by decide)]; exact h3)
    refine ⟨D', i1, fun i x1 x2 => ?_, fun i x1 => ?_, fun a x1 x2 x3 => by rw [i4 a x1 x2 x3, uo a x1 x2 x3]⟩
    · by_cases e : i = c
      · obtain ⟨z1, z2, z3⟩ := i3 i (by omega)
        rw [z1, z2, z3, u9, u0, u1, if_pos e, if_pos e, if_pos e, e]
        exact ⟨rfl, rfl, rfl⟩
      · have := i2 i (by omega) x2
        rw [uo 70 (by decide) (by decide) (by decide), uo 71 (by decide) (by decide) (by decide), uo 72 (by decide) (by decide) (by decide)] at this
        exact this
    · obtain ⟨z1, z2, z3⟩ := i3 i (by omega)
      rw [z1, z2, z3, u9, u0, u1, if_neg (by omega), if_neg (by omega), if_neg (by omega)]
      exact ⟨rfl, rfl, rfl⟩
theorem r_read {t : To} {ti pu ro : Nat → Nat} {yt se : Nat} {E : am_M} (hB : PB t ti pu ro yt) (hM : PM t ti pu ro yt E) (hse : E 56 12 = nI se) : ∃ E', f_X6_takeRead E = some E' ∧ mTo t E' ∧ mMo (q_pe t) (ti, fun _ => 0, pu, ro, 0, 0, 0, se) E' ∧ (∀ a, a < 56 ∨ 62 < a → E' a = E a) ∧ ∀ k, 7 < k → E' 56 k = E 56 k := by
  obtain ⟨⟨z1, z2, z3, z4, z5, z6, z7, z8, z9, z10⟩, -⟩ := hB
  obtain ⟨y1, y2, y3, y4, y5, y6, y7, y8, y9, y10, y11, y12, y13⟩ := hM
  rw [f_X6_takeRead, b_X6_takeRead_38]
  generalize hU : am_up (am_up (am_up (am_up (am_up (am_up E 56 0 (E 64 0)) 56 1 _) 56 2 _) 56 3 _) 56 5 _) 56 7 _ = U
  have hU' : am_up (am_up (am_up (am_up (am_up (am_up E 56 0 (nI (q_be t))) 56 1 (nI (q_de t))) 56 2 (nI (q_ga t))) 56 3 (nI (q_pe t))) 56 5 (nI (q_cn t))) 56 7 (nI (q_dn t)) = U := by
    rw [← hU]
    simp only [tl_upo2 (show (64 : Nat) ≠ 56 by decide), tl_upi2]
    simp [y1, y2, y3, y4, y5, y6]
  clear hU
  have u56 : ∀ i, U 56 i = if i = 7 then nI (q_dn t) else if i = 5 then nI (q_cn t) else if i = 3 then nI (q_pe t) else if i = 2 then nI (q_ga t) else if i = 1 then nI (q_de t) else if i = 0 then nI (q_be t) else E 56 i := fun i => by rw [← hU']; simp only [tl_upi2]
  have uo : ∀ a, a ≠ 56 → U a = E a := fun a ha => by rw [← hU']; simp only [tl_upo2 ha]
  obtain ⟨A, a1, a2, a3⟩ := r_56 138 0 am_N U rfl (by decide) (fun i hi => absurd hi (by omega))
  obtain ⟨B, b1, b2, b3, b4, b5⟩ := r_78 z4 (q_pe t) 0 am_N A (by omega) (by show _ < 100000; omega) (by rw [a3 56 (by decide), u56]; rfl)
  obtain ⟨C, c1, c2, c3, c4⟩ := r_133 z4 (24 * q_pe t) 0 am_N B (by omega) (by show _ < 100000; omega) (by rw [b5 56 (by decide) (by decide), a3 56 (by decide), u56]; rfl)
  have C56 : C 56 = U 56 := by rw [c4 56 (by decide), b5 56 (by decide) (by decide), a3 56 (by decide)]
  obtain ⟨F, f1, f2, f3, f4⟩ := r_167 z5 (q_cn t) 0 am_N C (by omega) (by show _ < 100000; omega) (by rw [C56, u56]; rfl)
  obtain ⟨G, g1, g2, g3, g4⟩ := r_195 z6 (q_dn t) 0 am_N F (by omega) (by show _ < 100000; omega) (by rw [f4 56 (by decide), C56, u56]; rfl)
  have G56 : G 56 = U 56 := by rw [g4 56 (by decide) (by decide) (by decide), f4 56 (by decide), C56]
  have G62 : G 62 = C 62 := by rw [g4 62 (by decide) (by decide) (by decide), f4 62 (by decide)]
  have low : ∀ i, i < 15 → C 62 i = B 62 i := fun i hi => c3 i (by omega)
  refine ⟨G, ?_, ⟨by rw [G56, u56]; rfl, by rw [G56, u56]; rfl, by rw [G56, u56]; rfl, by rw [G56, u56]; rfl, by rw [G56, u56]; rfl, by rw [G56, u56]; rfl, fun c hc => ?_, fun d hd => ?_, fun p hp => ?_⟩, ⟨fun p hp => ?_, fun p hp => ?_, fun p hp => ?_, fun k hk => ?_, ?_, ?_, ?_, by rw [G56, u56]; exact hse⟩, fun a ha => ?_, fun k hk => ?_⟩
  · show b_X6_takeRead_56 am_N (nI 0) U = _
    rw [a1]
    show b_X6_takeRead_78 am_N (nI 0) A = _
    rw [b1]
    show b_X6_takeRead_133 am_N (nI 0) B = _
    rw [c1]
    show b_X6_takeRead_167 am_N (nI 0) C = _
    rw [f1]
    exact g1
  · rw [g4 58 (by decide) (by decide) (by decide), f2 c (by omega) hc, c4 69 (by decide), b5 69 (by decide) (by decide), a3 69 (by decide), uo 69 (by decide)]; exact y8 c hc
  · obtain ⟨x1, x2, x3⟩ := g2 d (by omega) hd
    have e : ∀ a, 70 ≤ a → a ≤ 72 → F a = E a := fun a x1 x2 => by rw [f4 a (by omega), c4 a (by omega), b5 a (by omega) (by omega), a3 a (by omega), uo a (by omega)]
    rw [x1, x2, x3, e 70 (by decide) (by decide), e 71 (by decide) (by decide), e 72 (by decide) (by decide)]
    exact y9 d hd
  · rw [g4 57 (by decide) (by decide) (by decide), f4 57 (by decide), c4 57 (by decide), (b2 p (by omega) hp).2.2, a3 68 (by decide), uo 68 (by decide)]; exact y10 p hp
  · rw [G62, low p (by omega), (b2 p (by omega) hp).1, a3 65 (by decide), uo 65 (by decide)]; exact y11 p hp
  · rw [G62, low (5 + p) (by omega), b3 (5 + p) (by omega) (by omega), a2 (5 + p) (by omega)]; rfl
  · rw [G62, low (10 + p) (by omega), (b2 p (by omega) hp).2.1, a3 66 (by decide), uo 66 (by decide)]; exact y12 p hp
  · rw [G62, c2 k (by omega) hk, b5 67 (by decide) (by decide), a3 67 (by decide), uo 67 (by decide)]; exact y13 k hk
  · rw [G62, c3 135 (by omega), b3 135 (by omega) (by omega), a2 135 (by decide)]; rfl
  · rw [G62, c3 136 (by omega), b3 136 (by omega) (by omega), a2 136 (by decide)]; rfl
  · rw [G62, c3 137 (by omega), b3 137 (by omega) (by omega), a2 137 (by decide)]; rfl
  · rw [g4 a (by omega) (by omega) (by omega), f4 a (by omega), c4 a (by omega), b5 a (by omega) (by omega), a3 a (by omega), uo a (by omega)]
  · rw [G56, u56, if_neg (by omega), if_neg (by omega), if_neg (by omega), if_neg (by omega), if_neg (by omega), if_neg (by omega)]
