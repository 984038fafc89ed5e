/-! copies -/
theorem row_o {D : am_M} {a b : Nat} {f : Nat → Int32} (h : b ≠ a) : am_row D a f b = D b := by simp [am_row, h]
theorem row_s {D : am_M} {a : Nat} {f : Nat → Int32} : am_row D a f a = f := by simp [am_row]
theorem cpy_lt {f g : Nat → Int32} {n k : Nat} (h : k < n) : va_cpy f g 0 0 n k = f k := by
  unfold va_cpy
  rw [if_pos ⟨Nat.zero_le _, by omega⟩, Nat.zero_add, Nat.sub_zero]
theorem c_copy {M N : Nat} (hMN : N + 5 ≤ M ∨ M + 5 ≤ N) (D : am_M) : ∃ D', f_X2_copyFrom M N D = some D' ∧ (∀ j, j < 5 → D' (M + 1) j = D (N + 1) j ∧ D' (M + 2) j = D (N + 2) j ∧ D' (M + 3) j = D (N + 3) j) ∧ (∀ j, j < 120 → D' (M + 4) j = D (N + 4) j) ∧ (∀ i, 4 ≤ i → i < 8 → D' M i = D N i) ∧ ∀ a, a < M ∨ M + 5 ≤ a → D' a = D a := by
  rw [f_X2_copyFrom, b_X2_copyFrom_42, b_X2_copyFrom_73]
  refine ⟨_, rfl, fun j hj => ⟨?_, ?_, ?_⟩, fun j hj => ?_, fun i i4 i8 => ?_, fun a ha => ?_⟩
  · rw [tl_upo2 (by omega), tl_upo2 (by omega), tl_upo2 (by omega), tl_upo2 (by omega), row_o (by omega), row_o (by omega), row_o (by omega), row_s, cpy_lt hj]
  · rw [tl_upo2 (by omega), tl_upo2 (by omega), tl_upo2 (by omega), tl_upo2 (by omega), row_o (by omega), row_o (by omega), row_s, cpy_lt hj, row_o (by omega)]
  · rw [tl_upo2 (by omega), tl_upo2 (by omega), tl_upo2 (by omega), tl_upo2 (by omega), row_o (by omega), row_s, cpy_lt hj, row_o (by omega), row_o (by omega)]
  · rw [tl_upo2 (by omega), tl_upo2 (by omega), tl_upo2 (by omega), tl_upo2 (by omega), row_s, cpy_lt hj, row_o (by omega), row_o (by omega), row_o (by omega)]
  · have h : i = 4 ∨ i = 5 ∨ i = 6 ∨ i = 7 := by omega
    have hNM : N ≠ M := by omega
    have hr : ∀ (f g h k : Nat → Int32) (b : Nat), b = M ∨ b = N → (am_row (am_row (am_row (am_row D (M + 1) f) (M + 2) g) (M + 3) h) (M + 4) k) b = D b := fun f g h k b hb => by rw [row_o (by omega), row_o (by omega), row_o (by omega), row_o (by omega)]
    rcases h with rfl | rfl | rfl | rfl
    · simp only [up_ap, hNM, if_true, if_false, hr _ _ _ _ M (Or.inl rfl), hr _ _ _ _ N (Or.inr rfl)] <;> simp
    · simp only [up_ap, hNM, if_true, if_false, hr _ _ _ _ M (Or.inl rfl), hr _ _ _ _ N (Or.inr rfl)] <;> simp
    · simp only [up_ap, hNM, if_true, if_false, hr _ _ _ _ M (Or.inl rfl), hr _ _ _ _ N (Or.inr rfl)] <;> simp
    · simp only [up_ap, hNM, if_true, if_false, hr _ _ _ _ M (Or.inl rfl), hr _ _ _ _ N (Or.inr rfl)] <;> simp
  · rw [tl_upo2 (by omega), tl_upo2 (by omega), tl_upo2 (by omega), tl_upo2 (by omega), row_o (by omega), row_o (by omega), row_o (by omega), row_o (by omega)]
theorem c_copyM {M N P : Nat} (hMN : N + 5 ≤ M ∨ M + 5 ≤ N) (hP : P ≤ 5) {s : Mo} {D : am_M} (h : cMo N P s D) : ∃ D', f_X2_copyFrom M N D = some D' ∧ cMo M P s D' ∧ ∀ a, a < M ∨ M + 5 ≤ a → D' a = D a := by
  obtain ⟨D', c1, c2, c3, c4, c5⟩ := c_copy hMN D
  obtain ⟨x1, x2, x3, x4, x5, x6, x7, x8⟩ := h
  exact ⟨D', c1, ⟨fun p hp => by rw [(c2 p (by omega)).1]; exact x1 p hp, fun p hp => by rw [(c2 p (by omega)).2.1]; exact x2 p hp, fun p hp => by rw [(c2 p (by omega)).2.2]; exact x3 p hp, fun k hk => by rw [c3 k (by omega)]; exact x4 k hk, by rw [c4 4 (by decide) (by decide)]; exact x5, by rw [c4 5 (by decide) (by decide)]; exact x6, by rw [c4 6 (by decide) (by decide)]; exact x7, by rw [c4 7 (by decide) (by decide)]; exact x8⟩, c5⟩
theorem m_save : ∀ (m i n : Nat) (D : am_M), i + m = 138 → m < n → ∃ D', b_X6_save_2 n (nI i) D = some D' ∧ (∀ a, a ≠ 73 → D' a = D a) ∧ (∀ k, k < 138 → D' 73 k = if k < i then D 73 k else D 62 k) := by
  intro m
  induction m with
  | zero =>
    intro i n D h hn
    obtain ⟨n, rfl⟩ : ∃ q, n = q + 1 := ⟨n - 1, by omega⟩
    have : i = 138 := by omega
    subst this
    exact ⟨D, by rw [b_X6_save_2, if_pos (show (138 : Int32) ≤ nI 138 by decide)], fun _ _ => rfl, fun k hk => by rw [if_pos hk]⟩
  | succ m ih =>
    intro i n D h hn
    obtain ⟨n, rfl⟩ : ∃ q, n = q + 1 := ⟨n - 1, by omega⟩
    obtain ⟨D', h1, h2, h3⟩ := ih (i + 1) n (am_up D 73 i (D 62 i)) (by omega) (by omega)
    refine ⟨D', by rw [b_X6_save_2, if_neg (show ¬ (138 : Int32) ≤ nI i from nI_ge (a := i) (b := 138) (by omega) (by omega)), if_pos (tl_ai (by omega) (by omega)), tl_cl2 (by omega), nI_1]; exact h1, fun a ha => by rw [h2 a ha, tl_upo2 ha], fun k hk => ?_⟩
    rw [h3 k hk, tl_upi2, tl_upo2 (by decide)]
    by_cases e : k = i
    · subst e; rw [if_pos (by omega), if_pos rfl, if_neg (by omega)]
    · by_cases e' : k < i
      · rw [if_pos (by omega), if_neg e, if_pos e']
      · rw [if_neg (by omega), if_neg e']
theorem m_back : ∀ (m i n : Nat) (D : am_M), i + m = 138 → m < n → ∃ D', b_X6_putBack_2 n (nI i) D = some D' ∧ (∀ a, a ≠ 62 → D' a = D a) ∧ (∀ k, k < 138 → D' 62 k = if k < i then D 62 k else D 73 k) := by
  intro m
  induction m with
  | zero =>
    intro i n D h hn
    obtain ⟨n, rfl⟩ : ∃ q, n = q + 1 := ⟨n - 1, by omega⟩
    have : i = 138 := by omega
    subst this
    exact ⟨D, by rw [b_X6_putBack_2, if_pos (show (138 : Int32) ≤ nI 138 by decide)], fun _ _ => rfl, fun k hk => by rw [if_pos hk]⟩
  | succ m ih =>
    intro i n D h hn
    obtain ⟨n, rfl⟩ : ∃ q, n = q + 1 := ⟨n - 1, by omega⟩
    obtain ⟨D', h1, h2, h3⟩ := ih (i + 1) n (am_up D 62 i (D 73 i)) (by omega) (by omega)
    refine ⟨D', by rw [b_X6_putBack_2, if_neg (show ¬ (138 : Int32) ≤ nI i from nI_ge (a := i) (b := 138) (by omega) (by omega)), if_pos (tl_ai (by omega) (by omega)), tl_cl2 (by omega), nI_1]; exact h1, fun a ha => by rw [h2 a ha, tl_upo2 ha], fun k hk => ?_⟩
    rw [h3 k hk, tl_upi2, tl_upo2 (by decide)]
    by_cases e : k = i
    · subst e; rw [if_pos (by omega), if_pos rfl, if_neg (by omega)]
    · by_cases e' : k < i
      · rw [if_pos (by omega), if_neg e, if_pos e']
      · rw [if_neg (by omega), if_neg e']
theorem m_keep {x : Nat} (hx : x ≤ 1) : ∀ (m i n : Nat) (D : am_M), i + m = 138 → m < n → ∃ D', b_X6_keep_15 n (nI x) (nI i) D = some (1, am_up (am_up D' 81 (139 * x + 138) (D' 56 12)) 82 x 1) ∧ (∀ a, a ≠ 81 → D' a = D a) ∧ (∀ k, D' 81 k = if 139 * x + i ≤ k ∧ k < 139 * x + 138 then D 62 (k - 139 * x) else D 81 k) := by
  intro m
  have e9 : ∀ j, (139 : Int32) * nI x + nI j = nI (139 * x + j) := fun j => by rw [show (139 : Int32) = nI 139 from rfl, pk_mul, nI_add]
  induction m with
  | zero =>
    intro i n D h hn
    obtain ⟨n, rfl⟩ : ∃ q, n = q + 1 := ⟨n - 1, by omega⟩
    have : i = 138 := by omega
    subst this
    have e8 : (139 : Int32) * nI x + 138 = nI (139 * x + 138) := e9 138
    refine ⟨D, ?_, fun _ _ => rfl, fun k => by rw [if_neg (by omega)]⟩
    rw [b_X6_keep_15, if_pos (show (138 : Int32) ≤ nI 138 by decide), e8, if_pos (tl_ai (by omega) (by omega)), if_pos (tl_ai (by omega) (by omega)), tl_cl2 (by omega), tl_cl2 (by omega)]
    rfl
  | succ m ih =>
    intro i n D h hn
    obtain ⟨n, rfl⟩ : ∃ q, n = q + 1 := ⟨n - 1, by omega⟩
    obtain ⟨D', h1, h2, h3⟩ := ih (i + 1) n (am_up D 81 (139 * x + i) (D 62 i)) (by omega) (by omega)
    refine ⟨D', ?_, fun a ha => by rw [h2 a ha, tl_upo2 ha], fun k => ?_⟩
    · rw [b_X6_keep_15, if_neg (show ¬ (138 : Int32) ≤ nI i from nI_ge (a := i) (b := 138) (by omega) (by omega)), if_pos (tl_ai (by omega) (by omega)), e9, if_pos (tl_ai (by omega) (by omega)), tl_cl2 (by omega), tl_cl2 (by omega), nI_1]
      exact h1
    · rw [h3 k, tl_upi2, tl_upo2 (by decide)]
      by_cases e : k = 139 * x + i
      · subst e; rw [if_neg (by omega), if_pos rfl, if_pos (by omega), Nat.add_sub_cancel_left]
      · by_cases e' : 139 * x + i ≤ k ∧ k < 139 * x + 138
        · rw [if_pos (by omega), if_pos e']
        · rw [if_neg (by omega), if_neg e, if_neg e']
theorem m_goback {x : Nat} (hx : x ≤ 1) : ∀ (m i n : Nat) (D : am_M), i + m = 138 → m < n → ∃ D', b_X6_goBack_27 n (nI x) (nI i) D = some (1, am_up D' 56 12 (D' 81 (139 * x + 138))) ∧ (∀ a, a ≠ 62 → D' a = D a) ∧ (∀ k, k < 138 → D' 62 k = if k < i then D 62 k else D 81 (139 * x + k)) := by
  intro m
  have e9 : ∀ j, (139 : Int32) * nI x + nI j = nI (139 * x + j) := fun j => by rw [show (139 : Int32) = nI 139 from rfl, pk_mul, nI_add]
  induction m with
  | zero =>
    intro i n D h hn
    obtain ⟨n, rfl⟩ : ∃ q, n = q + 1 := ⟨n - 1, by omega⟩
    have : i = 138 := by omega
    subst this
    have e8 : (139 : Int32) * nI x + 138 = nI (139 * x + 138) := e9 138
    refine ⟨D, ?_, fun _ _ => rfl, fun k hk => by rw [if_pos hk]⟩
    rw [b_X6_goBack_27, if_pos (show (138 : Int32) ≤ nI 138 by decide), e8, if_pos (tl_ai (by omega) (by omega)), tl_cl2 (by omega)]
  | succ m ih =>
    intro i n D h hn
    obtain ⟨n, rfl⟩ : ∃ q, n = q + 1 := ⟨n - 1, by omega⟩
    obtain ⟨D', h1, h2, h3⟩ := ih (i + 1) n (am_up D 62 i (D 81 (139 * x + i))) (by omega) (by omega)
    refine ⟨D', ?_, fun a ha => by rw [h2 a ha, tl_upo2 ha], fun k hk => ?_⟩
    · rw [b_X6_goBack_27, if_neg (show ¬ (138 : Int32) ≤ nI i from nI_ge (a := i) (b := 138) (by omega) (by omega)), e9, if_pos (tl_ai (by omega) (by omega)), if_pos (tl_ai (by omega) (by omega)), tl_cl2 (by omega), tl_cl2 (by omega), nI_1]
      exact h1
    · rw [h3 k hk, tl_upi2, tl_upo2 (by decide)]
      by_cases e : k = i
      · subst e; rw [if_pos (by omega), if_pos rfl, if_neg (by omega)]
      · by_cases e' : k < i
        · rw [if_pos (by omega), if_neg e, if_pos e']
        · rw [if_neg (by omega), if_neg e']
