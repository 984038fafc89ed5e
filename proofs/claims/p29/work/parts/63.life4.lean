/-! a life planned: the reference's comes back -/
theorem r_bd {N : Nat} (hN : N ≤ 8) {D : am_M} (h7 : D 56 7 = nI N) {x1 : Int32} : ∀ (m d k : Nat) (x3 : Int32), d + m = N → m < k → ∃ r, b_X6_behindDebts_5 k x1 x3 (nI d) D = some (r, D) := by
  intro m
  induction m with
  | zero =>
    intro d k x3 hm hk
    obtain ⟨k, rfl⟩ : ∃ q, k = q + 1 := ⟨k - 1, by omega⟩
    exact ⟨x3, by rw [b_X6_behindDebts_5, h7, if_pos (nI_le (by omega) (by omega))]⟩
  | succ m ih =>
    intro d k x3 hm hk
    obtain ⟨k, rfl⟩ : ∃ q, k = q + 1 := ⟨k - 1, by omega⟩
    have i4 : ∀ y, ∃ r, b_X6_behindDebts_44 (b_X6_behindDebts_5 k) x1 x3 (nI d) y D = some (r, D) := by
      intro y
      rw [b_X6_behindDebts_44, b_X6_behindDebts_66, if_pos (tl_ai (by omega) (by omega)), nI_1]
      split
      · exact ih (d + 1) k _ (by omega) (by omega)
      · split
        · exact ih (d + 1) k _ (by omega) (by omega)
        · exact ih (d + 1) k _ (by omega) (by omega)
    rw [b_X6_behindDebts_5, h7, if_neg (nI_ge (by omega) (by omega)), if_pos (tl_ai (by omega) (by omega)), b_X6_behindDebts_43]
    split
    · split
      · exact i4 _
      · exact i4 _
    · exact i4 _
theorem r_pb {N : Nat} (hN : N ≤ 8) {D : am_M} (h7 : D 56 7 = nI N) (x1 x2 x3 x4 : Int32) : ∃ r, f_X6_purseBy x1 x2 x3 x4 D = some (r, D) := by
  obtain ⟨r, e⟩ := r_bd hN h7 (x1 := x4) N 0 am_N (if x3 = 0 then f_X6_atMost (x1 + (f_X6_minted (x2 + 1) D)) 9999 else x1) (by omega) (by show N < 100000; omega)
  refine ⟨r, ?_⟩
  have e' : f_X6_behindDebts x4 (if x3 = 0 then f_X6_atMost (x1 + (f_X6_minted (x2 + 1) D)) 9999 else x1) D = some (r, D) := e
  rw [f_X6_purseBy, b_X6_purseBy_23, e']
  rfl
theorem r_tb {a : Nat} (ha : a ≤ 99) (x : Int32) : ∃ z, z ≤ 99 ∧ f_X6_tiredBy (nI a) x = nI z := by
  rw [f_X6_tiredBy]
  split
  · split
    · exact ⟨0, by omega, rfl⟩
    · rename_i h
      have h4 : 4 < a := Nat.lt_of_not_le (fun q => h (nI_le (b := 4) q (by decide)))
      exact ⟨a - 4, by omega, pk_sub (b := 4) (by omega)⟩
  · split
    · refine ⟨min (a + 3) 99, by omega, ?_⟩
      show f_X6_atMost (nI a + nI 3) (nI 99) = _
      rw [nI_add]; exact n_atm2 (by omega) (by omega)
    · refine ⟨min (a + 1) 99, by omega, ?_⟩
      show f_X6_atMost (nI a + nI 1) (nI 99) = _
      rw [nI_add]; exact n_atm2 (by omega) (by omega)
theorem r_sb {a b : Nat} (ha : a ≤ 99) (hb : b ≤ 9) (x : Int32) : ∃ z, z < 1000 ∧ f_X6_stateBy (nI a) (nI b) x = nI z := by
  obtain ⟨z, hz, e⟩ := r_tb ha x
  rw [f_X6_stateBy, e]
  split
  · refine ⟨10 * z + min (b + 1) 9, by omega, ?_⟩
    show nI 10 * nI z + f_X6_atMost (nI b + nI 1) (nI 9) = _
    rw [nI_add, n_atm2 (by omega) (by omega), pk_mul, nI_add]
  · refine ⟨10 * z, by omega, ?_⟩
    show nI 10 * nI z + nI 0 = _
    rw [pk_mul, nI_add]
    rfl
theorem r_d10 {k : Nat} (hk : k < 1000) : nI k / 10 = nI (k / 10) ∧ nI k - nI k / 10 * 10 = nI (k % 10) := ⟨pk_div (d := 10) (by omega) (by omega) (by omega), pk_rem (d := 10) (by omega) (by omega) (by omega)⟩
theorem r_sk {k : Nat} (hk : k < 1000) (x : Int32) : ∃ z, z < 1000 ∧ f_X6_stateBy (nI k / 10) (nI k - nI k / 10 * 10) x = nI z := by
  rw [(r_d10 hk).2, (r_d10 hk).1]
  exact r_sb (by omega) (by omega) x
theorem r_134 : ∀ (m j k : Nat) (D : am_M), j + m = 1000 → m < k → ∃ D', b_X6_liveOn_134 k (nI j) D = some D' ∧ ∀ a, a ≠ 74 → D' a = D a := by
  intro m
  induction m with
  | zero =>
    intro j k D hm hk
    obtain ⟨k, rfl⟩ : ∃ q, k = q + 1 := ⟨k - 1, by omega⟩
    exact ⟨D, by rw [b_X6_liveOn_134, if_pos (show (1000 : Int32) ≤ nI j from nI_le (a := 1000) (by omega) (by omega))], fun _ _ => rfl⟩
  | succ m ih =>
    intro j k D hm hk
    obtain ⟨k, rfl⟩ : ∃ q, k = q + 1 := ⟨k - 1, by omega⟩
    obtain ⟨D', i1, i2⟩ := ih (j + 1) k (am_up D 74 (nI j).toNatClampNeg (D 75 (nI j).toNatClampNeg)) (by omega) (by omega)
    exact ⟨D', by rw [b_X6_liveOn_134, if_neg (show ¬ (1000 : Int32) ≤ nI j from nI_ge (b := 1000) (by omega) (by omega)), if_pos (tl_ai (by omega) (by omega)), nI_1]; exact i1, fun a ha => by rw [i2 a ha, tl_upo2 ha]⟩
theorem r_43 {N j : Nat} (hN : N ≤ 8) (hj : j < 1000) {k24 : Int32 → Int32 → am_M → Option am_M} {x1 : Int32} : ∀ (m c k : Nat) (D : am_M), c + m = 3 → m < k → D 56 7 = nI N → ∃ D', b_X6_liveOn_43 k24 k x1 (nI j) (nI c) D = k24 x1 (nI (j + 1)) D' ∧ ∀ a, a ≠ 75 → D' a = D a := by
  intro m
  induction m with
  | zero =>
    intro c k D hm hk h7
    obtain ⟨k, rfl⟩ : ∃ q, k = q + 1 := ⟨k - 1, by omega⟩
    exact ⟨D, by rw [b_X6_liveOn_43, if_pos (show (3 : Int32) ≤ nI c from nI_le (a := 3) (by omega) (by omega)), nI_1], fun _ _ => rfl⟩
  | succ m ih =>
    intro c k D hm hk h7
    obtain ⟨k, rfl⟩ : ∃ q, k = q + 1 := ⟨k - 1, by omega⟩
    rw [b_X6_liveOn_43, if_neg (show ¬ (3 : Int32) ≤ nI c from nI_ge (b := 3) (by omega) (by omega)), if_pos (tl_ai (by omega) (by omega)), nI_1]
    split
    · exact ⟨D, rfl, fun _ _ => rfl⟩
    · obtain ⟨r, e⟩ := r_pb hN h7 (D 74 (nI j).toNatClampNeg) (nI j - nI j / 10 * 10) (nI c) x1
      obtain ⟨z, hz, ez⟩ := r_sk hj (nI c)
      rw [e, Option.bind_some, ez, if_pos (tl_ai (by omega) (by omega)), b_X6_liveOn_119, if_pos (tl_ai (by omega) (by omega)), nI_1]
      obtain ⟨D', i1, i2⟩ := ih (c + 1) k (am_up D 75 (nI z).toNatClampNeg (if r ≤ D 75 (nI z).toNatClampNeg then D 75 (nI z).toNatClampNeg else r)) (by omega) (by omega) (by rw [tl_upo2 (by decide)]; exact h7)
      exact ⟨D', i1, fun a ha => by rw [i2 a ha, tl_upo2 ha]⟩
theorem r_24 {N : Nat} (hN : N ≤ 8) {x1 : Int32} : ∀ (m j k : Nat) (D : am_M), j + m = 1000 → m < k → D 56 7 = nI N → ∃ D', b_X6_liveOn_24 k x1 (nI j) D = some D' ∧ ∀ a, a ≠ 74 → a ≠ 75 → D' a = D a := by
  intro m
  induction m with
  | zero =>
    intro j k D hm hk h7
    obtain ⟨k, rfl⟩ : ∃ q, k = q + 1 := ⟨k - 1, by omega⟩
    obtain ⟨D', i1, i2⟩ := r_134 1000 0 am_N D rfl (by decide)
    exact ⟨D', by rw [b_X6_liveOn_24, if_pos (show (1000 : Int32) ≤ nI j from nI_le (a := 1000) (by omega) (by omega))]; exact i1, fun a x1 _ => i2 a x1⟩
  | succ m ih =>
    intro j k D hm hk h7
    obtain ⟨k, rfl⟩ : ∃ q, k = q + 1 := ⟨k - 1, by omega⟩
    have ec : ∃ c, c ≤ 1 ∧ (if (10 : Int32) ≤ nI j then (0 : Int32) else 1) = nI c := by
      split
      · exact ⟨0, by decide, rfl⟩
      · exact ⟨1, by decide, rfl⟩
    obtain ⟨c, hc, ec⟩ := ec
    obtain ⟨D1, a1, a2⟩ := r_43 (j := j) (k24 := b_X6_liveOn_24 k) (x1 := x1) hN (by omega) (3 - c) c am_N D (by omega) (by show _ < 100000; omega) h7
    obtain ⟨D', i1, i2⟩ := ih (j + 1) k D1 (by omega) (by omega) (by rw [a2 56 (by decide)]; exact h7)
    exact ⟨D', by rw [b_X6_liveOn_24, if_neg (show ¬ (1000 : Int32) ≤ nI j from nI_ge (b := 1000) (by omega) (by omega)), ec, a1]; exact i1, fun a x1 x2 => by rw [i2 a x1 x2, a2 a x2]⟩
theorem r_live {N : Nat} (hN : N ≤ 8) {x1 : Int32} : ∀ (m j k : Nat) (D : am_M), j + m = 1000 → m < k → D 56 7 = nI N → ∃ D', b_X6_liveOn_2 k x1 (nI j) D = some D' ∧ ∀ a, a ≠ 74 → a ≠ 75 → D' a = D a := by
  intro m
  induction m with
  | zero =>
    intro j k D hm hk h7
    obtain ⟨k, rfl⟩ : ∃ q, k = q + 1 := ⟨k - 1, by omega⟩
    obtain ⟨D', i1, i2⟩ := r_24 (x1 := x1) hN 1000 0 am_N D rfl (by decide) h7
    exact ⟨D', by rw [b_X6_liveOn_2, if_pos (show (1000 : Int32) ≤ nI j from nI_le (a := 1000) (by omega) (by omega))]; exact i1, i2⟩
  | succ m ih =>
    intro j k D hm hk h7
    obtain ⟨k, rfl⟩ : ∃ q, k = q + 1 := ⟨k - 1, by omega⟩
    obtain ⟨D', i1, i2⟩ := ih (j + 1) k (am_up D 75 (nI j).toNatClampNeg (-1)) (by omega) (by omega) (by rw [tl_upo2 (by decide)]; exact h7)
    exact ⟨D', by rw [b_X6_liveOn_2, if_neg (show ¬ (1000 : Int32) ≤ nI j from nI_ge (b := 1000) (by omega) (by omega)), if_pos (tl_ai (by omega) (by omega)), nI_1]; exact i1, fun a x1 x2 => by rw [i2 a x1 x2, tl_upo2 x2]⟩
theorem r_62 {D : am_M} : ∀ (m j k : Nat) (x5 : Int32), j + m = 1000 → m < k → ∃ r, b_X6_mostFrom_62 k x5 (nI j) D = some (r, D) := by
  intro m
  induction m with
  | zero =>
    intro j k x5 hm hk
    obtain ⟨k, rfl⟩ : ∃ q, k = q + 1 := ⟨k - 1, by omega⟩
    exact ⟨x5, by rw [b_X6_mostFrom_62, if_pos (show (1000 : Int32) ≤ nI j from nI_le (a := 1000) (by omega) (by omega))]⟩
  | succ m ih =>
    intro j k x5 hm hk
    obtain ⟨k, rfl⟩ : ∃ q, k = q + 1 := ⟨k - 1, by omega⟩
    rw [b_X6_mostFrom_62, if_neg (show ¬ (1000 : Int32) ≤ nI j from nI_ge (b := 1000) (by omega) (by omega)), if_pos (tl_ai (by omega) (by omega)), nI_1]
    exact ih (j + 1) k _ (by omega) (by omega)
theorem r_35 {N n : Nat} (hN : N ≤ 8) (hn : n ≤ 48) {x3 : Int32} : ∀ (m j k : Nat) (D : am_M), j + m = n → m < k → D 56 7 = nI N → ∃ r D', b_X6_mostFrom_35 k x3 (nI n) (nI j) D = some (r, D') ∧ ∀ a, a ≠ 74 → a ≠ 75 → D' a = D a := by
  intro m
  induction m with
  | zero =>
    intro j k D hm hk h7
    obtain ⟨k, rfl⟩ : ∃ q, k = q + 1 := ⟨k - 1, by omega⟩
    obtain ⟨r, e⟩ := r_62 (D := D) 1000 0 am_N (-1) rfl (by decide)
    exact ⟨r, D, by rw [b_X6_mostFrom_35, if_pos (nI_le (by omega) (by omega))]; exact e, fun _ _ _ => rfl⟩
  | succ m ih =>
    intro j k D hm hk h7
    obtain ⟨k, rfl⟩ : ∃ q, k = q + 1 := ⟨k - 1, by omega⟩
    obtain ⟨D1, a1, a2⟩ := r_live (x1 := x3 + nI j) hN 1000 0 am_N D rfl (by decide) h7
    have a1' : f_X6_liveOn (x3 + nI j) D = some D1 := a1
    obtain ⟨r, D', i1, i2⟩ := ih (j + 1) k D1 (by omega) (by omega) (by rw [a2 56 (by decide) (by decide)]; exact h7)
    exact ⟨r, D', by rw [b_X6_mostFrom_35, if_neg (nI_ge (by omega) (by omega)), a1', Option.bind_some, nI_1]; exact i1, fun a x1 x2 => by rw [i2 a x1 x2, a2 a x1 x2]⟩
theorem r_3 {N n z : Nat} (hN : N ≤ 8) (hn : n ≤ 48) (hz : z < 1000) {x2 x3 : Int32} : ∀ (m j k : Nat) (D : am_M), j + m = 1000 → m < k → D 56 7 = nI N → ∃ r D', b_X6_mostFrom_3 k (nI z) x2 x3 (nI n) (nI j) D = some (r, D') ∧ ∀ a, a ≠ 74 → a ≠ 75 → D' a = D a := by
  intro m
  induction m with
  | zero =>
    intro j k D hm hk h7
    obtain ⟨k, rfl⟩ : ∃ q, k = q + 1 := ⟨k - 1, by omega⟩
    obtain ⟨r, D', i1, i2⟩ := r_35 (x3 := x3) hN hn n 0 am_N (am_up D 74 (nI z).toNatClampNeg x2) (by omega) (by show n < 100000; omega) (by rw [tl_upo2 (by decide)]; exact h7)
    exact ⟨r, D', by rw [b_X6_mostFrom_3, if_pos (show (1000 : Int32) ≤ nI j from nI_le (a := 1000) (by omega) (by omega)), if_pos (tl_ai (by omega) (by omega))]; exact i1, fun a x1 x2 => by rw [i2 a x1 x2, tl_upo2 x1]⟩
  | succ m ih =>
    intro j k D hm hk h7
    obtain ⟨k, rfl⟩ : ∃ q, k = q + 1 := ⟨k - 1, by omega⟩
    obtain ⟨r, D', i1, i2⟩ := ih (j + 1) k (am_up D 74 (nI j).toNatClampNeg (-1)) (by omega) (by omega) (by rw [tl_upo2 (by decide)]; exact h7)
    exact ⟨r, D', by rw [b_X6_mostFrom_3, if_neg (show ¬ (1000 : Int32) ≤ nI j from nI_ge (b := 1000) (by omega) (by omega)), if_pos (tl_ai (by omega) (by omega)), nI_1]; exact i1, fun a x1 x2 => by rw [i2 a x1 x2, tl_upo2 x1]⟩
theorem r_most {N n z : Nat} {D : am_M} (hN : N ≤ 8) (hn : n ≤ 48) (hz : z < 1000) (x2 x3 : Int32) (h7 : D 56 7 = nI N) : ∃ r D', f_X6_mostFrom (nI z) x2 x3 (nI n) D = some (r, D') ∧ ∀ a, a ≠ 74 → a ≠ 75 → D' a = D a := r_3 hN hn hz 1000 0 am_N D rfl (by decide) h7
theorem r_49 {N n z j : Nat} (hN : N ≤ 8) (hn : n ≤ 48) (hz : z < 1000) (hj : j < n) {x4 x5 x7 x10 : Int32} {k12 : Int32 → Int32 → Int32 → Int32 → Int32 → Int32 → Int32 → am_M → Option (Int32 × am_M)} : ∀ (m c k : Nat) (x8 : Int32) (D : am_M), c + m = 3 → m < k → D 56 7 = nI N → ∃ z' y x D', b_X6_lived_49 k12 k (nI n) x4 x5 (nI z) x7 x8 (nI j) x10 (nI c) D = k12 (nI n) x4 x5 (nI z') y x (nI (j + 1)) D' ∧ z' < 1000 ∧ ∀ a, a ≠ 74 → a ≠ 75 → D' a = D a := by
  have last : ∀ (x8 : Int32) (D : am_M), D 56 7 = nI N → ∃ z' y x D', b_X6_lived_136 k12 (nI n) x4 x5 (nI z) x7 x8 (nI j) x10 D = k12 (nI n) x4 x5 (nI z') y x (nI (j + 1)) D' ∧ z' < 1000 ∧ ∀ a, a ≠ 74 → a ≠ 75 → D' a = D a := by
    intro x8 D h7
    obtain ⟨r, e⟩ := r_pb hN h7 x7 (nI z - nI z / 10 * 10) x8 x10
    obtain ⟨z', hz', ez⟩ := r_sk hz x8
    exact ⟨z', r, x8, D, by rw [b_X6_lived_136, e, Option.bind_some, ez, nI_1], hz', fun _ _ _ => rfl⟩
  intro m
  induction m with
  | zero =>
    intro c k x8 D hm hk h7
    obtain ⟨k, rfl⟩ : ∃ q, k = q + 1 := ⟨k - 1, by omega⟩
    rw [b_X6_lived_49, if_pos (show (3 : Int32) ≤ nI c from nI_le (a := 3) (by omega) (by omega))]
    exact last x8 D h7
  | succ m ih =>
    intro c k x8 D hm hk h7
    obtain ⟨k, rfl⟩ : ∃ q, k = q + 1 := ⟨k - 1, by omega⟩
    rw [b_X6_lived_49, if_neg (show ¬ (3 : Int32) ≤ nI c from nI_ge (b := 3) (by omega) (by omega))]
    split
    · exact last x8 D h7
    · obtain ⟨r, e⟩ := r_pb hN h7 x7 (nI z - nI z / 10 * 10) (nI c) x10
      obtain ⟨z', hz', ez⟩ := r_sk hz (nI c)
      rw [e, Option.bind_some, ez, nI_1 c, show nI n - 1 = nI (n - 1) from pk_sub (b := 1) (by omega), pk_sub (by omega)]
      split
      · exact ih (c + 1) k _ D (by omega) (by omega) h7
      · obtain ⟨r2, D1, a1, a2⟩ := r_most (n := n - 1 - j) (z := z') hN (by omega) hz' r (x10 + 1) h7
        show ∃ z2 y x D', ((f_X6_mostFrom (nI z') r (x10 + 1) (nI (n - 1 - j)) D).bind (fun q114 => b_X6_lived_49 k12 k (nI n) x4 x5 (nI z) x7 (if q114.1 = x4 then nI c else (-1)) (nI j) x10 (nI (c + 1)) q114.2)) = k12 (nI n) x4 x5 (nI z2) y x (nI (j + 1)) D' ∧ z2 < 1000 ∧ ∀ a, a ≠ 74 → a ≠ 75 → D' a = D a
        rw [a1, Option.bind_some]
        obtain ⟨z2, y, x, D', i1, i2, i3⟩ := ih (c + 1) k (if r2 = x4 then nI c else (-1)) D1 (by omega) (by omega) (by rw [a2 56 (by decide) (by decide)]; exact h7)
        exact ⟨z2, y, x, D', i1, i2, fun a x1 x2 => by rw [i3 a x1 x2, a2 a x1 x2]⟩
theorem r_12 {N n i : Nat} (hN : N ≤ 8) (hn : n ≤ 48) (hi : i < n) {x4 : Int32} : ∀ (m j z k : Nat) (x7 x8 : Int32) (D : am_M), j + m = i + 1 → m < k → z < 1000 → D 56 7 = nI N → ∃ r D', b_X6_lived_12 k (nI n) x4 (nI i) (nI z) x7 x8 (nI j) D = some (r, D') ∧ ∀ a, a ≠ 74 → a ≠ 75 → D' a = D a := by
  intro m
  induction m with
  | zero =>
    intro j z k x7 x8 D hm hk hz h7
    obtain ⟨k, rfl⟩ : ∃ q, k = q + 1 := ⟨k - 1, by omega⟩
    exact ⟨x8, D, by rw [b_X6_lived_12, if_pos (nI_lt (by omega) (by omega))], fun _ _ _ => rfl⟩
  | succ m ih =>
    intro j z k x7 x8 D hm hk hz h7
    obtain ⟨k, rfl⟩ : ∃ q, k = q + 1 := ⟨k - 1, by omega⟩
    have ec : ∃ c, c ≤ 1 ∧ (if (10 : Int32) ≤ nI z then (0 : Int32) else 1) = nI c := by
      split
      · exact ⟨0, by decide, rfl⟩
      · exact ⟨1, by decide, rfl⟩
    obtain ⟨c, hc, ec⟩ := ec
    obtain ⟨z', y, x, D1, a1, a2, a3⟩ := r_49 (j := j) (x4 := x4) (x5 := nI i) (x7 := x7) (x10 := D 62 137 + nI j) (k12 := b_X6_lived_12 k) hN hn hz (by omega) (3 - c) c am_N (-1) D (by omega) (by show _ < 100000; omega) h7
    obtain ⟨r, D', i1, i2⟩ := ih (j + 1) z' k y x D1 (by omega) (by omega) a2 (by rw [a3 56 (by decide) (by decide)]; exact h7)
    exact ⟨r, D', by rw [b_X6_lived_12, if_neg (nI_nlt (by omega) (by omega)), ec, a1]; exact i1, fun a x1 x2 => by rw [i2 a x1 x2, a3 a x1 x2]⟩
theorem so_life {k tw : Nat} {tp : Bool} {D : am_M} (h : Sim k tw tp D) (a b c : Int32) : ∃ (r r' : Int32) (b1 : Bool) (D1 D2 : am_M), f_X5_life tw tp a b c D = some (r, b1, D1) ∧ f_X6_life a b c D1 = some (r', D2) ∧ Sim (k + 1) tw b1 D2 := by
  have h0 := h
  obtain ⟨t, s, q⟩ := h
  have q3 := q.2.2.1
  have q4 := q.2.2.2.1
  have ht := q.2.1
  have hP := ht.2.2.2.1
  have hN := ht.2.2.2.2.2.1
  obtain ⟨l1, l2⟩ := lyT_le q.1
  obtain ⟨nb, nh, n3, n4⟩ := q.2.2.2.2.1
  by_cases hw : f_X5_isWithin a 0 (nI (q_pe t) - 1) = 0
  · exact ⟨_, _, tp, D, D, by rw [f_X5_life, iP5 q3, if_pos hw], by rw [f_X6_life, iP6 q4, if_pos hw], h0⟩
  by_cases hw2 : f_X5_isWithin b 1 48 = 0
  · exact ⟨_, _, tp, D, D, by rw [f_X5_life, iP5 q3, if_neg hw, if_pos hw2], by rw [f_X6_life, iP6 q4, if_neg hw, in_6 b 1 48 1 48 rfl rfl, if_pos hw2], h0⟩
  obtain ⟨p, hp, rfl⟩ := m1_w (by omega) hw
  obtain ⟨n, n1, n48, rfl⟩ := tl_w1n (a := 1) (b := 48) (by decide) hw2 (by decide)
  have t9 := nb.1 p hp
  have s9 := nb.2.1 p hp
  -- the reference, over what the class left
  have ref : ∀ E : am_M, (∀ a, a ≠ 45 → a ≠ 48 → a ≠ 49 → a ≠ 83 → a ≠ 84 → E a = D a) → Pl E → ∃ r' D2, f_X6_life (nI p) (nI n) c E = some (r', D2) ∧ Sim (k + 1) tw true D2 := by
    intro E hE hPl
    have m4 : mTo t E := mTo_f (fun i _ => by rw [hE 56 (by decide) (by decide) (by decide) (by decide) (by decide)]) (fun a _ _ => hE a (by omega) (by omega) (by omega) (by omega) (by omega)) q4
    generalize hU : am_up E 56 35 (nI p) = U
    have u62 : U 62 = D 62 := by rw [← hU, tl_upo2 (by decide), hE 62 (by decide) (by decide) (by decide) (by decide) (by decide)]
    have u7 : U 56 7 = nI (q_dn t) := by rw [← hU, tl_upi2, if_neg (by decide)]; exact m4.2.2.2.2.2.1
    have fin : ∀ E2 : am_M, (∀ a, a ≠ 74 → a ≠ 75 → E2 a = U a) → Sim (k + 1) tw true E2 := by
      intro E2 h2
      have g : ∀ a, a ≠ 45 → a ≠ 48 → a ≠ 49 → a ≠ 56 → a ≠ 74 → a ≠ 75 → a ≠ 83 → a ≠ 84 → E2 a = D a := fun a x1 x2 x3 x4 x5 x6 x7 x8 => by rw [h2 a x5 x6, ← hU, tl_upo2 x4, hE a x1 x2 x3 x7 x8]
      have g56 : ∀ i, i ≠ 35 → E2 56 i = D 56 i := fun i hi => by rw [h2 56 (by decide) (by decide), ← hU, tl_upi2, if_neg hi, hE 56 (by decide) (by decide) (by decide) (by decide) (by decide)]
      refine ⟨t, s, Si_f q ⟨fun a ha => g a (by omega) (by omega) (by omega) (by omega) (by omega) (by omega) (by omega) (by omega), fun a ha hb => g a (by omega) (by omega) (by omega) (by omega) (by omega) (by omega) (by omega) (by omega), fun a ha hb => g a (by omega) (by omega) (by omega) (by omega) (by omega) (by omega) (by omega) (by omega), fun i hi => g56 i (by omega), fun a ha hb => g a (by omega) (by omega) (by omega) (by omega) (by omega) (by omega) (by omega) (by omega), g 63 (by decide) (by decide) (by decide) (by decide) (by decide) (by decide) (by decide) (by decide), fun a ha hb => g a (by omega) (by omega) (by omega) (by omega) (by omega) (by omega) (by omega) (by omega)⟩ (Nw_f (fun a ha hb => g a (by omega) (by omega) (by omega) (by omega) (by omega) (by omega) (by omega) (by omega)) (g 62 (by decide) (by decide) (by decide) (by decide) (by decide) (by decide) (by decide) (by decide)) (g56 12 (by decide)) q.2.2.2.2.1) (Pl_f (by rw [h2 45 (by decide) (by decide), ← hU, tl_upo2 (by decide)]) hPl) (Tb_f (fun a ha hb => g a (by omega) (by omega) (by omega) (by omega) (by omega) (by omega) (by omega) (by omega)) q.2.2.2.2.2.2.2.2.2.2)⟩
    have es : (10 : Int32) * U 62 p + f_X6_atMost (U 62 (5 + p)) 9 = nI (10 * o_ti s p + min (o_sl s p) 9) := by
      rw [u62, n4.1 p hp, n4.2.1 p hp, show f_X6_atMost (nI (o_sl s p)) 9 = nI (min (o_sl s p) 9) from n_atm2 (m := 9) (by omega) (by decide), show (10 : Int32) * nI (o_ti s p) = nI (10 * o_ti s p) from pk_mul 10 _, nI_add]
    have hz : 10 * o_ti s p + min (o_sl s p) 9 < 1000 := by omega
    obtain ⟨r, E1, a1, a2⟩ := r_most (n := n) hN n48 hz (U 62 (10 + p)) (U 62 137) u7
    have e0 : f_X6_life (nI p) (nI n) c E = (f_X6_mostFrom (10 * U 62 p + f_X6_atMost (U 62 (5 + p)) 9) (U 62 (10 + p)) (U 62 137) (nI n) U).bind fun q77 => if q77.1 < 0 then some (q77.1, q77.2) else if c = (-1) then some (q77.1, q77.2) else if (f_X6_in c.toInt64 0 ((nI n - 1).toInt64)) = 0 then some ((-1), q77.2) else (f_X6_lived (10 * U 62 p + f_X6_atMost (U 62 (5 + p)) 9) (q77.2 62 (10 + p)) (nI n) q77.1 c q77.2).bind fun q124 => some (q124.1, q124.2) := by
      rw [f_X6_life, iP6 m4, if_neg hw, in_6 _ 1 48 1 48 rfl rfl, if_neg hw2, if_pos (tl_ai (by omega) (by omega)), n_5, if_pos (tl_ai (by omega) (by omega)), n_10, if_pos (tl_ai (by omega) (by omega)), tl_cl2 (by omega), tl_cl2 (by omega), tl_cl2 (by omega), hU]
    rw [e0, es, a1, Option.bind_some]
    show ∃ r' D2, (if r < 0 then some (r, E1) else if c = (-1) then some (r, E1) else if (f_X6_in c.toInt64 0 ((nI n - 1).toInt64)) = 0 then some ((-1), E1) else (f_X6_lived (nI (10 * o_ti s p + min (o_sl s p) 9)) (E1 62 (10 + p)) (nI n) r c E1).bind fun q124 => some (q124.1, q124.2)) = some (r', D2) ∧ _
    split
    · exact ⟨_, _, rfl, fin E1 a2⟩
    · split
      · exact ⟨_, _, rfl, fin E1 a2⟩
      · split
        · exact ⟨_, _, rfl, fin E1 a2⟩
        · rename_i hc
          rw [in_6 c 0 (nI n - 1) 0 _ rfl rfl] at hc
          obtain ⟨i, hi, rfl⟩ := m1_w (by omega) hc
          obtain ⟨r2, E2, b1, b2⟩ := r_12 (x4 := r) hN n48 hi (i + 1) 0 (10 * o_ti s p + min (o_sl s p) 9) am_N (E1 62 (10 + p)) (-1) E1 (by omega) (by show _ < 100000; omega) hz (by rw [a2 56 (by decide) (by decide)]; exact u7)
          have b1' : f_X6_lived (nI (10 * o_ti s p + min (o_sl s p) 9)) (E1 62 (10 + p)) (nI n) r (nI i) E1 = some (r2, E2) := b1
          rw [b1', Option.bind_some]
          exact ⟨_, _, rfl, fin E2 (fun a x1 x2 => by rw [b2 a x1 x2, a2 a x1 x2])⟩
  by_cases hw3 : f_X5_isWithin c (-1) (nI n - 1) = 0
  · obtain ⟨r', D2, m1, m2⟩ := ref D (fun _ _ _ _ _ _ => rfl) q.2.2.2.2.2.2.2.2.2.1
    exact ⟨_, r', tp, D, D2, by rw [f_X5_life, iP5 q3, if_neg hw, if_neg hw2, if_pos hw3], m1, m2⟩
  · obtain ⟨b1, D1, c1, c2, c3⟩ := l_make (tp := tp) (n := n) (p := p) (P := q_pe t) l2 ht rfl hp n1 n48 nb nh q3 n3 q.2.2.2.2.2.2.2.2.2.1
    obtain ⟨r', D2, m1, m2⟩ := ref D1 c3 c2
    have hc : ∃ r, f_X5_life tw tp (nI p) (nI n) c D = some (r, b1, D1) := by
      rw [f_X5_life, iP5 q3, if_neg hw, if_neg hw2, if_neg hw3, c1, Option.bind_some]
      show ∃ r, (if D1 45 5 = (-1) then some (D1 45 5, b1, D1) else if c = (-1) then some (D1 45 5, b1, D1) else if am_in c 48 = true then some (D1 49 c.toNatClampNeg, b1, D1) else none) = some (r, b1, D1)
      split
      · exact ⟨_, rfl⟩
      · split
        · exact ⟨_, rfl⟩
        · rename_i hcm
          obtain ⟨w1, w2⟩ := tl_w1 hw3
          have hc0 : ¬ c < 0 := by
            intro hlt
            rw [Int32.lt_iff_toInt_lt] at hlt
            rw [Int32.le_iff_toInt_le] at w1
            have x1 : (-1 : Int32).toInt = -1 := by decide
            have x2 : (0 : Int32).toInt = 0 := by decide
            exact hcm (Int32.toInt_inj.mp (by rw [x1]; rw [x1] at w1; rw [x2] at hlt; omega))
          obtain ⟨i, hi, rfl⟩ := nI_of hc0
          rw [show nI n - 1 = nI (n - 1) from pk_sub (b := 1) n1] at w2
          have := (nI_leI hi (by omega)).mp w2
          rw [if_pos (tl_ai (by omega) (by omega))]
          exact ⟨_, rfl⟩
    obtain ⟨r, hc⟩ := hc
    exact ⟨r, r', b1, D1, D2, hc, m1, m2⟩
