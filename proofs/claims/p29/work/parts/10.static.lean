abbrev m_X5_isWithin : am_D := (yX5_isWithin, prog_1_method_36_code, 3, (some .boolean), { frames := 0, cells := 0, slots := 0, locals := 0 })
theorem ld_X5_isWithin : am_LD m_X5_isWithin 3 := ⟨(am_tb 79 (by decide +kernel) (by decide +kernel)), (am_tb 399 (by decide +kernel) (by decide +kernel)), by decide, by decide, by decide +kernel⟩
def tb_X5_isWithin : List (Nat × Instr × Nat) := [(0, .iload_n 0, 1), (1, .iload_n 1, 1), (2, .if_icmp .lt 12, 3), (5, .iload_n 0, 1), (6, .iload_n 2, 1), (7, .if_icmp .gt 7, 3), (10, .iconst 1, 1), (11, .goto 4, 3), (14, .iconst 0, 1), (15, .ireturn, 1)]
theorem tk_X5_isWithin : am_tbl prog_1_method_36_code tb_X5_isWithin = true := by decide +kernel
def f_X5_isWithin (x0 : Int32) (x1 : Int32) (x2 : Int32) : Int32 := if x0 < x1 then 0 else if x2 < x0 then 0 else 1
theorem zb_X5_isWithin (x0 : Int32) (x1 : Int32) (x2 : Int32) : f_X5_isWithin x0 x1 x2 = 0 ∨ f_X5_isWithin x0 x1 x2 = 1 := by
  unfold f_X5_isWithin
  repeat' split
  all_goals first | exact Or.inl rfl | exact Or.inr rfl
theorem ct_X5_isWithin {l : Launch} (x0 : Int32) (x1 : Int32) (x2 : Int32) (h : am_H) : am_CT l m_X5_isWithin false [.int x0, .int x1, .int x2] h (am_is (some (.int (f_X5_isWithin x0 x1 x2))) h) := by
  refine am_CT.of (by decide) (Nat.le_of_ble_eq_true rfl) ?_
  show am_Ex _ _ _ 0 [(0, .int x0), (1, .int x1), (2, .int x2)] [] _
  refine am_iload_n (j := 0) (am_dk tk_X5_isWithin 0 rfl) rfl rfl ?_
  refine am_iload_n (j := 1) (am_dk tk_X5_isWithin 1 rfl) rfl rfl ?_
  refine am_icmp_lt (tgt := 14) (am_dk tk_X5_isWithin 2 rfl) (by decide) (fun hc2 => ?_) (fun hc2 => ?_)
  · skip
    refine am_iconst (v := 0) (am_dk tk_X5_isWithin 8 rfl) (by decide) ?_
    exact am_zret (Or.inl rfl) rfl ⟨by simp only [f_X5_isWithin, if_pos hc2], rfl⟩ ⟨Nat.le_of_ble_eq_true rfl, Nat.le_of_ble_eq_true rfl⟩ (am_dk tk_X5_isWithin 9 rfl)
  · skip
    refine am_iload_n (j := 0) (am_dk tk_X5_isWithin 3 rfl) rfl rfl ?_
    refine am_iload_n (j := 2) (am_dk tk_X5_isWithin 4 rfl) rfl rfl ?_
    refine am_icmp_gt (tgt := 14) (am_dk tk_X5_isWithin 5 rfl) (by decide) (fun hc7 => ?_) (fun hc7 => ?_)
    · skip
      refine am_iconst (v := 0) (am_dk tk_X5_isWithin 8 rfl) (by decide) ?_
      exact am_zret (Or.inl rfl) rfl ⟨by simp only [f_X5_isWithin, if_neg hc2, if_pos hc7], rfl⟩ ⟨Nat.le_of_ble_eq_true rfl, Nat.le_of_ble_eq_true rfl⟩ (am_dk tk_X5_isWithin 9 rfl)
    · skip
      refine am_iconst (v := 1) (am_dk tk_X5_isWithin 6 rfl) (by decide) ?_
      refine am_goto (tgt := 15) (am_dk tk_X5_isWithin 7 rfl) (by decide) ?_
      exact am_zret (Or.inr rfl) rfl ⟨by simp only [f_X5_isWithin, if_neg hc2, if_neg hc7], rfl⟩ ⟨Nat.le_of_ble_eq_true rfl, Nat.le_of_ble_eq_true rfl⟩ (am_dk tk_X5_isWithin 9 rfl)
abbrev m_X5_isIn : am_D := (yX5_isIn, prog_1_method_37_code, 2, (some .boolean), { frames := 0, cells := 0, slots := 0, locals := 0 })
theorem ld_X5_isIn : am_LD m_X5_isIn 2 := ⟨(am_tb 79 (by decide +kernel) (by decide +kernel)), (am_tb 479 (by decide +kernel) (by decide +kernel)), by decide, by decide, by decide +kernel⟩
def tb_X5_isIn : List (Nat × Instr × Nat) := [(0, .iload_n 0, 1), (1, .iload_n 1, 1), (2, .ishr, 1), (3, .iconst 1, 1), (4, .iand, 1), (5, .iconst 1, 1), (6, .if_icmp .ne 7, 3), (9, .iconst 1, 1), (10, .goto 4, 3), (13, .iconst 0, 1), (14, .ireturn, 1)]
theorem tk_X5_isIn : am_tbl prog_1_method_37_code tb_X5_isIn = true := by decide +kernel
def f_X5_isIn (x0 : Int32) (x1 : Int32) : Int32 := if ((x0 >>> (x1 &&& 31)) &&& 1) = 1 then 1 else 0
theorem zb_X5_isIn (x0 : Int32) (x1 : Int32) : f_X5_isIn x0 x1 = 0 ∨ f_X5_isIn x0 x1 = 1 := by
  unfold f_X5_isIn
  repeat' split
  all_goals first | exact Or.inl rfl | exact Or.inr rfl
theorem ct_X5_isIn {l : Launch} (x0 : Int32) (x1 : Int32) (h : am_H) : am_CT l m_X5_isIn false [.int x0, .int x1] h (am_is (some (.int (f_X5_isIn x0 x1))) h) := by
  refine am_CT.of (by decide) (Nat.le_of_ble_eq_true rfl) ?_
  show am_Ex _ _ _ 0 [(0, .int x0), (1, .int x1)] [] _
  refine am_iload_n (j := 0) (am_dk tk_X5_isIn 0 rfl) rfl rfl ?_
  refine am_iload_n (j := 1) (am_dk tk_X5_isIn 1 rfl) rfl rfl ?_
  refine am_ishr (am_dk tk_X5_isIn 2 rfl) ?_
  refine am_iconst (v := 1) (am_dk tk_X5_isIn 3 rfl) (by decide) ?_
  refine am_iand (am_dk tk_X5_isIn 4 rfl) ?_
  refine am_iconst (v := 1) (am_dk tk_X5_isIn 5 rfl) (by decide) ?_
  refine am_icmp_ne (tgt := 13) (am_dk tk_X5_isIn 6 rfl) (by decide) (fun hc6 => ?_) (fun hc6 => ?_)
  · skip
    refine am_iconst (v := 0) (am_dk tk_X5_isIn 9 rfl) (by decide) ?_
    exact am_zret (Or.inl rfl) rfl ⟨by simp only [f_X5_isIn, if_neg hc6], rfl⟩ ⟨Nat.le_of_ble_eq_true rfl, Nat.le_of_ble_eq_true rfl⟩ (am_dk tk_X5_isIn 10 rfl)
  · skip
    refine am_iconst (v := 1) (am_dk tk_X5_isIn 7 rfl) (by decide) ?_
    refine am_goto (tgt := 14) (am_dk tk_X5_isIn 8 rfl) (by decide) ?_
    exact am_zret (Or.inr rfl) rfl ⟨by simp only [f_X5_isIn, if_pos hc6], rfl⟩ ⟨Nat.le_of_ble_eq_true rfl, Nat.le_of_ble_eq_true rfl⟩ (am_dk tk_X5_isIn 10 rfl)
abbrev m_X5_leastOf : am_D := (yX5_leastOf, prog_1_method_38_code, 2, (some .int), { frames := 1, cells := 0, slots := 0, locals := 21 })
theorem ld_X5_leastOf : am_LD m_X5_leastOf 1 := ⟨(am_tb 79 (by decide +kernel) (by decide +kernel)), (am_tb 605 (by decide +kernel) (by decide +kernel)), by decide, by decide, by decide +kernel⟩
def tb_X5_leastOf : List (Nat × Instr × Nat) := [(0, .iconst 0, 1), (1, .istore_n 1, 1), (2, .iload_n 1, 1), (3, .bipush 31, 2), (5, .if_icmp .ge 19, 3), (8, .iload_n 0, 1), (9, .iload_n 1, 1), (10, .invokestatic 172, 3), (13, .ifCond .eq 5, 3), (16, .iload_n 1, 1), (17, .ireturn, 1), (18, .iinc 1 1, 3), (21, .goto (-19), 3), (24, .iconst (-1), 1), (25, .ireturn, 1)]
theorem tk_X5_leastOf : am_tbl prog_1_method_38_code tb_X5_leastOf = true := by decide +kernel
def b_X5_leastOf_2 : Nat → Int32 → Int32 → am_M → Option (Int32 × am_M)
  | 0, _, _, _ => none
  | n + 1, x0, x1, D => if 31 ≤ x1 then some ((-1), D) else if (f_X5_isIn x0 x1) = 0 then b_X5_leastOf_2 n x0 (x1 + 1) D else some (x1, D)
def f_X5_leastOf (x0 : Int32) (D : am_M) : Option (Int32 × am_M) := b_X5_leastOf_2 am_N x0 0 D
theorem bx_X5_leastOf_2 {l : Launch} {h0 : am_H} {Φ : am_Ph} {tw : Nat} {tp : Bool}  {r : Int32} {D' : am_M} (hΦ : Φ (some (.int r)) (ly tw tp D')) : ∀ (n : Nat) (x0 : Int32) (x1 : Int32) (D : am_M), b_X5_leastOf_2 n x0 x1 D = some (r, D') → am_Ex (am_E l m_X5_leastOf false h0 Φ) prog_1_method_38_code (0, 0) 2 [(0, .int x0), (1, .int x1)] [] (ly tw tp D) := by
  intro n
  induction n with
  | zero =>
    intro x0 x1 D h
    exact absurd h (by simp [b_X5_leastOf_2])
  | succ n ih =>
    intro x0 x1 D h
    rw [b_X5_leastOf_2] at h
    refine am_iload_n (j := 1) (am_dk tk_X5_leastOf 2 rfl) rfl rfl ?_
    refine am_bipush (v := 31) (am_dk tk_X5_leastOf 3 rfl) (by decide) ?_
    refine am_icmp_ge (tgt := 24) (am_dk tk_X5_leastOf 4 rfl) (by decide) (fun hc5 => ?_) (fun hc5 => ?_)
    · rw [if_pos hc5] at h
      refine am_iconst (v := (-1)) (am_dk tk_X5_leastOf 13 rfl) (by decide) ?_
      exact am_iret rfl (am_r2 h hΦ) ⟨Nat.le_of_ble_eq_true rfl, Nat.le_of_ble_eq_true rfl⟩ (am_dk tk_X5_leastOf 14 rfl)
    · rw [if_neg hc5] at h
      refine am_iload_n (j := 0) (am_dk tk_X5_leastOf 5 rfl) rfl rfl ?_
      refine am_iload_n (j := 1) (am_dk tk_X5_leastOf 6 rfl) rfl rfl ?_
      refine am_cS (M := m_X5_isIn) (As := [.int x0, .int x1]) (st := []) (ct_X5_isIn _ _ _) ml_X5_172 ld_X5_isIn rfl ⟨Nat.le_of_ble_eq_true rfl, Nat.le_of_ble_eq_true rfl⟩ (Nat.le_of_ble_eq_true rfl) ⟨rfl, rfl⟩ ⟨Nat.le_of_ble_eq_true rfl, Nat.le_of_ble_eq_true rfl⟩ (am_dk tk_X5_leastOf 7 rfl) (am_kki ?_)
      refine am_if_eq (tgt := 18) (am_dk tk_X5_leastOf 8 rfl) (by decide) (fun hc13 => ?_) (fun hc13 => ?_)
      · rw [if_pos hc13] at h
        refine am_iinc (j := 1) (v := x1 + 1) (L' := [(1, .int (x1 + 1)), (0, .int x0)]) (am_dk tk_X5_leastOf 11 rfl) rfl rfl (Nat.le_of_ble_eq_true rfl) rfl ?_
        refine am_goto (tgt := 2) (am_dk tk_X5_leastOf 12 rfl) (by decide) ?_
        refine am_ls [1, 0] rfl ?_
        exact ih _ _ _ h
      · rw [if_neg hc13] at h
        refine am_iload_n (j := 1) (am_dk tk_X5_leastOf 9 rfl) rfl rfl ?_
        exact am_iret rfl (am_r2 h hΦ) ⟨Nat.le_of_ble_eq_true rfl, Nat.le_of_ble_eq_true rfl⟩ (am_dk tk_X5_leastOf 10 rfl)
theorem ct_X5_leastOf {l : Launch} {tw : Nat} {tp : Bool}  {x0 : Int32} {r : Int32} {D D' : am_M} (h : f_X5_leastOf x0 D = some (r, D')) : am_CT l m_X5_leastOf false [.int x0] (ly tw tp D) (am_is (some (.int r)) (ly tw tp D')) := by
  have hΦ : am_is (some (.int r)) (ly tw tp D') (some (.int r)) (ly tw tp D') := ⟨rfl, rfl⟩
  refine am_CT.of (by decide) (Nat.le_of_ble_eq_true rfl) ?_
  show am_Ex _ _ _ 0 [(0, .int x0)] [] _
  rw [f_X5_leastOf] at h
  refine am_iconst (v := 0) (am_dk tk_X5_leastOf 0 rfl) (by decide) ?_
  refine am_istore_n (L' := [(1, .int 0), (0, .int x0)]) (am_dk tk_X5_leastOf 1 rfl) rfl (Nat.le_of_ble_eq_true rfl) rfl ?_
  refine am_ls [1, 0] rfl ?_
  exact bx_X5_leastOf_2  hΦ am_N _ _ _ h
abbrev m_J7_fill : am_D := ((⟨"java/util/Arrays", "fill", "([II)V"⟩ : MethodName), prog_11_method_103_code, 4, none, { frames := 0, cells := 0, slots := 0, locals := 0 })
theorem ld_J7_fill : am_LD m_J7_fill 2 := ⟨(am_tb 86 (by decide +kernel) (by decide +kernel)), (am_tb 420 (by decide +kernel) (by decide +kernel)), by decide, by decide, by decide +kernel⟩
def tb_J7_fill : List (Nat × Instr × Nat) := [(0, .iconst 0, 1), (1, .istore_n 2, 1), (2, .aload_n 0, 1), (3, .arraylength, 1), (4, .istore_n 3, 1), (5, .iload_n 2, 1), (6, .iload_n 3, 1), (7, .if_icmp .ge 13, 3), (10, .aload_n 0, 1), (11, .iload_n 2, 1), (12, .iload_n 1, 1), (13, .iastore, 1), (14, .iinc 2 1, 3), (17, .goto (-12), 3), (20, .return_, 1)]
theorem tk_J7_fill : am_tbl prog_11_method_103_code tb_J7_fill = true := by decide +kernel
def b_J7_fill_5 (A nA : Nat) : Nat → Int32 → Int32 → Int32 → am_M → Option am_M
  | 0, _, _, _, _ => none
  | n + 1, x1, x2, x3, D => if x3 ≤ x2 then some D else if am_in x2 nA = true then b_J7_fill_5 A nA n x1 (x2 + 1) x3 (am_up D A x2.toNatClampNeg x1) else none
def f_J7_fill (A nA : Nat) (x1 : Int32) (D : am_M) : Option am_M := b_J7_fill_5 A nA am_N x1 0 (Int32.ofNat nA) D
theorem bx_J7_fill_5 {l : Launch} {h0 : am_H} {Φ : am_Ph} {tw : Nat} {tp : Bool} {A nA : Nat} (hA : (lyS tp)[A]? = some (0, nA)) {D' : am_M} (hΦ : Φ none (ly tw tp D')) : ∀ (n : Nat) (x1 : Int32) (x2 : Int32) (x3 : Int32) (D : am_M), b_J7_fill_5 A nA n x1 x2 x3 D = some D' → am_Ex (am_E l m_J7_fill false h0 Φ) prog_11_method_103_code (0, 0) 5 [(0, .ref A), (1, .int x1), (2, .int x2), (3, .int x3)] [] (ly tw tp D) := by
  intro n
  induction n with
  | zero =>
    intro x1 x2 x3 D h
    exact absurd h (by simp [b_J7_fill_5])
  | succ n ih =>
    intro x1 x2 x3 D h
    rw [b_J7_fill_5] at h
    refine am_iload_n (j := 2) (am_dk tk_J7_fill 5 rfl) rfl rfl ?_
    refine am_iload_n (j := 3) (am_dk tk_J7_fill 6 rfl) rfl rfl ?_
    refine am_icmp_ge (tgt := 20) (am_dk tk_J7_fill 7 rfl) (by decide) (fun hc7 => ?_) (fun hc7 => ?_)
    · rw [if_pos hc7] at h
      exact am_vret rfl (am_r0 h hΦ) ⟨Nat.le_of_ble_eq_true rfl, Nat.le_of_ble_eq_true rfl⟩ (am_dk tk_J7_fill 14 rfl)
    · rw [if_neg hc7] at h
      refine am_aload_n (j := 0) (am_dk tk_J7_fill 8 rfl) rfl rfl ?_
      refine am_iload_n (j := 2) (am_dk tk_J7_fill 9 rfl) rfl rfl ?_
      refine am_iload_n (j := 1) (am_dk tk_J7_fill 10 rfl) rfl rfl ?_
      obtain ⟨hi13, h⟩ := am_chk h
      refine ly_iast (k := x2.toNatClampNeg) hA (am_in_vp hi13) rfl (am_dk tk_J7_fill 11 rfl) ?_
      refine am_iinc (j := 2) (v := x2 + 1) (L' := [(2, .int (x2 + 1)), (0, .ref A), (1, .int x1), (3, .int x3)]) (am_dk tk_J7_fill 12 rfl) rfl rfl (Nat.le_of_ble_eq_true rfl) rfl ?_
      refine am_goto (tgt := 5) (am_dk tk_J7_fill 13 rfl) (by decide) ?_
      refine am_ls [1, 2, 0, 3] rfl ?_
      exact ih _ _ _ _ h
theorem ct_J7_fill {l : Launch} {tw : Nat} {tp : Bool} {A nA : Nat} (hA : (lyS tp)[A]? = some (0, nA)) {x1 : Int32} {D D' : am_M} (h : f_J7_fill A nA x1 D = some D') : am_CT l m_J7_fill false [.ref A, .int x1] (ly tw tp D) (am_is none (ly tw tp D')) := by
  have hΦ : am_is none (ly tw tp D') none (ly tw tp D') := ⟨rfl, rfl⟩
  refine am_CT.of (by decide) (Nat.le_of_ble_eq_true rfl) ?_
  show am_Ex _ _ _ 0 [(0, .ref A), (1, .int x1)] [] _
  rw [f_J7_fill] at h
  refine am_iconst (v := 0) (am_dk tk_J7_fill 0 rfl) (by decide) ?_
  refine am_istore_n (L' := [(2, .int 0), (0, .ref A), (1, .int x1)]) (am_dk tk_J7_fill 1 rfl) rfl (Nat.le_of_ble_eq_true rfl) rfl ?_
  refine am_aload_n (j := 1) (am_dk tk_J7_fill 2 rfl) rfl rfl ?_
  refine ly_alen hA (am_dk tk_J7_fill 3 rfl) ?_
  refine am_istore_n (L' := [(3, .int (Int32.ofNat nA)), (2, .int 0), (0, .ref A), (1, .int x1)]) (am_dk tk_J7_fill 4 rfl) rfl (Nat.le_of_ble_eq_true rfl) rfl ?_
  refine am_ls [2, 3, 1, 0] rfl ?_
  exact bx_J7_fill_5 hA hΦ am_N _ _ _ _ h
