abbrev m_X3_add : am_D := (yX3_add, prog_5_method_2_code, 2, (some .int), { frames := 0, cells := 0, slots := 0, locals := 0 })
theorem ld_X3_add : am_LD m_X3_add 1 := ⟨(am_tb 82 (by decide +kernel) (by decide +kernel)), (am_tb 405 (by decide +kernel) (by decide +kernel)), by decide, by decide, by decide +kernel⟩
def tb_X3_add : List (Nat × Instr × Nat) := [(0, .aload_n 0, 1), (1, .getfield 29, 3), (4, .sipush 250, 3), (7, .if_icmp .ge 23, 3), (10, .aload_n 0, 1), (11, .getfield 9, 3), (14, .aload_n 0, 1), (15, .getfield 29, 3), (18, .iload_n 1, 1), (19, .iastore, 1), (20, .aload_n 0, 1), (21, .dup, 1), (22, .getfield 29, 3), (25, .iconst 1, 1), (26, .iadd, 1), (27, .putfield 29, 3), (30, .aload_n 0, 1), (31, .getfield 29, 3), (34, .ireturn, 1)]
theorem tk_X3_add : am_tbl prog_5_method_2_code tb_X3_add = true := by decide +kernel
def f_X3_add (tw : Nat) (x1 : Int32) (D : am_M) : Option (Int32 × am_M) := if 250 ≤ (D 12 4) then some (D 12 4, D) else if am_in (D 12 4) 250 = true then some ((am_up (am_up D 13 (D 12 4).toNatClampNeg x1) 12 4 (((am_up D 13 (D 12 4).toNatClampNeg x1) 12 4) + 1)) 12 4, am_up (am_up D 13 (D 12 4).toNatClampNeg x1) 12 4 (((am_up D 13 (D 12 4).toNatClampNeg x1) 12 4) + 1)) else none
theorem ct_X3_add {l : Launch} {tw : Nat} {tp : Bool} (htw : lyT tw) {x1 : Int32} {r : Int32} {D D' : am_M} (h : f_X3_add tw x1 D = some (r, D')) : am_CT l m_X3_add false [.ref 12, .int x1] (ly tw tp D) (am_is (some (.int r)) (ly tw tp D')) := by
  have hΦ : am_is (some (.int r)) (ly tw tp D') (some (.int r)) (ly tw tp D') := ⟨rfl, rfl⟩
  refine am_CT.of (by decide) (Nat.le_of_ble_eq_true rfl) ?_
  show am_Ex _ _ _ 0 [(0, .ref 12), (1, .int x1)] [] _
  rw [f_X3_add] at h
  refine am_aload_n (j := 0) (am_dk tk_X3_add 0 rfl) rfl rfl ?_
  refine ly_geti rfl fl_X3_29 rfl (am_dk tk_X3_add 1 rfl) ?_
  refine am_sipush (v := 250) (am_dk tk_X3_add 2 rfl) (by decide) ?_
  refine am_icmp_ge (tgt := 30) (am_dk tk_X3_add 3 rfl) (by decide) (fun hc7 => ?_) (fun hc7 => ?_)
  · rw [if_pos hc7] at h
    refine am_aload_n (j := 0) (am_dk tk_X3_add 16 rfl) rfl rfl ?_
    refine ly_geti rfl fl_X3_29 rfl (am_dk tk_X3_add 17 rfl) ?_
    exact am_iret rfl (am_r2 h hΦ) ⟨Nat.le_of_ble_eq_true rfl, Nat.le_of_ble_eq_true rfl⟩ (am_dk tk_X3_add 18 rfl)
  · rw [if_neg hc7] at h
    refine am_aload_n (j := 0) (am_dk tk_X3_add 4 rfl) rfl rfl ?_
    refine ly_getr (b := 13) rfl fl_X3_9 rfl rfl (am_dk tk_X3_add 5 rfl) ?_
    refine am_aload_n (j := 0) (am_dk tk_X3_add 6 rfl) rfl rfl ?_
    refine ly_geti rfl fl_X3_29 rfl (am_dk tk_X3_add 7 rfl) ?_
    refine am_iload_n (j := 1) (am_dk tk_X3_add 8 rfl) rfl rfl ?_
    obtain ⟨hi19, h⟩ := am_chk h
    refine ly_iast (k := (D 12 4).toNatClampNeg) rfl (am_in_vp hi19) rfl (am_dk tk_X3_add 9 rfl) ?_
    refine am_aload_n (j := 0) (am_dk tk_X3_add 10 rfl) rfl rfl ?_
    refine am_dup (am_dk tk_X3_add 11 rfl) rfl ?_
    refine ly_geti rfl fl_X3_29 rfl (am_dk tk_X3_add 12 rfl) ?_
    refine am_iconst (v := 1) (am_dk tk_X3_add 13 rfl) (by decide) ?_
    refine am_iadd (am_dk tk_X3_add 14 rfl) ?_
    refine ly_puti rfl fl_X3_29 rfl rfl (am_dk tk_X3_add 15 rfl) ?_
    refine am_aload_n (j := 0) (am_dk tk_X3_add 16 rfl) rfl rfl ?_
    refine ly_geti rfl fl_X3_29 rfl (am_dk tk_X3_add 17 rfl) ?_
    exact am_iret rfl (am_r2 h hΦ) ⟨Nat.le_of_ble_eq_true rfl, Nat.le_of_ble_eq_true rfl⟩ (am_dk tk_X3_add 18 rfl)
abbrev m_X3_isGood : am_D := (yX3_isGood, prog_5_method_4_code, 1, (some .boolean), { frames := 0, cells := 0, slots := 0, locals := 0 })
theorem ld_X3_isGood : am_LD m_X3_isGood 0 := ⟨(am_tb 82 (by decide +kernel) (by decide +kernel)), (am_tb 424 (by decide +kernel) (by decide +kernel)), by decide, by decide, by decide +kernel⟩
def tb_X3_isGood : List (Nat × Instr × Nat) := [(0, .aload_n 0, 1), (1, .getfield 32, 3), (4, .ifCond .ne 7, 3), (7, .iconst 1, 1), (8, .goto 4, 3), (11, .iconst 0, 1), (12, .ireturn, 1)]
theorem tk_X3_isGood : am_tbl prog_5_method_4_code tb_X3_isGood = true := by decide +kernel
def f_X3_isGood (tw : Nat) (D : am_M) : Int32 := if (D 12 5) = 0 then 1 else 0
theorem zb_X3_isGood (tw : Nat) (D : am_M) : f_X3_isGood tw D = 0 ∨ f_X3_isGood tw D = 1 := by
  unfold f_X3_isGood
  repeat' split
  all_goals first | exact Or.inl rfl | exact Or.inr rfl
theorem ct_X3_isGood {l : Launch} {tw : Nat} {tp : Bool} (htw : lyT tw) (D : am_M) : am_CT l m_X3_isGood false [.ref 12] (ly tw tp D) (am_is (some (.int (f_X3_isGood tw D))) (ly tw tp D)) := by
  refine am_CT.of (by decide) (Nat.le_of_ble_eq_true rfl) ?_
  show am_Ex _ _ _ 0 [(0, .ref 12)] [] _
  refine am_aload_n (j := 0) (am_dk tk_X3_isGood 0 rfl) rfl rfl ?_
  refine ly_geti rfl fl_X3_32 rfl (am_dk tk_X3_isGood 1 rfl) ?_
  refine am_if_ne (tgt := 11) (am_dk tk_X3_isGood 2 rfl) (by decide) (fun hc4 => ?_) (fun hc4 => ?_)
  · skip
    refine am_iconst (v := 0) (am_dk tk_X3_isGood 5 rfl) (by decide) ?_
    exact am_zret (Or.inl rfl) rfl ⟨by simp only [f_X3_isGood, if_neg hc4], rfl⟩ ⟨Nat.le_of_ble_eq_true rfl, Nat.le_of_ble_eq_true rfl⟩ (am_dk tk_X3_isGood 6 rfl)
  · skip
    refine am_iconst (v := 1) (am_dk tk_X3_isGood 3 rfl) (by decide) ?_
    refine am_goto (tgt := 12) (am_dk tk_X3_isGood 4 rfl) (by decide) ?_
    exact am_zret (Or.inr rfl) rfl ⟨by simp only [f_X3_isGood, if_pos hc4], rfl⟩ ⟨Nat.le_of_ble_eq_true rfl, Nat.le_of_ble_eq_true rfl⟩ (am_dk tk_X3_isGood 6 rfl)
abbrev m_X3_fail : am_D := (yX3_fail, prog_5_method_5_code, 3, none, { frames := 1, cells := 0, slots := 0, locals := 20 })
theorem ld_X3_fail : am_LD m_X3_fail 2 := ⟨(am_tb 82 (by decide +kernel) (by decide +kernel)), (am_tb 436 (by decide +kernel) (by decide +kernel)), by decide, by decide, by decide +kernel⟩
def tb_X3_fail : List (Nat × Instr × Nat) := [(0, .aload_n 0, 1), (1, .invokevirtual 41, 3), (4, .ifCond .ne 4, 3), (7, .return_, 1), (8, .aload_n 0, 1), (9, .iload_n 1, 1), (10, .putfield 32, 3), (13, .aload_n 0, 1), (14, .iload_n 2, 1), (15, .putfield 35, 3), (18, .return_, 1)]
theorem tk_X3_fail : am_tbl prog_5_method_5_code tb_X3_fail = true := by decide +kernel
def f_X3_fail (tw : Nat) (x1 : Int32) (x2 : Int32) (D : am_M) : Option am_M := if (f_X3_isGood tw D) = 0 then some D else some (am_up (am_up D 12 5 x1) 12 6 x2)
theorem ct_X3_fail {l : Launch} {tw : Nat} {tp : Bool} (htw : lyT tw) {x1 : Int32} {x2 : Int32} {D D' : am_M} (h : f_X3_fail tw x1 x2 D = some D') : am_CT l m_X3_fail false [.ref 12, .int x1, .int x2] (ly tw tp D) (am_is none (ly tw tp D')) := by
  have hΦ : am_is none (ly tw tp D') none (ly tw tp D') := ⟨rfl, rfl⟩
  refine am_CT.of (by decide) (Nat.le_of_ble_eq_true rfl) ?_
  show am_Ex _ _ _ 0 [(0, .ref 12), (1, .int x1), (2, .int x2)] [] _
  rw [f_X3_fail] at h
  refine am_aload_n (j := 0) (am_dk tk_X3_fail 0 rfl) rfl rfl ?_
  refine ly_cV (M := m_X3_isGood) (As := []) (b := 12) (st := []) (ct_X3_isGood htw  _) rfl (by decide) rfl ml_X3_41 ld_X3_isGood rfl ⟨Nat.le_of_ble_eq_true rfl, Nat.le_of_ble_eq_true rfl⟩ (Nat.le_of_ble_eq_true rfl) ⟨rfl, rfl⟩ ⟨Nat.le_of_ble_eq_true rfl, Nat.le_of_ble_eq_true rfl⟩ (am_dk tk_X3_fail 1 rfl) (am_kki ?_)
  refine am_if_ne (tgt := 8) (am_dk tk_X3_fail 2 rfl) (by decide) (fun hc4 => ?_) (fun hc4 => ?_)
  · rw [if_neg hc4] at h
    refine am_aload_n (j := 0) (am_dk tk_X3_fail 4 rfl) rfl rfl ?_
    refine am_iload_n (j := 1) (am_dk tk_X3_fail 5 rfl) rfl rfl ?_
    refine ly_puti rfl fl_X3_32 rfl rfl (am_dk tk_X3_fail 6 rfl) ?_
    refine am_aload_n (j := 0) (am_dk tk_X3_fail 7 rfl) rfl rfl ?_
    refine am_iload_n (j := 2) (am_dk tk_X3_fail 8 rfl) rfl rfl ?_
    refine ly_puti rfl fl_X3_35 rfl rfl (am_dk tk_X3_fail 9 rfl) ?_
    exact am_vret rfl (am_r0 h hΦ) ⟨Nat.le_of_ble_eq_true rfl, Nat.le_of_ble_eq_true rfl⟩ (am_dk tk_X3_fail 10 rfl)
  · rw [if_pos hc4] at h
    exact am_vret rfl (am_r0 h hΦ) ⟨Nat.le_of_ble_eq_true rfl, Nat.le_of_ble_eq_true rfl⟩ (am_dk tk_X3_fail 3 rfl)
abbrev m_X3_peek : am_D := (yX3_peek, prog_5_method_6_code, 1, (some .int), { frames := 0, cells := 0, slots := 0, locals := 0 })
theorem ld_X3_peek : am_LD m_X3_peek 0 := ⟨(am_tb 82 (by decide +kernel) (by decide +kernel)), (am_tb 428 (by decide +kernel) (by decide +kernel)), by decide, by decide, by decide +kernel⟩
def tb_X3_peek : List (Nat × Instr × Nat) := [(0, .aload_n 0, 1), (1, .getfield 15, 3), (4, .aload_n 0, 1), (5, .getfield 29, 3), (8, .if_icmp .ge 30, 3), (11, .aload_n 0, 1), (12, .getfield 9, 3), (15, .aload_n 0, 1), (16, .getfield 15, 3), (19, .iaload, 1), (20, .bipush 32, 2), (22, .if_icmp .ne 16, 3), (25, .aload_n 0, 1), (26, .dup, 1), (27, .getfield 15, 3), (30, .iconst 1, 1), (31, .iadd, 1), (32, .putfield 15, 3), (35, .goto (-35), 3), (38, .aload_n 0, 1), (39, .getfield 15, 3), (42, .aload_n 0, 1), (43, .getfield 29, 3), (46, .if_icmp .ge 15, 3), (49, .aload_n 0, 1), (50, .getfield 9, 3), (53, .aload_n 0, 1), (54, .getfield 15, 3), (57, .iaload, 1), (58, .goto 4, 3), (61, .iconst (-1), 1), (62, .ireturn, 1)]
theorem tk_X3_peek : am_tbl prog_5_method_6_code tb_X3_peek = true := by decide +kernel
def b_X3_peek_38 (tw : Nat) (D : am_M) : Option (Int32 × am_M) := if (D 12 4) ≤ (D 12 1) then some ((-1), D) else if am_in (D 12 1) 250 = true then some (D 13 (D 12 1).toNatClampNeg, D) else none
def b_X3_peek_0 (tw : Nat) : Nat → am_M → Option (Int32 × am_M)
  | 0, _ => none
  | n + 1, D => if (D 12 4) ≤ (D 12 1) then b_X3_peek_38 tw D else if am_in (D 12 1) 250 = true then if (D 13 (D 12 1).toNatClampNeg) = 32 then b_X3_peek_0 tw n (am_up D 12 1 ((D 12 1) + 1)) else b_X3_peek_38 tw D else none
def f_X3_peek (tw : Nat) (D : am_M) : Option (Int32 × am_M) := b_X3_peek_0 tw am_N D
theorem bx_X3_peek_38 {l : Launch} {h0 : am_H} {Φ : am_Ph} {tw : Nat} {tp : Bool} (htw : lyT tw) {r : Int32} {D' : am_M} (hΦ : Φ (some (.int r)) (ly tw tp D')) : ∀ (D : am_M), b_X3_peek_38 tw D = some (r, D') → am_Ex (am_E l m_X3_peek false h0 Φ) prog_5_method_6_code (0, 0) 38 [(0, .ref 12)] [] (ly tw tp D) := by
  intro  D h
  rw [b_X3_peek_38] at h
  refine am_aload_n (j := 0) (am_dk tk_X3_peek 19 rfl) rfl rfl ?_
  refine ly_geti rfl fl_X3_15 rfl (am_dk tk_X3_peek 20 rfl) ?_
  refine am_aload_n (j := 0) (am_dk tk_X3_peek 21 rfl) rfl rfl ?_
  refine ly_geti rfl fl_X3_29 rfl (am_dk tk_X3_peek 22 rfl) ?_
  refine am_icmp_ge (tgt := 61) (am_dk tk_X3_peek 23 rfl) (by decide) (fun hc46 => ?_) (fun hc46 => ?_)
  · rw [if_pos hc46] at h
    refine am_iconst (v := (-1)) (am_dk tk_X3_peek 30 rfl) (by decide) ?_
    exact am_iret rfl (am_r2 h hΦ) ⟨Nat.le_of_ble_eq_true rfl, Nat.le_of_ble_eq_true rfl⟩ (am_dk tk_X3_peek 31 rfl)
  · rw [if_neg hc46] at h
    refine am_aload_n (j := 0) (am_dk tk_X3_peek 24 rfl) rfl rfl ?_
    refine ly_getr (b := 13) rfl fl_X3_9 rfl rfl (am_dk tk_X3_peek 25 rfl) ?_
    refine am_aload_n (j := 0) (am_dk tk_X3_peek 26 rfl) rfl rfl ?_
    refine ly_geti rfl fl_X3_15 rfl (am_dk tk_X3_peek 27 rfl) ?_
    obtain ⟨hi57, h⟩ := am_chk h
    refine ly_iald (k := (D 12 1).toNatClampNeg) rfl (am_in_vp hi57) rfl (am_dk tk_X3_peek 28 rfl) ?_
    refine am_goto (tgt := 62) (am_dk tk_X3_peek 29 rfl) (by decide) ?_
    exact am_iret rfl (am_r2 h hΦ) ⟨Nat.le_of_ble_eq_true rfl, Nat.le_of_ble_eq_true rfl⟩ (am_dk tk_X3_peek 31 rfl)
theorem bx_X3_peek_0 {l : Launch} {h0 : am_H} {Φ : am_Ph} {tw : Nat} {tp : Bool} (htw : lyT tw) {r : Int32} {D' : am_M} (hΦ : Φ (some (.int r)) (ly tw tp D')) : ∀ (n : Nat) (D : am_M), b_X3_peek_0 tw n D = some (r, D') → am_Ex (am_E l m_X3_peek false h0 Φ) prog_5_method_6_code (0, 0) 0 [(0, .ref 12)] [] (ly tw tp D) := by
  intro n
  induction n with
  | zero =>
    intro  D h
    exact absurd h (by simp [b_X3_peek_0])
  | succ n ih =>
    intro  D h
    rw [b_X3_peek_0] at h
    refine am_aload_n (j := 0) (am_dk tk_X3_peek 0 rfl) rfl rfl ?_
    refine ly_geti rfl fl_X3_15 rfl (am_dk tk_X3_peek 1 rfl) ?_
    refine am_aload_n (j := 0) (am_dk tk_X3_peek 2 rfl) rfl rfl ?_
    refine ly_geti rfl fl_X3_29 rfl (am_dk tk_X3_peek 3 rfl) ?_
    refine am_icmp_ge (tgt := 38) (am_dk tk_X3_peek 4 rfl) (by decide) (fun hc8 => ?_) (fun hc8 => ?_)
    · rw [if_pos hc8] at h
      exact bx_X3_peek_38 htw hΦ _ h
    · rw [if_neg hc8] at h
      refine am_aload_n (j := 0) (am_dk tk_X3_peek 5 rfl) rfl rfl ?_
      refine ly_getr (b := 13) rfl fl_X3_9 rfl rfl (am_dk tk_X3_peek 6 rfl) ?_
      refine am_aload_n (j := 0) (am_dk tk_X3_peek 7 rfl) rfl rfl ?_
      refine ly_geti rfl fl_X3_15 rfl (am_dk tk_X3_peek 8 rfl) ?_
      obtain ⟨hi19, h⟩ := am_chk h
      refine ly_iald (k := (D 12 1).toNatClampNeg) rfl (am_in_vp hi19) rfl (am_dk tk_X3_peek 9 rfl) ?_
      refine am_bipush (v := 32) (am_dk tk_X3_peek 10 rfl) (by decide) ?_
      refine am_icmp_ne (tgt := 38) (am_dk tk_X3_peek 11 rfl) (by decide) (fun hc22 => ?_) (fun hc22 => ?_)
      · rw [if_neg hc22] at h
        exact bx_X3_peek_38 htw hΦ _ h
      · rw [if_pos hc22] at h
        refine am_aload_n (j := 0) (am_dk tk_X3_peek 12 rfl) rfl rfl ?_
        refine am_dup (am_dk tk_X3_peek 13 rfl) rfl ?_
        refine ly_geti rfl fl_X3_15 rfl (am_dk tk_X3_peek 14 rfl) ?_
        refine am_iconst (v := 1) (am_dk tk_X3_peek 15 rfl) (by decide) ?_
        refine am_iadd (am_dk tk_X3_peek 16 rfl) ?_
        refine ly_puti rfl fl_X3_15 rfl rfl (am_dk tk_X3_peek 17 rfl) ?_
        refine am_goto (tgt := 0) (am_dk tk_X3_peek 18 rfl) (by decide) ?_
        exact ih _ h
theorem ct_X3_peek {l : Launch} {tw : Nat} {tp : Bool} (htw : lyT tw) {r : Int32} {D D' : am_M} (h : f_X3_peek tw D = some (r, D')) : am_CT l m_X3_peek false [.ref 12] (ly tw tp D) (am_is (some (.int r)) (ly tw tp D')) := by
  have hΦ : am_is (some (.int r)) (ly tw tp D') (some (.int r)) (ly tw tp D') := ⟨rfl, rfl⟩
  refine am_CT.of (by decide) (Nat.le_of_ble_eq_true rfl) ?_
  show am_Ex _ _ _ 0 [(0, .ref 12)] [] _
  rw [f_X3_peek] at h
  exact bx_X3_peek_0 htw hΦ am_N _ h
abbrev m_X3_isFigure : am_D := (yX3_isFigure, prog_5_method_17_code, 1, (some .boolean), { frames := 1, cells := 0, slots := 0, locals := 22 })
theorem ld_X3_isFigure : am_LD m_X3_isFigure 1 := ⟨(am_tb 82 (by decide +kernel) (by decide +kernel)), (am_tb 451 (by decide +kernel) (by decide +kernel)), by decide, by decide, by decide +kernel⟩
def tb_X3_isFigure : List (Nat × Instr × Nat) := [(0, .iload_n 0, 1), (1, .bipush 48, 2), (3, .bipush 57, 2), (5, .invokestatic 148, 3), (8, .ireturn, 1)]
theorem tk_X3_isFigure : am_tbl prog_5_method_17_code tb_X3_isFigure = true := by decide +kernel
def f_X3_isFigure (x0 : Int32) : Int32 := f_X5_isWithin x0 48 57
theorem zb_X3_isFigure (x0 : Int32) : f_X3_isFigure x0 = 0 ∨ f_X3_isFigure x0 = 1 := by
  unfold f_X3_isFigure
  repeat' split
  all_goals first | exact Or.inl rfl | exact Or.inr rfl | exact zb_X5_isWithin x0 48 57
theorem ct_X3_isFigure {l : Launch} (x0 : Int32) (h : am_H) : am_CT l m_X3_isFigure false [.int x0] h (am_is (some (.int (f_X3_isFigure x0))) h) := by
  refine am_CT.of (by decide) (Nat.le_of_ble_eq_true rfl) ?_
  show am_Ex _ _ _ 0 [(0, .int x0)] [] _
  refine am_iload_n (j := 0) (am_dk tk_X3_isFigure 0 rfl) rfl rfl ?_
  refine am_bipush (v := 48) (am_dk tk_X3_isFigure 1 rfl) (by decide) ?_
  refine am_bipush (v := 57) (am_dk tk_X3_isFigure 2 rfl) (by decide) ?_
  refine am_cSN (M := m_X5_isWithin) (As := [.int x0, .int 48, .int 57]) (st := []) (ct_X5_isWithin _ _ _ _) ml_X3_148 ld_X5_isWithin rfl ⟨Nat.le_of_ble_eq_true rfl, Nat.le_of_ble_eq_true rfl⟩ (Nat.le_of_ble_eq_true rfl) ⟨rfl, rfl⟩ ⟨Nat.le_of_ble_eq_true rfl, Nat.le_of_ble_eq_true rfl⟩ (am_dk tk_X3_isFigure 3 rfl) (am_kki ?_)
  exact am_zret (zb_X5_isWithin x0 48 57) rfl ⟨rfl, rfl⟩ ⟨Nat.le_of_ble_eq_true rfl, Nat.le_of_ble_eq_true rfl⟩ (am_dk tk_X3_isFigure 4 rfl)
abbrev m_X3_readNumber : am_D := (yX3_readNumber, prog_5_method_16_code, 4, (some .int), { frames := 2, cells := 0, slots := 0, locals := 42 })
theorem ld_X3_readNumber : am_LD m_X3_readNumber 2 := ⟨(am_tb 82 (by decide +kernel) (by decide +kernel)), (am_tb 448 (by decide +kernel) (by decide +kernel)), by decide, by decide, by decide +kernel⟩
def tb_X3_readNumber : List (Nat × Instr × Nat) := [(0, .aload_n 0, 1), (1, .invokevirtual 41, 3), (4, .ifCond .ne 5, 3), (7, .iconst 0, 1), (8, .ireturn, 1), (9, .aload_n 0, 1), (10, .invokevirtual 45, 3), (13, .invokestatic 145, 3), (16, .ifCond .ne 14, 3), (19, .aload_n 0, 1), (20, .iconst 1, 1), (21, .aload_n 0, 1), (22, .getfield 15, 3), (25, .invokevirtual 55, 3), (28, .iconst 0, 1), (29, .ireturn, 1), (30, .aload_n 0, 1), (31, .aload_n 0, 1), (32, .getfield 15, 3), (35, .putfield 19, 3), (38, .iconst 0, 1), (39, .istore_n 3, 1), (40, .aload_n 0, 1), (41, .getfield 15, 3), (44, .aload_n 0, 1), (45, .getfield 29, 3), (48, .if_icmp .ge 62, 3), (51, .aload_n 0, 1), (52, .getfield 9, 3), (55, .aload_n 0, 1), (56, .getfield 15, 3), (59, .iaload, 1), (60, .invokestatic 145, 3), (63, .ifCond .eq 47, 3), (66, .aload_n 0, 1), (67, .getfield 15, 3), (70, .aload_n 0, 1), (71, .getfield 19, 3), (74, .isub, 1), (75, .iconst 3, 1), (76, .if_icmp .ge 21, 3), (79, .iload_n 3, 1), (80, .bipush 10, 2), (82, .imul, 1), (83, .aload_n 0, 1), (84, .getfield 9, 3), (87, .aload_n 0, 1), (88, .getfield 15, 3), (91, .iaload, 1), (92, .iadd, 1), (93, .bipush 48, 2), (95, .isub, 1), (96, .istore_n 3, 1), (97, .aload_n 0, 1), (98, .dup, 1), (99, .getfield 15, 3), (102, .iconst 1, 1), (103, .iadd, 1), (104, .putfield 15, 3), (107, .goto (-67), 3)]
theorem tk_X3_readNumber : am_tbl prog_5_method_16_code tb_X3_readNumber = true := by decide +kernel
def tb_X3_readNumber_1 : List (Nat × Instr × Nat) := [(110, .aload_n 0, 1), (111, .getfield 15, 3), (114, .aload_n 0, 1), (115, .getfield 19, 3), (118, .isub, 1), (119, .iconst 3, 1), (120, .if_icmp .gt 12, 3), (123, .iload_n 3, 1), (124, .iload_n 1, 1), (125, .iload_n 2, 1), (126, .invokestatic 148, 3), (129, .ifCond .ne 14, 3), (132, .aload_n 0, 1), (133, .iconst 2, 1), (134, .aload_n 0, 1), (135, .getfield 19, 3), (138, .invokevirtual 55, 3), (141, .iconst 0, 1), (142, .ireturn, 1), (143, .iload_n 3, 1), (144, .ireturn, 1)]
theorem tk_X3_readNumber_1 : am_tbl prog_5_method_16_code tb_X3_readNumber_1 = true := by decide +kernel
def b_X3_readNumber_132 (tw : Nat) (D : am_M) : Option (Int32 × am_M) := (f_X3_fail tw 2 (D 12 2) D).bind fun q138 => some (0, q138)
def b_X3_readNumber_110 (tw : Nat) (x1 : Int32) (x2 : Int32) (x3 : Int32) (D : am_M) : Option (Int32 × am_M) := if 3 < ((D 12 1) - (D 12 2)) then b_X3_readNumber_132 tw D else if (f_X5_isWithin x3 x1 x2) = 0 then b_X3_readNumber_132 tw D else some (x3, D)
def b_X3_readNumber_97 (tw : Nat) (k40 : Int32 → Int32 → Int32 → am_M → Option (Int32 × am_M)) (x1 : Int32) (x2 : Int32) (x3 : Int32) (D : am_M) : Option (Int32 × am_M) := k40 x1 x2 x3 (am_up D 12 1 ((D 12 1) + 1))
def b_X3_readNumber_40 (tw : Nat) : Nat → Int32 → Int32 → Int32 → am_M → Option (Int32 × am_M)
  | 0, _, _, _, _ => none
  | n + 1, x1, x2, x3, D => if (D 12 4) ≤ (D 12 1) then b_X3_readNumber_110 tw x1 x2 x3 D else if am_in (D 12 1) 250 = true then if (f_X3_isFigure (D 13 (D 12 1).toNatClampNeg)) = 0 then b_X3_readNumber_110 tw x1 x2 x3 D else b_X3_readNumber_97 tw (b_X3_readNumber_40 tw n) x1 x2 (if 3 ≤ ((D 12 1) - (D 12 2)) then x3 else ((x3 * 10) + (D 13 (D 12 1).toNatClampNeg)) - 48) D else none
def f_X3_readNumber (tw : Nat) (x1 : Int32) (x2 : Int32) (D : am_M) : Option (Int32 × am_M) := if (f_X3_isGood tw D) = 0 then some (0, D) else (f_X3_peek tw D).bind fun q10 => if (f_X3_isFigure q10.1) = 0 then (f_X3_fail tw 1 (q10.2 12 1) q10.2).bind fun q25 => some (0, q25) else b_X3_readNumber_40 tw am_N x1 x2 0 (am_up q10.2 12 2 (q10.2 12 1))
theorem bx_X3_readNumber_132 {l : Launch} {h0 : am_H} {Φ : am_Ph} {tw : Nat} {tp : Bool} (htw : lyT tw) {r : Int32} {D' : am_M} (hΦ : Φ (some (.int r)) (ly tw tp D')) : ∀ (D : am_M), b_X3_readNumber_132 tw D = some (r, D') → am_Ex (am_E l m_X3_readNumber false h0 Φ) prog_5_method_16_code (0, 0) 132 [(0, .ref 12)] [] (ly tw tp D) := by
  intro  D h
  rw [b_X3_readNumber_132] at h
  refine am_aload_n (j := 0) (am_dk tk_X3_readNumber_1 12 rfl) rfl rfl ?_
  refine am_iconst (v := 2) (am_dk tk_X3_readNumber_1 13 rfl) (by decide) ?_
  refine am_aload_n (j := 0) (am_dk tk_X3_readNumber_1 14 rfl) rfl rfl ?_
  refine ly_geti rfl fl_X3_19 rfl (am_dk tk_X3_readNumber_1 15 rfl) ?_
  obtain ⟨q138, hq138, h⟩ := am_bind h
  refine ly_cV (M := m_X3_fail) (As := [.int 2, .int (D 12 2)]) (b := 12) (st := []) (ct_X3_fail htw hq138) rfl (by decide) rfl ml_X3_55 ld_X3_fail rfl ⟨Nat.le_of_ble_eq_true rfl, Nat.le_of_ble_eq_true rfl⟩ (Nat.le_of_ble_eq_true rfl) ⟨rfl, rfl⟩ ⟨Nat.le_of_ble_eq_true rfl, Nat.le_of_ble_eq_true rfl⟩ (am_dk tk_X3_readNumber_1 16 rfl) (am_kkv ?_)
  refine am_iconst (v := 0) (am_dk tk_X3_readNumber_1 17 rfl) (by decide) ?_
  exact am_iret rfl (am_r2 h hΦ) ⟨Nat.le_of_ble_eq_true rfl, Nat.le_of_ble_eq_true rfl⟩ (am_dk tk_X3_readNumber_1 18 rfl)
theorem bx_X3_readNumber_110 {l : Launch} {h0 : am_H} {Φ : am_Ph} {tw : Nat} {tp : Bool} (htw : lyT tw) {r : Int32} {D' : am_M} (hΦ : Φ (some (.int r)) (ly tw tp D')) : ∀ (x1 : Int32) (x2 : Int32) (x3 : Int32) (D : am_M), b_X3_readNumber_110 tw x1 x2 x3 D = some (r, D') → am_Ex (am_E l m_X3_readNumber false h0 Φ) prog_5_method_16_code (0, 0) 110 [(0, .ref 12), (1, .int x1), (2, .int x2), (3, .int x3)] [] (ly tw tp D) := by
  intro x1 x2 x3 D h
  rw [b_X3_readNumber_110] at h
  refine am_aload_n (j := 0) (am_dk tk_X3_readNumber_1 0 rfl) rfl rfl ?_
  refine ly_geti rfl fl_X3_15 rfl (am_dk tk_X3_readNumber_1 1 rfl) ?_
  refine am_aload_n (j := 0) (am_dk tk_X3_readNumber_1 2 rfl) rfl rfl ?_
  refine ly_geti rfl fl_X3_19 rfl (am_dk tk_X3_readNumber_1 3 rfl) ?_
  refine am_isub (am_dk tk_X3_readNumber_1 4 rfl) ?_
  refine am_iconst (v := 3) (am_dk tk_X3_readNumber_1 5 rfl) (by decide) ?_
  refine am_icmp_gt (tgt := 132) (am_dk tk_X3_readNumber_1 6 rfl) (by decide) (fun hc120 => ?_) (fun hc120 => ?_)
  · rw [if_pos hc120] at h
    refine am_ls [0] rfl ?_
    exact bx_X3_readNumber_132 htw hΦ _ h
  · rw [if_neg hc120] at h
    refine am_iload_n (j := 3) (am_dk tk_X3_readNumber_1 7 rfl) rfl rfl ?_
    refine am_iload_n (j := 1) (am_dk tk_X3_readNumber_1 8 rfl) rfl rfl ?_
    refine am_iload_n (j := 2) (am_dk tk_X3_readNumber_1 9 rfl) rfl rfl ?_
    refine am_cSN (M := m_X5_isWithin) (As := [.int x3, .int x1, .int x2]) (st := []) (ct_X5_isWithin _ _ _ _) ml_X3_148 ld_X5_isWithin rfl ⟨Nat.le_of_ble_eq_true rfl, Nat.le_of_ble_eq_true rfl⟩ (Nat.le_of_ble_eq_true rfl) ⟨rfl, rfl⟩ ⟨Nat.le_of_ble_eq_true rfl, Nat.le_of_ble_eq_true rfl⟩ (am_dk tk_X3_readNumber_1 10 rfl) (am_kki ?_)
    refine am_if_ne (tgt := 143) (am_dk tk_X3_readNumber_1 11 rfl) (by decide) (fun hc129 => ?_) (fun hc129 => ?_)
    · rw [if_neg hc129] at h
      refine am_iload_n (j := 3) (am_dk tk_X3_readNumber_1 19 rfl) rfl rfl ?_
      exact am_iret rfl (am_r2 h hΦ) ⟨Nat.le_of_ble_eq_true rfl, Nat.le_of_ble_eq_true rfl⟩ (am_dk tk_X3_readNumber_1 20 rfl)
    · rw [if_pos hc129] at h
      refine am_ls [0] rfl ?_
      exact bx_X3_readNumber_132 htw hΦ _ h
theorem bx_X3_readNumber_97 {l : Launch} {h0 : am_H} {Φ : am_Ph} {tw : Nat} {tp : Bool} (htw : lyT tw) {r : Int32} {D' : am_M} (hΦ : Φ (some (.int r)) (ly tw tp D')) {k40 : Int32 → Int32 → Int32 → am_M → Option (Int32 × am_M)} (hk40 : ∀ (x1 : Int32) (x2 : Int32) (x3 : Int32) (D : am_M), k40 x1 x2 x3 D = some (r, D') → am_Ex (am_E l m_X3_readNumber false h0 Φ) prog_5_method_16_code (0, 0) 40 [(0, .ref 12), (1, .int x1), (2, .int x2), (3, .int x3)] [] (ly tw tp D)) : ∀ (x1 : Int32) (x2 : Int32) (x3 : Int32) (D : am_M), b_X3_readNumber_97 tw k40 x1 x2 x3 D = some (r, D') → am_Ex (am_E l m_X3_readNumber false h0 Φ) prog_5_method_16_code (0, 0) 97 [(0, .ref 12), (1, .int x1), (2, .int x2), (3, .int x3)] [] (ly tw tp D) := by
  intro x1 x2 x3 D h
  rw [b_X3_readNumber_97] at h
  refine am_aload_n (j := 0) (am_dk tk_X3_readNumber 53 rfl) rfl rfl ?_
  refine am_dup (am_dk tk_X3_readNumber 54 rfl) rfl ?_
  refine ly_geti rfl fl_X3_15 rfl (am_dk tk_X3_readNumber 55 rfl) ?_
  refine am_iconst (v := 1) (am_dk tk_X3_readNumber 56 rfl) (by decide) ?_
  refine am_iadd (am_dk tk_X3_readNumber 57 rfl) ?_
  refine ly_puti rfl fl_X3_15 rfl rfl (am_dk tk_X3_readNumber 58 rfl) ?_
  refine am_goto (tgt := 40) (am_dk tk_X3_readNumber 59 rfl) (by decide) ?_
  exact hk40 _ _ _ _ h
theorem bx_X3_readNumber_40 {l : Launch} {h0 : am_H} {Φ : am_Ph} {tw : Nat} {tp : Bool} (htw : lyT tw) {r : Int32} {D' : am_M} (hΦ : Φ (some (.int r)) (ly tw tp D')) : ∀ (n : Nat) (x1 : Int32) (x2 : Int32) (x3 : Int32) (D : am_M), b_X3_readNumber_40 tw n x1 x2 x3 D = some (r, D') → am_Ex (am_E l m_X3_readNumber false h0 Φ) prog_5_method_16_code (0, 0) 40 [(0, .ref 12), (1, .int x1), (2, .int x2), (3, .int x3)] [] (ly tw tp D) := by
  intro n
  induction n with
  | zero =>
    intro x1 x2 x3 D h
    exact absurd h (by simp [b_X3_readNumber_40])
  | succ n ih =>
    intro x1 x2 x3 D h
    rw [b_X3_readNumber_40] at h
    refine am_aload_n (j := 0) (am_dk tk_X3_readNumber 22 rfl) rfl rfl ?_
    refine ly_geti rfl fl_X3_15 rfl (am_dk tk_X3_readNumber 23 rfl) ?_
    refine am_aload_n (j := 0) (am_dk tk_X3_readNumber 24 rfl) rfl rfl ?_
    refine ly_geti rfl fl_X3_29 rfl (am_dk tk_X3_readNumber 25 rfl) ?_
    refine am_icmp_ge (tgt := 110) (am_dk tk_X3_readNumber 26 rfl) (by decide) (fun hc48 => ?_) (fun hc48 => ?_)
    · rw [if_pos hc48] at h
      exact bx_X3_readNumber_110 htw hΦ _ _ _ _ h
    · rw [if_neg hc48] at h
      refine am_aload_n (j := 0) (am_dk tk_X3_readNumber 27 rfl) rfl rfl ?_
      refine ly_getr (b := 13) rfl fl_X3_9 rfl rfl (am_dk tk_X3_readNumber 28 rfl) ?_
      refine am_aload_n (j := 0) (am_dk tk_X3_readNumber 29 rfl) rfl rfl ?_
      refine ly_geti rfl fl_X3_15 rfl (am_dk tk_X3_readNumber 30 rfl) ?_
      obtain ⟨hi59, h⟩ := am_chk h
      refine ly_iald (k := (D 12 1).toNatClampNeg) rfl (am_in_vp hi59) rfl (am_dk tk_X3_readNumber 31 rfl) ?_
      refine am_cS (M := m_X3_isFigure) (As := [.int (D 13 (D 12 1).toNatClampNeg)]) (st := []) (ct_X3_isFigure _ _) ml_X3_145 ld_X3_isFigure rfl ⟨Nat.le_of_ble_eq_true rfl, Nat.le_of_ble_eq_true rfl⟩ (Nat.le_of_ble_eq_true rfl) ⟨rfl, rfl⟩ ⟨Nat.le_of_ble_eq_true rfl, Nat.le_of_ble_eq_true rfl⟩ (am_dk tk_X3_readNumber 32 rfl) (am_kki ?_)
      refine am_if_eq (tgt := 110) (am_dk tk_X3_readNumber 33 rfl) (by decide) (fun hc63 => ?_) (fun hc63 => ?_)
      · rw [if_pos hc63] at h
        exact bx_X3_readNumber_110 htw hΦ _ _ _ _ h
      · rw [if_neg hc63] at h
        refine am_aload_n (j := 0) (am_dk tk_X3_readNumber 34 rfl) rfl rfl ?_
        refine ly_geti rfl fl_X3_15 rfl (am_dk tk_X3_readNumber 35 rfl) ?_
        refine am_aload_n (j := 0) (am_dk tk_X3_readNumber 36 rfl) rfl rfl ?_
        refine ly_geti rfl fl_X3_19 rfl (am_dk tk_X3_readNumber 37 rfl) ?_
        refine am_isub (am_dk tk_X3_readNumber 38 rfl) ?_
        refine am_iconst (v := 3) (am_dk tk_X3_readNumber 39 rfl) (by decide) ?_
        refine am_icmp_ge (tgt := 97) (am_dk tk_X3_readNumber 40 rfl) (by decide) (fun hc76 => ?_) (fun hc76 => ?_)
        · simp only [if_pos hc76] at h
          exact bx_X3_readNumber_97 htw hΦ (ih) _ _ _ _ h
        · simp only [if_neg hc76] at h
          refine am_iload_n (j := 3) (am_dk tk_X3_readNumber 41 rfl) rfl rfl ?_
          refine am_bipush (v := 10) (am_dk tk_X3_readNumber 42 rfl) (by decide) ?_
          refine am_imul (am_dk tk_X3_readNumber 43 rfl) ?_
          refine am_aload_n (j := 0) (am_dk tk_X3_readNumber 44 rfl) rfl rfl ?_
          refine ly_getr (b := 13) rfl fl_X3_9 rfl rfl (am_dk tk_X3_readNumber 45 rfl) ?_
          refine am_aload_n (j := 0) (am_dk tk_X3_readNumber 46 rfl) rfl rfl ?_
          refine ly_geti rfl fl_X3_15 rfl (am_dk tk_X3_readNumber 47 rfl) ?_
          refine ly_iald (k := (D 12 1).toNatClampNeg) rfl (am_in_vp hi59) rfl (am_dk tk_X3_readNumber 48 rfl) ?_
          refine am_iadd (am_dk tk_X3_readNumber 49 rfl) ?_
          refine am_bipush (v := 48) (am_dk tk_X3_readNumber 50 rfl) (by decide) ?_
          refine am_isub (am_dk tk_X3_readNumber 51 rfl) ?_
          refine am_istore_n (L' := [(3, .int (((x3 * 10) + (D 13 (D 12 1).toNatClampNeg)) - 48)), (0, .ref 12), (1, .int x1), (2, .int x2)]) (am_dk tk_X3_readNumber 52 rfl) rfl (Nat.le_of_ble_eq_true rfl) rfl ?_
          refine am_ls [1, 2, 3, 0] rfl ?_
          exact bx_X3_readNumber_97 htw hΦ (ih) _ _ _ _ h
theorem ct_X3_readNumber {l : Launch} {tw : Nat} {tp : Bool} (htw : lyT tw) {x1 : Int32} {x2 : Int32} {r : Int32} {D D' : am_M} (h : f_X3_readNumber tw x1 x2 D = some (r, D')) : am_CT l m_X3_readNumber false [.ref 12, .int x1, .int x2] (ly tw tp D) (am_is (some (.int r)) (ly tw tp D')) := by
  have hΦ : am_is (some (.int r)) (ly tw tp D') (some (.int r)) (ly tw tp D') := ⟨rfl, rfl⟩
  refine am_CT.of (by decide) (Nat.le_of_ble_eq_true rfl) ?_
  show am_Ex _ _ _ 0 [(0, .ref 12), (1, .int x1), (2, .int x2)] [] _
  rw [f_X3_readNumber] at h
  refine am_aload_n (j := 0) (am_dk tk_X3_readNumber 0 rfl) rfl rfl ?_
  refine ly_cV (M := m_X3_isGood) (As := []) (b := 12) (st := []) (ct_X3_isGood htw  _) rfl (by decide) rfl ml_X3_41 ld_X3_isGood rfl ⟨Nat.le_of_ble_eq_true rfl, Nat.le_of_ble_eq_true rfl⟩ (Nat.le_of_ble_eq_true rfl) ⟨rfl, rfl⟩ ⟨Nat.le_of_ble_eq_true rfl, Nat.le_of_ble_eq_true rfl⟩ (am_dk tk_X3_readNumber 1 rfl) (am_kki ?_)
  refine am_if_ne (tgt := 9) (am_dk tk_X3_readNumber 2 rfl) (by decide) (fun hc4 => ?_) (fun hc4 => ?_)
  · rw [if_neg hc4] at h
    refine am_aload_n (j := 0) (am_dk tk_X3_readNumber 5 rfl) rfl rfl ?_
    obtain ⟨q10, hq10, h⟩ := am_bind h
    refine ly_cV (M := m_X3_peek) (As := []) (b := 12) (st := []) (ct_X3_peek htw hq10) rfl (by decide) rfl ml_X3_45 ld_X3_peek rfl ⟨Nat.le_of_ble_eq_true rfl, Nat.le_of_ble_eq_true rfl⟩ (Nat.le_of_ble_eq_true rfl) ⟨rfl, rfl⟩ ⟨Nat.le_of_ble_eq_true rfl, Nat.le_of_ble_eq_true rfl⟩ (am_dk tk_X3_readNumber 6 rfl) (am_kki ?_)
    refine am_cS (M := m_X3_isFigure) (As := [.int q10.1]) (st := []) (ct_X3_isFigure _ _) ml_X3_145 ld_X3_isFigure rfl ⟨Nat.le_of_ble_eq_true rfl, Nat.le_of_ble_eq_true rfl⟩ (Nat.le_of_ble_eq_true rfl) ⟨rfl, rfl⟩ ⟨Nat.le_of_ble_eq_true rfl, Nat.le_of_ble_eq_true rfl⟩ (am_dk tk_X3_readNumber 7 rfl) (am_kki ?_)
    refine am_if_ne (tgt := 30) (am_dk tk_X3_readNumber 8 rfl) (by decide) (fun hc16 => ?_) (fun hc16 => ?_)
    · rw [if_neg hc16] at h
      refine am_aload_n (j := 0) (am_dk tk_X3_readNumber 16 rfl) rfl rfl ?_
      refine am_aload_n (j := 0) (am_dk tk_X3_readNumber 17 rfl) rfl rfl ?_
      refine ly_geti rfl fl_X3_15 rfl (am_dk tk_X3_readNumber 18 rfl) ?_
      refine ly_puti rfl fl_X3_19 rfl rfl (am_dk tk_X3_readNumber 19 rfl) ?_
      refine am_iconst (v := 0) (am_dk tk_X3_readNumber 20 rfl) (by decide) ?_
      refine am_istore_n (L' := [(3, .int 0), (0, .ref 12), (1, .int x1), (2, .int x2)]) (am_dk tk_X3_readNumber 21 rfl) rfl (Nat.le_of_ble_eq_true rfl) rfl ?_
      refine am_ls [1, 2, 3, 0] rfl ?_
      exact bx_X3_readNumber_40 htw hΦ am_N _ _ _ _ h
    · rw [if_pos hc16] at h
      refine am_aload_n (j := 0) (am_dk tk_X3_readNumber 9 rfl) rfl rfl ?_
      refine am_iconst (v := 1) (am_dk tk_X3_readNumber 10 rfl) (by decide) ?_
      refine am_aload_n (j := 0) (am_dk tk_X3_readNumber 11 rfl) rfl rfl ?_
      refine ly_geti rfl fl_X3_15 rfl (am_dk tk_X3_readNumber 12 rfl) ?_
      obtain ⟨q25, hq25, h⟩ := am_bind h
      refine ly_cV (M := m_X3_fail) (As := [.int 1, .int (q10.2 12 1)]) (b := 12) (st := []) (ct_X3_fail htw hq25) rfl (by decide) rfl ml_X3_55 ld_X3_fail rfl ⟨Nat.le_of_ble_eq_true rfl, Nat.le_of_ble_eq_true rfl⟩ (Nat.le_of_ble_eq_true rfl) ⟨rfl, rfl⟩ ⟨Nat.le_of_ble_eq_true rfl, Nat.le_of_ble_eq_true rfl⟩ (am_dk tk_X3_readNumber 13 rfl) (am_kkv ?_)
      refine am_iconst (v := 0) (am_dk tk_X3_readNumber 14 rfl) (by decide) ?_
      exact am_iret rfl (am_r2 h hΦ) ⟨Nat.le_of_ble_eq_true rfl, Nat.le_of_ble_eq_true rfl⟩ (am_dk tk_X3_readNumber 15 rfl)
  · rw [if_pos hc4] at h
    refine am_iconst (v := 0) (am_dk tk_X3_readNumber 3 rfl) (by decide) ?_
    exact am_iret rfl (am_r2 h hΦ) ⟨Nat.le_of_ble_eq_true rfl, Nat.le_of_ble_eq_true rfl⟩ (am_dk tk_X3_readNumber 4 rfl)
abbrev m_X3_stepOverWord : am_D := (yX3_stepOverWord, prog_5_method_9_code, 2, none, { frames := 2, cells := 0, slots := 0, locals := 42 })
theorem ld_X3_stepOverWord : am_LD m_X3_stepOverWord 1 := ⟨(am_tb 82 (by decide +kernel) (by decide +kernel)), (am_tb 444 (by decide +kernel) (by decide +kernel)), by decide, by decide, by decide +kernel⟩
def tb_X3_stepOverWord : List (Nat × Instr × Nat) := [(0, .iload_n 1, 1), (1, .ifCond .eq 15, 3), (4, .aload_n 0, 1), (5, .iconst 3, 1), (6, .aload_n 0, 1), (7, .getfield 15, 3), (10, .invokevirtual 55, 3), (13, .goto 13, 3), (16, .aload_n 0, 1), (17, .dup, 1), (18, .getfield 15, 3), (21, .iconst 1, 1), (22, .iadd, 1), (23, .putfield 15, 3), (26, .return_, 1)]
theorem tk_X3_stepOverWord : am_tbl prog_5_method_9_code tb_X3_stepOverWord = true := by decide +kernel
def f_X3_stepOverWord (tw : Nat) (x1 : Int32) (D : am_M) : Option am_M := if x1 = 0 then some (am_up D 12 1 ((D 12 1) + 1)) else (f_X3_fail tw 3 (D 12 1) D).bind fun q10 => some q10
theorem ct_X3_stepOverWord {l : Launch} {tw : Nat} {tp : Bool} (htw : lyT tw) {x1 : Int32} {D D' : am_M} (h : f_X3_stepOverWord tw x1 D = some D') : am_CT l m_X3_stepOverWord false [.ref 12, .int x1] (ly tw tp D) (am_is none (ly tw tp D')) := by
  have hΦ : am_is none (ly tw tp D') none (ly tw tp D') := ⟨rfl, rfl⟩
  refine am_CT.of (by decide) (Nat.le_of_ble_eq_true rfl) ?_
  show am_Ex _ _ _ 0 [(0, .ref 12), (1, .int x1)] [] _
  rw [f_X3_stepOverWord] at h
  refine am_iload_n (j := 1) (am_dk tk_X3_stepOverWord 0 rfl) rfl rfl ?_
  refine am_if_eq (tgt := 16) (am_dk tk_X3_stepOverWord 1 rfl) (by decide) (fun hc1 => ?_) (fun hc1 => ?_)
  · rw [if_pos hc1] at h
    refine am_aload_n (j := 0) (am_dk tk_X3_stepOverWord 8 rfl) rfl rfl ?_
    refine am_dup (am_dk tk_X3_stepOverWord 9 rfl) rfl ?_
    refine ly_geti rfl fl_X3_15 rfl (am_dk tk_X3_stepOverWord 10 rfl) ?_
    refine am_iconst (v := 1) (am_dk tk_X3_stepOverWord 11 rfl) (by decide) ?_
    refine am_iadd (am_dk tk_X3_stepOverWord 12 rfl) ?_
    refine ly_puti rfl fl_X3_15 rfl rfl (am_dk tk_X3_stepOverWord 13 rfl) ?_
    exact am_vret rfl (am_r0 h hΦ) ⟨Nat.le_of_ble_eq_true rfl, Nat.le_of_ble_eq_true rfl⟩ (am_dk tk_X3_stepOverWord 14 rfl)
  · rw [if_neg hc1] at h
    refine am_aload_n (j := 0) (am_dk tk_X3_stepOverWord 2 rfl) rfl rfl ?_
    refine am_iconst (v := 3) (am_dk tk_X3_stepOverWord 3 rfl) (by decide) ?_
    refine am_aload_n (j := 0) (am_dk tk_X3_stepOverWord 4 rfl) rfl rfl ?_
    refine ly_geti rfl fl_X3_15 rfl (am_dk tk_X3_stepOverWord 5 rfl) ?_
    obtain ⟨q10, hq10, h⟩ := am_bind h
    refine ly_cV (M := m_X3_fail) (As := [.int 3, .int (D 12 1)]) (b := 12) (st := []) (ct_X3_fail htw hq10) rfl (by decide) rfl ml_X3_55 ld_X3_fail rfl ⟨Nat.le_of_ble_eq_true rfl, Nat.le_of_ble_eq_true rfl⟩ (Nat.le_of_ble_eq_true rfl) ⟨rfl, rfl⟩ ⟨Nat.le_of_ble_eq_true rfl, Nat.le_of_ble_eq_true rfl⟩ (am_dk tk_X3_stepOverWord 6 rfl) (am_kkv ?_)
    refine am_goto (tgt := 26) (am_dk tk_X3_stepOverWord 7 rfl) (by decide) ?_
    exact am_vret rfl (am_r0 h hΦ) ⟨Nat.le_of_ble_eq_true rfl, Nat.le_of_ble_eq_true rfl⟩ (am_dk tk_X3_stepOverWord 14 rfl)
abbrev m_X3_expect : am_D := (yX3_expect, prog_5_method_8_code, 2, none, { frames := 2, cells := 0, slots := 0, locals := 42 })
theorem ld_X3_expect : am_LD m_X3_expect 1 := ⟨(am_tb 82 (by decide +kernel) (by decide +kernel)), (am_tb 483 (by decide +kernel) (by decide +kernel)), by decide, by decide, by decide +kernel⟩
def tb_X3_expect : List (Nat × Instr × Nat) := [(0, .aload_n 0, 1), (1, .invokevirtual 45, 3), (4, .iload_n 1, 1), (5, .if_icmp .eq 15, 3), (8, .aload_n 0, 1), (9, .iconst 1, 1), (10, .aload_n 0, 1), (11, .getfield 15, 3), (14, .invokevirtual 55, 3), (17, .goto 13, 3), (20, .aload_n 0, 1), (21, .dup, 1), (22, .getfield 15, 3), (25, .iconst 1, 1), (26, .iadd, 1), (27, .putfield 15, 3), (30, .return_, 1)]
theorem tk_X3_expect : am_tbl prog_5_method_8_code tb_X3_expect = true := by decide +kernel
def f_X3_expect (tw : Nat) (x1 : Int32) (D : am_M) : Option am_M := (f_X3_peek tw D).bind fun q1 => if q1.1 = x1 then some (am_up q1.2 12 1 ((q1.2 12 1) + 1)) else (f_X3_fail tw 1 (q1.2 12 1) q1.2).bind fun q14 => some q14
theorem ct_X3_expect {l : Launch} {tw : Nat} {tp : Bool} (htw : lyT tw) {x1 : Int32} {D D' : am_M} (h : f_X3_expect tw x1 D = some D') : am_CT l m_X3_expect false [.ref 12, .int x1] (ly tw tp D) (am_is none (ly tw tp D')) := by
  have hΦ : am_is none (ly tw tp D') none (ly tw tp D') := ⟨rfl, rfl⟩
  refine am_CT.of (by decide) (Nat.le_of_ble_eq_true rfl) ?_
  show am_Ex _ _ _ 0 [(0, .ref 12), (1, .int x1)] [] _
  rw [f_X3_expect] at h
  refine am_aload_n (j := 0) (am_dk tk_X3_expect 0 rfl) rfl rfl ?_
  obtain ⟨q1, hq1, h⟩ := am_bind h
  refine ly_cV (M := m_X3_peek) (As := []) (b := 12) (st := []) (ct_X3_peek htw hq1) rfl (by decide) rfl ml_X3_45 ld_X3_peek rfl ⟨Nat.le_of_ble_eq_true rfl, Nat.le_of_ble_eq_true rfl⟩ (Nat.le_of_ble_eq_true rfl) ⟨rfl, rfl⟩ ⟨Nat.le_of_ble_eq_true rfl, Nat.le_of_ble_eq_true rfl⟩ (am_dk tk_X3_expect 1 rfl) (am_kki ?_)
  refine am_iload_n (j := 1) (am_dk tk_X3_expect 2 rfl) rfl rfl ?_
  refine am_icmp_eq (tgt := 20) (am_dk tk_X3_expect 3 rfl) (by decide) (fun hc5 => ?_) (fun hc5 => ?_)
  · rw [if_pos hc5] at h
    refine am_aload_n (j := 0) (am_dk tk_X3_expect 10 rfl) rfl rfl ?_
    refine am_dup (am_dk tk_X3_expect 11 rfl) rfl ?_
    refine ly_geti rfl fl_X3_15 rfl (am_dk tk_X3_expect 12 rfl) ?_
    refine am_iconst (v := 1) (am_dk tk_X3_expect 13 rfl) (by decide) ?_
    refine am_iadd (am_dk tk_X3_expect 14 rfl) ?_
    refine ly_puti rfl fl_X3_15 rfl rfl (am_dk tk_X3_expect 15 rfl) ?_
    exact am_vret rfl (am_r0 h hΦ) ⟨Nat.le_of_ble_eq_true rfl, Nat.le_of_ble_eq_true rfl⟩ (am_dk tk_X3_expect 16 rfl)
  · rw [if_neg hc5] at h
    refine am_aload_n (j := 0) (am_dk tk_X3_expect 4 rfl) rfl rfl ?_
    refine am_iconst (v := 1) (am_dk tk_X3_expect 5 rfl) (by decide) ?_
    refine am_aload_n (j := 0) (am_dk tk_X3_expect 6 rfl) rfl rfl ?_
    refine ly_geti rfl fl_X3_15 rfl (am_dk tk_X3_expect 7 rfl) ?_
    obtain ⟨q14, hq14, h⟩ := am_bind h
    refine ly_cV (M := m_X3_fail) (As := [.int 1, .int (q1.2 12 1)]) (b := 12) (st := []) (ct_X3_fail htw hq14) rfl (by decide) rfl ml_X3_55 ld_X3_fail rfl ⟨Nat.le_of_ble_eq_true rfl, Nat.le_of_ble_eq_true rfl⟩ (Nat.le_of_ble_eq_true rfl) ⟨rfl, rfl⟩ ⟨Nat.le_of_ble_eq_true rfl, Nat.le_of_ble_eq_true rfl⟩ (am_dk tk_X3_expect 8 rfl) (am_kkv ?_)
    refine am_goto (tgt := 30) (am_dk tk_X3_expect 9 rfl) (by decide) ?_
    exact am_vret rfl (am_r0 h hΦ) ⟨Nat.le_of_ble_eq_true rfl, Nat.le_of_ble_eq_true rfl⟩ (am_dk tk_X3_expect 16 rfl)
abbrev m_X3_readBeds : am_D := (yX3_readBeds, prog_5_method_10_code, 1, none, { frames := 3, cells := 0, slots := 0, locals := 65 })
theorem ld_X3_readBeds : am_LD m_X3_readBeds 0 := ⟨(am_tb 82 (by decide +kernel) (by decide +kernel)), (am_tb 440 (by decide +kernel) (by decide +kernel)), by decide, by decide, by decide +kernel⟩
def tb_X3_readBeds : List (Nat × Instr × Nat) := [(0, .aload_n 0, 1), (1, .aload_n 0, 1), (2, .getfield 25, 3), (5, .getfield 52, 3), (8, .ifCond .eq 7, 3), (11, .iconst 1, 1), (12, .goto 4, 3), (15, .iconst 0, 1), (16, .invokevirtual 78, 3), (19, .aload_n 0, 1), (20, .getfield 25, 3), (23, .aload_n 0, 1), (24, .iconst 1, 1), (25, .iconst 5, 1), (26, .invokevirtual 82, 3), (29, .putfield 52, 3), (32, .aload_n 0, 1), (33, .getfield 25, 3), (36, .aload_n 0, 1), (37, .iconst 2, 1), (38, .bipush 9, 2), (40, .invokevirtual 82, 3), (43, .putfield 86, 3), (46, .aload_n 0, 1), (47, .getfield 25, 3), (50, .aload_n 0, 1), (51, .iconst 1, 1), (52, .bipush 9, 2), (54, .invokevirtual 82, 3), (57, .putfield 89, 3), (60, .return_, 1)]
theorem tk_X3_readBeds : am_tbl prog_5_method_10_code tb_X3_readBeds = true := by decide +kernel
def b_X3_readBeds_16 (tw : Nat) (s0 : Int32) (D : am_M) : Option am_M := (f_X3_stepOverWord tw s0 D).bind fun q16 => (f_X3_readNumber tw 1 5 q16).bind fun q26 => (f_X3_readNumber tw 2 9 (am_up q26.2 (15 - tw) 0 q26.1)).bind fun q40 => (f_X3_readNumber tw 1 9 (am_up q40.2 (15 - tw) 1 q40.1)).bind fun q54 => some (am_up q54.2 (15 - tw) 2 q54.1)
def f_X3_readBeds (tw : Nat) (D : am_M) : Option am_M := b_X3_readBeds_16 tw (if (D (15 - tw) 0) = 0 then 0 else 1) D
theorem bx_X3_readBeds_16 {l : Launch} {h0 : am_H} {Φ : am_Ph} {tw : Nat} {tp : Bool} (htw : lyT tw) {D' : am_M} (hΦ : Φ none (ly tw tp D')) : ∀ (s0 : Int32) (D : am_M), b_X3_readBeds_16 tw s0 D = some D' → am_Ex (am_E l m_X3_readBeds false h0 Φ) prog_5_method_10_code (0, 0) 16 [(0, .ref 12)] [.int s0, .ref 12] (ly tw tp D) := by
  intro s0 D h
  rw [b_X3_readBeds_16] at h
  obtain ⟨q16, hq16, h⟩ := am_bind h
  refine ly_cV (M := m_X3_stepOverWord) (As := [.int s0]) (b := 12) (st := []) (ct_X3_stepOverWord htw hq16) rfl (by decide) rfl ml_X3_78 ld_X3_stepOverWord rfl ⟨Nat.le_of_ble_eq_true rfl, Nat.le_of_ble_eq_true rfl⟩ (Nat.le_of_ble_eq_true rfl) ⟨rfl, rfl⟩ ⟨Nat.le_of_ble_eq_true rfl, Nat.le_of_ble_eq_true rfl⟩ (am_dk tk_X3_readBeds 8 rfl) (am_kkv ?_)
  refine am_aload_n (j := 0) (am_dk tk_X3_readBeds 9 rfl) rfl rfl ?_
  refine ly_getr (b := (15 - tw)) rfl fl_X3_25 rfl rfl (am_dk tk_X3_readBeds 10 rfl) ?_
  refine am_aload_n (j := 0) (am_dk tk_X3_readBeds 11 rfl) rfl rfl ?_
  refine am_iconst (v := 1) (am_dk tk_X3_readBeds 12 rfl) (by decide) ?_
  refine am_iconst (v := 5) (am_dk tk_X3_readBeds 13 rfl) (by decide) ?_
  obtain ⟨q26, hq26, h⟩ := am_bind h
  refine ly_cV (M := m_X3_readNumber) (As := [.int 1, .int 5]) (b := 12) (st := [.ref (15 - tw)]) (ct_X3_readNumber htw hq26) rfl (by decide) rfl ml_X3_82 ld_X3_readNumber rfl ⟨Nat.le_of_ble_eq_true rfl, Nat.le_of_ble_eq_true rfl⟩ (Nat.le_of_ble_eq_true rfl) ⟨rfl, rfl⟩ ⟨Nat.le_of_ble_eq_true rfl, Nat.le_of_ble_eq_true rfl⟩ (am_dk tk_X3_readBeds 14 rfl) (am_kki ?_)
  refine ly_puti (lyT_s (lyT_o htw)) fl_X3_52 rfl rfl (am_dk tk_X3_readBeds 15 rfl) ?_
  refine am_aload_n (j := 0) (am_dk tk_X3_readBeds 16 rfl) rfl rfl ?_
  refine ly_getr (b := (15 - tw)) rfl fl_X3_25 rfl rfl (am_dk tk_X3_readBeds 17 rfl) ?_
  refine am_aload_n (j := 0) (am_dk tk_X3_readBeds 18 rfl) rfl rfl ?_
  refine am_iconst (v := 2) (am_dk tk_X3_readBeds 19 rfl) (by decide) ?_
  refine am_bipush (v := 9) (am_dk tk_X3_readBeds 20 rfl) (by decide) ?_
  obtain ⟨q40, hq40, h⟩ := am_bind h
  refine ly_cV (M := m_X3_readNumber) (As := [.int 2, .int 9]) (b := 12) (st := [.ref (15 - tw)]) (ct_X3_readNumber htw hq40) rfl (by decide) rfl ml_X3_82 ld_X3_readNumber rfl ⟨Nat.le_of_ble_eq_true rfl, Nat.le_of_ble_eq_true rfl⟩ (Nat.le_of_ble_eq_true rfl) ⟨rfl, rfl⟩ ⟨Nat.le_of_ble_eq_true rfl, Nat.le_of_ble_eq_true rfl⟩ (am_dk tk_X3_readBeds 21 rfl) (am_kki ?_)
  refine ly_puti (lyT_s (lyT_o htw)) fl_X3_86 rfl rfl (am_dk tk_X3_readBeds 22 rfl) ?_
  refine am_aload_n (j := 0) (am_dk tk_X3_readBeds 23 rfl) rfl rfl ?_
  refine ly_getr (b := (15 - tw)) rfl fl_X3_25 rfl rfl (am_dk tk_X3_readBeds 24 rfl) ?_
  refine am_aload_n (j := 0) (am_dk tk_X3_readBeds 25 rfl) rfl rfl ?_
  refine am_iconst (v := 1) (am_dk tk_X3_readBeds 26 rfl) (by decide) ?_
  refine am_bipush (v := 9) (am_dk tk_X3_readBeds 27 rfl) (by decide) ?_
  obtain ⟨q54, hq54, h⟩ := am_bind h
  refine ly_cV (M := m_X3_readNumber) (As := [.int 1, .int 9]) (b := 12) (st := [.ref (15 - tw)]) (ct_X3_readNumber htw hq54) rfl (by decide) rfl ml_X3_82 ld_X3_readNumber rfl ⟨Nat.le_of_ble_eq_true rfl, Nat.le_of_ble_eq_true rfl⟩ (Nat.le_of_ble_eq_true rfl) ⟨rfl, rfl⟩ ⟨Nat.le_of_ble_eq_true rfl, Nat.le_of_ble_eq_true rfl⟩ (am_dk tk_X3_readBeds 28 rfl) (am_kki ?_)
  refine ly_puti (lyT_s (lyT_o htw)) fl_X3_89 rfl rfl (am_dk tk_X3_readBeds 29 rfl) ?_
  exact am_vret rfl (am_r0 h hΦ) ⟨Nat.le_of_ble_eq_true rfl, Nat.le_of_ble_eq_true rfl⟩ (am_dk tk_X3_readBeds 30 rfl)
theorem ct_X3_readBeds {l : Launch} {tw : Nat} {tp : Bool} (htw : lyT tw) {D D' : am_M} (h : f_X3_readBeds tw D = some D') : am_CT l m_X3_readBeds false [.ref 12] (ly tw tp D) (am_is none (ly tw tp D')) := by
  have hΦ : am_is none (ly tw tp D') none (ly tw tp D') := ⟨rfl, rfl⟩
  refine am_CT.of (by decide) (Nat.le_of_ble_eq_true rfl) ?_
  show am_Ex _ _ _ 0 [(0, .ref 12)] [] _
  rw [f_X3_readBeds] at h
  refine am_aload_n (j := 0) (am_dk tk_X3_readBeds 0 rfl) rfl rfl ?_
  refine am_aload_n (j := 0) (am_dk tk_X3_readBeds 1 rfl) rfl rfl ?_
  refine ly_getr (b := (15 - tw)) rfl fl_X3_25 rfl rfl (am_dk tk_X3_readBeds 2 rfl) ?_
  refine ly_geti (lyT_s (lyT_o htw)) fl_X3_52 rfl (am_dk tk_X3_readBeds 3 rfl) ?_
  refine am_if_eq (tgt := 15) (am_dk tk_X3_readBeds 4 rfl) (by decide) (fun hc8 => ?_) (fun hc8 => ?_)
  · simp only [if_pos hc8] at h
    refine am_iconst (v := 0) (am_dk tk_X3_readBeds 7 rfl) (by decide) ?_
    exact bx_X3_readBeds_16 htw hΦ _ _ h
  · simp only [if_neg hc8] at h
    refine am_iconst (v := 1) (am_dk tk_X3_readBeds 5 rfl) (by decide) ?_
    refine am_goto (tgt := 16) (am_dk tk_X3_readBeds 6 rfl) (by decide) ?_
    exact bx_X3_readBeds_16 htw hΦ _ _ h
abbrev m_X3_readDoing : am_D := (yX3_readDoing, prog_5_method_12_code, 2, (some .int), { frames := 2, cells := 0, slots := 0, locals := 42 })
theorem ld_X3_readDoing : am_LD m_X3_readDoing 0 := ⟨(am_tb 82 (by decide +kernel) (by decide +kernel)), (am_tb 460 (by decide +kernel) (by decide +kernel)), by decide, by decide, by decide +kernel⟩
def tb_X3_readDoing : List (Nat × Instr × Nat) := [(0, .aload_n 0, 1), (1, .invokevirtual 45, 3), (4, .istore_n 1, 1), (5, .iload_n 1, 1), (6, .bipush 122, 2), (8, .if_icmp .eq 26, 3), (11, .iload_n 1, 1), (12, .bipush 119, 2), (14, .if_icmp .eq 20, 3), (17, .iload_n 1, 1), (18, .bipush 46, 2), (20, .if_icmp .eq 14, 3), (23, .aload_n 0, 1), (24, .iconst 1, 1), (25, .aload_n 0, 1), (26, .getfield 15, 3), (29, .invokevirtual 55, 3), (32, .iconst 2, 1), (33, .ireturn, 1), (34, .aload_n 0, 1), (35, .dup, 1), (36, .getfield 15, 3), (39, .iconst 1, 1), (40, .iadd, 1), (41, .putfield 15, 3), (44, .iload_n 1, 1), (45, .bipush 122, 2), (47, .if_icmp .ne 5, 3), (50, .iconst 0, 1), (51, .ireturn, 1), (52, .iload_n 1, 1), (53, .bipush 119, 2), (55, .if_icmp .ne 7, 3), (58, .iconst 1, 1), (59, .goto 4, 3), (62, .iconst 2, 1), (63, .ireturn, 1)]
theorem tk_X3_readDoing : am_tbl prog_5_method_12_code tb_X3_readDoing = true := by decide +kernel
def b_X3_readDoing_34 (tw : Nat) (x1 : Int32) (D : am_M) : Option (Int32 × am_M) := if x1 = 122 then some (0, am_up D 12 1 ((D 12 1) + 1)) else if x1 = 119 then some (1, am_up D 12 1 ((D 12 1) + 1)) else some (2, am_up D 12 1 ((D 12 1) + 1))
def f_X3_readDoing (tw : Nat) (D : am_M) : Option (Int32 × am_M) := (f_X3_peek tw D).bind fun q1 => if q1.1 = 122 then b_X3_readDoing_34 tw q1.1 q1.2 else if q1.1 = 119 then b_X3_readDoing_34 tw q1.1 q1.2 else if q1.1 = 46 then b_X3_readDoing_34 tw q1.1 q1.2 else (f_X3_fail tw 1 (q1.2 12 1) q1.2).bind fun q29 => some (2, q29)
theorem bx_X3_readDoing_34 {l : Launch} {h0 : am_H} {Φ : am_Ph} {tw : Nat} {tp : Bool} (htw : lyT tw) {r : Int32} {D' : am_M} (hΦ : Φ (some (.int r)) (ly tw tp D')) : ∀ (x1 : Int32) (D : am_M), b_X3_readDoing_34 tw x1 D = some (r, D') → am_Ex (am_E l m_X3_readDoing false h0 Φ) prog_5_method_12_code (0, 0) 34 [(0, .ref 12), (1, .int x1)] [] (ly tw tp D) := by
  intro x1 D h
  rw [b_X3_readDoing_34] at h
  refine am_aload_n (j := 0) (am_dk tk_X3_readDoing 19 rfl) rfl rfl ?_
  refine am_dup (am_dk tk_X3_readDoing 20 rfl) rfl ?_
  refine ly_geti rfl fl_X3_15 rfl (am_dk tk_X3_readDoing 21 rfl) ?_
  refine am_iconst (v := 1) (am_dk tk_X3_readDoing 22 rfl) (by decide) ?_
  refine am_iadd (am_dk tk_X3_readDoing 23 rfl) ?_
  refine ly_puti rfl fl_X3_15 rfl rfl (am_dk tk_X3_readDoing 24 rfl) ?_
  refine am_iload_n (j := 1) (am_dk tk_X3_readDoing 25 rfl) rfl rfl ?_
  refine am_bipush (v := 122) (am_dk tk_X3_readDoing 26 rfl) (by decide) ?_
  refine am_icmp_ne (tgt := 52) (am_dk tk_X3_readDoing 27 rfl) (by decide) (fun hc47 => ?_) (fun hc47 => ?_)
  · rw [if_neg hc47] at h
    refine am_iload_n (j := 1) (am_dk tk_X3_readDoing 30 rfl) rfl rfl ?_
    refine am_bipush (v := 119) (am_dk tk_X3_readDoing 31 rfl) (by decide) ?_
    refine am_icmp_ne (tgt := 62) (am_dk tk_X3_readDoing 32 rfl) (by decide) (fun hc55 => ?_) (fun hc55 => ?_)
    · rw [if_neg hc55] at h
      refine am_iconst (v := 2) (am_dk tk_X3_readDoing 35 rfl) (by decide) ?_
      exact am_iret rfl (am_r2 h hΦ) ⟨Nat.le_of_ble_eq_true rfl, Nat.le_of_ble_eq_true rfl⟩ (am_dk tk_X3_readDoing 36 rfl)
    · rw [if_pos hc55] at h
      refine am_iconst (v := 1) (am_dk tk_X3_readDoing 33 rfl) (by decide) ?_
      refine am_goto (tgt := 63) (am_dk tk_X3_readDoing 34 rfl) (by decide) ?_
      exact am_iret rfl (am_r2 h hΦ) ⟨Nat.le_of_ble_eq_true rfl, Nat.le_of_ble_eq_true rfl⟩ (am_dk tk_X3_readDoing 36 rfl)
  · rw [if_pos hc47] at h
    refine am_iconst (v := 0) (am_dk tk_X3_readDoing 28 rfl) (by decide) ?_
    exact am_iret rfl (am_r2 h hΦ) ⟨Nat.le_of_ble_eq_true rfl, Nat.le_of_ble_eq_true rfl⟩ (am_dk tk_X3_readDoing 29 rfl)
theorem ct_X3_readDoing {l : Launch} {tw : Nat} {tp : Bool} (htw : lyT tw) {r : Int32} {D D' : am_M} (h : f_X3_readDoing tw D = some (r, D')) : am_CT l m_X3_readDoing false [.ref 12] (ly tw tp D) (am_is (some (.int r)) (ly tw tp D')) := by
  have hΦ : am_is (some (.int r)) (ly tw tp D') (some (.int r)) (ly tw tp D') := ⟨rfl, rfl⟩
  refine am_CT.of (by decide) (Nat.le_of_ble_eq_true rfl) ?_
  show am_Ex _ _ _ 0 [(0, .ref 12)] [] _
  rw [f_X3_readDoing] at h
  refine am_aload_n (j := 0) (am_dk tk_X3_readDoing 0 rfl) rfl rfl ?_
  obtain ⟨q1, hq1, h⟩ := am_bind h
  refine ly_cV (M := m_X3_peek) (As := []) (b := 12) (st := []) (ct_X3_peek htw hq1) rfl (by decide) rfl ml_X3_45 ld_X3_peek rfl ⟨Nat.le_of_ble_eq_true rfl, Nat.le_of_ble_eq_true rfl⟩ (Nat.le_of_ble_eq_true rfl) ⟨rfl, rfl⟩ ⟨Nat.le_of_ble_eq_true rfl, Nat.le_of_ble_eq_true rfl⟩ (am_dk tk_X3_readDoing 1 rfl) (am_kki ?_)
  refine am_istore_n (L' := [(1, .int q1.1), (0, .ref 12)]) (am_dk tk_X3_readDoing 2 rfl) rfl (Nat.le_of_ble_eq_true rfl) rfl ?_
  refine am_iload_n (j := 0) (am_dk tk_X3_readDoing 3 rfl) rfl rfl ?_
  refine am_bipush (v := 122) (am_dk tk_X3_readDoing 4 rfl) (by decide) ?_
  refine am_icmp_eq (tgt := 34) (am_dk tk_X3_readDoing 5 rfl) (by decide) (fun hc8 => ?_) (fun hc8 => ?_)
  · rw [if_pos hc8] at h
    refine am_ls [1, 0] rfl ?_
    exact bx_X3_readDoing_34 htw hΦ _ _ h
  · rw [if_neg hc8] at h
    refine am_iload_n (j := 0) (am_dk tk_X3_readDoing 6 rfl) rfl rfl ?_
    refine am_bipush (v := 119) (am_dk tk_X3_readDoing 7 rfl) (by decide) ?_
    refine am_icmp_eq (tgt := 34) (am_dk tk_X3_readDoing 8 rfl) (by decide) (fun hc14 => ?_) (fun hc14 => ?_)
    · rw [if_pos hc14] at h
      refine am_ls [1, 0] rfl ?_
      exact bx_X3_readDoing_34 htw hΦ _ _ h
    · rw [if_neg hc14] at h
      refine am_iload_n (j := 0) (am_dk tk_X3_readDoing 9 rfl) rfl rfl ?_
      refine am_bipush (v := 46) (am_dk tk_X3_readDoing 10 rfl) (by decide) ?_
      refine am_icmp_eq (tgt := 34) (am_dk tk_X3_readDoing 11 rfl) (by decide) (fun hc20 => ?_) (fun hc20 => ?_)
      · rw [if_pos hc20] at h
        refine am_ls [1, 0] rfl ?_
        exact bx_X3_readDoing_34 htw hΦ _ _ h
      · rw [if_neg hc20] at h
        refine am_aload_n (j := 1) (am_dk tk_X3_readDoing 12 rfl) rfl rfl ?_
        refine am_iconst (v := 1) (am_dk tk_X3_readDoing 13 rfl) (by decide) ?_
        refine am_aload_n (j := 1) (am_dk tk_X3_readDoing 14 rfl) rfl rfl ?_
        refine ly_geti rfl fl_X3_15 rfl (am_dk tk_X3_readDoing 15 rfl) ?_
        obtain ⟨q29, hq29, h⟩ := am_bind h
        refine ly_cV (M := m_X3_fail) (As := [.int 1, .int (q1.2 12 1)]) (b := 12) (st := []) (ct_X3_fail htw hq29) rfl (by decide) rfl ml_X3_55 ld_X3_fail rfl ⟨Nat.le_of_ble_eq_true rfl, Nat.le_of_ble_eq_true rfl⟩ (Nat.le_of_ble_eq_true rfl) ⟨rfl, rfl⟩ ⟨Nat.le_of_ble_eq_true rfl, Nat.le_of_ble_eq_true rfl⟩ (am_dk tk_X3_readDoing 16 rfl) (am_kkv ?_)
        refine am_iconst (v := 2) (am_dk tk_X3_readDoing 17 rfl) (by decide) ?_
        exact am_iret rfl (am_r2 h hΦ) ⟨Nat.le_of_ble_eq_true rfl, Nat.le_of_ble_eq_true rfl⟩ (am_dk tk_X3_readDoing 18 rfl)
abbrev m_X3_readPerson : am_D := (yX3_readPerson, prog_5_method_11_code, 5, none, { frames := 3, cells := 0, slots := 0, locals := 65 })
theorem ld_X3_readPerson : am_LD m_X3_readPerson 0 := ⟨(am_tb 82 (by decide +kernel) (by decide +kernel)), (am_tb 456 (by decide +kernel) (by decide +kernel)), by decide, by decide, by decide +kernel⟩
def tb_X3_readPerson : List (Nat × Instr × Nat) := [(0, .aload_n 0, 1), (1, .aload_n 0, 1), (2, .getfield 25, 3), (5, .getfield 92, 3), (8, .iconst 5, 1), (9, .if_icmp .lt 7, 3), (12, .iconst 1, 1), (13, .goto 4, 3), (16, .iconst 0, 1), (17, .invokevirtual 78, 3), (20, .aload_n 0, 1), (21, .iconst 0, 1), (22, .bipush 60, 2), (24, .invokevirtual 82, 3), (27, .istore_n 1, 1), (28, .aload_n 0, 1), (29, .iconst 0, 1), (30, .bipush 99, 2), (32, .invokevirtual 82, 3), (35, .istore_n 2, 1), (36, .aload_n 0, 1), (37, .invokevirtual 41, 3), (40, .ifCond .ne 4, 3), (43, .return_, 1), (44, .aload_n 0, 1), (45, .getfield 25, 3), (48, .getfield 92, 3), (51, .istore_n 3, 1), (52, .aload_n 0, 1), (53, .getfield 25, 3), (56, .getfield 95, 3), (59, .getfield 99, 3), (62, .iload_n 3, 1), (63, .iload_n 1, 1), (64, .iastore, 1), (65, .aload_n 0, 1), (66, .getfield 25, 3), (69, .getfield 95, 3), (72, .getfield 104, 3), (75, .iload_n 3, 1), (76, .iload_n 2, 1), (77, .iastore, 1), (78, .iconst 0, 1), (79, .istore 4, 2), (81, .iload 4, 2), (83, .bipush 24, 2), (85, .if_icmp .ge 38, 3), (88, .aload_n 0, 1), (89, .invokevirtual 41, 3), (92, .ifCond .eq 31, 3), (95, .aload_n 0, 1), (96, .getfield 25, 3), (99, .getfield 95, 3), (102, .getfield 107, 3), (105, .iload_n 3, 1), (106, .bipush 24, 2), (108, .imul, 1), (109, .iload 4, 2), (111, .iadd, 1), (112, .aload_n 0, 1)]
theorem tk_X3_readPerson : am_tbl prog_5_method_11_code tb_X3_readPerson = true := by decide +kernel
def tb_X3_readPerson_1 : List (Nat × Instr × Nat) := [(113, .invokevirtual 110, 3), (116, .iastore, 1), (117, .iinc 4 1, 3), (120, .goto (-39), 3), (123, .aload_n 0, 1), (124, .getfield 25, 3), (127, .dup, 1), (128, .getfield 92, 3), (131, .iconst 1, 1), (132, .iadd, 1), (133, .putfield 92, 3), (136, .return_, 1)]
theorem tk_X3_readPerson_1 : am_tbl prog_5_method_11_code tb_X3_readPerson_1 = true := by decide +kernel
def b_X3_readPerson_123 (tw : Nat) (D : am_M) : Option am_M := some (am_up D (15 - tw) 3 ((D (15 - tw) 3) + 1))
def b_X3_readPerson_81 (tw : Nat) : Nat → Int32 → Int32 → am_M → Option am_M
  | 0, _, _, _ => none
  | n + 1, x3, x4, D => if 24 ≤ x4 then b_X3_readPerson_123 tw D else if (f_X3_isGood tw D) = 0 then b_X3_readPerson_123 tw D else (f_X3_readDoing tw D).bind fun q113 => if am_in ((x3 * 24) + x4) 120 = true then b_X3_readPerson_81 tw n x3 (x4 + 1) (am_up q113.2 (((15 - tw) + 6) + 4) ((x3 * 24) + x4).toNatClampNeg q113.1) else none
def b_X3_readPerson_17 (tw : Nat) (s0 : Int32) (D : am_M) : Option am_M := (f_X3_stepOverWord tw s0 D).bind fun q17 => (f_X3_readNumber tw 0 60 q17).bind fun q24 => (f_X3_readNumber tw 0 99 q24.2).bind fun q32 => if (f_X3_isGood tw q32.2) = 0 then some q32.2 else if am_in (q32.2 (15 - tw) 3) 5 = true then b_X3_readPerson_81 tw am_N (q32.2 (15 - tw) 3) 0 (am_up (am_up q32.2 (((15 - tw) + 6) + 1) (q32.2 (15 - tw) 3).toNatClampNeg q24.1) (((15 - tw) + 6) + 3) (q32.2 (15 - tw) 3).toNatClampNeg q32.1) else none
def f_X3_readPerson (tw : Nat) (D : am_M) : Option am_M := b_X3_readPerson_17 tw (if (D (15 - tw) 3) < 5 then 0 else 1) D
theorem bx_X3_readPerson_123 {l : Launch} {h0 : am_H} {Φ : am_Ph} {tw : Nat} {tp : Bool} (htw : lyT tw) {D' : am_M} (hΦ : Φ none (ly tw tp D')) : ∀ (D : am_M), b_X3_readPerson_123 tw D = some D' → am_Ex (am_E l m_X3_readPerson false h0 Φ) prog_5_method_11_code (0, 0) 123 [(0, .ref 12)] [] (ly tw tp D) := by
  intro  D h
  rw [b_X3_readPerson_123] at h
  refine am_aload_n (j := 0) (am_dk tk_X3_readPerson_1 4 rfl) rfl rfl ?_
  refine ly_getr (b := (15 - tw)) rfl fl_X3_25 rfl rfl (am_dk tk_X3_readPerson_1 5 rfl) ?_
  refine am_dup (am_dk tk_X3_readPerson_1 6 rfl) rfl ?_
  refine ly_geti (lyT_s (lyT_o htw)) fl_X3_92 rfl (am_dk tk_X3_readPerson_1 7 rfl) ?_
  refine am_iconst (v := 1) (am_dk tk_X3_readPerson_1 8 rfl) (by decide) ?_
  refine am_iadd (am_dk tk_X3_readPerson_1 9 rfl) ?_
  refine ly_puti (lyT_s (lyT_o htw)) fl_X3_92 rfl rfl (am_dk tk_X3_readPerson_1 10 rfl) ?_
  exact am_vret rfl (am_r0 h hΦ) ⟨Nat.le_of_ble_eq_true rfl, Nat.le_of_ble_eq_true rfl⟩ (am_dk tk_X3_readPerson_1 11 rfl)
theorem bx_X3_readPerson_81 {l : Launch} {h0 : am_H} {Φ : am_Ph} {tw : Nat} {tp : Bool} (htw : lyT tw) {D' : am_M} (hΦ : Φ none (ly tw tp D')) : ∀ (n : Nat) (x3 : Int32) (x4 : Int32) (D : am_M), b_X3_readPerson_81 tw n x3 x4 D = some D' → am_Ex (am_E l m_X3_readPerson false h0 Φ) prog_5_method_11_code (0, 0) 81 [(0, .ref 12), (3, .int x3), (4, .int x4)] [] (ly tw tp D) := by
  intro n
  induction n with
  | zero =>
    intro x3 x4 D h
    exact absurd h (by simp [b_X3_readPerson_81])
  | succ n ih =>
    intro x3 x4 D h
    rw [b_X3_readPerson_81] at h
    refine am_iload (j := 2) (am_dk tk_X3_readPerson 44 rfl) rfl ?_
    refine am_bipush (v := 24) (am_dk tk_X3_readPerson 45 rfl) (by decide) ?_
    refine am_icmp_ge (tgt := 123) (am_dk tk_X3_readPerson 46 rfl) (by decide) (fun hc85 => ?_) (fun hc85 => ?_)
    · rw [if_pos hc85] at h
      refine am_ls [0] rfl ?_
      exact bx_X3_readPerson_123 htw hΦ _ h
    · rw [if_neg hc85] at h
      refine am_aload_n (j := 0) (am_dk tk_X3_readPerson 47 rfl) rfl rfl ?_
      refine ly_cV (M := m_X3_isGood) (As := []) (b := 12) (st := []) (ct_X3_isGood htw  _) rfl (by decide) rfl ml_X3_41 ld_X3_isGood rfl ⟨Nat.le_of_ble_eq_true rfl, Nat.le_of_ble_eq_true rfl⟩ (Nat.le_of_ble_eq_true rfl) ⟨rfl, rfl⟩ ⟨Nat.le_of_ble_eq_true rfl, Nat.le_of_ble_eq_true rfl⟩ (am_dk tk_X3_readPerson 48 rfl) (am_kki ?_)
      refine am_if_eq (tgt := 123) (am_dk tk_X3_readPerson 49 rfl) (by decide) (fun hc92 => ?_) (fun hc92 => ?_)
      · rw [if_pos hc92] at h
        refine am_ls [0] rfl ?_
        exact bx_X3_readPerson_123 htw hΦ _ h
      · rw [if_neg hc92] at h
        refine am_aload_n (j := 0) (am_dk tk_X3_readPerson 50 rfl) rfl rfl ?_
        refine ly_getr (b := (15 - tw)) rfl fl_X3_25 rfl rfl (am_dk tk_X3_readPerson 51 rfl) ?_
        refine ly_getr (b := ((15 - tw) + 6)) (lyT_s (lyT_o htw)) fl_X3_95 rfl (lyT_r12 (lyT_o htw)) (am_dk tk_X3_readPerson 52 rfl) ?_
        refine ly_getr (b := (((15 - tw) + 6) + 4)) (lyM_s (lyT_m (lyT_o htw))) fl_X3_107 rfl (lyM_r3 (lyT_m (lyT_o htw))) (am_dk tk_X3_readPerson 53 rfl) ?_
        refine am_iload_n (j := 1) (am_dk tk_X3_readPerson 54 rfl) rfl rfl ?_
        refine am_bipush (v := 24) (am_dk tk_X3_readPerson 55 rfl) (by decide) ?_
        refine am_imul (am_dk tk_X3_readPerson 56 rfl) ?_
        refine am_iload (j := 2) (am_dk tk_X3_readPerson 57 rfl) rfl ?_
        refine am_iadd (am_dk tk_X3_readPerson 58 rfl) ?_
        refine am_aload_n (j := 0) (am_dk tk_X3_readPerson 59 rfl) rfl rfl ?_
        obtain ⟨q113, hq113, h⟩ := am_bind h
        refine ly_cV (M := m_X3_readDoing) (As := []) (b := 12) (st := [.int ((x3 * 24) + x4), .ref (((15 - tw) + 6) + 4)]) (ct_X3_readDoing htw hq113) rfl (by decide) rfl ml_X3_110 ld_X3_readDoing rfl ⟨Nat.le_of_ble_eq_true rfl, Nat.le_of_ble_eq_true rfl⟩ (Nat.le_of_ble_eq_true rfl) ⟨rfl, rfl⟩ ⟨Nat.le_of_ble_eq_true rfl, Nat.le_of_ble_eq_true rfl⟩ (am_dk tk_X3_readPerson_1 0 rfl) (am_kki ?_)
        obtain ⟨hi116, h⟩ := am_chk h
        refine ly_iast (k := ((x3 * 24) + x4).toNatClampNeg) (lyM_a3 (lyT_m (lyT_o htw))) (am_in_vp hi116) rfl (am_dk tk_X3_readPerson_1 1 rfl) ?_
        refine am_iinc (j := 2) (v := x4 + 1) (L' := [(4, .int (x4 + 1)), (0, .ref 12), (3, .int x3)]) (am_dk tk_X3_readPerson_1 2 rfl) rfl rfl (Nat.le_of_ble_eq_true rfl) rfl ?_
        refine am_goto (tgt := 81) (am_dk tk_X3_readPerson_1 3 rfl) (by decide) ?_
        refine am_ls [1, 2, 0] rfl ?_
        exact ih _ _ _ h
theorem bx_X3_readPerson_17 {l : Launch} {h0 : am_H} {Φ : am_Ph} {tw : Nat} {tp : Bool} (htw : lyT tw) {D' : am_M} (hΦ : Φ none (ly tw tp D')) : ∀ (s0 : Int32) (D : am_M), b_X3_readPerson_17 tw s0 D = some D' → am_Ex (am_E l m_X3_readPerson false h0 Φ) prog_5_method_11_code (0, 0) 17 [(0, .ref 12)] [.int s0, .ref 12] (ly tw tp D) := by
  intro s0 D h
  rw [b_X3_readPerson_17] at h
  obtain ⟨q17, hq17, h⟩ := am_bind h
  refine ly_cV (M := m_X3_stepOverWord) (As := [.int s0]) (b := 12) (st := []) (ct_X3_stepOverWord htw hq17) rfl (by decide) rfl ml_X3_78 ld_X3_stepOverWord rfl ⟨Nat.le_of_ble_eq_true rfl, Nat.le_of_ble_eq_true rfl⟩ (Nat.le_of_ble_eq_true rfl) ⟨rfl, rfl⟩ ⟨Nat.le_of_ble_eq_true rfl, Nat.le_of_ble_eq_true rfl⟩ (am_dk tk_X3_readPerson 9 rfl) (am_kkv ?_)
  refine am_aload_n (j := 0) (am_dk tk_X3_readPerson 10 rfl) rfl rfl ?_
  refine am_iconst (v := 0) (am_dk tk_X3_readPerson 11 rfl) (by decide) ?_
  refine am_bipush (v := 60) (am_dk tk_X3_readPerson 12 rfl) (by decide) ?_
  obtain ⟨q24, hq24, h⟩ := am_bind h
  refine ly_cV (M := m_X3_readNumber) (As := [.int 0, .int 60]) (b := 12) (st := []) (ct_X3_readNumber htw hq24) rfl (by decide) rfl ml_X3_82 ld_X3_readNumber rfl ⟨Nat.le_of_ble_eq_true rfl, Nat.le_of_ble_eq_true rfl⟩ (Nat.le_of_ble_eq_true rfl) ⟨rfl, rfl⟩ ⟨Nat.le_of_ble_eq_true rfl, Nat.le_of_ble_eq_true rfl⟩ (am_dk tk_X3_readPerson 13 rfl) (am_kki ?_)
  refine am_istore_n (L' := [(1, .int q24.1), (0, .ref 12)]) (am_dk tk_X3_readPerson 14 rfl) rfl (Nat.le_of_ble_eq_true rfl) rfl ?_
  refine am_aload_n (j := 1) (am_dk tk_X3_readPerson 15 rfl) rfl rfl ?_
  refine am_iconst (v := 0) (am_dk tk_X3_readPerson 16 rfl) (by decide) ?_
  refine am_bipush (v := 99) (am_dk tk_X3_readPerson 17 rfl) (by decide) ?_
  obtain ⟨q32, hq32, h⟩ := am_bind h
  refine ly_cV (M := m_X3_readNumber) (As := [.int 0, .int 99]) (b := 12) (st := []) (ct_X3_readNumber htw hq32) rfl (by decide) rfl ml_X3_82 ld_X3_readNumber rfl ⟨Nat.le_of_ble_eq_true rfl, Nat.le_of_ble_eq_true rfl⟩ (Nat.le_of_ble_eq_true rfl) ⟨rfl, rfl⟩ ⟨Nat.le_of_ble_eq_true rfl, Nat.le_of_ble_eq_true rfl⟩ (am_dk tk_X3_readPerson 18 rfl) (am_kki ?_)
  refine am_istore_n (L' := [(2, .int q32.1), (1, .int q24.1), (0, .ref 12)]) (am_dk tk_X3_readPerson 19 rfl) rfl (Nat.le_of_ble_eq_true rfl) rfl ?_
  refine am_aload_n (j := 2) (am_dk tk_X3_readPerson 20 rfl) rfl rfl ?_
  refine ly_cV (M := m_X3_isGood) (As := []) (b := 12) (st := []) (ct_X3_isGood htw  _) rfl (by decide) rfl ml_X3_41 ld_X3_isGood rfl ⟨Nat.le_of_ble_eq_true rfl, Nat.le_of_ble_eq_true rfl⟩ (Nat.le_of_ble_eq_true rfl) ⟨rfl, rfl⟩ ⟨Nat.le_of_ble_eq_true rfl, Nat.le_of_ble_eq_true rfl⟩ (am_dk tk_X3_readPerson 21 rfl) (am_kki ?_)
  refine am_if_ne (tgt := 44) (am_dk tk_X3_readPerson 22 rfl) (by decide) (fun hc40 => ?_) (fun hc40 => ?_)
  · rw [if_neg hc40] at h
    refine am_aload_n (j := 2) (am_dk tk_X3_readPerson 24 rfl) rfl rfl ?_
    refine ly_getr (b := (15 - tw)) rfl fl_X3_25 rfl rfl (am_dk tk_X3_readPerson 25 rfl) ?_
    refine ly_geti (lyT_s (lyT_o htw)) fl_X3_92 rfl (am_dk tk_X3_readPerson 26 rfl) ?_
    refine am_istore_n (L' := [(3, .int (q32.2 (15 - tw) 3)), (2, .int q32.1), (1, .int q24.1), (0, .ref 12)]) (am_dk tk_X3_readPerson 27 rfl) rfl (Nat.le_of_ble_eq_true rfl) rfl ?_
    refine am_aload_n (j := 3) (am_dk tk_X3_readPerson 28 rfl) rfl rfl ?_
    refine ly_getr (b := (15 - tw)) rfl fl_X3_25 rfl rfl (am_dk tk_X3_readPerson 29 rfl) ?_
    refine ly_getr (b := ((15 - tw) + 6)) (lyT_s (lyT_o htw)) fl_X3_95 rfl (lyT_r12 (lyT_o htw)) (am_dk tk_X3_readPerson 30 rfl) ?_
    refine ly_getr (b := (((15 - tw) + 6) + 1)) (lyM_s (lyT_m (lyT_o htw))) fl_X3_99 rfl (lyM_r0 (lyT_m (lyT_o htw))) (am_dk tk_X3_readPerson 31 rfl) ?_
    refine am_iload_n (j := 0) (am_dk tk_X3_readPerson 32 rfl) rfl rfl ?_
    refine am_iload_n (j := 2) (am_dk tk_X3_readPerson 33 rfl) rfl rfl ?_
    obtain ⟨hi64, h⟩ := am_chk h
    refine ly_iast (k := (q32.2 (15 - tw) 3).toNatClampNeg) (lyM_a0 (lyT_m (lyT_o htw))) (am_in_vp hi64) rfl (am_dk tk_X3_readPerson 34 rfl) ?_
    refine am_aload_n (j := 3) (am_dk tk_X3_readPerson 35 rfl) rfl rfl ?_
    refine ly_getr (b := (15 - tw)) rfl fl_X3_25 rfl rfl (am_dk tk_X3_readPerson 36 rfl) ?_
    refine ly_getr (b := ((15 - tw) + 6)) (lyT_s (lyT_o htw)) fl_X3_95 rfl (lyT_r12 (lyT_o htw)) (am_dk tk_X3_readPerson 37 rfl) ?_
    refine ly_getr (b := (((15 - tw) + 6) + 3)) (lyM_s (lyT_m (lyT_o htw))) fl_X3_104 rfl (lyM_r2 (lyT_m (lyT_o htw))) (am_dk tk_X3_readPerson 38 rfl) ?_
    refine am_iload_n (j := 0) (am_dk tk_X3_readPerson 39 rfl) rfl rfl ?_
    refine am_iload_n (j := 1) (am_dk tk_X3_readPerson 40 rfl) rfl rfl ?_
    refine ly_iast (k := (q32.2 (15 - tw) 3).toNatClampNeg) (lyM_a2 (lyT_m (lyT_o htw))) (am_in_vp hi64) rfl (am_dk tk_X3_readPerson 41 rfl) ?_
    refine am_iconst (v := 0) (am_dk tk_X3_readPerson 42 rfl) (by decide) ?_
    refine am_istore (L' := [(4, .int 0), (3, .int (q32.2 (15 - tw) 3)), (2, .int q32.1), (1, .int q24.1), (0, .ref 12)]) (am_dk tk_X3_readPerson 43 rfl) (Nat.le_of_ble_eq_true rfl) rfl ?_
    refine am_ls [4, 1, 0] rfl ?_
    exact bx_X3_readPerson_81 htw hΦ am_N _ _ _ h
  · rw [if_pos hc40] at h
    exact am_vret rfl (am_r0 h hΦ) ⟨Nat.le_of_ble_eq_true rfl, Nat.le_of_ble_eq_true rfl⟩ (am_dk tk_X3_readPerson 23 rfl)
theorem ct_X3_readPerson {l : Launch} {tw : Nat} {tp : Bool} (htw : lyT tw) {D D' : am_M} (h : f_X3_readPerson tw D = some D') : am_CT l m_X3_readPerson false [.ref 12] (ly tw tp D) (am_is none (ly tw tp D')) := by
  have hΦ : am_is none (ly tw tp D') none (ly tw tp D') := ⟨rfl, rfl⟩
  refine am_CT.of (by decide) (Nat.le_of_ble_eq_true rfl) ?_
  show am_Ex _ _ _ 0 [(0, .ref 12)] [] _
  rw [f_X3_readPerson] at h
  refine am_aload_n (j := 0) (am_dk tk_X3_readPerson 0 rfl) rfl rfl ?_
  refine am_aload_n (j := 0) (am_dk tk_X3_readPerson 1 rfl) rfl rfl ?_
  refine ly_getr (b := (15 - tw)) rfl fl_X3_25 rfl rfl (am_dk tk_X3_readPerson 2 rfl) ?_
  refine ly_geti (lyT_s (lyT_o htw)) fl_X3_92 rfl (am_dk tk_X3_readPerson 3 rfl) ?_
  refine am_iconst (v := 5) (am_dk tk_X3_readPerson 4 rfl) (by decide) ?_
  refine am_icmp_lt (tgt := 16) (am_dk tk_X3_readPerson 5 rfl) (by decide) (fun hc9 => ?_) (fun hc9 => ?_)
  · simp only [if_pos hc9] at h
    refine am_iconst (v := 0) (am_dk tk_X3_readPerson 8 rfl) (by decide) ?_
    exact bx_X3_readPerson_17 htw hΦ _ _ h
  · simp only [if_neg hc9] at h
    refine am_iconst (v := 1) (am_dk tk_X3_readPerson 6 rfl) (by decide) ?_
    refine am_goto (tgt := 17) (am_dk tk_X3_readPerson 7 rfl) (by decide) ?_
    exact bx_X3_readPerson_17 htw hΦ _ _ h
abbrev m_X3_readCoin : am_D := (yX3_readCoin, prog_5_method_13_code, 2, none, { frames := 3, cells := 0, slots := 0, locals := 65 })
theorem ld_X3_readCoin : am_LD m_X3_readCoin 0 := ⟨(am_tb 82 (by decide +kernel) (by decide +kernel)), (am_tb 464 (by decide +kernel) (by decide +kernel)), by decide, by decide, by decide +kernel⟩
def tb_X3_readCoin : List (Nat × Instr × Nat) := [(0, .aload_n 0, 1), (1, .aload_n 0, 1), (2, .getfield 25, 3), (5, .getfield 113, 3), (8, .iconst 4, 1), (9, .if_icmp .lt 7, 3), (12, .iconst 1, 1), (13, .goto 4, 3), (16, .iconst 0, 1), (17, .invokevirtual 78, 3), (20, .aload_n 0, 1), (21, .iconst 2, 1), (22, .bipush 60, 2), (24, .invokevirtual 82, 3), (27, .istore_n 1, 1), (28, .aload_n 0, 1), (29, .getfield 25, 3), (32, .iload_n 1, 1), (33, .invokevirtual 116, 3), (36, .ifCond .eq 12, 3), (39, .aload_n 0, 1), (40, .iconst 4, 1), (41, .aload_n 0, 1), (42, .getfield 19, 3), (45, .invokevirtual 55, 3), (48, .aload_n 0, 1), (49, .invokevirtual 41, 3), (52, .ifCond .ne 4, 3), (55, .return_, 1), (56, .aload_n 0, 1), (57, .getfield 25, 3), (60, .getfield 120, 3), (63, .aload_n 0, 1), (64, .getfield 25, 3), (67, .getfield 113, 3), (70, .iload_n 1, 1), (71, .iastore, 1), (72, .aload_n 0, 1), (73, .getfield 25, 3), (76, .dup, 1), (77, .getfield 113, 3), (80, .iconst 1, 1), (81, .iadd, 1), (82, .putfield 113, 3), (85, .return_, 1)]
theorem tk_X3_readCoin : am_tbl prog_5_method_13_code tb_X3_readCoin = true := by decide +kernel
def b_X3_readCoin_48 (tw : Nat) (x1 : Int32) (D : am_M) : Option am_M := if (f_X3_isGood tw D) = 0 then some D else if am_in (D (15 - tw) 4) 4 = true then some (am_up (am_up D ((15 - tw) + 1) (D (15 - tw) 4).toNatClampNeg x1) (15 - tw) 4 (((am_up D ((15 - tw) + 1) (D (15 - tw) 4).toNatClampNeg x1) (15 - tw) 4) + 1)) else none
def b_X3_readCoin_17 (tw : Nat) (s0 : Int32) (D : am_M) : Option am_M := (f_X3_stepOverWord tw s0 D).bind fun q17 => (f_X3_readNumber tw 2 60 q17).bind fun q24 => (f_X4_hasCoin (15 - tw) q24.1 q24.2).bind fun q33 => if q33.1 = 0 then b_X3_readCoin_48 tw q24.1 q33.2 else (f_X3_fail tw 4 (q33.2 12 2) q33.2).bind fun q45 => b_X3_readCoin_48 tw q24.1 q45
def f_X3_readCoin (tw : Nat) (D : am_M) : Option am_M := b_X3_readCoin_17 tw (if (D (15 - tw) 4) < 4 then 0 else 1) D
theorem bx_X3_readCoin_48 {l : Launch} {h0 : am_H} {Φ : am_Ph} {tw : Nat} {tp : Bool} (htw : lyT tw) {D' : am_M} (hΦ : Φ none (ly tw tp D')) : ∀ (x1 : Int32) (D : am_M), b_X3_readCoin_48 tw x1 D = some D' → am_Ex (am_E l m_X3_readCoin false h0 Φ) prog_5_method_13_code (0, 0) 48 [(0, .ref 12), (1, .int x1)] [] (ly tw tp D) := by
  intro x1 D h
  rw [b_X3_readCoin_48] at h
  refine am_aload_n (j := 0) (am_dk tk_X3_readCoin 25 rfl) rfl rfl ?_
  refine ly_cV (M := m_X3_isGood) (As := []) (b := 12) (st := []) (ct_X3_isGood htw  _) rfl (by decide) rfl ml_X3_41 ld_X3_isGood rfl ⟨Nat.le_of_ble_eq_true rfl, Nat.le_of_ble_eq_true rfl⟩ (Nat.le_of_ble_eq_true rfl) ⟨rfl, rfl⟩ ⟨Nat.le_of_ble_eq_true rfl, Nat.le_of_ble_eq_true rfl⟩ (am_dk tk_X3_readCoin 26 rfl) (am_kki ?_)
  refine am_if_ne (tgt := 56) (am_dk tk_X3_readCoin 27 rfl) (by decide) (fun hc52 => ?_) (fun hc52 => ?_)
  · rw [if_neg hc52] at h
    refine am_aload_n (j := 0) (am_dk tk_X3_readCoin 29 rfl) rfl rfl ?_
    refine ly_getr (b := (15 - tw)) rfl fl_X3_25 rfl rfl (am_dk tk_X3_readCoin 30 rfl) ?_
    refine ly_getr (b := ((15 - tw) + 1)) (lyT_s (lyT_o htw)) fl_X3_120 rfl (lyT_r7 (lyT_o htw)) (am_dk tk_X3_readCoin 31 rfl) ?_
    refine am_aload_n (j := 0) (am_dk tk_X3_readCoin 32 rfl) rfl rfl ?_
    refine ly_getr (b := (15 - tw)) rfl fl_X3_25 rfl rfl (am_dk tk_X3_readCoin 33 rfl) ?_
    refine ly_geti (lyT_s (lyT_o htw)) fl_X3_113 rfl (am_dk tk_X3_readCoin 34 rfl) ?_
    refine am_iload_n (j := 1) (am_dk tk_X3_readCoin 35 rfl) rfl rfl ?_
    obtain ⟨hi71, h⟩ := am_chk h
    refine ly_iast (k := (D (15 - tw) 4).toNatClampNeg) (lyT_a7 (lyT_o htw)) (am_in_vp hi71) rfl (am_dk tk_X3_readCoin 36 rfl) ?_
    refine am_aload_n (j := 0) (am_dk tk_X3_readCoin 37 rfl) rfl rfl ?_
    refine ly_getr (b := (15 - tw)) rfl fl_X3_25 rfl rfl (am_dk tk_X3_readCoin 38 rfl) ?_
    refine am_dup (am_dk tk_X3_readCoin 39 rfl) rfl ?_
    refine ly_geti (lyT_s (lyT_o htw)) fl_X3_113 rfl (am_dk tk_X3_readCoin 40 rfl) ?_
    refine am_iconst (v := 1) (am_dk tk_X3_readCoin 41 rfl) (by decide) ?_
    refine am_iadd (am_dk tk_X3_readCoin 42 rfl) ?_
    refine ly_puti (lyT_s (lyT_o htw)) fl_X3_113 rfl rfl (am_dk tk_X3_readCoin 43 rfl) ?_
    exact am_vret rfl (am_r0 h hΦ) ⟨Nat.le_of_ble_eq_true rfl, Nat.le_of_ble_eq_true rfl⟩ (am_dk tk_X3_readCoin 44 rfl)
  · rw [if_pos hc52] at h
    exact am_vret rfl (am_r0 h hΦ) ⟨Nat.le_of_ble_eq_true rfl, Nat.le_of_ble_eq_true rfl⟩ (am_dk tk_X3_readCoin 28 rfl)
theorem bx_X3_readCoin_17 {l : Launch} {h0 : am_H} {Φ : am_Ph} {tw : Nat} {tp : Bool} (htw : lyT tw) {D' : am_M} (hΦ : Φ none (ly tw tp D')) : ∀ (s0 : Int32) (D : am_M), b_X3_readCoin_17 tw s0 D = some D' → am_Ex (am_E l m_X3_readCoin false h0 Φ) prog_5_method_13_code (0, 0) 17 [(0, .ref 12)] [.int s0, .ref 12] (ly tw tp D) := by
  intro s0 D h
  rw [b_X3_readCoin_17] at h
  obtain ⟨q17, hq17, h⟩ := am_bind h
  refine ly_cV (M := m_X3_stepOverWord) (As := [.int s0]) (b := 12) (st := []) (ct_X3_stepOverWord htw hq17) rfl (by decide) rfl ml_X3_78 ld_X3_stepOverWord rfl ⟨Nat.le_of_ble_eq_true rfl, Nat.le_of_ble_eq_true rfl⟩ (Nat.le_of_ble_eq_true rfl) ⟨rfl, rfl⟩ ⟨Nat.le_of_ble_eq_true rfl, Nat.le_of_ble_eq_true rfl⟩ (am_dk tk_X3_readCoin 9 rfl) (am_kkv ?_)
  refine am_aload_n (j := 0) (am_dk tk_X3_readCoin 10 rfl) rfl rfl ?_
  refine am_iconst (v := 2) (am_dk tk_X3_readCoin 11 rfl) (by decide) ?_
  refine am_bipush (v := 60) (am_dk tk_X3_readCoin 12 rfl) (by decide) ?_
  obtain ⟨q24, hq24, h⟩ := am_bind h
  refine ly_cV (M := m_X3_readNumber) (As := [.int 2, .int 60]) (b := 12) (st := []) (ct_X3_readNumber htw hq24) rfl (by decide) rfl ml_X3_82 ld_X3_readNumber rfl ⟨Nat.le_of_ble_eq_true rfl, Nat.le_of_ble_eq_true rfl⟩ (Nat.le_of_ble_eq_true rfl) ⟨rfl, rfl⟩ ⟨Nat.le_of_ble_eq_true rfl, Nat.le_of_ble_eq_true rfl⟩ (am_dk tk_X3_readCoin 13 rfl) (am_kki ?_)
  refine am_istore_n (L' := [(1, .int q24.1), (0, .ref 12)]) (am_dk tk_X3_readCoin 14 rfl) rfl (Nat.le_of_ble_eq_true rfl) rfl ?_
  refine am_aload_n (j := 1) (am_dk tk_X3_readCoin 15 rfl) rfl rfl ?_
  refine ly_getr (b := (15 - tw)) rfl fl_X3_25 rfl rfl (am_dk tk_X3_readCoin 16 rfl) ?_
  refine am_iload_n (j := 0) (am_dk tk_X3_readCoin 17 rfl) rfl rfl ?_
  obtain ⟨q33, hq33, h⟩ := am_bind h
  refine ly_cV (M := m_X4_hasCoin) (As := [.int q24.1]) (b := (15 - tw)) (st := []) (ct_X4_hasCoin (lyT_o htw) hq33) (lyT_s (lyT_o htw)) (by decide) rfl ml_X3_116 ld_X4_hasCoin rfl ⟨Nat.le_of_ble_eq_true rfl, Nat.le_of_ble_eq_true rfl⟩ (Nat.le_of_ble_eq_true rfl) ⟨rfl, rfl⟩ ⟨Nat.le_of_ble_eq_true rfl, Nat.le_of_ble_eq_true rfl⟩ (am_dk tk_X3_readCoin 18 rfl) (am_kki ?_)
  refine am_if_eq (tgt := 48) (am_dk tk_X3_readCoin 19 rfl) (by decide) (fun hc36 => ?_) (fun hc36 => ?_)
  · rw [if_pos hc36] at h
    refine am_ls [1, 0] rfl ?_
    exact bx_X3_readCoin_48 htw hΦ _ _ h
  · rw [if_neg hc36] at h
    refine am_aload_n (j := 1) (am_dk tk_X3_readCoin 20 rfl) rfl rfl ?_
    refine am_iconst (v := 4) (am_dk tk_X3_readCoin 21 rfl) (by decide) ?_
    refine am_aload_n (j := 1) (am_dk tk_X3_readCoin 22 rfl) rfl rfl ?_
    refine ly_geti rfl fl_X3_19 rfl (am_dk tk_X3_readCoin 23 rfl) ?_
    obtain ⟨q45, hq45, h⟩ := am_bind h
    refine ly_cV (M := m_X3_fail) (As := [.int 4, .int (q33.2 12 2)]) (b := 12) (st := []) (ct_X3_fail htw hq45) rfl (by decide) rfl ml_X3_55 ld_X3_fail rfl ⟨Nat.le_of_ble_eq_true rfl, Nat.le_of_ble_eq_true rfl⟩ (Nat.le_of_ble_eq_true rfl) ⟨rfl, rfl⟩ ⟨Nat.le_of_ble_eq_true rfl, Nat.le_of_ble_eq_true rfl⟩ (am_dk tk_X3_readCoin 24 rfl) (am_kkv ?_)
    refine am_ls [1, 0] rfl ?_
    exact bx_X3_readCoin_48 htw hΦ _ _ h
theorem ct_X3_readCoin {l : Launch} {tw : Nat} {tp : Bool} (htw : lyT tw) {D D' : am_M} (h : f_X3_readCoin tw D = some D') : am_CT l m_X3_readCoin false [.ref 12] (ly tw tp D) (am_is none (ly tw tp D')) := by
  have hΦ : am_is none (ly tw tp D') none (ly tw tp D') := ⟨rfl, rfl⟩
  refine am_CT.of (by decide) (Nat.le_of_ble_eq_true rfl) ?_
  show am_Ex _ _ _ 0 [(0, .ref 12)] [] _
  rw [f_X3_readCoin] at h
  refine am_aload_n (j := 0) (am_dk tk_X3_readCoin 0 rfl) rfl rfl ?_
  refine am_aload_n (j := 0) (am_dk tk_X3_readCoin 1 rfl) rfl rfl ?_
  refine ly_getr (b := (15 - tw)) rfl fl_X3_25 rfl rfl (am_dk tk_X3_readCoin 2 rfl) ?_
  refine ly_geti (lyT_s (lyT_o htw)) fl_X3_113 rfl (am_dk tk_X3_readCoin 3 rfl) ?_
  refine am_iconst (v := 4) (am_dk tk_X3_readCoin 4 rfl) (by decide) ?_
  refine am_icmp_lt (tgt := 16) (am_dk tk_X3_readCoin 5 rfl) (by decide) (fun hc9 => ?_) (fun hc9 => ?_)
  · simp only [if_pos hc9] at h
    refine am_iconst (v := 0) (am_dk tk_X3_readCoin 8 rfl) (by decide) ?_
    exact bx_X3_readCoin_17 htw hΦ _ _ h
  · simp only [if_neg hc9] at h
    refine am_iconst (v := 1) (am_dk tk_X3_readCoin 6 rfl) (by decide) ?_
    refine am_goto (tgt := 17) (am_dk tk_X3_readCoin 7 rfl) (by decide) ?_
    exact bx_X3_readCoin_17 htw hΦ _ _ h
abbrev m_X3_readDebt : am_D := (yX3_readDebt, prog_5_method_14_code, 4, none, { frames := 3, cells := 0, slots := 0, locals := 65 })
theorem ld_X3_readDebt : am_LD m_X3_readDebt 0 := ⟨(am_tb 82 (by decide +kernel) (by decide +kernel)), (am_tb 472 (by decide +kernel) (by decide +kernel)), by decide, by decide, by decide +kernel⟩
def tb_X3_readDebt : List (Nat × Instr × Nat) := [(0, .aload_n 0, 1), (1, .aload_n 0, 1), (2, .getfield 25, 3), (5, .getfield 123, 3), (8, .bipush 8, 2), (10, .if_icmp .lt 7, 3), (13, .iconst 1, 1), (14, .goto 4, 3), (17, .iconst 0, 1), (18, .invokevirtual 78, 3), (21, .aload_n 0, 1), (22, .iconst 0, 1), (23, .aload_n 0, 1), (24, .getfield 25, 3), (27, .getfield 92, 3), (30, .iconst 1, 1), (31, .isub, 1), (32, .invokevirtual 82, 3), (35, .istore_n 1, 1), (36, .aload_n 0, 1), (37, .iconst 0, 1), (38, .bipush 71, 2), (40, .invokevirtual 82, 3), (43, .istore_n 2, 1), (44, .aload_n 0, 1), (45, .iconst 1, 1), (46, .bipush 99, 2), (48, .invokevirtual 82, 3), (51, .istore_n 3, 1), (52, .aload_n 0, 1), (53, .invokevirtual 41, 3), (56, .ifCond .ne 4, 3), (59, .return_, 1), (60, .aload_n 0, 1), (61, .getfield 25, 3), (64, .getfield 126, 3), (67, .aload_n 0, 1), (68, .getfield 25, 3), (71, .getfield 123, 3), (74, .iload_n 1, 1), (75, .iastore, 1), (76, .aload_n 0, 1), (77, .getfield 25, 3), (80, .getfield 129, 3), (83, .aload_n 0, 1), (84, .getfield 25, 3), (87, .getfield 123, 3), (90, .iload_n 2, 1), (91, .iastore, 1), (92, .aload_n 0, 1), (93, .getfield 25, 3), (96, .getfield 132, 3), (99, .aload_n 0, 1), (100, .getfield 25, 3), (103, .getfield 123, 3), (106, .iload_n 3, 1), (107, .iastore, 1), (108, .aload_n 0, 1), (109, .getfield 25, 3), (112, .dup, 1)]
theorem tk_X3_readDebt : am_tbl prog_5_method_14_code tb_X3_readDebt = true := by decide +kernel
def tb_X3_readDebt_1 : List (Nat × Instr × Nat) := [(113, .getfield 123, 3), (116, .iconst 1, 1), (117, .iadd, 1), (118, .putfield 123, 3), (121, .return_, 1)]
theorem tk_X3_readDebt_1 : am_tbl prog_5_method_14_code tb_X3_readDebt_1 = true := by decide +kernel
def b_X3_readDebt_108 (tw : Nat) (D : am_M) : Option am_M := some (am_up D (15 - tw) 5 ((D (15 - tw) 5) + 1))
def b_X3_readDebt_18 (tw : Nat) (s0 : Int32) (D : am_M) : Option am_M := (f_X3_stepOverWord tw s0 D).bind fun q18 => (f_X3_readNumber tw 0 ((q18 (15 - tw) 3) - 1) q18).bind fun q32 => (f_X3_readNumber tw 0 71 q32.2).bind fun q40 => (f_X3_readNumber tw 1 99 q40.2).bind fun q48 => if (f_X3_isGood tw q48.2) = 0 then some q48.2 else if am_in (q48.2 (15 - tw) 5) 8 = true then if am_in ((am_up q48.2 ((15 - tw) + 2) (q48.2 (15 - tw) 5).toNatClampNeg q32.1) (15 - tw) 5) 8 = true then if am_in ((am_up (am_up q48.2 ((15 - tw) + 2) (q48.2 (15 - tw) 5).toNatClampNeg q32.1) ((15 - tw) + 3) ((am_up q48.2 ((15 - tw) + 2) (q48.2 (15 - tw) 5).toNatClampNeg q32.1) (15 - tw) 5).toNatClampNeg q40.1) (15 - tw) 5) 8 = true then b_X3_readDebt_108 tw (am_up (am_up (am_up q48.2 ((15 - tw) + 2) (q48.2 (15 - tw) 5).toNatClampNeg q32.1) ((15 - tw) + 3) ((am_up q48.2 ((15 - tw) + 2) (q48.2 (15 - tw) 5).toNatClampNeg q32.1) (15 - tw) 5).toNatClampNeg q40.1) ((15 - tw) + 4) ((am_up (am_up q48.2 ((15 - tw) + 2) (q48.2 (15 - tw) 5).toNatClampNeg q32.1) ((15 - tw) + 3) ((am_up q48.2 ((15 - tw) + 2) (q48.2 (15 - tw) 5).toNatClampNeg q32.1) (15 - tw) 5).toNatClampNeg q40.1) (15 - tw) 5).toNatClampNeg q48.1) else none else none else none
def f_X3_readDebt (tw : Nat) (D : am_M) : Option am_M := b_X3_readDebt_18 tw (if (D (15 - tw) 5) < 8 then 0 else 1) D
theorem bx_X3_readDebt_108 {l : Launch} {h0 : am_H} {Φ : am_Ph} {tw : Nat} {tp : Bool} (htw : lyT tw) {D' : am_M} (hΦ : Φ none (ly tw tp D')) : ∀ (D : am_M), b_X3_readDebt_108 tw D = some D' → am_Ex (am_E l m_X3_readDebt false h0 Φ) prog_5_method_14_code (0, 0) 108 [(0, .ref 12)] [] (ly tw tp D) := by
  intro  D h
  rw [b_X3_readDebt_108] at h
  refine am_aload_n (j := 0) (am_dk tk_X3_readDebt 57 rfl) rfl rfl ?_
  refine ly_getr (b := (15 - tw)) rfl fl_X3_25 rfl rfl (am_dk tk_X3_readDebt 58 rfl) ?_
  refine am_dup (am_dk tk_X3_readDebt 59 rfl) rfl ?_
  refine ly_geti (lyT_s (lyT_o htw)) fl_X3_123 rfl (am_dk tk_X3_readDebt_1 0 rfl) ?_
  refine am_iconst (v := 1) (am_dk tk_X3_readDebt_1 1 rfl) (by decide) ?_
  refine am_iadd (am_dk tk_X3_readDebt_1 2 rfl) ?_
  refine ly_puti (lyT_s (lyT_o htw)) fl_X3_123 rfl rfl (am_dk tk_X3_readDebt_1 3 rfl) ?_
  exact am_vret rfl (am_r0 h hΦ) ⟨Nat.le_of_ble_eq_true rfl, Nat.le_of_ble_eq_true rfl⟩ (am_dk tk_X3_readDebt_1 4 rfl)
theorem bx_X3_readDebt_18 {l : Launch} {h0 : am_H} {Φ : am_Ph} {tw : Nat} {tp : Bool} (htw : lyT tw) {D' : am_M} (hΦ : Φ none (ly tw tp D')) : ∀ (s0 : Int32) (D : am_M), b_X3_readDebt_18 tw s0 D = some D' → am_Ex (am_E l m_X3_readDebt false h0 Φ) prog_5_method_14_code (0, 0) 18 [(0, .ref 12)] [.int s0, .ref 12] (ly tw tp D) := by
  intro s0 D h
  rw [b_X3_readDebt_18] at h
  obtain ⟨q18, hq18, h⟩ := am_bind h
  refine ly_cV (M := m_X3_stepOverWord) (As := [.int s0]) (b := 12) (st := []) (ct_X3_stepOverWord htw hq18) rfl (by decide) rfl ml_X3_78 ld_X3_stepOverWord rfl ⟨Nat.le_of_ble_eq_true rfl, Nat.le_of_ble_eq_true rfl⟩ (Nat.le_of_ble_eq_true rfl) ⟨rfl, rfl⟩ ⟨Nat.le_of_ble_eq_true rfl, Nat.le_of_ble_eq_true rfl⟩ (am_dk tk_X3_readDebt 9 rfl) (am_kkv ?_)
  refine am_aload_n (j := 0) (am_dk tk_X3_readDebt 10 rfl) rfl rfl ?_
  refine am_iconst (v := 0) (am_dk tk_X3_readDebt 11 rfl) (by decide) ?_
  refine am_aload_n (j := 0) (am_dk tk_X3_readDebt 12 rfl) rfl rfl ?_
  refine ly_getr (b := (15 - tw)) rfl fl_X3_25 rfl rfl (am_dk tk_X3_readDebt 13 rfl) ?_
  refine ly_geti (lyT_s (lyT_o htw)) fl_X3_92 rfl (am_dk tk_X3_readDebt 14 rfl) ?_
  refine am_iconst (v := 1) (am_dk tk_X3_readDebt 15 rfl) (by decide) ?_
  refine am_isub (am_dk tk_X3_readDebt 16 rfl) ?_
  obtain ⟨q32, hq32, h⟩ := am_bind h
  refine ly_cV (M := m_X3_readNumber) (As := [.int 0, .int ((q18 (15 - tw) 3) - 1)]) (b := 12) (st := []) (ct_X3_readNumber htw hq32) rfl (by decide) rfl ml_X3_82 ld_X3_readNumber rfl ⟨Nat.le_of_ble_eq_true rfl, Nat.le_of_ble_eq_true rfl⟩ (Nat.le_of_ble_eq_true rfl) ⟨rfl, rfl⟩ ⟨Nat.le_of_ble_eq_true rfl, Nat.le_of_ble_eq_true rfl⟩ (am_dk tk_X3_readDebt 17 rfl) (am_kki ?_)
  refine am_istore_n (L' := [(1, .int q32.1), (0, .ref 12)]) (am_dk tk_X3_readDebt 18 rfl) rfl (Nat.le_of_ble_eq_true rfl) rfl ?_
  refine am_aload_n (j := 1) (am_dk tk_X3_readDebt 19 rfl) rfl rfl ?_
  refine am_iconst (v := 0) (am_dk tk_X3_readDebt 20 rfl) (by decide) ?_
  refine am_bipush (v := 71) (am_dk tk_X3_readDebt 21 rfl) (by decide) ?_
  obtain ⟨q40, hq40, h⟩ := am_bind h
  refine ly_cV (M := m_X3_readNumber) (As := [.int 0, .int 71]) (b := 12) (st := []) (ct_X3_readNumber htw hq40) rfl (by decide) rfl ml_X3_82 ld_X3_readNumber rfl ⟨Nat.le_of_ble_eq_true rfl, Nat.le_of_ble_eq_true rfl⟩ (Nat.le_of_ble_eq_true rfl) ⟨rfl, rfl⟩ ⟨Nat.le_of_ble_eq_true rfl, Nat.le_of_ble_eq_true rfl⟩ (am_dk tk_X3_readDebt 22 rfl) (am_kki ?_)
  refine am_istore_n (L' := [(2, .int q40.1), (1, .int q32.1), (0, .ref 12)]) (am_dk tk_X3_readDebt 23 rfl) rfl (Nat.le_of_ble_eq_true rfl) rfl ?_
  refine am_aload_n (j := 2) (am_dk tk_X3_readDebt 24 rfl) rfl rfl ?_
  refine am_iconst (v := 1) (am_dk tk_X3_readDebt 25 rfl) (by decide) ?_
  refine am_bipush (v := 99) (am_dk tk_X3_readDebt 26 rfl) (by decide) ?_
  obtain ⟨q48, hq48, h⟩ := am_bind h
  refine ly_cV (M := m_X3_readNumber) (As := [.int 1, .int 99]) (b := 12) (st := []) (ct_X3_readNumber htw hq48) rfl (by decide) rfl ml_X3_82 ld_X3_readNumber rfl ⟨Nat.le_of_ble_eq_true rfl, Nat.le_of_ble_eq_true rfl⟩ (Nat.le_of_ble_eq_true rfl) ⟨rfl, rfl⟩ ⟨Nat.le_of_ble_eq_true rfl, Nat.le_of_ble_eq_true rfl⟩ (am_dk tk_X3_readDebt 27 rfl) (am_kki ?_)
  refine am_istore_n (L' := [(3, .int q48.1), (2, .int q40.1), (1, .int q32.1), (0, .ref 12)]) (am_dk tk_X3_readDebt 28 rfl) rfl (Nat.le_of_ble_eq_true rfl) rfl ?_
  refine am_aload_n (j := 3) (am_dk tk_X3_readDebt 29 rfl) rfl rfl ?_
  refine ly_cV (M := m_X3_isGood) (As := []) (b := 12) (st := []) (ct_X3_isGood htw  _) rfl (by decide) rfl ml_X3_41 ld_X3_isGood rfl ⟨Nat.le_of_ble_eq_true rfl, Nat.le_of_ble_eq_true rfl⟩ (Nat.le_of_ble_eq_true rfl) ⟨rfl, rfl⟩ ⟨Nat.le_of_ble_eq_true rfl, Nat.le_of_ble_eq_true rfl⟩ (am_dk tk_X3_readDebt 30 rfl) (am_kki ?_)
  refine am_if_ne (tgt := 60) (am_dk tk_X3_readDebt 31 rfl) (by decide) (fun hc56 => ?_) (fun hc56 => ?_)
  · rw [if_neg hc56] at h
    refine am_aload_n (j := 3) (am_dk tk_X3_readDebt 33 rfl) rfl rfl ?_
    refine ly_getr (b := (15 - tw)) rfl fl_X3_25 rfl rfl (am_dk tk_X3_readDebt 34 rfl) ?_
    refine ly_getr (b := ((15 - tw) + 2)) (lyT_s (lyT_o htw)) fl_X3_126 rfl (lyT_r8 (lyT_o htw)) (am_dk tk_X3_readDebt 35 rfl) ?_
    refine am_aload_n (j := 3) (am_dk tk_X3_readDebt 36 rfl) rfl rfl ?_
    refine ly_getr (b := (15 - tw)) rfl fl_X3_25 rfl rfl (am_dk tk_X3_readDebt 37 rfl) ?_
    refine ly_geti (lyT_s (lyT_o htw)) fl_X3_123 rfl (am_dk tk_X3_readDebt 38 rfl) ?_
    refine am_iload_n (j := 2) (am_dk tk_X3_readDebt 39 rfl) rfl rfl ?_
    obtain ⟨hi75, h⟩ := am_chk h
    refine ly_iast (k := (q48.2 (15 - tw) 5).toNatClampNeg) (lyT_a8 (lyT_o htw)) (am_in_vp hi75) rfl (am_dk tk_X3_readDebt 40 rfl) ?_
    refine am_aload_n (j := 3) (am_dk tk_X3_readDebt 41 rfl) rfl rfl ?_
    refine ly_getr (b := (15 - tw)) rfl fl_X3_25 rfl rfl (am_dk tk_X3_readDebt 42 rfl) ?_
    refine ly_getr (b := ((15 - tw) + 3)) (lyT_s (lyT_o htw)) fl_X3_129 rfl (lyT_r9 (lyT_o htw)) (am_dk tk_X3_readDebt 43 rfl) ?_
    refine am_aload_n (j := 3) (am_dk tk_X3_readDebt 44 rfl) rfl rfl ?_
    refine ly_getr (b := (15 - tw)) rfl fl_X3_25 rfl rfl (am_dk tk_X3_readDebt 45 rfl) ?_
    refine ly_geti (lyT_s (lyT_o htw)) fl_X3_123 rfl (am_dk tk_X3_readDebt 46 rfl) ?_
    refine am_iload_n (j := 1) (am_dk tk_X3_readDebt 47 rfl) rfl rfl ?_
    obtain ⟨hi91, h⟩ := am_chk h
    refine ly_iast (k := ((am_up q48.2 ((15 - tw) + 2) (q48.2 (15 - tw) 5).toNatClampNeg q32.1) (15 - tw) 5).toNatClampNeg) (lyT_a9 (lyT_o htw)) (am_in_vp hi91) rfl (am_dk tk_X3_readDebt 48 rfl) ?_
    refine am_aload_n (j := 3) (am_dk tk_X3_readDebt 49 rfl) rfl rfl ?_
    refine ly_getr (b := (15 - tw)) rfl fl_X3_25 rfl rfl (am_dk tk_X3_readDebt 50 rfl) ?_
    refine ly_getr (b := ((15 - tw) + 4)) (lyT_s (lyT_o htw)) fl_X3_132 rfl (lyT_r10 (lyT_o htw)) (am_dk tk_X3_readDebt 51 rfl) ?_
    refine am_aload_n (j := 3) (am_dk tk_X3_readDebt 52 rfl) rfl rfl ?_
    refine ly_getr (b := (15 - tw)) rfl fl_X3_25 rfl rfl (am_dk tk_X3_readDebt 53 rfl) ?_
    refine ly_geti (lyT_s (lyT_o htw)) fl_X3_123 rfl (am_dk tk_X3_readDebt 54 rfl) ?_
    refine am_iload_n (j := 0) (am_dk tk_X3_readDebt 55 rfl) rfl rfl ?_
    obtain ⟨hi107, h⟩ := am_chk h
    refine ly_iast (k := ((am_up (am_up q48.2 ((15 - tw) + 2) (q48.2 (15 - tw) 5).toNatClampNeg q32.1) ((15 - tw) + 3) ((am_up q48.2 ((15 - tw) + 2) (q48.2 (15 - tw) 5).toNatClampNeg q32.1) (15 - tw) 5).toNatClampNeg q40.1) (15 - tw) 5).toNatClampNeg) (lyT_a10 (lyT_o htw)) (am_in_vp hi107) rfl (am_dk tk_X3_readDebt 56 rfl) ?_
    refine am_ls [3] rfl ?_
    exact bx_X3_readDebt_108 htw hΦ _ h
  · rw [if_pos hc56] at h
    exact am_vret rfl (am_r0 h hΦ) ⟨Nat.le_of_ble_eq_true rfl, Nat.le_of_ble_eq_true rfl⟩ (am_dk tk_X3_readDebt 32 rfl)
theorem ct_X3_readDebt {l : Launch} {tw : Nat} {tp : Bool} (htw : lyT tw) {D D' : am_M} (h : f_X3_readDebt tw D = some D') : am_CT l m_X3_readDebt false [.ref 12] (ly tw tp D) (am_is none (ly tw tp D')) := by
  have hΦ : am_is none (ly tw tp D') none (ly tw tp D') := ⟨rfl, rfl⟩
  refine am_CT.of (by decide) (Nat.le_of_ble_eq_true rfl) ?_
  show am_Ex _ _ _ 0 [(0, .ref 12)] [] _
  rw [f_X3_readDebt] at h
  refine am_aload_n (j := 0) (am_dk tk_X3_readDebt 0 rfl) rfl rfl ?_
  refine am_aload_n (j := 0) (am_dk tk_X3_readDebt 1 rfl) rfl rfl ?_
  refine ly_getr (b := (15 - tw)) rfl fl_X3_25 rfl rfl (am_dk tk_X3_readDebt 2 rfl) ?_
  refine ly_geti (lyT_s (lyT_o htw)) fl_X3_123 rfl (am_dk tk_X3_readDebt 3 rfl) ?_
  refine am_bipush (v := 8) (am_dk tk_X3_readDebt 4 rfl) (by decide) ?_
  refine am_icmp_lt (tgt := 17) (am_dk tk_X3_readDebt 5 rfl) (by decide) (fun hc10 => ?_) (fun hc10 => ?_)
  · simp only [if_pos hc10] at h
    refine am_iconst (v := 0) (am_dk tk_X3_readDebt 8 rfl) (by decide) ?_
    exact bx_X3_readDebt_18 htw hΦ _ _ h
  · simp only [if_neg hc10] at h
    refine am_iconst (v := 1) (am_dk tk_X3_readDebt 6 rfl) (by decide) ?_
    refine am_goto (tgt := 18) (am_dk tk_X3_readDebt 7 rfl) (by decide) ?_
    exact bx_X3_readDebt_18 htw hΦ _ _ h
abbrev m_X3_readYawn : am_D := (yX3_readYawn, prog_5_method_15_code, 3, none, { frames := 3, cells := 0, slots := 0, locals := 65 })
theorem ld_X3_readYawn : am_LD m_X3_readYawn 0 := ⟨(am_tb 82 (by decide +kernel) (by decide +kernel)), (am_tb 476 (by decide +kernel) (by decide +kernel)), by decide, by decide, by decide +kernel⟩
def tb_X3_readYawn : List (Nat × Instr × Nat) := [(0, .aload_n 0, 1), (1, .iconst 0, 1), (2, .invokevirtual 78, 3), (5, .aload_n 0, 1), (6, .iconst 0, 1), (7, .aload_n 0, 1), (8, .getfield 25, 3), (11, .getfield 92, 3), (14, .iconst 1, 1), (15, .isub, 1), (16, .invokevirtual 82, 3), (19, .istore_n 1, 1), (20, .aload_n 0, 1), (21, .invokevirtual 41, 3), (24, .ifCond .eq 26, 3), (27, .aload_n 0, 1), (28, .getfield 25, 3), (31, .getfield 135, 3), (34, .iload_n 1, 1), (35, .invokestatic 138, 3), (38, .ifCond .eq 12, 3), (41, .aload_n 0, 1), (42, .iconst 4, 1), (43, .aload_n 0, 1), (44, .getfield 19, 3), (47, .invokevirtual 55, 3), (50, .aload_n 0, 1), (51, .iconst 1, 1), (52, .bipush 20, 2), (54, .invokevirtual 82, 3), (57, .istore_n 2, 1), (58, .aload_n 0, 1), (59, .invokevirtual 41, 3), (62, .ifCond .ne 4, 3), (65, .return_, 1), (66, .aload_n 0, 1), (67, .getfield 25, 3), (70, .getfield 142, 3), (73, .iload_n 1, 1), (74, .iload_n 2, 1), (75, .iastore, 1), (76, .aload_n 0, 1), (77, .getfield 25, 3), (80, .dup, 1), (81, .getfield 135, 3), (84, .iconst 1, 1), (85, .iload_n 1, 1), (86, .ishl, 1), (87, .ior, 1), (88, .putfield 135, 3), (91, .return_, 1)]
theorem tk_X3_readYawn : am_tbl prog_5_method_15_code tb_X3_readYawn = true := by decide +kernel
def b_X3_readYawn_50 (tw : Nat) (x1 : Int32) (D : am_M) : Option am_M := (f_X3_readNumber tw 1 20 D).bind fun q54 => if (f_X3_isGood tw q54.2) = 0 then some q54.2 else if am_in x1 5 = true then some (am_up (am_up q54.2 ((15 - tw) + 5) x1.toNatClampNeg q54.1) (15 - tw) 6 (((am_up q54.2 ((15 - tw) + 5) x1.toNatClampNeg q54.1) (15 - tw) 6) ||| (1 <<< (x1 &&& 31)))) else none
def f_X3_readYawn (tw : Nat) (D : am_M) : Option am_M := (f_X3_stepOverWord tw 0 D).bind fun q2 => (f_X3_readNumber tw 0 ((q2 (15 - tw) 3) - 1) q2).bind fun q16 => if (f_X3_isGood tw q16.2) = 0 then b_X3_readYawn_50 tw q16.1 q16.2 else if (f_X5_isIn (q16.2 (15 - tw) 6) q16.1) = 0 then b_X3_readYawn_50 tw q16.1 q16.2 else (f_X3_fail tw 4 (q16.2 12 2) q16.2).bind fun q47 => b_X3_readYawn_50 tw q16.1 q47
theorem bx_X3_readYawn_50 {l : Launch} {h0 : am_H} {Φ : am_Ph} {tw : Nat} {tp : Bool} (htw : lyT tw) {D' : am_M} (hΦ : Φ none (ly tw tp D')) : ∀ (x1 : Int32) (D : am_M), b_X3_readYawn_50 tw x1 D = some D' → am_Ex (am_E l m_X3_readYawn false h0 Φ) prog_5_method_15_code (0, 0) 50 [(0, .ref 12), (1, .int x1)] [] (ly tw tp D) := by
  intro x1 D h
  rw [b_X3_readYawn_50] at h
  refine am_aload_n (j := 0) (am_dk tk_X3_readYawn 26 rfl) rfl rfl ?_
  refine am_iconst (v := 1) (am_dk tk_X3_readYawn 27 rfl) (by decide) ?_
  refine am_bipush (v := 20) (am_dk tk_X3_readYawn 28 rfl) (by decide) ?_
  obtain ⟨q54, hq54, h⟩ := am_bind h
  refine ly_cV (M := m_X3_readNumber) (As := [.int 1, .int 20]) (b := 12) (st := []) (ct_X3_readNumber htw hq54) rfl (by decide) rfl ml_X3_82 ld_X3_readNumber rfl ⟨Nat.le_of_ble_eq_true rfl, Nat.le_of_ble_eq_true rfl⟩ (Nat.le_of_ble_eq_true rfl) ⟨rfl, rfl⟩ ⟨Nat.le_of_ble_eq_true rfl, Nat.le_of_ble_eq_true rfl⟩ (am_dk tk_X3_readYawn 29 rfl) (am_kki ?_)
  refine am_istore_n (L' := [(2, .int q54.1), (0, .ref 12), (1, .int x1)]) (am_dk tk_X3_readYawn 30 rfl) rfl (Nat.le_of_ble_eq_true rfl) rfl ?_
  refine am_aload_n (j := 1) (am_dk tk_X3_readYawn 31 rfl) rfl rfl ?_
  refine ly_cV (M := m_X3_isGood) (As := []) (b := 12) (st := []) (ct_X3_isGood htw  _) rfl (by decide) rfl ml_X3_41 ld_X3_isGood rfl ⟨Nat.le_of_ble_eq_true rfl, Nat.le_of_ble_eq_true rfl⟩ (Nat.le_of_ble_eq_true rfl) ⟨rfl, rfl⟩ ⟨Nat.le_of_ble_eq_true rfl, Nat.le_of_ble_eq_true rfl⟩ (am_dk tk_X3_readYawn 32 rfl) (am_kki ?_)
  refine am_if_ne (tgt := 66) (am_dk tk_X3_readYawn 33 rfl) (by decide) (fun hc62 => ?_) (fun hc62 => ?_)
  · rw [if_neg hc62] at h
    refine am_aload_n (j := 1) (am_dk tk_X3_readYawn 35 rfl) rfl rfl ?_
    refine ly_getr (b := (15 - tw)) rfl fl_X3_25 rfl rfl (am_dk tk_X3_readYawn 36 rfl) ?_
    refine ly_getr (b := ((15 - tw) + 5)) (lyT_s (lyT_o htw)) fl_X3_142 rfl (lyT_r11 (lyT_o htw)) (am_dk tk_X3_readYawn 37 rfl) ?_
    refine am_iload_n (j := 2) (am_dk tk_X3_readYawn 38 rfl) rfl rfl ?_
    refine am_iload_n (j := 0) (am_dk tk_X3_readYawn 39 rfl) rfl rfl ?_
    obtain ⟨hi75, h⟩ := am_chk h
    refine ly_iast (k := x1.toNatClampNeg) (lyT_a11 (lyT_o htw)) (am_in_vp hi75) rfl (am_dk tk_X3_readYawn 40 rfl) ?_
    refine am_aload_n (j := 1) (am_dk tk_X3_readYawn 41 rfl) rfl rfl ?_
    refine ly_getr (b := (15 - tw)) rfl fl_X3_25 rfl rfl (am_dk tk_X3_readYawn 42 rfl) ?_
    refine am_dup (am_dk tk_X3_readYawn 43 rfl) rfl ?_
    refine ly_geti (lyT_s (lyT_o htw)) fl_X3_135 rfl (am_dk tk_X3_readYawn 44 rfl) ?_
    refine am_iconst (v := 1) (am_dk tk_X3_readYawn 45 rfl) (by decide) ?_
    refine am_iload_n (j := 2) (am_dk tk_X3_readYawn 46 rfl) rfl rfl ?_
    refine am_ishl (am_dk tk_X3_readYawn 47 rfl) ?_
    refine am_ior (am_dk tk_X3_readYawn 48 rfl) ?_
    refine ly_puti (lyT_s (lyT_o htw)) fl_X3_135 rfl rfl (am_dk tk_X3_readYawn 49 rfl) ?_
    exact am_vret rfl (am_r0 h hΦ) ⟨Nat.le_of_ble_eq_true rfl, Nat.le_of_ble_eq_true rfl⟩ (am_dk tk_X3_readYawn 50 rfl)
  · rw [if_pos hc62] at h
    exact am_vret rfl (am_r0 h hΦ) ⟨Nat.le_of_ble_eq_true rfl, Nat.le_of_ble_eq_true rfl⟩ (am_dk tk_X3_readYawn 34 rfl)
theorem ct_X3_readYawn {l : Launch} {tw : Nat} {tp : Bool} (htw : lyT tw) {D D' : am_M} (h : f_X3_readYawn tw D = some D') : am_CT l m_X3_readYawn false [.ref 12] (ly tw tp D) (am_is none (ly tw tp D')) := by
  have hΦ : am_is none (ly tw tp D') none (ly tw tp D') := ⟨rfl, rfl⟩
  refine am_CT.of (by decide) (Nat.le_of_ble_eq_true rfl) ?_
  show am_Ex _ _ _ 0 [(0, .ref 12)] [] _
  rw [f_X3_readYawn] at h
  refine am_aload_n (j := 0) (am_dk tk_X3_readYawn 0 rfl) rfl rfl ?_
  refine am_iconst (v := 0) (am_dk tk_X3_readYawn 1 rfl) (by decide) ?_
  obtain ⟨q2, hq2, h⟩ := am_bind h
  refine ly_cV (M := m_X3_stepOverWord) (As := [.int 0]) (b := 12) (st := []) (ct_X3_stepOverWord htw hq2) rfl (by decide) rfl ml_X3_78 ld_X3_stepOverWord rfl ⟨Nat.le_of_ble_eq_true rfl, Nat.le_of_ble_eq_true rfl⟩ (Nat.le_of_ble_eq_true rfl) ⟨rfl, rfl⟩ ⟨Nat.le_of_ble_eq_true rfl, Nat.le_of_ble_eq_true rfl⟩ (am_dk tk_X3_readYawn 2 rfl) (am_kkv ?_)
  refine am_aload_n (j := 0) (am_dk tk_X3_readYawn 3 rfl) rfl rfl ?_
  refine am_iconst (v := 0) (am_dk tk_X3_readYawn 4 rfl) (by decide) ?_
  refine am_aload_n (j := 0) (am_dk tk_X3_readYawn 5 rfl) rfl rfl ?_
  refine ly_getr (b := (15 - tw)) rfl fl_X3_25 rfl rfl (am_dk tk_X3_readYawn 6 rfl) ?_
  refine ly_geti (lyT_s (lyT_o htw)) fl_X3_92 rfl (am_dk tk_X3_readYawn 7 rfl) ?_
  refine am_iconst (v := 1) (am_dk tk_X3_readYawn 8 rfl) (by decide) ?_
  refine am_isub (am_dk tk_X3_readYawn 9 rfl) ?_
  obtain ⟨q16, hq16, h⟩ := am_bind h
  refine ly_cV (M := m_X3_readNumber) (As := [.int 0, .int ((q2 (15 - tw) 3) - 1)]) (b := 12) (st := []) (ct_X3_readNumber htw hq16) rfl (by decide) rfl ml_X3_82 ld_X3_readNumber rfl ⟨Nat.le_of_ble_eq_true rfl, Nat.le_of_ble_eq_true rfl⟩ (Nat.le_of_ble_eq_true rfl) ⟨rfl, rfl⟩ ⟨Nat.le_of_ble_eq_true rfl, Nat.le_of_ble_eq_true rfl⟩ (am_dk tk_X3_readYawn 10 rfl) (am_kki ?_)
  refine am_istore_n (L' := [(1, .int q16.1), (0, .ref 12)]) (am_dk tk_X3_readYawn 11 rfl) rfl (Nat.le_of_ble_eq_true rfl) rfl ?_
  refine am_aload_n (j := 1) (am_dk tk_X3_readYawn 12 rfl) rfl rfl ?_
  refine ly_cV (M := m_X3_isGood) (As := []) (b := 12) (st := []) (ct_X3_isGood htw  _) rfl (by decide) rfl ml_X3_41 ld_X3_isGood rfl ⟨Nat.le_of_ble_eq_true rfl, Nat.le_of_ble_eq_true rfl⟩ (Nat.le_of_ble_eq_true rfl) ⟨rfl, rfl⟩ ⟨Nat.le_of_ble_eq_true rfl, Nat.le_of_ble_eq_true rfl⟩ (am_dk tk_X3_readYawn 13 rfl) (am_kki ?_)
  refine am_if_eq (tgt := 50) (am_dk tk_X3_readYawn 14 rfl) (by decide) (fun hc24 => ?_) (fun hc24 => ?_)
  · rw [if_pos hc24] at h
    refine am_ls [1, 0] rfl ?_
    exact bx_X3_readYawn_50 htw hΦ _ _ h
  · rw [if_neg hc24] at h
    refine am_aload_n (j := 1) (am_dk tk_X3_readYawn 15 rfl) rfl rfl ?_
    refine ly_getr (b := (15 - tw)) rfl fl_X3_25 rfl rfl (am_dk tk_X3_readYawn 16 rfl) ?_
    refine ly_geti (lyT_s (lyT_o htw)) fl_X3_135 rfl (am_dk tk_X3_readYawn 17 rfl) ?_
    refine am_iload_n (j := 0) (am_dk tk_X3_readYawn 18 rfl) rfl rfl ?_
    refine am_cSN (M := m_X5_isIn) (As := [.int (q16.2 (15 - tw) 6), .int q16.1]) (st := []) (ct_X5_isIn _ _ _) ml_X3_138 ld_X5_isIn rfl ⟨Nat.le_of_ble_eq_true rfl, Nat.le_of_ble_eq_true rfl⟩ (Nat.le_of_ble_eq_true rfl) ⟨rfl, rfl⟩ ⟨Nat.le_of_ble_eq_true rfl, Nat.le_of_ble_eq_true rfl⟩ (am_dk tk_X3_readYawn 19 rfl) (am_kki ?_)
    refine am_if_eq (tgt := 50) (am_dk tk_X3_readYawn 20 rfl) (by decide) (fun hc38 => ?_) (fun hc38 => ?_)
    · rw [if_pos hc38] at h
      refine am_ls [1, 0] rfl ?_
      exact bx_X3_readYawn_50 htw hΦ _ _ h
    · rw [if_neg hc38] at h
      refine am_aload_n (j := 1) (am_dk tk_X3_readYawn 21 rfl) rfl rfl ?_
      refine am_iconst (v := 4) (am_dk tk_X3_readYawn 22 rfl) (by decide) ?_
      refine am_aload_n (j := 1) (am_dk tk_X3_readYawn 23 rfl) rfl rfl ?_
      refine ly_geti rfl fl_X3_19 rfl (am_dk tk_X3_readYawn 24 rfl) ?_
      obtain ⟨q47, hq47, h⟩ := am_bind h
      refine ly_cV (M := m_X3_fail) (As := [.int 4, .int (q16.2 12 2)]) (b := 12) (st := []) (ct_X3_fail htw hq47) rfl (by decide) rfl ml_X3_55 ld_X3_fail rfl ⟨Nat.le_of_ble_eq_true rfl, Nat.le_of_ble_eq_true rfl⟩ (Nat.le_of_ble_eq_true rfl) ⟨rfl, rfl⟩ ⟨Nat.le_of_ble_eq_true rfl, Nat.le_of_ble_eq_true rfl⟩ (am_dk tk_X3_readYawn 25 rfl) (am_kkv ?_)
      refine am_ls [1, 0] rfl ?_
      exact bx_X3_readYawn_50 htw hΦ _ _ h
abbrev m_X3_readClause : am_D := (yX3_readClause, prog_5_method_7_code, 2, none, { frames := 4, cells := 0, slots := 0, locals := 89 })
theorem ld_X3_readClause : am_LD m_X3_readClause 0 := ⟨(am_tb 82 (by decide +kernel) (by decide +kernel)), (am_tb 432 (by decide +kernel) (by decide +kernel)), by decide, by decide, by decide +kernel⟩
def tb_X3_readClause : List (Nat × Instr × Nat) := [(0, .aload_n 0, 1), (1, .invokevirtual 45, 3), (4, .istore_n 1, 1), (5, .aload_n 0, 1), (6, .getfield 25, 3), (9, .getfield 52, 3), (12, .ifCond .ne 19, 3), (15, .iload_n 1, 1), (16, .bipush 109, 2), (18, .if_icmp .eq 13, 3), (21, .aload_n 0, 1), (22, .iconst 1, 1), (23, .aload_n 0, 1), (24, .getfield 15, 3), (27, .invokevirtual 55, 3), (30, .return_, 1), (31, .iload_n 1, 1), (32, .lookupswitch 87 #[(99, 66), (100, 73), (109, 52), (112, 59), (117, 80)], 52), (84, .aload_n 0, 1), (85, .invokevirtual 59, 3), (88, .goto 40, 3), (91, .aload_n 0, 1), (92, .invokevirtual 62, 3), (95, .goto 33, 3), (98, .aload_n 0, 1), (99, .invokevirtual 65, 3), (102, .goto 26, 3), (105, .aload_n 0, 1), (106, .invokevirtual 68, 3), (109, .goto 19, 3), (112, .aload_n 0, 1), (113, .invokevirtual 71, 3), (116, .goto 12, 3), (119, .aload_n 0, 1), (120, .iconst 1, 1), (121, .aload_n 0, 1), (122, .getfield 15, 3), (125, .invokevirtual 55, 3), (128, .aload_n 0, 1), (129, .invokevirtual 41, 3), (132, .ifCond .eq 9, 3), (135, .aload_n 0, 1), (136, .bipush 59, 2), (138, .invokevirtual 74, 3), (141, .return_, 1)]
theorem tk_X3_readClause : am_tbl prog_5_method_7_code tb_X3_readClause = true := by decide +kernel
def b_X3_readClause_128 (tw : Nat) (D : am_M) : Option am_M := if (f_X3_isGood tw D) = 0 then some D else (f_X3_expect tw 59 D).bind fun q138 => some q138
def b_X3_readClause_31 (tw : Nat) (x1 : Int32) (D : am_M) : Option am_M := if x1 = 99 then (f_X3_readCoin tw D).bind fun q99 => b_X3_readClause_128 tw q99 else if x1 = 100 then (f_X3_readDebt tw D).bind fun q106 => b_X3_readClause_128 tw q106 else if x1 = 109 then (f_X3_readBeds tw D).bind fun q85 => b_X3_readClause_128 tw q85 else if x1 = 112 then (f_X3_readPerson tw D).bind fun q92 => b_X3_readClause_128 tw q92 else if x1 = 117 then (f_X3_readYawn tw D).bind fun q113 => b_X3_readClause_128 tw q113 else (f_X3_fail tw 1 (D 12 1) D).bind fun q125 => b_X3_readClause_128 tw q125
def f_X3_readClause (tw : Nat) (D : am_M) : Option am_M := (f_X3_peek tw D).bind fun q1 => if (q1.2 (15 - tw) 0) = 0 then if q1.1 = 109 then b_X3_readClause_31 tw q1.1 q1.2 else (f_X3_fail tw 1 (q1.2 12 1) q1.2).bind fun q27 => some q27 else b_X3_readClause_31 tw q1.1 q1.2
theorem bx_X3_readClause_128 {l : Launch} {h0 : am_H} {Φ : am_Ph} {tw : Nat} {tp : Bool} (htw : lyT tw) {D' : am_M} (hΦ : Φ none (ly tw tp D')) : ∀ (D : am_M), b_X3_readClause_128 tw D = some D' → am_Ex (am_E l m_X3_readClause false h0 Φ) prog_5_method_7_code (0, 0) 128 [(0, .ref 12)] [] (ly tw tp D) := by
  intro  D h
  rw [b_X3_readClause_128] at h
  refine am_aload_n (j := 0) (am_dk tk_X3_readClause 38 rfl) rfl rfl ?_
  refine ly_cV (M := m_X3_isGood) (As := []) (b := 12) (st := []) (ct_X3_isGood htw  _) rfl (by decide) rfl ml_X3_41 ld_X3_isGood rfl ⟨Nat.le_of_ble_eq_true rfl, Nat.le_of_ble_eq_true rfl⟩ (Nat.le_of_ble_eq_true rfl) ⟨rfl, rfl⟩ ⟨Nat.le_of_ble_eq_true rfl, Nat.le_of_ble_eq_true rfl⟩ (am_dk tk_X3_readClause 39 rfl) (am_kki ?_)
  refine am_if_eq (tgt := 141) (am_dk tk_X3_readClause 40 rfl) (by decide) (fun hc132 => ?_) (fun hc132 => ?_)
  · rw [if_pos hc132] at h
    exact am_vret rfl (am_r0 h hΦ) ⟨Nat.le_of_ble_eq_true rfl, Nat.le_of_ble_eq_true rfl⟩ (am_dk tk_X3_readClause 44 rfl)
  · rw [if_neg hc132] at h
    refine am_aload_n (j := 0) (am_dk tk_X3_readClause 41 rfl) rfl rfl ?_
    refine am_bipush (v := 59) (am_dk tk_X3_readClause 42 rfl) (by decide) ?_
    obtain ⟨q138, hq138, h⟩ := am_bind h
    refine ly_cV (M := m_X3_expect) (As := [.int 59]) (b := 12) (st := []) (ct_X3_expect htw hq138) rfl (by decide) rfl ml_X3_74 ld_X3_expect rfl ⟨Nat.le_of_ble_eq_true rfl, Nat.le_of_ble_eq_true rfl⟩ (Nat.le_of_ble_eq_true rfl) ⟨rfl, rfl⟩ ⟨Nat.le_of_ble_eq_true rfl, Nat.le_of_ble_eq_true rfl⟩ (am_dk tk_X3_readClause 43 rfl) (am_kkv ?_)
    exact am_vret rfl (am_r0 h hΦ) ⟨Nat.le_of_ble_eq_true rfl, Nat.le_of_ble_eq_true rfl⟩ (am_dk tk_X3_readClause 44 rfl)
theorem bx_X3_readClause_31 {l : Launch} {h0 : am_H} {Φ : am_Ph} {tw : Nat} {tp : Bool} (htw : lyT tw) {D' : am_M} (hΦ : Φ none (ly tw tp D')) : ∀ (x1 : Int32) (D : am_M), b_X3_readClause_31 tw x1 D = some D' → am_Ex (am_E l m_X3_readClause false h0 Φ) prog_5_method_7_code (0, 0) 31 [(0, .ref 12), (1, .int x1)] [] (ly tw tp D) := by
  intro x1 D h
  rw [b_X3_readClause_31] at h
  refine am_iload_n (j := 1) (am_dk tk_X3_readClause 16 rfl) rfl rfl ?_
  by_cases hs32_99 : x1 = 99
  · rw [if_pos hs32_99] at h
    refine am_lookup (off := 66) (tgt := 98) (am_dk tk_X3_readClause 17 rfl) (by decide) (by rw [hs32_99]; decide) (by decide) ?_
    refine am_aload_n (j := 0) (am_dk tk_X3_readClause 24 rfl) rfl rfl ?_
    obtain ⟨q99, hq99, h⟩ := am_bind h
    refine ly_cV (M := m_X3_readCoin) (As := []) (b := 12) (st := []) (ct_X3_readCoin htw hq99) rfl (by decide) rfl ml_X3_65 ld_X3_readCoin rfl ⟨Nat.le_of_ble_eq_true rfl, Nat.le_of_ble_eq_true rfl⟩ (Nat.le_of_ble_eq_true rfl) ⟨rfl, rfl⟩ ⟨Nat.le_of_ble_eq_true rfl, Nat.le_of_ble_eq_true rfl⟩ (am_dk tk_X3_readClause 25 rfl) (am_kkv ?_)
    refine am_goto (tgt := 128) (am_dk tk_X3_readClause 26 rfl) (by decide) ?_
    refine am_ls [0] rfl ?_
    exact bx_X3_readClause_128 htw hΦ _ h
  rw [if_neg hs32_99] at h
  by_cases hs32_100 : x1 = 100
  · rw [if_pos hs32_100] at h
    refine am_lookup (off := 73) (tgt := 105) (am_dk tk_X3_readClause 17 rfl) (by decide) (by rw [hs32_100]; decide) (by decide) ?_
    refine am_aload_n (j := 0) (am_dk tk_X3_readClause 27 rfl) rfl rfl ?_
    obtain ⟨q106, hq106, h⟩ := am_bind h
    refine ly_cV (M := m_X3_readDebt) (As := []) (b := 12) (st := []) (ct_X3_readDebt htw hq106) rfl (by decide) rfl ml_X3_68 ld_X3_readDebt rfl ⟨Nat.le_of_ble_eq_true rfl, Nat.le_of_ble_eq_true rfl⟩ (Nat.le_of_ble_eq_true rfl) ⟨rfl, rfl⟩ ⟨Nat.le_of_ble_eq_true rfl, Nat.le_of_ble_eq_true rfl⟩ (am_dk tk_X3_readClause 28 rfl) (am_kkv ?_)
    refine am_goto (tgt := 128) (am_dk tk_X3_readClause 29 rfl) (by decide) ?_
    refine am_ls [0] rfl ?_
    exact bx_X3_readClause_128 htw hΦ _ h
  rw [if_neg hs32_100] at h
  by_cases hs32_109 : x1 = 109
  · rw [if_pos hs32_109] at h
    refine am_lookup (off := 52) (tgt := 84) (am_dk tk_X3_readClause 17 rfl) (by decide) (by rw [hs32_109]; decide) (by decide) ?_
    refine am_aload_n (j := 0) (am_dk tk_X3_readClause 18 rfl) rfl rfl ?_
    obtain ⟨q85, hq85, h⟩ := am_bind h
    refine ly_cV (M := m_X3_readBeds) (As := []) (b := 12) (st := []) (ct_X3_readBeds htw hq85) rfl (by decide) rfl ml_X3_59 ld_X3_readBeds rfl ⟨Nat.le_of_ble_eq_true rfl, Nat.le_of_ble_eq_true rfl⟩ (Nat.le_of_ble_eq_true rfl) ⟨rfl, rfl⟩ ⟨Nat.le_of_ble_eq_true rfl, Nat.le_of_ble_eq_true rfl⟩ (am_dk tk_X3_readClause 19 rfl) (am_kkv ?_)
    refine am_goto (tgt := 128) (am_dk tk_X3_readClause 20 rfl) (by decide) ?_
    refine am_ls [0] rfl ?_
    exact bx_X3_readClause_128 htw hΦ _ h
  rw [if_neg hs32_109] at h
  by_cases hs32_112 : x1 = 112
  · rw [if_pos hs32_112] at h
    refine am_lookup (off := 59) (tgt := 91) (am_dk tk_X3_readClause 17 rfl) (by decide) (by rw [hs32_112]; decide) (by decide) ?_
    refine am_aload_n (j := 0) (am_dk tk_X3_readClause 21 rfl) rfl rfl ?_
    obtain ⟨q92, hq92, h⟩ := am_bind h
    refine ly_cV (M := m_X3_readPerson) (As := []) (b := 12) (st := []) (ct_X3_readPerson htw hq92) rfl (by decide) rfl ml_X3_62 ld_X3_readPerson rfl ⟨Nat.le_of_ble_eq_true rfl, Nat.le_of_ble_eq_true rfl⟩ (Nat.le_of_ble_eq_true rfl) ⟨rfl, rfl⟩ ⟨Nat.le_of_ble_eq_true rfl, Nat.le_of_ble_eq_true rfl⟩ (am_dk tk_X3_readClause 22 rfl) (am_kkv ?_)
    refine am_goto (tgt := 128) (am_dk tk_X3_readClause 23 rfl) (by decide) ?_
    refine am_ls [0] rfl ?_
    exact bx_X3_readClause_128 htw hΦ _ h
  rw [if_neg hs32_112] at h
  by_cases hs32_117 : x1 = 117
  · rw [if_pos hs32_117] at h
    refine am_lookup (off := 80) (tgt := 112) (am_dk tk_X3_readClause 17 rfl) (by decide) (by rw [hs32_117]; decide) (by decide) ?_
    refine am_aload_n (j := 0) (am_dk tk_X3_readClause 30 rfl) rfl rfl ?_
    obtain ⟨q113, hq113, h⟩ := am_bind h
    refine ly_cV (M := m_X3_readYawn) (As := []) (b := 12) (st := []) (ct_X3_readYawn htw hq113) rfl (by decide) rfl ml_X3_71 ld_X3_readYawn rfl ⟨Nat.le_of_ble_eq_true rfl, Nat.le_of_ble_eq_true rfl⟩ (Nat.le_of_ble_eq_true rfl) ⟨rfl, rfl⟩ ⟨Nat.le_of_ble_eq_true rfl, Nat.le_of_ble_eq_true rfl⟩ (am_dk tk_X3_readClause 31 rfl) (am_kkv ?_)
    refine am_goto (tgt := 128) (am_dk tk_X3_readClause 32 rfl) (by decide) ?_
    refine am_ls [0] rfl ?_
    exact bx_X3_readClause_128 htw hΦ _ h
  rw [if_neg hs32_117] at h
  refine am_lookup (off := 87) (tgt := 119) (am_dk tk_X3_readClause 17 rfl) (by decide) (by show Op.lookupswitch.offset [(99, 66), (100, 73), (109, 52), (112, 59), (117, 80)] 87 _ = _; rw [lv_osw (a := 99) hs32_99 rfl, lv_osw (a := 100) hs32_100 rfl, lv_osw (a := 109) hs32_109 rfl, lv_osw (a := 112) hs32_112 rfl, lv_osw (a := 117) hs32_117 rfl]; rfl) (by decide) ?_
  refine am_aload_n (j := 0) (am_dk tk_X3_readClause 33 rfl) rfl rfl ?_
  refine am_iconst (v := 1) (am_dk tk_X3_readClause 34 rfl) (by decide) ?_
  refine am_aload_n (j := 0) (am_dk tk_X3_readClause 35 rfl) rfl rfl ?_
  refine ly_geti rfl fl_X3_15 rfl (am_dk tk_X3_readClause 36 rfl) ?_
  obtain ⟨q125, hq125, h⟩ := am_bind h
  refine ly_cV (M := m_X3_fail) (As := [.int 1, .int (D 12 1)]) (b := 12) (st := []) (ct_X3_fail htw hq125) rfl (by decide) rfl ml_X3_55 ld_X3_fail rfl ⟨Nat.le_of_ble_eq_true rfl, Nat.le_of_ble_eq_true rfl⟩ (Nat.le_of_ble_eq_true rfl) ⟨rfl, rfl⟩ ⟨Nat.le_of_ble_eq_true rfl, Nat.le_of_ble_eq_true rfl⟩ (am_dk tk_X3_readClause 37 rfl) (am_kkv ?_)
  refine am_ls [0] rfl ?_
  exact bx_X3_readClause_128 htw hΦ _ h
theorem ct_X3_readClause {l : Launch} {tw : Nat} {tp : Bool} (htw : lyT tw) {D D' : am_M} (h : f_X3_readClause tw D = some D') : am_CT l m_X3_readClause false [.ref 12] (ly tw tp D) (am_is none (ly tw tp D')) := by
  have hΦ : am_is none (ly tw tp D') none (ly tw tp D') := ⟨rfl, rfl⟩
  refine am_CT.of (by decide) (Nat.le_of_ble_eq_true rfl) ?_
  show am_Ex _ _ _ 0 [(0, .ref 12)] [] _
  rw [f_X3_readClause] at h
  refine am_aload_n (j := 0) (am_dk tk_X3_readClause 0 rfl) rfl rfl ?_
  obtain ⟨q1, hq1, h⟩ := am_bind h
  refine ly_cV (M := m_X3_peek) (As := []) (b := 12) (st := []) (ct_X3_peek htw hq1) rfl (by decide) rfl ml_X3_45 ld_X3_peek rfl ⟨Nat.le_of_ble_eq_true rfl, Nat.le_of_ble_eq_true rfl⟩ (Nat.le_of_ble_eq_true rfl) ⟨rfl, rfl⟩ ⟨Nat.le_of_ble_eq_true rfl, Nat.le_of_ble_eq_true rfl⟩ (am_dk tk_X3_readClause 1 rfl) (am_kki ?_)
  refine am_istore_n (L' := [(1, .int q1.1), (0, .ref 12)]) (am_dk tk_X3_readClause 2 rfl) rfl (Nat.le_of_ble_eq_true rfl) rfl ?_
  refine am_aload_n (j := 1) (am_dk tk_X3_readClause 3 rfl) rfl rfl ?_
  refine ly_getr (b := (15 - tw)) rfl fl_X3_25 rfl rfl (am_dk tk_X3_readClause 4 rfl) ?_
  refine ly_geti (lyT_s (lyT_o htw)) fl_X3_52 rfl (am_dk tk_X3_readClause 5 rfl) ?_
  refine am_if_ne (tgt := 31) (am_dk tk_X3_readClause 6 rfl) (by decide) (fun hc12 => ?_) (fun hc12 => ?_)
  · rw [if_neg hc12] at h
    refine am_ls [1, 0] rfl ?_
    exact bx_X3_readClause_31 htw hΦ _ _ h
  · rw [if_pos hc12] at h
    refine am_iload_n (j := 0) (am_dk tk_X3_readClause 7 rfl) rfl rfl ?_
    refine am_bipush (v := 109) (am_dk tk_X3_readClause 8 rfl) (by decide) ?_
    refine am_icmp_eq (tgt := 31) (am_dk tk_X3_readClause 9 rfl) (by decide) (fun hc18 => ?_) (fun hc18 => ?_)
    · rw [if_pos hc18] at h
      refine am_ls [1, 0] rfl ?_
      exact bx_X3_readClause_31 htw hΦ _ _ h
    · rw [if_neg hc18] at h
      refine am_aload_n (j := 1) (am_dk tk_X3_readClause 10 rfl) rfl rfl ?_
      refine am_iconst (v := 1) (am_dk tk_X3_readClause 11 rfl) (by decide) ?_
      refine am_aload_n (j := 1) (am_dk tk_X3_readClause 12 rfl) rfl rfl ?_
      refine ly_geti rfl fl_X3_15 rfl (am_dk tk_X3_readClause 13 rfl) ?_
      obtain ⟨q27, hq27, h⟩ := am_bind h
      refine ly_cV (M := m_X3_fail) (As := [.int 1, .int (q1.2 12 1)]) (b := 12) (st := []) (ct_X3_fail htw hq27) rfl (by decide) rfl ml_X3_55 ld_X3_fail rfl ⟨Nat.le_of_ble_eq_true rfl, Nat.le_of_ble_eq_true rfl⟩ (Nat.le_of_ble_eq_true rfl) ⟨rfl, rfl⟩ ⟨Nat.le_of_ble_eq_true rfl, Nat.le_of_ble_eq_true rfl⟩ (am_dk tk_X3_readClause 14 rfl) (am_kkv ?_)
      exact am_vret rfl (am_r0 h hΦ) ⟨Nat.le_of_ble_eq_true rfl, Nat.le_of_ble_eq_true rfl⟩ (am_dk tk_X3_readClause 15 rfl)
abbrev m_X3_read : am_D := (yX3_read, prog_5_method_3_code, 2, (some .boolean), { frames := 5, cells := 0, slots := 0, locals := 110 })
theorem ld_X3_read : am_LD m_X3_read 0 := ⟨(am_tb 82 (by decide +kernel) (by decide +kernel)), (am_tb 413 (by decide +kernel) (by decide +kernel)), by decide, by decide, by decide +kernel⟩
def tb_X3_read : List (Nat × Instr × Nat) := [(0, .aload_n 0, 1), (1, .getfield 25, 3), (4, .invokevirtual 38, 3), (7, .aload_n 0, 1), (8, .iconst 0, 1), (9, .putfield 15, 3), (12, .aload_n 0, 1), (13, .iconst 0, 1), (14, .putfield 32, 3), (17, .aload_n 0, 1), (18, .iconst (-1), 1), (19, .putfield 35, 3), (22, .iconst 0, 1), (23, .istore_n 1, 1), (24, .iload_n 1, 1), (25, .sipush 250, 3), (28, .if_icmp .ge 28, 3), (31, .aload_n 0, 1), (32, .invokevirtual 41, 3), (35, .ifCond .eq 21, 3), (38, .aload_n 0, 1), (39, .invokevirtual 45, 3), (42, .iconst (-1), 1), (43, .if_icmp .eq 13, 3), (46, .aload_n 0, 1), (47, .invokevirtual 49, 3), (50, .iinc 1 1, 3), (53, .goto (-29), 3), (56, .aload_n 0, 1), (57, .iconst 0, 1), (58, .putfield 29, 3), (61, .aload_n 0, 1), (62, .invokevirtual 41, 3), (65, .ireturn, 1)]
theorem tk_X3_read : am_tbl prog_5_method_3_code tb_X3_read = true := by decide +kernel
def b_X3_read_56 (tw : Nat) (D : am_M) : Option (Int32 × am_M) := some (f_X3_isGood tw (am_up D 12 4 0), am_up D 12 4 0)
def b_X3_read_24 (tw : Nat) : Nat → Int32 → am_M → Option (Int32 × am_M)
  | 0, _, _ => none
  | n + 1, x1, D => if 250 ≤ x1 then b_X3_read_56 tw D else if (f_X3_isGood tw D) = 0 then b_X3_read_56 tw D else (f_X3_peek tw D).bind fun q39 => if q39.1 = (-1) then b_X3_read_56 tw q39.2 else (f_X3_readClause tw q39.2).bind fun q47 => b_X3_read_24 tw n (x1 + 1) q47
def f_X3_read (tw : Nat) (D : am_M) : Option (Int32 × am_M) := (f_X4_clear (15 - tw) D).bind fun q4 => b_X3_read_24 tw am_N 0 (am_up (am_up (am_up q4 12 1 0) 12 5 0) 12 6 (-1))
theorem bx_X3_read_56 {l : Launch} {h0 : am_H} {Φ : am_Ph} {tw : Nat} {tp : Bool} (htw : lyT tw) {r : Int32} {D' : am_M} (hΦ : Φ (some (.int r)) (ly tw tp D')) : ∀ (D : am_M), b_X3_read_56 tw D = some (r, D') → am_Ex (am_E l m_X3_read false h0 Φ) prog_5_method_3_code (0, 0) 56 [(0, .ref 12)] [] (ly tw tp D) := by
  intro  D h
  rw [b_X3_read_56] at h
  refine am_aload_n (j := 0) (am_dk tk_X3_read 28 rfl) rfl rfl ?_
  refine am_iconst (v := 0) (am_dk tk_X3_read 29 rfl) (by decide) ?_
  refine ly_puti rfl fl_X3_29 rfl rfl (am_dk tk_X3_read 30 rfl) ?_
  refine am_aload_n (j := 0) (am_dk tk_X3_read 31 rfl) rfl rfl ?_
  refine ly_cV (M := m_X3_isGood) (As := []) (b := 12) (st := []) (ct_X3_isGood htw  _) rfl (by decide) rfl ml_X3_41 ld_X3_isGood rfl ⟨Nat.le_of_ble_eq_true rfl, Nat.le_of_ble_eq_true rfl⟩ (Nat.le_of_ble_eq_true rfl) ⟨rfl, rfl⟩ ⟨Nat.le_of_ble_eq_true rfl, Nat.le_of_ble_eq_true rfl⟩ (am_dk tk_X3_read 32 rfl) (am_kki ?_)
  exact am_zret (zb_X3_isGood tw (am_up D 12 4 0)) rfl (am_r2 h hΦ) ⟨Nat.le_of_ble_eq_true rfl, Nat.le_of_ble_eq_true rfl⟩ (am_dk tk_X3_read 33 rfl)
theorem bx_X3_read_24 {l : Launch} {h0 : am_H} {Φ : am_Ph} {tw : Nat} {tp : Bool} (htw : lyT tw) {r : Int32} {D' : am_M} (hΦ : Φ (some (.int r)) (ly tw tp D')) : ∀ (n : Nat) (x1 : Int32) (D : am_M), b_X3_read_24 tw n x1 D = some (r, D') → am_Ex (am_E l m_X3_read false h0 Φ) prog_5_method_3_code (0, 0) 24 [(0, .ref 12), (1, .int x1)] [] (ly tw tp D) := by
  intro n
  induction n with
  | zero =>
    intro x1 D h
    exact absurd h (by simp [b_X3_read_24])
  | succ n ih =>
    intro x1 D h
    rw [b_X3_read_24] at h
    refine am_iload_n (j := 1) (am_dk tk_X3_read 14 rfl) rfl rfl ?_
    refine am_sipush (v := 250) (am_dk tk_X3_read 15 rfl) (by decide) ?_
    refine am_icmp_ge (tgt := 56) (am_dk tk_X3_read 16 rfl) (by decide) (fun hc28 => ?_) (fun hc28 => ?_)
    · rw [if_pos hc28] at h
      refine am_ls [0] rfl ?_
      exact bx_X3_read_56 htw hΦ _ h
    · rw [if_neg hc28] at h
      refine am_aload_n (j := 0) (am_dk tk_X3_read 17 rfl) rfl rfl ?_
      refine ly_cV (M := m_X3_isGood) (As := []) (b := 12) (st := []) (ct_X3_isGood htw  _) rfl (by decide) rfl ml_X3_41 ld_X3_isGood rfl ⟨Nat.le_of_ble_eq_true rfl, Nat.le_of_ble_eq_true rfl⟩ (Nat.le_of_ble_eq_true rfl) ⟨rfl, rfl⟩ ⟨Nat.le_of_ble_eq_true rfl, Nat.le_of_ble_eq_true rfl⟩ (am_dk tk_X3_read 18 rfl) (am_kki ?_)
      refine am_if_eq (tgt := 56) (am_dk tk_X3_read 19 rfl) (by decide) (fun hc35 => ?_) (fun hc35 => ?_)
      · rw [if_pos hc35] at h
        refine am_ls [0] rfl ?_
        exact bx_X3_read_56 htw hΦ _ h
      · rw [if_neg hc35] at h
        refine am_aload_n (j := 0) (am_dk tk_X3_read 20 rfl) rfl rfl ?_
        obtain ⟨q39, hq39, h⟩ := am_bind h
        refine ly_cV (M := m_X3_peek) (As := []) (b := 12) (st := []) (ct_X3_peek htw hq39) rfl (by decide) rfl ml_X3_45 ld_X3_peek rfl ⟨Nat.le_of_ble_eq_true rfl, Nat.le_of_ble_eq_true rfl⟩ (Nat.le_of_ble_eq_true rfl) ⟨rfl, rfl⟩ ⟨Nat.le_of_ble_eq_true rfl, Nat.le_of_ble_eq_true rfl⟩ (am_dk tk_X3_read 21 rfl) (am_kki ?_)
        refine am_iconst (v := (-1)) (am_dk tk_X3_read 22 rfl) (by decide) ?_
        refine am_icmp_eq (tgt := 56) (am_dk tk_X3_read 23 rfl) (by decide) (fun hc43 => ?_) (fun hc43 => ?_)
        · rw [if_pos hc43] at h
          refine am_ls [0] rfl ?_
          exact bx_X3_read_56 htw hΦ _ h
        · rw [if_neg hc43] at h
          refine am_aload_n (j := 0) (am_dk tk_X3_read 24 rfl) rfl rfl ?_
          obtain ⟨q47, hq47, h⟩ := am_bind h
          refine ly_cV (M := m_X3_readClause) (As := []) (b := 12) (st := []) (ct_X3_readClause htw hq47) rfl (by decide) rfl ml_X3_49 ld_X3_readClause rfl ⟨Nat.le_of_ble_eq_true rfl, Nat.le_of_ble_eq_true rfl⟩ (Nat.le_of_ble_eq_true rfl) ⟨rfl, rfl⟩ ⟨Nat.le_of_ble_eq_true rfl, Nat.le_of_ble_eq_true rfl⟩ (am_dk tk_X3_read 25 rfl) (am_kkv ?_)
          refine am_iinc (j := 1) (v := x1 + 1) (L' := [(1, .int (x1 + 1)), (0, .ref 12)]) (am_dk tk_X3_read 26 rfl) rfl rfl (Nat.le_of_ble_eq_true rfl) rfl ?_
          refine am_goto (tgt := 24) (am_dk tk_X3_read 27 rfl) (by decide) ?_
          refine am_ls [1, 0] rfl ?_
          exact ih _ _ h
theorem ct_X3_read {l : Launch} {tw : Nat} {tp : Bool} (htw : lyT tw) {r : Int32} {D D' : am_M} (h : f_X3_read tw D = some (r, D')) : am_CT l m_X3_read false [.ref 12] (ly tw tp D) (am_is (some (.int r)) (ly tw tp D')) := by
  have hΦ : am_is (some (.int r)) (ly tw tp D') (some (.int r)) (ly tw tp D') := ⟨rfl, rfl⟩
  refine am_CT.of (by decide) (Nat.le_of_ble_eq_true rfl) ?_
  show am_Ex _ _ _ 0 [(0, .ref 12)] [] _
  rw [f_X3_read] at h
  refine am_aload_n (j := 0) (am_dk tk_X3_read 0 rfl) rfl rfl ?_
  refine ly_getr (b := (15 - tw)) rfl fl_X3_25 rfl rfl (am_dk tk_X3_read 1 rfl) ?_
  obtain ⟨q4, hq4, h⟩ := am_bind h
  refine ly_cV (M := m_X4_clear) (As := []) (b := (15 - tw)) (st := []) (ct_X4_clear (lyT_o htw) hq4) (lyT_s (lyT_o htw)) (by decide) rfl ml_X3_38 ld_X4_clear rfl ⟨Nat.le_of_ble_eq_true rfl, Nat.le_of_ble_eq_true rfl⟩ (Nat.le_of_ble_eq_true rfl) ⟨rfl, rfl⟩ ⟨Nat.le_of_ble_eq_true rfl, Nat.le_of_ble_eq_true rfl⟩ (am_dk tk_X3_read 2 rfl) (am_kkv ?_)
  refine am_aload_n (j := 0) (am_dk tk_X3_read 3 rfl) rfl rfl ?_
  refine am_iconst (v := 0) (am_dk tk_X3_read 4 rfl) (by decide) ?_
  refine ly_puti rfl fl_X3_15 rfl rfl (am_dk tk_X3_read 5 rfl) ?_
  refine am_aload_n (j := 0) (am_dk tk_X3_read 6 rfl) rfl rfl ?_
  refine am_iconst (v := 0) (am_dk tk_X3_read 7 rfl) (by decide) ?_
  refine ly_puti rfl fl_X3_32 rfl rfl (am_dk tk_X3_read 8 rfl) ?_
  refine am_aload_n (j := 0) (am_dk tk_X3_read 9 rfl) rfl rfl ?_
  refine am_iconst (v := (-1)) (am_dk tk_X3_read 10 rfl) (by decide) ?_
  refine ly_puti rfl fl_X3_35 rfl rfl (am_dk tk_X3_read 11 rfl) ?_
  refine am_iconst (v := 0) (am_dk tk_X3_read 12 rfl) (by decide) ?_
  refine am_istore_n (L' := [(1, .int 0), (0, .ref 12)]) (am_dk tk_X3_read 13 rfl) rfl (Nat.le_of_ble_eq_true rfl) rfl ?_
  refine am_ls [1, 0] rfl ?_
  exact bx_X3_read_24 htw hΦ am_N _ _ h
