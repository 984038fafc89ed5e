abbrev m_X6_in : am_D := (yX6_in, prog_8_method_3_code, 6, (some .boolean), { frames := 0, cells := 0, slots := 0, locals := 0 })
theorem ld_X6_in : am_LD m_X6_in 3 := ⟨(am_tb 85 (by decide +kernel) (by decide +kernel)), (am_tb 969 (by decide +kernel) (by decide +kernel)), by decide, by decide, by decide +kernel⟩
def tb_X6_in : List (Nat × Instr × Nat) := [(0, .lload_n 0, 1), (1, .lload_n 2, 1), (2, .lcmp, 1), (3, .ifCond .lt 14, 3), (6, .lload_n 0, 1), (7, .lload 4, 2), (9, .lcmp, 1), (10, .ifCond .gt 7, 3), (13, .iconst 1, 1), (14, .goto 4, 3), (17, .iconst 0, 1), (18, .ireturn, 1)]
theorem tk_X6_in : am_tbl prog_8_method_3_code tb_X6_in = true := by decide +kernel
def f_X6_in (x0 : Int64) (x2 : Int64) (x4 : Int64) : Int32 := if (lg_cmp x0 x2) < 0 then 0 else if 0 < (lg_cmp x0 x4) then 0 else 1
theorem zb_X6_in (x0 : Int64) (x2 : Int64) (x4 : Int64) : f_X6_in x0 x2 x4 = 0 ∨ f_X6_in x0 x2 x4 = 1 := by
  unfold f_X6_in
  repeat' split
  all_goals first | exact Or.inl rfl | exact Or.inr rfl
theorem ct_X6_in {l : Launch} (x0 : Int64) (x2 : Int64) (x4 : Int64) (h : am_H) : am_CT l m_X6_in false [.long x0, .long x2, .long x4] h (am_is (some (.int (f_X6_in x0 x2 x4))) h) := by
  refine am_CT.of (by decide) (Nat.le_of_ble_eq_true rfl) ?_
  show am_Ex _ _ _ 0 [(0, .long x0), (2, .long x2), (4, .long x4)] [] _
  refine am_lload_n (j := 0) (am_dk tk_X6_in 0 rfl) rfl rfl ?_
  refine am_lload_n (j := 1) (am_dk tk_X6_in 1 rfl) rfl rfl ?_
  refine am_lcmp (am_dk tk_X6_in 2 rfl) ?_
  refine am_if_lt (tgt := 17) (am_dk tk_X6_in 3 rfl) (by decide) (fun hc3 => ?_) (fun hc3 => ?_)
  · skip
    refine am_iconst (v := 0) (am_dk tk_X6_in 10 rfl) (by decide) ?_
    exact am_zret (Or.inl rfl) rfl ⟨by simp only [f_X6_in, if_pos hc3], rfl⟩ ⟨Nat.le_of_ble_eq_true rfl, Nat.le_of_ble_eq_true rfl⟩ (am_dk tk_X6_in 11 rfl)
  · skip
    refine am_lload_n (j := 0) (am_dk tk_X6_in 4 rfl) rfl rfl ?_
    refine am_lload (j := 2) (am_dk tk_X6_in 5 rfl) rfl ?_
    refine am_lcmp (am_dk tk_X6_in 6 rfl) ?_
    refine am_if_gt (tgt := 17) (am_dk tk_X6_in 7 rfl) (by decide) (fun hc10 => ?_) (fun hc10 => ?_)
    · skip
      refine am_iconst (v := 0) (am_dk tk_X6_in 10 rfl) (by decide) ?_
      exact am_zret (Or.inl rfl) rfl ⟨by simp only [f_X6_in, if_neg hc3, if_pos hc10], rfl⟩ ⟨Nat.le_of_ble_eq_true rfl, Nat.le_of_ble_eq_true rfl⟩ (am_dk tk_X6_in 11 rfl)
    · skip
      refine am_iconst (v := 1) (am_dk tk_X6_in 8 rfl) (by decide) ?_
      refine am_goto (tgt := 18) (am_dk tk_X6_in 9 rfl) (by decide) ?_
      exact am_zret (Or.inr rfl) rfl ⟨by simp only [f_X6_in, if_neg hc3, if_neg hc10], rfl⟩ ⟨Nat.le_of_ble_eq_true rfl, Nat.le_of_ble_eq_true rfl⟩ (am_dk tk_X6_in 11 rfl)
abbrev m_X6_has : am_D := (yX6_has, prog_8_method_4_code, 2, (some .boolean), { frames := 0, cells := 0, slots := 0, locals := 0 })
theorem ld_X6_has : am_LD m_X6_has 2 := ⟨(am_tb 85 (by decide +kernel) (by decide +kernel)), (am_tb 1024 (by decide +kernel) (by decide +kernel)), by decide, by decide, by decide +kernel⟩
def tb_X6_has : List (Nat × Instr × Nat) := [(0, .iload_n 0, 1), (1, .iload_n 1, 1), (2, .ishr, 1), (3, .iconst 1, 1), (4, .iand, 1), (5, .iconst 1, 1), (6, .if_icmp .ne 7, 3), (9, .iconst 1, 1), (10, .goto 4, 3), (13, .iconst 0, 1), (14, .ireturn, 1)]
theorem tk_X6_has : am_tbl prog_8_method_4_code tb_X6_has = true := by decide +kernel
def f_X6_has (x0 : Int32) (x1 : Int32) : Int32 := if ((x0 >>> (x1 &&& 31)) &&& 1) = 1 then 1 else 0
theorem zb_X6_has (x0 : Int32) (x1 : Int32) : f_X6_has x0 x1 = 0 ∨ f_X6_has x0 x1 = 1 := by
  unfold f_X6_has
  repeat' split
  all_goals first | exact Or.inl rfl | exact Or.inr rfl
theorem ct_X6_has {l : Launch} (x0 : Int32) (x1 : Int32) (h : am_H) : am_CT l m_X6_has false [.int x0, .int x1] h (am_is (some (.int (f_X6_has x0 x1))) h) := by
  refine am_CT.of (by decide) (Nat.le_of_ble_eq_true rfl) ?_
  show am_Ex _ _ _ 0 [(0, .int x0), (1, .int x1)] [] _
  refine am_iload_n (j := 0) (am_dk tk_X6_has 0 rfl) rfl rfl ?_
  refine am_iload_n (j := 1) (am_dk tk_X6_has 1 rfl) rfl rfl ?_
  refine am_ishr (am_dk tk_X6_has 2 rfl) ?_
  refine am_iconst (v := 1) (am_dk tk_X6_has 3 rfl) (by decide) ?_
  refine am_iand (am_dk tk_X6_has 4 rfl) ?_
  refine am_iconst (v := 1) (am_dk tk_X6_has 5 rfl) (by decide) ?_
  refine am_icmp_ne (tgt := 13) (am_dk tk_X6_has 6 rfl) (by decide) (fun hc6 => ?_) (fun hc6 => ?_)
  · skip
    refine am_iconst (v := 0) (am_dk tk_X6_has 9 rfl) (by decide) ?_
    exact am_zret (Or.inl rfl) rfl ⟨by simp only [f_X6_has, if_neg hc6], rfl⟩ ⟨Nat.le_of_ble_eq_true rfl, Nat.le_of_ble_eq_true rfl⟩ (am_dk tk_X6_has 10 rfl)
  · skip
    refine am_iconst (v := 1) (am_dk tk_X6_has 7 rfl) (by decide) ?_
    refine am_goto (tgt := 14) (am_dk tk_X6_has 8 rfl) (by decide) ?_
    exact am_zret (Or.inr rfl) rfl ⟨by simp only [f_X6_has, if_pos hc6], rfl⟩ ⟨Nat.le_of_ble_eq_true rfl, Nat.le_of_ble_eq_true rfl⟩ (am_dk tk_X6_has 10 rfl)
abbrev m_X6_isPerson : am_D := (yX6_isPerson, prog_8_method_5_code, 2, (some .boolean), { frames := 1, cells := 0, slots := 0, locals := 25 })
theorem ld_X6_isPerson : am_LD m_X6_isPerson 1 := ⟨(am_tb 85 (by decide +kernel) (by decide +kernel)), (am_tb 1048 (by decide +kernel) (by decide +kernel)), by decide, by decide, by decide +kernel⟩
def tb_X6_isPerson : List (Nat × Instr × Nat) := [(0, .iload_n 1, 1), (1, .i2l, 1), (2, .lconst 0, 1), (3, .aload_n 0, 1), (4, .getfield 96, 3), (7, .iconst 1, 1), (8, .isub, 1), (9, .i2l, 1), (10, .invokestatic 99, 3), (13, .ireturn, 1)]
theorem tk_X6_isPerson : am_tbl prog_8_method_5_code tb_X6_isPerson = true := by decide +kernel
def f_X6_isPerson (x1 : Int32) (D : am_M) : Int32 := f_X6_in x1.toInt64 0 (((D 56 3) - 1).toInt64)
theorem zb_X6_isPerson (x1 : Int32) (D : am_M) : f_X6_isPerson x1 D = 0 ∨ f_X6_isPerson x1 D = 1 := by
  unfold f_X6_isPerson
  repeat' split
  all_goals first | exact Or.inl rfl | exact Or.inr rfl | exact zb_X6_in x1.toInt64 0 (((D 56 3) - 1).toInt64)
theorem ct_X6_isPerson {l : Launch} {tw : Nat} {tp : Bool} (x1 : Int32) (D : am_M) : am_CT l m_X6_isPerson false [.ref 56, .int x1] (ly tw tp D) (am_is (some (.int (f_X6_isPerson x1 D))) (ly tw tp D)) := by
  refine am_CT.of (by decide) (Nat.le_of_ble_eq_true rfl) ?_
  show am_Ex _ _ _ 0 [(0, .ref 56), (1, .int x1)] [] _
  refine am_iload_n (j := 1) (am_dk tk_X6_isPerson 0 rfl) rfl rfl ?_
  refine am_i2l (am_dk tk_X6_isPerson 1 rfl) ?_
  refine am_lconst (v := 0) (am_dk tk_X6_isPerson 2 rfl) (by decide) ?_
  refine am_aload_n (j := 0) (am_dk tk_X6_isPerson 3 rfl) rfl rfl ?_
  refine ly_geti rfl fl_X6_96 rfl (am_dk tk_X6_isPerson 4 rfl) ?_
  refine am_iconst (v := 1) (am_dk tk_X6_isPerson 5 rfl) (by decide) ?_
  refine am_isub (am_dk tk_X6_isPerson 6 rfl) ?_
  refine am_i2l (am_dk tk_X6_isPerson 7 rfl) ?_
  refine am_cS (M := m_X6_in) (As := [.long x1.toInt64, .long 0, .long (((D 56 3) - 1).toInt64)]) (st := []) (ct_X6_in _ _ _ _) ml_X6_99 ld_X6_in rfl ⟨Nat.le_of_ble_eq_true rfl, Nat.le_of_ble_eq_true rfl⟩ (Nat.le_of_ble_eq_true rfl) ⟨rfl, rfl⟩ ⟨Nat.le_of_ble_eq_true rfl, Nat.le_of_ble_eq_true rfl⟩ (am_dk tk_X6_isPerson 8 rfl) (am_kki ?_)
  exact am_zret (zb_X6_in x1.toInt64 0 (((D 56 3) - 1).toInt64)) rfl ⟨rfl, rfl⟩ ⟨Nat.le_of_ble_eq_true rfl, Nat.le_of_ble_eq_true rfl⟩ (am_dk tk_X6_isPerson 9 rfl)
abbrev m_X6_feed : am_D := (yX6_feed, prog_8_method_6_code, 2, (some .int), { frames := 1, cells := 0, slots := 0, locals := 25 })
theorem ld_X6_feed : am_LD m_X6_feed 1 := ⟨(am_tb 85 (by decide +kernel) (by decide +kernel)), (am_tb 965 (by decide +kernel) (by decide +kernel)), by decide, by decide, by decide +kernel⟩
def tb_X6_feed : List (Nat × Instr × Nat) := [(0, .iload_n 1, 1), (1, .i2l, 1), (2, .lconst 0, 1), (3, .ldc2_w 103, 3), (6, .invokestatic 99, 3), (9, .ifCond .ne 6, 3), (12, .ldc 105, 2), (14, .ireturn, 1), (15, .aload_n 0, 1), (16, .getfield 106, 3), (19, .sipush 250, 3), (22, .if_icmp .ne 6, 3), (25, .ldc 109, 2), (27, .ireturn, 1), (28, .aload_n 0, 1), (29, .getfield 28, 3), (32, .aload_n 0, 1), (33, .getfield 106, 3), (36, .iload_n 1, 1), (37, .iastore, 1), (38, .aload_n 0, 1), (39, .dup, 1), (40, .getfield 106, 3), (43, .iconst 1, 1), (44, .iadd, 1), (45, .putfield 106, 3), (48, .aload_n 0, 1), (49, .getfield 106, 3), (52, .ireturn, 1)]
theorem tk_X6_feed : am_tbl prog_8_method_6_code tb_X6_feed = true := by decide +kernel
def f_X6_feed (x1 : Int32) (D : am_M) : Option (Int32 × am_M) := if (f_X6_in x1.toInt64 0 255) = 0 then some ((-1000000002), D) else if (D 56 14) = 250 then some ((-1000000004), D) else if am_in (D 56 14) 250 = true then some ((am_up (am_up D 63 (D 56 14).toNatClampNeg x1) 56 14 (((am_up D 63 (D 56 14).toNatClampNeg x1) 56 14) + 1)) 56 14, am_up (am_up D 63 (D 56 14).toNatClampNeg x1) 56 14 (((am_up D 63 (D 56 14).toNatClampNeg x1) 56 14) + 1)) else none
theorem ct_X6_feed {l : Launch} {tw : Nat} {tp : Bool}  {x1 : Int32} {r : Int32} {D D' : am_M} (h : f_X6_feed x1 D = some (r, D')) : am_CT l m_X6_feed false [.ref 56, .int x1] (ly tw tp D) (am_is (some (.int r)) (ly tw tp D')) := by
  have hΦ : am_is (some (.int r)) (ly tw tp D') (some (.int r)) (ly tw tp D') := ⟨rfl, rfl⟩
  refine am_CT.of (by decide) (Nat.le_of_ble_eq_true rfl) ?_
  show am_Ex _ _ _ 0 [(0, .ref 56), (1, .int x1)] [] _
  rw [f_X6_feed] at h
  refine am_iload_n (j := 1) (am_dk tk_X6_feed 0 rfl) rfl rfl ?_
  refine am_i2l (am_dk tk_X6_feed 1 rfl) ?_
  refine am_lconst (v := 0) (am_dk tk_X6_feed 2 rfl) (by decide) ?_
  refine am_ldc2 kl_X6_103 (am_dk tk_X6_feed 3 rfl) ?_
  refine am_cS (M := m_X6_in) (As := [.long x1.toInt64, .long 0, .long 255]) (st := []) (ct_X6_in _ _ _ _) ml_X6_99 ld_X6_in rfl ⟨Nat.le_of_ble_eq_true rfl, Nat.le_of_ble_eq_true rfl⟩ (Nat.le_of_ble_eq_true rfl) ⟨rfl, rfl⟩ ⟨Nat.le_of_ble_eq_true rfl, Nat.le_of_ble_eq_true rfl⟩ (am_dk tk_X6_feed 4 rfl) (am_kki ?_)
  refine am_if_ne (tgt := 15) (am_dk tk_X6_feed 5 rfl) (by decide) (fun hc9 => ?_) (fun hc9 => ?_)
  · rw [if_neg hc9] at h
    refine am_aload_n (j := 0) (am_dk tk_X6_feed 8 rfl) rfl rfl ?_
    refine ly_geti rfl fl_X6_106 rfl (am_dk tk_X6_feed 9 rfl) ?_
    refine am_sipush (v := 250) (am_dk tk_X6_feed 10 rfl) (by decide) ?_
    refine am_icmp_ne (tgt := 28) (am_dk tk_X6_feed 11 rfl) (by decide) (fun hc22 => ?_) (fun hc22 => ?_)
    · rw [if_neg hc22] at h
      refine am_aload_n (j := 0) (am_dk tk_X6_feed 14 rfl) rfl rfl ?_
      refine ly_getr (b := 63) rfl fl_X6_28 rfl rfl (am_dk tk_X6_feed 15 rfl) ?_
      refine am_aload_n (j := 0) (am_dk tk_X6_feed 16 rfl) rfl rfl ?_
      refine ly_geti rfl fl_X6_106 rfl (am_dk tk_X6_feed 17 rfl) ?_
      refine am_iload_n (j := 1) (am_dk tk_X6_feed 18 rfl) rfl rfl ?_
      obtain ⟨hi37, h⟩ := am_chk h
      refine ly_iast (k := (D 56 14).toNatClampNeg) rfl (am_in_vp hi37) rfl (am_dk tk_X6_feed 19 rfl) ?_
      refine am_aload_n (j := 0) (am_dk tk_X6_feed 20 rfl) rfl rfl ?_
      refine am_dup (am_dk tk_X6_feed 21 rfl) rfl ?_
      refine ly_geti rfl fl_X6_106 rfl (am_dk tk_X6_feed 22 rfl) ?_
      refine am_iconst (v := 1) (am_dk tk_X6_feed 23 rfl) (by decide) ?_
      refine am_iadd (am_dk tk_X6_feed 24 rfl) ?_
      refine ly_puti rfl fl_X6_106 rfl rfl (am_dk tk_X6_feed 25 rfl) ?_
      refine am_aload_n (j := 0) (am_dk tk_X6_feed 26 rfl) rfl rfl ?_
      refine ly_geti rfl fl_X6_106 rfl (am_dk tk_X6_feed 27 rfl) ?_
      exact am_iret rfl (am_r2 h hΦ) ⟨Nat.le_of_ble_eq_true rfl, Nat.le_of_ble_eq_true rfl⟩ (am_dk tk_X6_feed 28 rfl)
    · rw [if_pos hc22] at h
      refine am_ldc kc_X6_109 (am_dk tk_X6_feed 12 rfl) ?_
      exact am_iret rfl (am_r2 h hΦ) ⟨Nat.le_of_ble_eq_true rfl, Nat.le_of_ble_eq_true rfl⟩ (am_dk tk_X6_feed 13 rfl)
  · rw [if_pos hc9] at h
    refine am_ldc kc_X6_105 (am_dk tk_X6_feed 6 rfl) ?_
    exact am_iret rfl (am_r2 h hΦ) ⟨Nat.le_of_ble_eq_true rfl, Nat.le_of_ble_eq_true rfl⟩ (am_dk tk_X6_feed 7 rfl)
abbrev m_X6_here : am_D := (yX6_here, prog_8_method_7_code, 1, (some .int), { frames := 0, cells := 0, slots := 0, locals := 0 })
theorem ld_X6_here : am_LD m_X6_here 0 := ⟨(am_tb 85 (by decide +kernel) (by decide +kernel)), (am_tb 979 (by decide +kernel) (by decide +kernel)), by decide, by decide, by decide +kernel⟩
def tb_X6_here : List (Nat × Instr × Nat) := [(0, .aload_n 0, 1), (1, .getfield 110, 3), (4, .aload_n 0, 1), (5, .getfield 106, 3), (8, .if_icmp .ge 30, 3), (11, .aload_n 0, 1), (12, .getfield 28, 3), (15, .aload_n 0, 1), (16, .getfield 110, 3), (19, .iaload, 1), (20, .bipush 32, 2), (22, .if_icmp .ne 16, 3), (25, .aload_n 0, 1), (26, .dup, 1), (27, .getfield 110, 3), (30, .iconst 1, 1), (31, .iadd, 1), (32, .putfield 110, 3), (35, .goto (-35), 3), (38, .aload_n 0, 1), (39, .getfield 110, 3), (42, .aload_n 0, 1), (43, .getfield 106, 3), (46, .if_icmp .ge 15, 3), (49, .aload_n 0, 1), (50, .getfield 28, 3), (53, .aload_n 0, 1), (54, .getfield 110, 3), (57, .iaload, 1), (58, .goto 4, 3), (61, .iconst (-1), 1), (62, .ireturn, 1)]
theorem tk_X6_here : am_tbl prog_8_method_7_code tb_X6_here = true := by decide +kernel
def b_X6_here_38 (D : am_M) : Option (Int32 × am_M) := if (D 56 14) ≤ (D 56 16) then some ((-1), D) else if am_in (D 56 16) 250 = true then some (D 63 (D 56 16).toNatClampNeg, D) else none
def b_X6_here_0 : Nat → am_M → Option (Int32 × am_M)
  | 0, _ => none
  | n + 1, D => if (D 56 14) ≤ (D 56 16) then b_X6_here_38 D else if am_in (D 56 16) 250 = true then if (D 63 (D 56 16).toNatClampNeg) = 32 then b_X6_here_0 n (am_up D 56 16 ((D 56 16) + 1)) else b_X6_here_38 D else none
def f_X6_here (D : am_M) : Option (Int32 × am_M) := b_X6_here_0 am_N D
theorem bx_X6_here_38 {l : Launch} {h0 : am_H} {Φ : am_Ph} {tw : Nat} {tp : Bool}  {r : Int32} {D' : am_M} (hΦ : Φ (some (.int r)) (ly tw tp D')) : ∀ (D : am_M), b_X6_here_38 D = some (r, D') → am_Ex (am_E l m_X6_here false h0 Φ) prog_8_method_7_code (0, 0) 38 [(0, .ref 56)] [] (ly tw tp D) := by
  intro  D h
  rw [b_X6_here_38] at h
  refine am_aload_n (j := 0) (am_dk tk_X6_here 19 rfl) rfl rfl ?_
  refine ly_geti rfl fl_X6_110 rfl (am_dk tk_X6_here 20 rfl) ?_
  refine am_aload_n (j := 0) (am_dk tk_X6_here 21 rfl) rfl rfl ?_
  refine ly_geti rfl fl_X6_106 rfl (am_dk tk_X6_here 22 rfl) ?_
  refine am_icmp_ge (tgt := 61) (am_dk tk_X6_here 23 rfl) (by decide) (fun hc46 => ?_) (fun hc46 => ?_)
  · rw [if_pos hc46] at h
    refine am_iconst (v := (-1)) (am_dk tk_X6_here 30 rfl) (by decide) ?_
    exact am_iret rfl (am_r2 h hΦ) ⟨Nat.le_of_ble_eq_true rfl, Nat.le_of_ble_eq_true rfl⟩ (am_dk tk_X6_here 31 rfl)
  · rw [if_neg hc46] at h
    refine am_aload_n (j := 0) (am_dk tk_X6_here 24 rfl) rfl rfl ?_
    refine ly_getr (b := 63) rfl fl_X6_28 rfl rfl (am_dk tk_X6_here 25 rfl) ?_
    refine am_aload_n (j := 0) (am_dk tk_X6_here 26 rfl) rfl rfl ?_
    refine ly_geti rfl fl_X6_110 rfl (am_dk tk_X6_here 27 rfl) ?_
    obtain ⟨hi57, h⟩ := am_chk h
    refine ly_iald (k := (D 56 16).toNatClampNeg) rfl (am_in_vp hi57) rfl (am_dk tk_X6_here 28 rfl) ?_
    refine am_goto (tgt := 62) (am_dk tk_X6_here 29 rfl) (by decide) ?_
    exact am_iret rfl (am_r2 h hΦ) ⟨Nat.le_of_ble_eq_true rfl, Nat.le_of_ble_eq_true rfl⟩ (am_dk tk_X6_here 31 rfl)
theorem bx_X6_here_0 {l : Launch} {h0 : am_H} {Φ : am_Ph} {tw : Nat} {tp : Bool}  {r : Int32} {D' : am_M} (hΦ : Φ (some (.int r)) (ly tw tp D')) : ∀ (n : Nat) (D : am_M), b_X6_here_0 n D = some (r, D') → am_Ex (am_E l m_X6_here false h0 Φ) prog_8_method_7_code (0, 0) 0 [(0, .ref 56)] [] (ly tw tp D) := by
  intro n
  induction n with
  | zero =>
    intro  D h
    exact absurd h (by simp [b_X6_here_0])
  | succ n ih =>
    intro  D h
    rw [b_X6_here_0] at h
    refine am_aload_n (j := 0) (am_dk tk_X6_here 0 rfl) rfl rfl ?_
    refine ly_geti rfl fl_X6_110 rfl (am_dk tk_X6_here 1 rfl) ?_
    refine am_aload_n (j := 0) (am_dk tk_X6_here 2 rfl) rfl rfl ?_
    refine ly_geti rfl fl_X6_106 rfl (am_dk tk_X6_here 3 rfl) ?_
    refine am_icmp_ge (tgt := 38) (am_dk tk_X6_here 4 rfl) (by decide) (fun hc8 => ?_) (fun hc8 => ?_)
    · rw [if_pos hc8] at h
      exact bx_X6_here_38  hΦ _ h
    · rw [if_neg hc8] at h
      refine am_aload_n (j := 0) (am_dk tk_X6_here 5 rfl) rfl rfl ?_
      refine ly_getr (b := 63) rfl fl_X6_28 rfl rfl (am_dk tk_X6_here 6 rfl) ?_
      refine am_aload_n (j := 0) (am_dk tk_X6_here 7 rfl) rfl rfl ?_
      refine ly_geti rfl fl_X6_110 rfl (am_dk tk_X6_here 8 rfl) ?_
      obtain ⟨hi19, h⟩ := am_chk h
      refine ly_iald (k := (D 56 16).toNatClampNeg) rfl (am_in_vp hi19) rfl (am_dk tk_X6_here 9 rfl) ?_
      refine am_bipush (v := 32) (am_dk tk_X6_here 10 rfl) (by decide) ?_
      refine am_icmp_ne (tgt := 38) (am_dk tk_X6_here 11 rfl) (by decide) (fun hc22 => ?_) (fun hc22 => ?_)
      · rw [if_neg hc22] at h
        exact bx_X6_here_38  hΦ _ h
      · rw [if_pos hc22] at h
        refine am_aload_n (j := 0) (am_dk tk_X6_here 12 rfl) rfl rfl ?_
        refine am_dup (am_dk tk_X6_here 13 rfl) rfl ?_
        refine ly_geti rfl fl_X6_110 rfl (am_dk tk_X6_here 14 rfl) ?_
        refine am_iconst (v := 1) (am_dk tk_X6_here 15 rfl) (by decide) ?_
        refine am_iadd (am_dk tk_X6_here 16 rfl) ?_
        refine ly_puti rfl fl_X6_110 rfl rfl (am_dk tk_X6_here 17 rfl) ?_
        refine am_goto (tgt := 0) (am_dk tk_X6_here 18 rfl) (by decide) ?_
        exact ih _ h
theorem ct_X6_here {l : Launch} {tw : Nat} {tp : Bool}  {r : Int32} {D D' : am_M} (h : f_X6_here D = some (r, D')) : am_CT l m_X6_here false [.ref 56] (ly tw tp D) (am_is (some (.int r)) (ly tw tp D')) := by
  have hΦ : am_is (some (.int r)) (ly tw tp D') (some (.int r)) (ly tw tp D') := ⟨rfl, rfl⟩
  refine am_CT.of (by decide) (Nat.le_of_ble_eq_true rfl) ?_
  show am_Ex _ _ _ 0 [(0, .ref 56)] [] _
  rw [f_X6_here] at h
  exact bx_X6_here_0  hΦ am_N _ h
abbrev m_X6_fails : am_D := (yX6_fails, prog_8_method_8_code, 3, (some .int), { frames := 0, cells := 0, slots := 0, locals := 0 })
theorem ld_X6_fails : am_LD m_X6_fails 2 := ⟨(am_tb 85 (by decide +kernel) (by decide +kernel)), (am_tb 987 (by decide +kernel) (by decide +kernel)), by decide, by decide, by decide +kernel⟩
def tb_X6_fails : List (Nat × Instr × Nat) := [(0, .aload_n 0, 1), (1, .iload_n 2, 1), (2, .putfield 31, 3), (5, .iload_n 1, 1), (6, .ireturn, 1)]
theorem tk_X6_fails : am_tbl prog_8_method_8_code tb_X6_fails = true := by decide +kernel
def f_X6_fails (x1 : Int32) (x2 : Int32) (D : am_M) : Option (Int32 × am_M) := some (x1, am_up D 56 15 x2)
theorem ct_X6_fails {l : Launch} {tw : Nat} {tp : Bool}  {x1 : Int32} {x2 : Int32} {r : Int32} {D D' : am_M} (h : f_X6_fails x1 x2 D = some (r, D')) : am_CT l m_X6_fails false [.ref 56, .int x1, .int x2] (ly tw tp D) (am_is (some (.int r)) (ly tw tp D')) := by
  have hΦ : am_is (some (.int r)) (ly tw tp D') (some (.int r)) (ly tw tp D') := ⟨rfl, rfl⟩
  refine am_CT.of (by decide) (Nat.le_of_ble_eq_true rfl) ?_
  show am_Ex _ _ _ 0 [(0, .ref 56), (1, .int x1), (2, .int x2)] [] _
  rw [f_X6_fails] at h
  refine am_aload_n (j := 0) (am_dk tk_X6_fails 0 rfl) rfl rfl ?_
  refine am_iload_n (j := 2) (am_dk tk_X6_fails 1 rfl) rfl rfl ?_
  refine ly_puti rfl fl_X6_31 rfl rfl (am_dk tk_X6_fails 2 rfl) ?_
  refine am_iload_n (j := 1) (am_dk tk_X6_fails 3 rfl) rfl rfl ?_
  exact am_iret rfl (am_r2 h hΦ) ⟨Nat.le_of_ble_eq_true rfl, Nat.le_of_ble_eq_true rfl⟩ (am_dk tk_X6_fails 4 rfl)
abbrev m_X6_takeNumber : am_D := (yX6_takeNumber, prog_8_method_9_code, 4, (some .int), { frames := 1, cells := 0, slots := 0, locals := 25 })
theorem ld_X6_takeNumber : am_LD m_X6_takeNumber 2 := ⟨(am_tb 85 (by decide +kernel) (by decide +kernel)), (am_tb 999 (by decide +kernel) (by decide +kernel)), by decide, by decide, by decide +kernel⟩
def tb_X6_takeNumber : List (Nat × Instr × Nat) := [(0, .aload_n 0, 1), (1, .invokevirtual 113, 3), (4, .istore_n 3, 1), (5, .iload_n 3, 1), (6, .i2l, 1), (7, .ldc2_w 117, 3), (10, .ldc2_w 119, 3), (13, .invokestatic 99, 3), (16, .ifCond .ne 13, 3), (19, .aload_n 0, 1), (20, .iconst 1, 1), (21, .aload_n 0, 1), (22, .getfield 110, 3), (25, .invokevirtual 121, 3), (28, .ireturn, 1), (29, .aload_n 0, 1), (30, .aload_n 0, 1), (31, .getfield 110, 3), (34, .putfield 125, 3), (37, .aload_n 0, 1), (38, .iconst 0, 1), (39, .putfield 128, 3), (42, .aload_n 0, 1), (43, .getfield 110, 3), (46, .aload_n 0, 1), (47, .getfield 106, 3), (50, .if_icmp .ge 79, 3), (53, .aload_n 0, 1), (54, .getfield 28, 3), (57, .aload_n 0, 1), (58, .getfield 110, 3), (61, .iaload, 1), (62, .i2l, 1), (63, .ldc2_w 117, 3), (66, .ldc2_w 119, 3), (69, .invokestatic 99, 3), (72, .ifCond .eq 57, 3), (75, .aload_n 0, 1), (76, .aload_n 0, 1), (77, .getfield 128, 3), (80, .sipush 10000, 3), (83, .if_icmp .le 10, 3), (86, .aload_n 0, 1), (87, .getfield 128, 3), (90, .goto 23, 3), (93, .bipush 10, 2), (95, .aload_n 0, 1), (96, .getfield 128, 3), (99, .imul, 1), (100, .aload_n 0, 1), (101, .getfield 28, 3), (104, .aload_n 0, 1), (105, .getfield 110, 3), (108, .iaload, 1), (109, .iadd, 1), (110, .bipush 48, 2), (112, .isub, 1), (113, .putfield 128, 3), (116, .aload_n 0, 1), (117, .dup, 1)]
theorem tk_X6_takeNumber : am_tbl prog_8_method_9_code tb_X6_takeNumber = true := by decide +kernel
def tb_X6_takeNumber_1 : List (Nat × Instr × Nat) := [(118, .getfield 110, 3), (121, .iconst 1, 1), (122, .iadd, 1), (123, .putfield 110, 3), (126, .goto (-84), 3), (129, .aload_n 0, 1), (130, .getfield 110, 3), (133, .aload_n 0, 1), (134, .getfield 125, 3), (137, .isub, 1), (138, .iconst 3, 1), (139, .if_icmp .gt 18, 3), (142, .aload_n 0, 1), (143, .getfield 128, 3), (146, .i2l, 1), (147, .iload_n 1, 1), (148, .i2l, 1), (149, .iload_n 2, 1), (150, .i2l, 1), (151, .invokestatic 99, 3), (154, .ifCond .ne 15, 3), (157, .aload_n 0, 1), (158, .iconst 2, 1), (159, .aload_n 0, 1), (160, .getfield 125, 3), (163, .invokevirtual 121, 3), (166, .goto 4, 3), (169, .iconst 0, 1), (170, .ireturn, 1)]
theorem tk_X6_takeNumber_1 : am_tbl prog_8_method_9_code tb_X6_takeNumber_1 = true := by decide +kernel
def b_X6_takeNumber_157 (D : am_M) : Option (Int32 × am_M) := (f_X6_fails 2 (D 56 18) D).bind fun q163 => some (q163.1, q163.2)
def b_X6_takeNumber_129 (x1 : Int32) (x2 : Int32) (D : am_M) : Option (Int32 × am_M) := if 3 < ((D 56 16) - (D 56 18)) then b_X6_takeNumber_157 D else if (f_X6_in ((D 56 17).toInt64) x1.toInt64 x2.toInt64) = 0 then b_X6_takeNumber_157 D else some (0, D)
def b_X6_takeNumber_113 (k42 : Int32 → Int32 → am_M → Option (Int32 × am_M)) (x1 : Int32) (x2 : Int32) (s0 : Int32) (D : am_M) : Option (Int32 × am_M) := k42 x1 x2 (am_up (am_up D 56 17 s0) 56 16 (((am_up D 56 17 s0) 56 16) + 1))
def b_X6_takeNumber_42 : Nat → Int32 → Int32 → am_M → Option (Int32 × am_M)
  | 0, _, _, _ => none
  | n + 1, x1, x2, D => if (D 56 14) ≤ (D 56 16) then b_X6_takeNumber_129 x1 x2 D else if am_in (D 56 16) 250 = true then if (f_X6_in ((D 63 (D 56 16).toNatClampNeg).toInt64) 48 57) = 0 then b_X6_takeNumber_129 x1 x2 D else b_X6_takeNumber_113 (b_X6_takeNumber_42 n) x1 x2 (if (D 56 17) ≤ 10000 then ((10 * (D 56 17)) + (D 63 (D 56 16).toNatClampNeg)) - 48 else D 56 17) D else none
def f_X6_takeNumber (x1 : Int32) (x2 : Int32) (D : am_M) : Option (Int32 × am_M) := (f_X6_here D).bind fun q1 => if (f_X6_in q1.1.toInt64 48 57) = 0 then (f_X6_fails 1 (q1.2 56 16) q1.2).bind fun q25 => some (q25.1, q25.2) else b_X6_takeNumber_42 am_N x1 x2 (am_up (am_up q1.2 56 18 (q1.2 56 16)) 56 17 0)
theorem bx_X6_takeNumber_157 {l : Launch} {h0 : am_H} {Φ : am_Ph} {tw : Nat} {tp : Bool}  {r : Int32} {D' : am_M} (hΦ : Φ (some (.int r)) (ly tw tp D')) : ∀ (D : am_M), b_X6_takeNumber_157 D = some (r, D') → am_Ex (am_E l m_X6_takeNumber false h0 Φ) prog_8_method_9_code (0, 0) 157 [(0, .ref 56)] [] (ly tw tp D) := by
  intro  D h
  rw [b_X6_takeNumber_157] at h
  refine am_aload_n (j := 0) (am_dk tk_X6_takeNumber_1 21 rfl) rfl rfl ?_
  refine am_iconst (v := 2) (am_dk tk_X6_takeNumber_1 22 rfl) (by decide) ?_
  refine am_aload_n (j := 0) (am_dk tk_X6_takeNumber_1 23 rfl) rfl rfl ?_
  refine ly_geti rfl fl_X6_125 rfl (am_dk tk_X6_takeNumber_1 24 rfl) ?_
  obtain ⟨q163, hq163, h⟩ := am_bind h
  refine ly_cV (M := m_X6_fails) (As := [.int 2, .int (D 56 18)]) (b := 56) (st := []) (ct_X6_fails hq163) rfl (by decide) rfl ml_X6_121 ld_X6_fails rfl ⟨Nat.le_of_ble_eq_true rfl, Nat.le_of_ble_eq_true rfl⟩ (Nat.le_of_ble_eq_true rfl) ⟨rfl, rfl⟩ ⟨Nat.le_of_ble_eq_true rfl, Nat.le_of_ble_eq_true rfl⟩ (am_dk tk_X6_takeNumber_1 25 rfl) (am_kki ?_)
  refine am_goto (tgt := 170) (am_dk tk_X6_takeNumber_1 26 rfl) (by decide) ?_
  exact am_iret rfl (am_r2 h hΦ) ⟨Nat.le_of_ble_eq_true rfl, Nat.le_of_ble_eq_true rfl⟩ (am_dk tk_X6_takeNumber_1 28 rfl)
theorem bx_X6_takeNumber_129 {l : Launch} {h0 : am_H} {Φ : am_Ph} {tw : Nat} {tp : Bool}  {r : Int32} {D' : am_M} (hΦ : Φ (some (.int r)) (ly tw tp D')) : ∀ (x1 : Int32) (x2 : Int32) (D : am_M), b_X6_takeNumber_129 x1 x2 D = some (r, D') → am_Ex (am_E l m_X6_takeNumber false h0 Φ) prog_8_method_9_code (0, 0) 129 [(0, .ref 56), (1, .int x1), (2, .int x2)] [] (ly tw tp D) := by
  intro x1 x2 D h
  rw [b_X6_takeNumber_129] at h
  refine am_aload_n (j := 0) (am_dk tk_X6_takeNumber_1 5 rfl) rfl rfl ?_
  refine ly_geti rfl fl_X6_110 rfl (am_dk tk_X6_takeNumber_1 6 rfl) ?_
  refine am_aload_n (j := 0) (am_dk tk_X6_takeNumber_1 7 rfl) rfl rfl ?_
  refine ly_geti rfl fl_X6_125 rfl (am_dk tk_X6_takeNumber_1 8 rfl) ?_
  refine am_isub (am_dk tk_X6_takeNumber_1 9 rfl) ?_
  refine am_iconst (v := 3) (am_dk tk_X6_takeNumber_1 10 rfl) (by decide) ?_
  refine am_icmp_gt (tgt := 157) (am_dk tk_X6_takeNumber_1 11 rfl) (by decide) (fun hc139 => ?_) (fun hc139 => ?_)
  · rw [if_pos hc139] at h
    refine am_ls [0] rfl ?_
    exact bx_X6_takeNumber_157  hΦ _ h
  · rw [if_neg hc139] at h
    refine am_aload_n (j := 0) (am_dk tk_X6_takeNumber_1 12 rfl) rfl rfl ?_
    refine ly_geti rfl fl_X6_128 rfl (am_dk tk_X6_takeNumber_1 13 rfl) ?_
    refine am_i2l (am_dk tk_X6_takeNumber_1 14 rfl) ?_
    refine am_iload_n (j := 1) (am_dk tk_X6_takeNumber_1 15 rfl) rfl rfl ?_
    refine am_i2l (am_dk tk_X6_takeNumber_1 16 rfl) ?_
    refine am_iload_n (j := 2) (am_dk tk_X6_takeNumber_1 17 rfl) rfl rfl ?_
    refine am_i2l (am_dk tk_X6_takeNumber_1 18 rfl) ?_
    refine am_cS (M := m_X6_in) (As := [.long ((D 56 17).toInt64), .long x1.toInt64, .long x2.toInt64]) (st := []) (ct_X6_in _ _ _ _) ml_X6_99 ld_X6_in rfl ⟨Nat.le_of_ble_eq_true rfl, Nat.le_of_ble_eq_true rfl⟩ (Nat.le_of_ble_eq_true rfl) ⟨rfl, rfl⟩ ⟨Nat.le_of_ble_eq_true rfl, Nat.le_of_ble_eq_true rfl⟩ (am_dk tk_X6_takeNumber_1 19 rfl) (am_kki ?_)
    refine am_if_ne (tgt := 169) (am_dk tk_X6_takeNumber_1 20 rfl) (by decide) (fun hc154 => ?_) (fun hc154 => ?_)
    · rw [if_neg hc154] at h
      refine am_iconst (v := 0) (am_dk tk_X6_takeNumber_1 27 rfl) (by decide) ?_
      exact am_iret rfl (am_r2 h hΦ) ⟨Nat.le_of_ble_eq_true rfl, Nat.le_of_ble_eq_true rfl⟩ (am_dk tk_X6_takeNumber_1 28 rfl)
    · rw [if_pos hc154] at h
      refine am_ls [0] rfl ?_
      exact bx_X6_takeNumber_157  hΦ _ h
theorem bx_X6_takeNumber_113 {l : Launch} {h0 : am_H} {Φ : am_Ph} {tw : Nat} {tp : Bool}  {r : Int32} {D' : am_M} (hΦ : Φ (some (.int r)) (ly tw tp D')) {k42 : Int32 → Int32 → am_M → Option (Int32 × am_M)} (hk42 : ∀ (x1 : Int32) (x2 : Int32) (D : am_M), k42 x1 x2 D = some (r, D') → am_Ex (am_E l m_X6_takeNumber false h0 Φ) prog_8_method_9_code (0, 0) 42 [(0, .ref 56), (1, .int x1), (2, .int x2)] [] (ly tw tp D)) : ∀ (x1 : Int32) (x2 : Int32) (s0 : Int32) (D : am_M), b_X6_takeNumber_113 k42 x1 x2 s0 D = some (r, D') → am_Ex (am_E l m_X6_takeNumber false h0 Φ) prog_8_method_9_code (0, 0) 113 [(0, .ref 56), (1, .int x1), (2, .int x2)] [.int s0, .ref 56] (ly tw tp D) := by
  intro x1 x2 s0 D h
  rw [b_X6_takeNumber_113] at h
  refine ly_puti rfl fl_X6_128 rfl rfl (am_dk tk_X6_takeNumber 57 rfl) ?_
  refine am_aload_n (j := 0) (am_dk tk_X6_takeNumber 58 rfl) rfl rfl ?_
  refine am_dup (am_dk tk_X6_takeNumber 59 rfl) rfl ?_
  refine ly_geti rfl fl_X6_110 rfl (am_dk tk_X6_takeNumber_1 0 rfl) ?_
  refine am_iconst (v := 1) (am_dk tk_X6_takeNumber_1 1 rfl) (by decide) ?_
  refine am_iadd (am_dk tk_X6_takeNumber_1 2 rfl) ?_
  refine ly_puti rfl fl_X6_110 rfl rfl (am_dk tk_X6_takeNumber_1 3 rfl) ?_
  refine am_goto (tgt := 42) (am_dk tk_X6_takeNumber_1 4 rfl) (by decide) ?_
  exact hk42 _ _ _ h
theorem bx_X6_takeNumber_42 {l : Launch} {h0 : am_H} {Φ : am_Ph} {tw : Nat} {tp : Bool}  {r : Int32} {D' : am_M} (hΦ : Φ (some (.int r)) (ly tw tp D')) : ∀ (n : Nat) (x1 : Int32) (x2 : Int32) (D : am_M), b_X6_takeNumber_42 n x1 x2 D = some (r, D') → am_Ex (am_E l m_X6_takeNumber false h0 Φ) prog_8_method_9_code (0, 0) 42 [(0, .ref 56), (1, .int x1), (2, .int x2)] [] (ly tw tp D) := by
  intro n
  induction n with
  | zero =>
    intro x1 x2 D h
    exact absurd h (by simp [b_X6_takeNumber_42])
  | succ n ih =>
    intro x1 x2 D h
    rw [b_X6_takeNumber_42] at h
    refine am_aload_n (j := 0) (am_dk tk_X6_takeNumber 22 rfl) rfl rfl ?_
    refine ly_geti rfl fl_X6_110 rfl (am_dk tk_X6_takeNumber 23 rfl) ?_
    refine am_aload_n (j := 0) (am_dk tk_X6_takeNumber 24 rfl) rfl rfl ?_
    refine ly_geti rfl fl_X6_106 rfl (am_dk tk_X6_takeNumber 25 rfl) ?_
    refine am_icmp_ge (tgt := 129) (am_dk tk_X6_takeNumber 26 rfl) (by decide) (fun hc50 => ?_) (fun hc50 => ?_)
    · rw [if_pos hc50] at h
      exact bx_X6_takeNumber_129  hΦ _ _ _ h
    · rw [if_neg hc50] at h
      refine am_aload_n (j := 0) (am_dk tk_X6_takeNumber 27 rfl) rfl rfl ?_
      refine ly_getr (b := 63) rfl fl_X6_28 rfl rfl (am_dk tk_X6_takeNumber 28 rfl) ?_
      refine am_aload_n (j := 0) (am_dk tk_X6_takeNumber 29 rfl) rfl rfl ?_
      refine ly_geti rfl fl_X6_110 rfl (am_dk tk_X6_takeNumber 30 rfl) ?_
      obtain ⟨hi61, h⟩ := am_chk h
      refine ly_iald (k := (D 56 16).toNatClampNeg) rfl (am_in_vp hi61) rfl (am_dk tk_X6_takeNumber 31 rfl) ?_
      refine am_i2l (am_dk tk_X6_takeNumber 32 rfl) ?_
      refine am_ldc2 kl_X6_117 (am_dk tk_X6_takeNumber 33 rfl) ?_
      refine am_ldc2 kl_X6_119 (am_dk tk_X6_takeNumber 34 rfl) ?_
      refine am_cS (M := m_X6_in) (As := [.long ((D 63 (D 56 16).toNatClampNeg).toInt64), .long 48, .long 57]) (st := []) (ct_X6_in _ _ _ _) ml_X6_99 ld_X6_in rfl ⟨Nat.le_of_ble_eq_true rfl, Nat.le_of_ble_eq_true rfl⟩ (Nat.le_of_ble_eq_true rfl) ⟨rfl, rfl⟩ ⟨Nat.le_of_ble_eq_true rfl, Nat.le_of_ble_eq_true rfl⟩ (am_dk tk_X6_takeNumber 35 rfl) (am_kki ?_)
      refine am_if_eq (tgt := 129) (am_dk tk_X6_takeNumber 36 rfl) (by decide) (fun hc72 => ?_) (fun hc72 => ?_)
      · rw [if_pos hc72] at h
        exact bx_X6_takeNumber_129  hΦ _ _ _ h
      · rw [if_neg hc72] at h
        refine am_aload_n (j := 0) (am_dk tk_X6_takeNumber 37 rfl) rfl rfl ?_
        refine am_aload_n (j := 0) (am_dk tk_X6_takeNumber 38 rfl) rfl rfl ?_
        refine ly_geti rfl fl_X6_128 rfl (am_dk tk_X6_takeNumber 39 rfl) ?_
        refine am_sipush (v := 10000) (am_dk tk_X6_takeNumber 40 rfl) (by decide) ?_
        refine am_icmp_le (tgt := 93) (am_dk tk_X6_takeNumber 41 rfl) (by decide) (fun hc83 => ?_) (fun hc83 => ?_)
        · simp only [if_pos hc83] at h
          refine am_bipush (v := 10) (am_dk tk_X6_takeNumber 45 rfl) (by decide) ?_
          refine am_aload_n (j := 0) (am_dk tk_X6_takeNumber 46 rfl) rfl rfl ?_
          refine ly_geti rfl fl_X6_128 rfl (am_dk tk_X6_takeNumber 47 rfl) ?_
          refine am_imul (am_dk tk_X6_takeNumber 48 rfl) ?_
          refine am_aload_n (j := 0) (am_dk tk_X6_takeNumber 49 rfl) rfl rfl ?_
          refine ly_getr (b := 63) rfl fl_X6_28 rfl rfl (am_dk tk_X6_takeNumber 50 rfl) ?_
          refine am_aload_n (j := 0) (am_dk tk_X6_takeNumber 51 rfl) rfl rfl ?_
          refine ly_geti rfl fl_X6_110 rfl (am_dk tk_X6_takeNumber 52 rfl) ?_
          refine ly_iald (k := (D 56 16).toNatClampNeg) rfl (am_in_vp hi61) rfl (am_dk tk_X6_takeNumber 53 rfl) ?_
          refine am_iadd (am_dk tk_X6_takeNumber 54 rfl) ?_
          refine am_bipush (v := 48) (am_dk tk_X6_takeNumber 55 rfl) (by decide) ?_
          refine am_isub (am_dk tk_X6_takeNumber 56 rfl) ?_
          exact bx_X6_takeNumber_113  hΦ (ih) _ _ _ _ h
        · simp only [if_neg hc83] at h
          refine am_aload_n (j := 0) (am_dk tk_X6_takeNumber 42 rfl) rfl rfl ?_
          refine ly_geti rfl fl_X6_128 rfl (am_dk tk_X6_takeNumber 43 rfl) ?_
          refine am_goto (tgt := 113) (am_dk tk_X6_takeNumber 44 rfl) (by decide) ?_
          exact bx_X6_takeNumber_113  hΦ (ih) _ _ _ _ h
theorem ct_X6_takeNumber {l : Launch} {tw : Nat} {tp : Bool}  {x1 : Int32} {x2 : Int32} {r : Int32} {D D' : am_M} (h : f_X6_takeNumber x1 x2 D = some (r, D')) : am_CT l m_X6_takeNumber false [.ref 56, .int x1, .int x2] (ly tw tp D) (am_is (some (.int r)) (ly tw tp D')) := by
  have hΦ : am_is (some (.int r)) (ly tw tp D') (some (.int r)) (ly tw tp D') := ⟨rfl, rfl⟩
  refine am_CT.of (by decide) (Nat.le_of_ble_eq_true rfl) ?_
  show am_Ex _ _ _ 0 [(0, .ref 56), (1, .int x1), (2, .int x2)] [] _
  rw [f_X6_takeNumber] at h
  refine am_aload_n (j := 0) (am_dk tk_X6_takeNumber 0 rfl) rfl rfl ?_
  obtain ⟨q1, hq1, h⟩ := am_bind h
  refine ly_cV (M := m_X6_here) (As := []) (b := 56) (st := []) (ct_X6_here hq1) rfl (by decide) rfl ml_X6_113 ld_X6_here rfl ⟨Nat.le_of_ble_eq_true rfl, Nat.le_of_ble_eq_true rfl⟩ (Nat.le_of_ble_eq_true rfl) ⟨rfl, rfl⟩ ⟨Nat.le_of_ble_eq_true rfl, Nat.le_of_ble_eq_true rfl⟩ (am_dk tk_X6_takeNumber 1 rfl) (am_kki ?_)
  refine am_istore_n (L' := [(3, .int q1.1), (0, .ref 56), (1, .int x1), (2, .int x2)]) (am_dk tk_X6_takeNumber 2 rfl) rfl (Nat.le_of_ble_eq_true rfl) rfl ?_
  refine am_iload_n (j := 0) (am_dk tk_X6_takeNumber 3 rfl) rfl rfl ?_
  refine am_i2l (am_dk tk_X6_takeNumber 4 rfl) ?_
  refine am_ldc2 kl_X6_117 (am_dk tk_X6_takeNumber 5 rfl) ?_
  refine am_ldc2 kl_X6_119 (am_dk tk_X6_takeNumber 6 rfl) ?_
  refine am_cS (M := m_X6_in) (As := [.long q1.1.toInt64, .long 48, .long 57]) (st := []) (ct_X6_in _ _ _ _) ml_X6_99 ld_X6_in rfl ⟨Nat.le_of_ble_eq_true rfl, Nat.le_of_ble_eq_true rfl⟩ (Nat.le_of_ble_eq_true rfl) ⟨rfl, rfl⟩ ⟨Nat.le_of_ble_eq_true rfl, Nat.le_of_ble_eq_true rfl⟩ (am_dk tk_X6_takeNumber 7 rfl) (am_kki ?_)
  refine am_if_ne (tgt := 29) (am_dk tk_X6_takeNumber 8 rfl) (by decide) (fun hc16 => ?_) (fun hc16 => ?_)
  · rw [if_neg hc16] at h
    refine am_aload_n (j := 1) (am_dk tk_X6_takeNumber 15 rfl) rfl rfl ?_
    refine am_aload_n (j := 1) (am_dk tk_X6_takeNumber 16 rfl) rfl rfl ?_
    refine ly_geti rfl fl_X6_110 rfl (am_dk tk_X6_takeNumber 17 rfl) ?_
    refine ly_puti rfl fl_X6_125 rfl rfl (am_dk tk_X6_takeNumber 18 rfl) ?_
    refine am_aload_n (j := 1) (am_dk tk_X6_takeNumber 19 rfl) rfl rfl ?_
    refine am_iconst (v := 0) (am_dk tk_X6_takeNumber 20 rfl) (by decide) ?_
    refine ly_puti rfl fl_X6_128 rfl rfl (am_dk tk_X6_takeNumber 21 rfl) ?_
    refine am_ls [1, 2, 3] rfl ?_
    exact bx_X6_takeNumber_42  hΦ am_N _ _ _ h
  · rw [if_pos hc16] at h
    refine am_aload_n (j := 1) (am_dk tk_X6_takeNumber 9 rfl) rfl rfl ?_
    refine am_iconst (v := 1) (am_dk tk_X6_takeNumber 10 rfl) (by decide) ?_
    refine am_aload_n (j := 1) (am_dk tk_X6_takeNumber 11 rfl) rfl rfl ?_
    refine ly_geti rfl fl_X6_110 rfl (am_dk tk_X6_takeNumber 12 rfl) ?_
    obtain ⟨q25, hq25, h⟩ := am_bind h
    refine ly_cV (M := m_X6_fails) (As := [.int 1, .int (q1.2 56 16)]) (b := 56) (st := []) (ct_X6_fails hq25) rfl (by decide) rfl ml_X6_121 ld_X6_fails rfl ⟨Nat.le_of_ble_eq_true rfl, Nat.le_of_ble_eq_true rfl⟩ (Nat.le_of_ble_eq_true rfl) ⟨rfl, rfl⟩ ⟨Nat.le_of_ble_eq_true rfl, Nat.le_of_ble_eq_true rfl⟩ (am_dk tk_X6_takeNumber 13 rfl) (am_kki ?_)
    exact am_iret rfl (am_r2 h hΦ) ⟨Nat.le_of_ble_eq_true rfl, Nat.le_of_ble_eq_true rfl⟩ (am_dk tk_X6_takeNumber 14 rfl)
abbrev m_X6_into : am_D := (yX6_into, prog_8_method_10_code, 6, (some .int), { frames := 2, cells := 0, slots := 0, locals := 48 })
theorem ld_X6_into : am_LD m_X6_into 4 := ⟨(am_tb 85 (by decide +kernel) (by decide +kernel)), (am_tb 995 (by decide +kernel) (by decide +kernel)), by decide, by decide, by decide +kernel⟩
def tb_X6_into : List (Nat × Instr × Nat) := [(0, .aload_n 0, 1), (1, .iload_n 3, 1), (2, .iload 4, 2), (4, .invokevirtual 131, 3), (7, .istore 5, 2), (9, .aload_n 1, 1), (10, .iload_n 2, 1), (11, .aload_n 0, 1), (12, .getfield 128, 3), (15, .iastore, 1), (16, .iload 5, 2), (18, .ireturn, 1)]
theorem tk_X6_into : am_tbl prog_8_method_10_code tb_X6_into = true := by decide +kernel
def f_X6_into (A nA : Nat) (x2 : Int32) (x3 : Int32) (x4 : Int32) (D : am_M) : Option (Int32 × am_M) := (f_X6_takeNumber x3 x4 D).bind fun q4 => if am_in x2 nA = true then some (q4.1, am_up q4.2 A x2.toNatClampNeg (q4.2 56 17)) else none
theorem ct_X6_into {l : Launch} {tw : Nat} {tp : Bool} {A nA : Nat} (hA : (lyS tp)[A]? = some (0, nA)) {x2 : Int32} {x3 : Int32} {x4 : Int32} {r : Int32} {D D' : am_M} (h : f_X6_into A nA x2 x3 x4 D = some (r, D')) : am_CT l m_X6_into false [.ref 56, .ref A, .int x2, .int x3, .int x4] (ly tw tp D) (am_is (some (.int r)) (ly tw tp D')) := by
  have hΦ : am_is (some (.int r)) (ly tw tp D') (some (.int r)) (ly tw tp D') := ⟨rfl, rfl⟩
  refine am_CT.of (by decide) (Nat.le_of_ble_eq_true rfl) ?_
  show am_Ex _ _ _ 0 [(0, .ref 56), (1, .ref A), (2, .int x2), (3, .int x3), (4, .int x4)] [] _
  rw [f_X6_into] at h
  refine am_aload_n (j := 0) (am_dk tk_X6_into 0 rfl) rfl rfl ?_
  refine am_iload_n (j := 3) (am_dk tk_X6_into 1 rfl) rfl rfl ?_
  refine am_iload (j := 4) (am_dk tk_X6_into 2 rfl) rfl ?_
  obtain ⟨q4, hq4, h⟩ := am_bind h
  refine ly_cV (M := m_X6_takeNumber) (As := [.int x3, .int x4]) (b := 56) (st := []) (ct_X6_takeNumber hq4) rfl (by decide) rfl ml_X6_131 ld_X6_takeNumber rfl ⟨Nat.le_of_ble_eq_true rfl, Nat.le_of_ble_eq_true rfl⟩ (Nat.le_of_ble_eq_true rfl) ⟨rfl, rfl⟩ ⟨Nat.le_of_ble_eq_true rfl, Nat.le_of_ble_eq_true rfl⟩ (am_dk tk_X6_into 3 rfl) (am_kki ?_)
  refine am_istore (L' := [(5, .int q4.1), (0, .ref 56), (1, .ref A), (2, .int x2), (3, .int x3), (4, .int x4)]) (am_dk tk_X6_into 4 rfl) (Nat.le_of_ble_eq_true rfl) rfl ?_
  refine am_aload_n (j := 2) (am_dk tk_X6_into 5 rfl) rfl rfl ?_
  refine am_iload_n (j := 3) (am_dk tk_X6_into 6 rfl) rfl rfl ?_
  refine am_aload_n (j := 1) (am_dk tk_X6_into 7 rfl) rfl rfl ?_
  refine ly_geti rfl fl_X6_128 rfl (am_dk tk_X6_into 8 rfl) ?_
  obtain ⟨hi15, h⟩ := am_chk h
  refine ly_iast (k := x2.toNatClampNeg) hA (am_in_vp hi15) rfl (am_dk tk_X6_into 9 rfl) ?_
  refine am_iload (j := 0) (am_dk tk_X6_into 10 rfl) rfl ?_
  exact am_iret rfl (am_r2 h hΦ) ⟨Nat.le_of_ble_eq_true rfl, Nat.le_of_ble_eq_true rfl⟩ (am_dk tk_X6_into 11 rfl)
abbrev m_X6_takeMint : am_D := (yX6_takeMint, prog_8_method_11_code, 2, (some .int), { frames := 3, cells := 0, slots := 0, locals := 73 })
theorem ld_X6_takeMint : am_LD m_X6_takeMint 0 := ⟨(am_tb 85 (by decide +kernel) (by decide +kernel)), (am_tb 991 (by decide +kernel) (by decide +kernel)), by decide, by decide, by decide +kernel⟩
def tb_X6_takeMint : List (Nat × Instr × Nat) := [(0, .aload_n 0, 1), (1, .aload_n 0, 1), (2, .getfield 35, 3), (5, .iconst 0, 1), (6, .iconst 1, 1), (7, .iconst 5, 1), (8, .invokevirtual 134, 3), (11, .istore_n 1, 1), (12, .iload_n 1, 1), (13, .ifCond .le 7, 3), (16, .iload_n 1, 1), (17, .goto 15, 3), (20, .aload_n 0, 1), (21, .aload_n 0, 1), (22, .getfield 35, 3), (25, .iconst 1, 1), (26, .iconst 2, 1), (27, .bipush 9, 2), (29, .invokevirtual 134, 3), (32, .istore_n 1, 1), (33, .iload_n 1, 1), (34, .ifCond .le 7, 3), (37, .iload_n 1, 1), (38, .goto 15, 3), (41, .aload_n 0, 1), (42, .aload_n 0, 1), (43, .getfield 35, 3), (46, .iconst 2, 1), (47, .iconst 1, 1), (48, .bipush 9, 2), (50, .invokevirtual 134, 3), (53, .ireturn, 1)]
theorem tk_X6_takeMint : am_tbl prog_8_method_11_code tb_X6_takeMint = true := by decide +kernel
def b_X6_takeMint_32 (s0 : Int32) (D : am_M) : Option (Int32 × am_M) := if s0 ≤ 0 then (f_X6_into 64 3 2 1 9 D).bind fun q50 => some (q50.1, q50.2) else some (s0, D)
def f_X6_takeMint (D : am_M) : Option (Int32 × am_M) := (f_X6_into 64 3 0 1 5 D).bind fun q8 => if q8.1 ≤ 0 then (f_X6_into 64 3 1 2 9 q8.2).bind fun q29 => b_X6_takeMint_32 q29.1 q29.2 else b_X6_takeMint_32 q8.1 q8.2
theorem bx_X6_takeMint_32 {l : Launch} {h0 : am_H} {Φ : am_Ph} {tw : Nat} {tp : Bool}  {r : Int32} {D' : am_M} (hΦ : Φ (some (.int r)) (ly tw tp D')) : ∀ (s0 : Int32) (D : am_M), b_X6_takeMint_32 s0 D = some (r, D') → am_Ex (am_E l m_X6_takeMint false h0 Φ) prog_8_method_11_code (0, 0) 32 [(0, .ref 56)] [.int s0] (ly tw tp D) := by
  intro s0 D h
  rw [b_X6_takeMint_32] at h
  refine am_istore_n (L' := [(1, .int s0), (0, .ref 56)]) (am_dk tk_X6_takeMint 19 rfl) rfl (Nat.le_of_ble_eq_true rfl) rfl ?_
  refine am_iload_n (j := 0) (am_dk tk_X6_takeMint 20 rfl) rfl rfl ?_
  refine am_if_le (tgt := 41) (am_dk tk_X6_takeMint 21 rfl) (by decide) (fun hc34 => ?_) (fun hc34 => ?_)
  · rw [if_pos hc34] at h
    refine am_aload_n (j := 1) (am_dk tk_X6_takeMint 24 rfl) rfl rfl ?_
    refine am_aload_n (j := 1) (am_dk tk_X6_takeMint 25 rfl) rfl rfl ?_
    refine ly_getr (b := 64) rfl fl_X6_35 rfl rfl (am_dk tk_X6_takeMint 26 rfl) ?_
    refine am_iconst (v := 2) (am_dk tk_X6_takeMint 27 rfl) (by decide) ?_
    refine am_iconst (v := 1) (am_dk tk_X6_takeMint 28 rfl) (by decide) ?_
    refine am_bipush (v := 9) (am_dk tk_X6_takeMint 29 rfl) (by decide) ?_
    obtain ⟨q50, hq50, h⟩ := am_bind h
    refine ly_cV (M := m_X6_into) (As := [.ref 64, .int 2, .int 1, .int 9]) (b := 56) (st := []) (ct_X6_into rfl hq50) rfl (by decide) rfl ml_X6_134 ld_X6_into rfl ⟨Nat.le_of_ble_eq_true rfl, Nat.le_of_ble_eq_true rfl⟩ (Nat.le_of_ble_eq_true rfl) ⟨rfl, rfl⟩ ⟨Nat.le_of_ble_eq_true rfl, Nat.le_of_ble_eq_true rfl⟩ (am_dk tk_X6_takeMint 30 rfl) (am_kki ?_)
    exact am_iret rfl (am_r2 h hΦ) ⟨Nat.le_of_ble_eq_true rfl, Nat.le_of_ble_eq_true rfl⟩ (am_dk tk_X6_takeMint 31 rfl)
  · rw [if_neg hc34] at h
    refine am_iload_n (j := 0) (am_dk tk_X6_takeMint 22 rfl) rfl rfl ?_
    refine am_goto (tgt := 53) (am_dk tk_X6_takeMint 23 rfl) (by decide) ?_
    exact am_iret rfl (am_r2 h hΦ) ⟨Nat.le_of_ble_eq_true rfl, Nat.le_of_ble_eq_true rfl⟩ (am_dk tk_X6_takeMint 31 rfl)
theorem ct_X6_takeMint {l : Launch} {tw : Nat} {tp : Bool}  {r : Int32} {D D' : am_M} (h : f_X6_takeMint D = some (r, D')) : am_CT l m_X6_takeMint false [.ref 56] (ly tw tp D) (am_is (some (.int r)) (ly tw tp D')) := by
  have hΦ : am_is (some (.int r)) (ly tw tp D') (some (.int r)) (ly tw tp D') := ⟨rfl, rfl⟩
  refine am_CT.of (by decide) (Nat.le_of_ble_eq_true rfl) ?_
  show am_Ex _ _ _ 0 [(0, .ref 56)] [] _
  rw [f_X6_takeMint] at h
  refine am_aload_n (j := 0) (am_dk tk_X6_takeMint 0 rfl) rfl rfl ?_
  refine am_aload_n (j := 0) (am_dk tk_X6_takeMint 1 rfl) rfl rfl ?_
  refine ly_getr (b := 64) rfl fl_X6_35 rfl rfl (am_dk tk_X6_takeMint 2 rfl) ?_
  refine am_iconst (v := 0) (am_dk tk_X6_takeMint 3 rfl) (by decide) ?_
  refine am_iconst (v := 1) (am_dk tk_X6_takeMint 4 rfl) (by decide) ?_
  refine am_iconst (v := 5) (am_dk tk_X6_takeMint 5 rfl) (by decide) ?_
  obtain ⟨q8, hq8, h⟩ := am_bind h
  refine ly_cV (M := m_X6_into) (As := [.ref 64, .int 0, .int 1, .int 5]) (b := 56) (st := []) (ct_X6_into rfl hq8) rfl (by decide) rfl ml_X6_134 ld_X6_into rfl ⟨Nat.le_of_ble_eq_true rfl, Nat.le_of_ble_eq_true rfl⟩ (Nat.le_of_ble_eq_true rfl) ⟨rfl, rfl⟩ ⟨Nat.le_of_ble_eq_true rfl, Nat.le_of_ble_eq_true rfl⟩ (am_dk tk_X6_takeMint 6 rfl) (am_kki ?_)
  refine am_istore_n (L' := [(1, .int q8.1), (0, .ref 56)]) (am_dk tk_X6_takeMint 7 rfl) rfl (Nat.le_of_ble_eq_true rfl) rfl ?_
  refine am_iload_n (j := 0) (am_dk tk_X6_takeMint 8 rfl) rfl rfl ?_
  refine am_if_le (tgt := 20) (am_dk tk_X6_takeMint 9 rfl) (by decide) (fun hc13 => ?_) (fun hc13 => ?_)
  · rw [if_pos hc13] at h
    refine am_aload_n (j := 1) (am_dk tk_X6_takeMint 12 rfl) rfl rfl ?_
    refine am_aload_n (j := 1) (am_dk tk_X6_takeMint 13 rfl) rfl rfl ?_
    refine ly_getr (b := 64) rfl fl_X6_35 rfl rfl (am_dk tk_X6_takeMint 14 rfl) ?_
    refine am_iconst (v := 1) (am_dk tk_X6_takeMint 15 rfl) (by decide) ?_
    refine am_iconst (v := 2) (am_dk tk_X6_takeMint 16 rfl) (by decide) ?_
    refine am_bipush (v := 9) (am_dk tk_X6_takeMint 17 rfl) (by decide) ?_
    obtain ⟨q29, hq29, h⟩ := am_bind h
    refine ly_cV (M := m_X6_into) (As := [.ref 64, .int 1, .int 2, .int 9]) (b := 56) (st := []) (ct_X6_into rfl hq29) rfl (by decide) rfl ml_X6_134 ld_X6_into rfl ⟨Nat.le_of_ble_eq_true rfl, Nat.le_of_ble_eq_true rfl⟩ (Nat.le_of_ble_eq_true rfl) ⟨rfl, rfl⟩ ⟨Nat.le_of_ble_eq_true rfl, Nat.le_of_ble_eq_true rfl⟩ (am_dk tk_X6_takeMint 18 rfl) (am_kki ?_)
    refine am_ls [1] rfl ?_
    exact bx_X6_takeMint_32  hΦ _ _ h
  · rw [if_neg hc13] at h
    refine am_iload_n (j := 0) (am_dk tk_X6_takeMint 10 rfl) rfl rfl ?_
    refine am_goto (tgt := 32) (am_dk tk_X6_takeMint 11 rfl) (by decide) ?_
    refine am_ls [1] rfl ?_
    exact bx_X6_takeMint_32  hΦ _ _ h
abbrev m_X6_takeRow : am_D := (yX6_takeRow, prog_8_method_12_code, 5, (some .int), { frames := 1, cells := 0, slots := 0, locals := 22 })
theorem ld_X6_takeRow : am_LD m_X6_takeRow 1 := ⟨(am_tb 85 (by decide +kernel) (by decide +kernel)), (am_tb 1009 (by decide +kernel) (by decide +kernel)), by decide, by decide, by decide +kernel⟩
def tb_X6_takeRow : List (Nat × Instr × Nat) := [(0, .iconst 0, 1), (1, .istore_n 2, 1), (2, .iload_n 2, 1), (3, .bipush 24, 2), (5, .if_icmp .ge 82, 3), (8, .aload_n 0, 1), (9, .invokevirtual 113, 3), (12, .istore_n 3, 1), (13, .iload_n 3, 1), (14, .bipush 122, 2), (16, .if_icmp .ne 7, 3), (19, .iconst 0, 1), (20, .goto 24, 3), (23, .iload_n 3, 1), (24, .bipush 119, 2), (26, .if_icmp .ne 7, 3), (29, .iconst 1, 1), (30, .goto 14, 3), (33, .iload_n 3, 1), (34, .bipush 46, 2), (36, .if_icmp .ne 7, 3), (39, .iconst 2, 1), (40, .goto 4, 3), (43, .iconst (-1), 1), (44, .istore 4, 2), (46, .iload 4, 2), (48, .ifCond .ge 13, 3), (51, .aload_n 0, 1), (52, .iconst 1, 1), (53, .aload_n 0, 1), (54, .getfield 110, 3), (57, .invokevirtual 121, 3), (60, .ireturn, 1), (61, .aload_n 0, 1), (62, .getfield 44, 3), (65, .iload_n 1, 1), (66, .iload_n 2, 1), (67, .iadd, 1), (68, .iload 4, 2), (70, .iastore, 1), (71, .aload_n 0, 1), (72, .dup, 1), (73, .getfield 110, 3), (76, .iconst 1, 1), (77, .iadd, 1), (78, .putfield 110, 3), (81, .iinc 2 1, 3), (84, .goto (-82), 3), (87, .iconst 0, 1), (88, .ireturn, 1)]
theorem tk_X6_takeRow : am_tbl prog_8_method_12_code tb_X6_takeRow = true := by decide +kernel
def b_X6_takeRow_44 (k2 : Int32 → Int32 → am_M → Option (Int32 × am_M)) (x1 : Int32) (x2 : Int32) (s0 : Int32) (D : am_M) : Option (Int32 × am_M) := if 0 ≤ s0 then if am_in (x1 + x2) 120 = true then k2 x1 (x2 + 1) (am_up (am_up D 67 (x1 + x2).toNatClampNeg s0) 56 16 (((am_up D 67 (x1 + x2).toNatClampNeg s0) 56 16) + 1)) else none else (f_X6_fails 1 (D 56 16) D).bind fun q57 => some (q57.1, q57.2)
def b_X6_takeRow_2 : Nat → Int32 → Int32 → am_M → Option (Int32 × am_M)
  | 0, _, _, _ => none
  | n + 1, x1, x2, D => if 24 ≤ x2 then some (0, D) else (f_X6_here D).bind fun q9 => b_X6_takeRow_44 (b_X6_takeRow_2 n) x1 x2 (if q9.1 = 122 then 0 else (if q9.1 = 119 then 1 else (if q9.1 = 46 then 2 else (-1)))) q9.2
def f_X6_takeRow (x1 : Int32) (D : am_M) : Option (Int32 × am_M) := b_X6_takeRow_2 am_N x1 0 D
theorem bx_X6_takeRow_44 {l : Launch} {h0 : am_H} {Φ : am_Ph} {tw : Nat} {tp : Bool}  {r : Int32} {D' : am_M} (hΦ : Φ (some (.int r)) (ly tw tp D')) {k2 : Int32 → Int32 → am_M → Option (Int32 × am_M)} (hk2 : ∀ (x1 : Int32) (x2 : Int32) (D : am_M), k2 x1 x2 D = some (r, D') → am_Ex (am_E l m_X6_takeRow false h0 Φ) prog_8_method_12_code (0, 0) 2 [(0, .ref 56), (1, .int x1), (2, .int x2)] [] (ly tw tp D)) : ∀ (x1 : Int32) (x2 : Int32) (s0 : Int32) (D : am_M), b_X6_takeRow_44 k2 x1 x2 s0 D = some (r, D') → am_Ex (am_E l m_X6_takeRow false h0 Φ) prog_8_method_12_code (0, 0) 44 [(0, .ref 56), (1, .int x1), (2, .int x2)] [.int s0] (ly tw tp D) := by
  intro x1 x2 s0 D h
  rw [b_X6_takeRow_44] at h
  refine am_istore (L' := [(4, .int s0), (0, .ref 56), (1, .int x1), (2, .int x2)]) (am_dk tk_X6_takeRow 24 rfl) (Nat.le_of_ble_eq_true rfl) rfl ?_
  refine am_iload (j := 0) (am_dk tk_X6_takeRow 25 rfl) rfl ?_
  refine am_if_ge (tgt := 61) (am_dk tk_X6_takeRow 26 rfl) (by decide) (fun hc48 => ?_) (fun hc48 => ?_)
  · rw [if_pos hc48] at h
    refine am_aload_n (j := 1) (am_dk tk_X6_takeRow 33 rfl) rfl rfl ?_
    refine ly_getr (b := 67) rfl fl_X6_44 rfl rfl (am_dk tk_X6_takeRow 34 rfl) ?_
    refine am_iload_n (j := 2) (am_dk tk_X6_takeRow 35 rfl) rfl rfl ?_
    refine am_iload_n (j := 3) (am_dk tk_X6_takeRow 36 rfl) rfl rfl ?_
    refine am_iadd (am_dk tk_X6_takeRow 37 rfl) ?_
    refine am_iload (j := 0) (am_dk tk_X6_takeRow 38 rfl) rfl ?_
    obtain ⟨hi70, h⟩ := am_chk h
    refine ly_iast (k := (x1 + x2).toNatClampNeg) rfl (am_in_vp hi70) rfl (am_dk tk_X6_takeRow 39 rfl) ?_
    refine am_aload_n (j := 1) (am_dk tk_X6_takeRow 40 rfl) rfl rfl ?_
    refine am_dup (am_dk tk_X6_takeRow 41 rfl) rfl ?_
    refine ly_geti rfl fl_X6_110 rfl (am_dk tk_X6_takeRow 42 rfl) ?_
    refine am_iconst (v := 1) (am_dk tk_X6_takeRow 43 rfl) (by decide) ?_
    refine am_iadd (am_dk tk_X6_takeRow 44 rfl) ?_
    refine ly_puti rfl fl_X6_110 rfl rfl (am_dk tk_X6_takeRow 45 rfl) ?_
    refine am_iinc (j := 3) (v := x2 + 1) (L' := [(2, .int (x2 + 1)), (4, .int s0), (0, .ref 56), (1, .int x1)]) (am_dk tk_X6_takeRow 46 rfl) rfl rfl (Nat.le_of_ble_eq_true rfl) rfl ?_
    refine am_goto (tgt := 2) (am_dk tk_X6_takeRow 47 rfl) (by decide) ?_
    refine am_ls [2, 3, 0] rfl ?_
    exact hk2 _ _ _ h
  · rw [if_neg hc48] at h
    refine am_aload_n (j := 1) (am_dk tk_X6_takeRow 27 rfl) rfl rfl ?_
    refine am_iconst (v := 1) (am_dk tk_X6_takeRow 28 rfl) (by decide) ?_
    refine am_aload_n (j := 1) (am_dk tk_X6_takeRow 29 rfl) rfl rfl ?_
    refine ly_geti rfl fl_X6_110 rfl (am_dk tk_X6_takeRow 30 rfl) ?_
    obtain ⟨q57, hq57, h⟩ := am_bind h
    refine ly_cV (M := m_X6_fails) (As := [.int 1, .int (D 56 16)]) (b := 56) (st := []) (ct_X6_fails hq57) rfl (by decide) rfl ml_X6_121 ld_X6_fails rfl ⟨Nat.le_of_ble_eq_true rfl, Nat.le_of_ble_eq_true rfl⟩ (Nat.le_of_ble_eq_true rfl) ⟨rfl, rfl⟩ ⟨Nat.le_of_ble_eq_true rfl, Nat.le_of_ble_eq_true rfl⟩ (am_dk tk_X6_takeRow 31 rfl) (am_kki ?_)
    exact am_iret rfl (am_r2 h hΦ) ⟨Nat.le_of_ble_eq_true rfl, Nat.le_of_ble_eq_true rfl⟩ (am_dk tk_X6_takeRow 32 rfl)
theorem bx_X6_takeRow_2 {l : Launch} {h0 : am_H} {Φ : am_Ph} {tw : Nat} {tp : Bool}  {r : Int32} {D' : am_M} (hΦ : Φ (some (.int r)) (ly tw tp D')) : ∀ (n : Nat) (x1 : Int32) (x2 : Int32) (D : am_M), b_X6_takeRow_2 n x1 x2 D = some (r, D') → am_Ex (am_E l m_X6_takeRow false h0 Φ) prog_8_method_12_code (0, 0) 2 [(0, .ref 56), (1, .int x1), (2, .int x2)] [] (ly tw tp D) := by
  intro n
  induction n with
  | zero =>
    intro x1 x2 D h
    exact absurd h (by simp [b_X6_takeRow_2])
  | succ n ih =>
    intro x1 x2 D h
    rw [b_X6_takeRow_2] at h
    refine am_iload_n (j := 2) (am_dk tk_X6_takeRow 2 rfl) rfl rfl ?_
    refine am_bipush (v := 24) (am_dk tk_X6_takeRow 3 rfl) (by decide) ?_
    refine am_icmp_ge (tgt := 87) (am_dk tk_X6_takeRow 4 rfl) (by decide) (fun hc5 => ?_) (fun hc5 => ?_)
    · rw [if_pos hc5] at h
      refine am_iconst (v := 0) (am_dk tk_X6_takeRow 48 rfl) (by decide) ?_
      exact am_iret rfl (am_r2 h hΦ) ⟨Nat.le_of_ble_eq_true rfl, Nat.le_of_ble_eq_true rfl⟩ (am_dk tk_X6_takeRow 49 rfl)
    · rw [if_neg hc5] at h
      refine am_aload_n (j := 0) (am_dk tk_X6_takeRow 5 rfl) rfl rfl ?_
      obtain ⟨q9, hq9, h⟩ := am_bind h
      refine ly_cV (M := m_X6_here) (As := []) (b := 56) (st := []) (ct_X6_here hq9) rfl (by decide) rfl ml_X6_113 ld_X6_here rfl ⟨Nat.le_of_ble_eq_true rfl, Nat.le_of_ble_eq_true rfl⟩ (Nat.le_of_ble_eq_true rfl) ⟨rfl, rfl⟩ ⟨Nat.le_of_ble_eq_true rfl, Nat.le_of_ble_eq_true rfl⟩ (am_dk tk_X6_takeRow 6 rfl) (am_kki ?_)
      refine am_istore_n (L' := [(3, .int q9.1), (0, .ref 56), (1, .int x1), (2, .int x2)]) (am_dk tk_X6_takeRow 7 rfl) rfl (Nat.le_of_ble_eq_true rfl) rfl ?_
      refine am_iload_n (j := 0) (am_dk tk_X6_takeRow 8 rfl) rfl rfl ?_
      refine am_bipush (v := 122) (am_dk tk_X6_takeRow 9 rfl) (by decide) ?_
      refine am_icmp_ne (tgt := 23) (am_dk tk_X6_takeRow 10 rfl) (by decide) (fun hc16 => ?_) (fun hc16 => ?_)
      · simp only [if_neg hc16] at h
        refine am_iload_n (j := 0) (am_dk tk_X6_takeRow 13 rfl) rfl rfl ?_
        refine am_bipush (v := 119) (am_dk tk_X6_takeRow 14 rfl) (by decide) ?_
        refine am_icmp_ne (tgt := 33) (am_dk tk_X6_takeRow 15 rfl) (by decide) (fun hc26 => ?_) (fun hc26 => ?_)
        · simp only [if_neg hc26] at h
          refine am_iload_n (j := 0) (am_dk tk_X6_takeRow 18 rfl) rfl rfl ?_
          refine am_bipush (v := 46) (am_dk tk_X6_takeRow 19 rfl) (by decide) ?_
          refine am_icmp_ne (tgt := 43) (am_dk tk_X6_takeRow 20 rfl) (by decide) (fun hc36 => ?_) (fun hc36 => ?_)
          · simp only [if_neg hc36] at h
            refine am_iconst (v := (-1)) (am_dk tk_X6_takeRow 23 rfl) (by decide) ?_
            refine am_ls [1, 2, 3] rfl ?_
            exact bx_X6_takeRow_44  hΦ (ih) _ _ _ _ h
          · simp only [if_pos hc36] at h
            refine am_iconst (v := 2) (am_dk tk_X6_takeRow 21 rfl) (by decide) ?_
            refine am_goto (tgt := 44) (am_dk tk_X6_takeRow 22 rfl) (by decide) ?_
            refine am_ls [1, 2, 3] rfl ?_
            exact bx_X6_takeRow_44  hΦ (ih) _ _ _ _ h
        · simp only [if_pos hc26] at h
          refine am_iconst (v := 1) (am_dk tk_X6_takeRow 16 rfl) (by decide) ?_
          refine am_goto (tgt := 44) (am_dk tk_X6_takeRow 17 rfl) (by decide) ?_
          refine am_ls [1, 2, 3] rfl ?_
          exact bx_X6_takeRow_44  hΦ (ih) _ _ _ _ h
      · simp only [if_pos hc16] at h
        refine am_iconst (v := 0) (am_dk tk_X6_takeRow 11 rfl) (by decide) ?_
        refine am_goto (tgt := 44) (am_dk tk_X6_takeRow 12 rfl) (by decide) ?_
        refine am_ls [1, 2, 3] rfl ?_
        exact bx_X6_takeRow_44  hΦ (ih) _ _ _ _ h
theorem ct_X6_takeRow {l : Launch} {tw : Nat} {tp : Bool}  {x1 : Int32} {r : Int32} {D D' : am_M} (h : f_X6_takeRow x1 D = some (r, D')) : am_CT l m_X6_takeRow false [.ref 56, .int x1] (ly tw tp D) (am_is (some (.int r)) (ly tw tp D')) := by
  have hΦ : am_is (some (.int r)) (ly tw tp D') (some (.int r)) (ly tw tp D') := ⟨rfl, rfl⟩
  refine am_CT.of (by decide) (Nat.le_of_ble_eq_true rfl) ?_
  show am_Ex _ _ _ 0 [(0, .ref 56), (1, .int x1)] [] _
  rw [f_X6_takeRow] at h
  refine am_iconst (v := 0) (am_dk tk_X6_takeRow 0 rfl) (by decide) ?_
  refine am_istore_n (L' := [(2, .int 0), (0, .ref 56), (1, .int x1)]) (am_dk tk_X6_takeRow 1 rfl) rfl (Nat.le_of_ble_eq_true rfl) rfl ?_
  refine am_ls [1, 2, 0] rfl ?_
  exact bx_X6_takeRow_2  hΦ am_N _ _ _ h
abbrev m_X6_takePerson : am_D := (yX6_takePerson, prog_8_method_13_code, 3, (some .int), { frames := 3, cells := 0, slots := 0, locals := 73 })
theorem ld_X6_takePerson : am_LD m_X6_takePerson 0 := ⟨(am_tb 85 (by decide +kernel) (by decide +kernel)), (am_tb 1005 (by decide +kernel) (by decide +kernel)), by decide, by decide, by decide +kernel⟩
def tb_X6_takePerson : List (Nat × Instr × Nat) := [(0, .aload_n 0, 1), (1, .getfield 138, 3), (4, .istore_n 1, 1), (5, .aload_n 0, 1), (6, .dup, 1), (7, .getfield 138, 3), (10, .iconst 1, 1), (11, .iadd, 1), (12, .putfield 138, 3), (15, .aload_n 0, 1), (16, .getfield 47, 3), (19, .iload_n 1, 1), (20, .iconst 1, 1), (21, .iastore, 1), (22, .aload_n 0, 1), (23, .aload_n 0, 1), (24, .getfield 38, 3), (27, .iload_n 1, 1), (28, .iconst 0, 1), (29, .bipush 60, 2), (31, .invokevirtual 134, 3), (34, .istore_n 2, 1), (35, .iload_n 2, 1), (36, .ifCond .le 7, 3), (39, .iload_n 2, 1), (40, .goto 15, 3), (43, .aload_n 0, 1), (44, .aload_n 0, 1), (45, .getfield 41, 3), (48, .iload_n 1, 1), (49, .iconst 0, 1), (50, .bipush 99, 2), (52, .invokevirtual 134, 3), (55, .istore_n 2, 1), (56, .iload_n 2, 1), (57, .ifCond .le 7, 3), (60, .iload_n 2, 1), (61, .goto 11, 3), (64, .aload_n 0, 1), (65, .bipush 24, 2), (67, .iload_n 1, 1), (68, .imul, 1), (69, .invokevirtual 141, 3), (72, .ireturn, 1)]
theorem tk_X6_takePerson : am_tbl prog_8_method_13_code tb_X6_takePerson = true := by decide +kernel
def b_X6_takePerson_55 (x1 : Int32) (s0 : Int32) (D : am_M) : Option (Int32 × am_M) := if s0 ≤ 0 then (f_X6_takeRow (24 * x1) D).bind fun q69 => some (q69.1, q69.2) else some (s0, D)
def f_X6_takePerson (D : am_M) : Option (Int32 × am_M) := if am_in (D 56 20) 5 = true then (f_X6_into 65 5 (D 56 20) 0 60 (am_up (am_up D 56 20 ((D 56 20) + 1)) 68 (D 56 20).toNatClampNeg 1)).bind fun q31 => if q31.1 ≤ 0 then (f_X6_into 66 5 (D 56 20) 0 99 q31.2).bind fun q52 => b_X6_takePerson_55 (D 56 20) q52.1 q52.2 else b_X6_takePerson_55 (D 56 20) q31.1 q31.2 else none
theorem bx_X6_takePerson_55 {l : Launch} {h0 : am_H} {Φ : am_Ph} {tw : Nat} {tp : Bool}  {r : Int32} {D' : am_M} (hΦ : Φ (some (.int r)) (ly tw tp D')) : ∀ (x1 : Int32) (s0 : Int32) (D : am_M), b_X6_takePerson_55 x1 s0 D = some (r, D') → am_Ex (am_E l m_X6_takePerson false h0 Φ) prog_8_method_13_code (0, 0) 55 [(0, .ref 56), (1, .int x1)] [.int s0] (ly tw tp D) := by
  intro x1 s0 D h
  rw [b_X6_takePerson_55] at h
  refine am_istore_n (L' := [(2, .int s0), (0, .ref 56), (1, .int x1)]) (am_dk tk_X6_takePerson 33 rfl) rfl (Nat.le_of_ble_eq_true rfl) rfl ?_
  refine am_iload_n (j := 0) (am_dk tk_X6_takePerson 34 rfl) rfl rfl ?_
  refine am_if_le (tgt := 64) (am_dk tk_X6_takePerson 35 rfl) (by decide) (fun hc57 => ?_) (fun hc57 => ?_)
  · rw [if_pos hc57] at h
    refine am_aload_n (j := 1) (am_dk tk_X6_takePerson 38 rfl) rfl rfl ?_
    refine am_bipush (v := 24) (am_dk tk_X6_takePerson 39 rfl) (by decide) ?_
    refine am_iload_n (j := 2) (am_dk tk_X6_takePerson 40 rfl) rfl rfl ?_
    refine am_imul (am_dk tk_X6_takePerson 41 rfl) ?_
    obtain ⟨q69, hq69, h⟩ := am_bind h
    refine ly_cV (M := m_X6_takeRow) (As := [.int (24 * x1)]) (b := 56) (st := []) (ct_X6_takeRow hq69) rfl (by decide) rfl ml_X6_141 ld_X6_takeRow rfl ⟨Nat.le_of_ble_eq_true rfl, Nat.le_of_ble_eq_true rfl⟩ (Nat.le_of_ble_eq_true rfl) ⟨rfl, rfl⟩ ⟨Nat.le_of_ble_eq_true rfl, Nat.le_of_ble_eq_true rfl⟩ (am_dk tk_X6_takePerson 42 rfl) (am_kki ?_)
    exact am_iret rfl (am_r2 h hΦ) ⟨Nat.le_of_ble_eq_true rfl, Nat.le_of_ble_eq_true rfl⟩ (am_dk tk_X6_takePerson 43 rfl)
  · rw [if_neg hc57] at h
    refine am_iload_n (j := 0) (am_dk tk_X6_takePerson 36 rfl) rfl rfl ?_
    refine am_goto (tgt := 72) (am_dk tk_X6_takePerson 37 rfl) (by decide) ?_
    exact am_iret rfl (am_r2 h hΦ) ⟨Nat.le_of_ble_eq_true rfl, Nat.le_of_ble_eq_true rfl⟩ (am_dk tk_X6_takePerson 43 rfl)
theorem ct_X6_takePerson {l : Launch} {tw : Nat} {tp : Bool}  {r : Int32} {D D' : am_M} (h : f_X6_takePerson D = some (r, D')) : am_CT l m_X6_takePerson false [.ref 56] (ly tw tp D) (am_is (some (.int r)) (ly tw tp D')) := by
  have hΦ : am_is (some (.int r)) (ly tw tp D') (some (.int r)) (ly tw tp D') := ⟨rfl, rfl⟩
  refine am_CT.of (by decide) (Nat.le_of_ble_eq_true rfl) ?_
  show am_Ex _ _ _ 0 [(0, .ref 56)] [] _
  rw [f_X6_takePerson] at h
  refine am_aload_n (j := 0) (am_dk tk_X6_takePerson 0 rfl) rfl rfl ?_
  refine ly_geti rfl fl_X6_138 rfl (am_dk tk_X6_takePerson 1 rfl) ?_
  refine am_istore_n (L' := [(1, .int (D 56 20)), (0, .ref 56)]) (am_dk tk_X6_takePerson 2 rfl) rfl (Nat.le_of_ble_eq_true rfl) rfl ?_
  refine am_aload_n (j := 1) (am_dk tk_X6_takePerson 3 rfl) rfl rfl ?_
  refine am_dup (am_dk tk_X6_takePerson 4 rfl) rfl ?_
  refine ly_geti rfl fl_X6_138 rfl (am_dk tk_X6_takePerson 5 rfl) ?_
  refine am_iconst (v := 1) (am_dk tk_X6_takePerson 6 rfl) (by decide) ?_
  refine am_iadd (am_dk tk_X6_takePerson 7 rfl) ?_
  refine ly_puti rfl fl_X6_138 rfl rfl (am_dk tk_X6_takePerson 8 rfl) ?_
  refine am_aload_n (j := 1) (am_dk tk_X6_takePerson 9 rfl) rfl rfl ?_
  refine ly_getr (b := 68) rfl fl_X6_47 rfl rfl (am_dk tk_X6_takePerson 10 rfl) ?_
  refine am_iload_n (j := 0) (am_dk tk_X6_takePerson 11 rfl) rfl rfl ?_
  refine am_iconst (v := 1) (am_dk tk_X6_takePerson 12 rfl) (by decide) ?_
  obtain ⟨hi21, h⟩ := am_chk h
  refine ly_iast (k := (D 56 20).toNatClampNeg) rfl (am_in_vp hi21) rfl (am_dk tk_X6_takePerson 13 rfl) ?_
  refine am_aload_n (j := 1) (am_dk tk_X6_takePerson 14 rfl) rfl rfl ?_
  refine am_aload_n (j := 1) (am_dk tk_X6_takePerson 15 rfl) rfl rfl ?_
  refine ly_getr (b := 65) rfl fl_X6_38 rfl rfl (am_dk tk_X6_takePerson 16 rfl) ?_
  refine am_iload_n (j := 0) (am_dk tk_X6_takePerson 17 rfl) rfl rfl ?_
  refine am_iconst (v := 0) (am_dk tk_X6_takePerson 18 rfl) (by decide) ?_
  refine am_bipush (v := 60) (am_dk tk_X6_takePerson 19 rfl) (by decide) ?_
  obtain ⟨q31, hq31, h⟩ := am_bind h
  refine ly_cV (M := m_X6_into) (As := [.ref 65, .int (D 56 20), .int 0, .int 60]) (b := 56) (st := []) (ct_X6_into rfl hq31) rfl (by decide) rfl ml_X6_134 ld_X6_into rfl ⟨Nat.le_of_ble_eq_true rfl, Nat.le_of_ble_eq_true rfl⟩ (Nat.le_of_ble_eq_true rfl) ⟨rfl, rfl⟩ ⟨Nat.le_of_ble_eq_true rfl, Nat.le_of_ble_eq_true rfl⟩ (am_dk tk_X6_takePerson 20 rfl) (am_kki ?_)
  refine am_istore_n (L' := [(2, .int q31.1), (1, .int (D 56 20)), (0, .ref 56)]) (am_dk tk_X6_takePerson 21 rfl) rfl (Nat.le_of_ble_eq_true rfl) rfl ?_
  refine am_iload_n (j := 0) (am_dk tk_X6_takePerson 22 rfl) rfl rfl ?_
  refine am_if_le (tgt := 43) (am_dk tk_X6_takePerson 23 rfl) (by decide) (fun hc36 => ?_) (fun hc36 => ?_)
  · rw [if_pos hc36] at h
    refine am_aload_n (j := 2) (am_dk tk_X6_takePerson 26 rfl) rfl rfl ?_
    refine am_aload_n (j := 2) (am_dk tk_X6_takePerson 27 rfl) rfl rfl ?_
    refine ly_getr (b := 66) rfl fl_X6_41 rfl rfl (am_dk tk_X6_takePerson 28 rfl) ?_
    refine am_iload_n (j := 1) (am_dk tk_X6_takePerson 29 rfl) rfl rfl ?_
    refine am_iconst (v := 0) (am_dk tk_X6_takePerson 30 rfl) (by decide) ?_
    refine am_bipush (v := 99) (am_dk tk_X6_takePerson 31 rfl) (by decide) ?_
    obtain ⟨q52, hq52, h⟩ := am_bind h
    refine ly_cV (M := m_X6_into) (As := [.ref 66, .int (D 56 20), .int 0, .int 99]) (b := 56) (st := []) (ct_X6_into rfl hq52) rfl (by decide) rfl ml_X6_134 ld_X6_into rfl ⟨Nat.le_of_ble_eq_true rfl, Nat.le_of_ble_eq_true rfl⟩ (Nat.le_of_ble_eq_true rfl) ⟨rfl, rfl⟩ ⟨Nat.le_of_ble_eq_true rfl, Nat.le_of_ble_eq_true rfl⟩ (am_dk tk_X6_takePerson 32 rfl) (am_kki ?_)
    refine am_ls [2, 1] rfl ?_
    exact bx_X6_takePerson_55  hΦ _ _ _ h
  · rw [if_neg hc36] at h
    refine am_iload_n (j := 0) (am_dk tk_X6_takePerson 24 rfl) rfl rfl ?_
    refine am_goto (tgt := 55) (am_dk tk_X6_takePerson 25 rfl) (by decide) ?_
    refine am_ls [2, 1] rfl ?_
    exact bx_X6_takePerson_55  hΦ _ _ _ h
abbrev m_X6_takeCoin : am_D := (yX6_takeCoin, prog_8_method_14_code, 3, (some .int), { frames := 3, cells := 0, slots := 0, locals := 73 })
theorem ld_X6_takeCoin : am_LD m_X6_takeCoin 0 := ⟨(am_tb 85 (by decide +kernel) (by decide +kernel)), (am_tb 1013 (by decide +kernel) (by decide +kernel)), by decide, by decide, by decide +kernel⟩
def tb_X6_takeCoin : List (Nat × Instr × Nat) := [(0, .aload_n 0, 1), (1, .aload_n 0, 1), (2, .getfield 50, 3), (5, .aload_n 0, 1), (6, .getfield 145, 3), (9, .iconst 2, 1), (10, .bipush 60, 2), (12, .invokevirtual 134, 3), (15, .istore_n 1, 1), (16, .iconst 0, 1), (17, .istore_n 2, 1), (18, .iload_n 2, 1), (19, .aload_n 0, 1), (20, .getfield 145, 3), (23, .if_icmp .ge 40, 3), (26, .iload_n 1, 1), (27, .ifCond .ne 36, 3), (30, .aload_n 0, 1), (31, .getfield 50, 3), (34, .iload_n 2, 1), (35, .iaload, 1), (36, .aload_n 0, 1), (37, .getfield 128, 3), (40, .if_icmp .ne 15, 3), (43, .aload_n 0, 1), (44, .iconst 4, 1), (45, .aload_n 0, 1), (46, .getfield 125, 3), (49, .invokevirtual 121, 3), (52, .goto 4, 3), (55, .iconst 0, 1), (56, .istore_n 1, 1), (57, .iinc 2 1, 3), (60, .goto (-42), 3), (63, .aload_n 0, 1), (64, .dup, 1), (65, .getfield 145, 3), (68, .iconst 1, 1), (69, .iadd, 1), (70, .putfield 145, 3), (73, .iload_n 1, 1), (74, .ireturn, 1)]
theorem tk_X6_takeCoin : am_tbl prog_8_method_14_code tb_X6_takeCoin = true := by decide +kernel
def b_X6_takeCoin_63 (x1 : Int32) (D : am_M) : Option (Int32 × am_M) := some (x1, am_up D 56 26 ((D 56 26) + 1))
def b_X6_takeCoin_18 : Nat → Int32 → Int32 → am_M → Option (Int32 × am_M)
  | 0, _, _, _ => none
  | n + 1, x1, x2, D => if (D 56 26) ≤ x2 then b_X6_takeCoin_63 x1 D else if x1 = 0 then if am_in x2 4 = true then if (D 69 x2.toNatClampNeg) = (D 56 17) then (f_X6_fails 4 (D 56 18) D).bind fun q49 => b_X6_takeCoin_18 n q49.1 (x2 + 1) q49.2 else b_X6_takeCoin_18 n 0 (x2 + 1) D else none else b_X6_takeCoin_63 x1 D
def f_X6_takeCoin (D : am_M) : Option (Int32 × am_M) := (f_X6_into 69 4 (D 56 26) 2 60 D).bind fun q12 => b_X6_takeCoin_18 am_N q12.1 0 q12.2
theorem bx_X6_takeCoin_63 {l : Launch} {h0 : am_H} {Φ : am_Ph} {tw : Nat} {tp : Bool}  {r : Int32} {D' : am_M} (hΦ : Φ (some (.int r)) (ly tw tp D')) : ∀ (x1 : Int32) (D : am_M), b_X6_takeCoin_63 x1 D = some (r, D') → am_Ex (am_E l m_X6_takeCoin false h0 Φ) prog_8_method_14_code (0, 0) 63 [(0, .ref 56), (1, .int x1)] [] (ly tw tp D) := by
  intro x1 D h
  rw [b_X6_takeCoin_63] at h
  refine am_aload_n (j := 0) (am_dk tk_X6_takeCoin 34 rfl) rfl rfl ?_
  refine am_dup (am_dk tk_X6_takeCoin 35 rfl) rfl ?_
  refine ly_geti rfl fl_X6_145 rfl (am_dk tk_X6_takeCoin 36 rfl) ?_
  refine am_iconst (v := 1) (am_dk tk_X6_takeCoin 37 rfl) (by decide) ?_
  refine am_iadd (am_dk tk_X6_takeCoin 38 rfl) ?_
  refine ly_puti rfl fl_X6_145 rfl rfl (am_dk tk_X6_takeCoin 39 rfl) ?_
  refine am_iload_n (j := 1) (am_dk tk_X6_takeCoin 40 rfl) rfl rfl ?_
  exact am_iret rfl (am_r2 h hΦ) ⟨Nat.le_of_ble_eq_true rfl, Nat.le_of_ble_eq_true rfl⟩ (am_dk tk_X6_takeCoin 41 rfl)
theorem bx_X6_takeCoin_18 {l : Launch} {h0 : am_H} {Φ : am_Ph} {tw : Nat} {tp : Bool}  {r : Int32} {D' : am_M} (hΦ : Φ (some (.int r)) (ly tw tp D')) : ∀ (n : Nat) (x1 : Int32) (x2 : Int32) (D : am_M), b_X6_takeCoin_18 n x1 x2 D = some (r, D') → am_Ex (am_E l m_X6_takeCoin false h0 Φ) prog_8_method_14_code (0, 0) 18 [(0, .ref 56), (1, .int x1), (2, .int x2)] [] (ly tw tp D) := by
  intro n
  induction n with
  | zero =>
    intro x1 x2 D h
    exact absurd h (by simp [b_X6_takeCoin_18])
  | succ n ih =>
    intro x1 x2 D h
    rw [b_X6_takeCoin_18] at h
    refine am_iload_n (j := 2) (am_dk tk_X6_takeCoin 11 rfl) rfl rfl ?_
    refine am_aload_n (j := 0) (am_dk tk_X6_takeCoin 12 rfl) rfl rfl ?_
    refine ly_geti rfl fl_X6_145 rfl (am_dk tk_X6_takeCoin 13 rfl) ?_
    refine am_icmp_ge (tgt := 63) (am_dk tk_X6_takeCoin 14 rfl) (by decide) (fun hc23 => ?_) (fun hc23 => ?_)
    · rw [if_pos hc23] at h
      refine am_ls [0, 1] rfl ?_
      exact bx_X6_takeCoin_63  hΦ _ _ h
    · rw [if_neg hc23] at h
      refine am_iload_n (j := 1) (am_dk tk_X6_takeCoin 15 rfl) rfl rfl ?_
      refine am_if_ne (tgt := 63) (am_dk tk_X6_takeCoin 16 rfl) (by decide) (fun hc27 => ?_) (fun hc27 => ?_)
      · rw [if_neg hc27] at h
        refine am_ls [0, 1] rfl ?_
        exact bx_X6_takeCoin_63  hΦ _ _ h
      · rw [if_pos hc27] at h
        refine am_aload_n (j := 0) (am_dk tk_X6_takeCoin 17 rfl) rfl rfl ?_
        refine ly_getr (b := 69) rfl fl_X6_50 rfl rfl (am_dk tk_X6_takeCoin 18 rfl) ?_
        refine am_iload_n (j := 2) (am_dk tk_X6_takeCoin 19 rfl) rfl rfl ?_
        obtain ⟨hi35, h⟩ := am_chk h
        refine ly_iald (k := x2.toNatClampNeg) rfl (am_in_vp hi35) rfl (am_dk tk_X6_takeCoin 20 rfl) ?_
        refine am_aload_n (j := 0) (am_dk tk_X6_takeCoin 21 rfl) rfl rfl ?_
        refine ly_geti rfl fl_X6_128 rfl (am_dk tk_X6_takeCoin 22 rfl) ?_
        refine am_icmp_ne (tgt := 55) (am_dk tk_X6_takeCoin 23 rfl) (by decide) (fun hc40 => ?_) (fun hc40 => ?_)
        · rw [if_neg hc40] at h
          refine am_iconst (v := 0) (am_dk tk_X6_takeCoin 30 rfl) (by decide) ?_
          refine am_istore_n (L' := [(1, .int 0), (0, .ref 56), (2, .int x2)]) (am_dk tk_X6_takeCoin 31 rfl) rfl (Nat.le_of_ble_eq_true rfl) rfl ?_
          refine am_iinc (j := 2) (v := x2 + 1) (L' := [(2, .int (x2 + 1)), (1, .int 0), (0, .ref 56)]) (am_dk tk_X6_takeCoin 32 rfl) rfl rfl (Nat.le_of_ble_eq_true rfl) rfl ?_
          refine am_goto (tgt := 18) (am_dk tk_X6_takeCoin 33 rfl) (by decide) ?_
          refine am_ls [2, 1, 0] rfl ?_
          exact ih _ _ _ h
        · rw [if_pos hc40] at h
          refine am_aload_n (j := 0) (am_dk tk_X6_takeCoin 24 rfl) rfl rfl ?_
          refine am_iconst (v := 4) (am_dk tk_X6_takeCoin 25 rfl) (by decide) ?_
          refine am_aload_n (j := 0) (am_dk tk_X6_takeCoin 26 rfl) rfl rfl ?_
          refine ly_geti rfl fl_X6_125 rfl (am_dk tk_X6_takeCoin 27 rfl) ?_
          obtain ⟨q49, hq49, h⟩ := am_bind h
          refine ly_cV (M := m_X6_fails) (As := [.int 4, .int (D 56 18)]) (b := 56) (st := []) (ct_X6_fails hq49) rfl (by decide) rfl ml_X6_121 ld_X6_fails rfl ⟨Nat.le_of_ble_eq_true rfl, Nat.le_of_ble_eq_true rfl⟩ (Nat.le_of_ble_eq_true rfl) ⟨rfl, rfl⟩ ⟨Nat.le_of_ble_eq_true rfl, Nat.le_of_ble_eq_true rfl⟩ (am_dk tk_X6_takeCoin 28 rfl) (am_kki ?_)
          refine am_goto (tgt := 56) (am_dk tk_X6_takeCoin 29 rfl) (by decide) ?_
          refine am_istore_n (L' := [(1, .int q49.1), (0, .ref 56), (2, .int x2)]) (am_dk tk_X6_takeCoin 31 rfl) rfl (Nat.le_of_ble_eq_true rfl) rfl ?_
          refine am_iinc (j := 2) (v := x2 + 1) (L' := [(2, .int (x2 + 1)), (1, .int q49.1), (0, .ref 56)]) (am_dk tk_X6_takeCoin 32 rfl) rfl rfl (Nat.le_of_ble_eq_true rfl) rfl ?_
          refine am_goto (tgt := 18) (am_dk tk_X6_takeCoin 33 rfl) (by decide) ?_
          refine am_ls [2, 1, 0] rfl ?_
          exact ih _ _ _ h
theorem ct_X6_takeCoin {l : Launch} {tw : Nat} {tp : Bool}  {r : Int32} {D D' : am_M} (h : f_X6_takeCoin D = some (r, D')) : am_CT l m_X6_takeCoin false [.ref 56] (ly tw tp D) (am_is (some (.int r)) (ly tw tp D')) := by
  have hΦ : am_is (some (.int r)) (ly tw tp D') (some (.int r)) (ly tw tp D') := ⟨rfl, rfl⟩
  refine am_CT.of (by decide) (Nat.le_of_ble_eq_true rfl) ?_
  show am_Ex _ _ _ 0 [(0, .ref 56)] [] _
  rw [f_X6_takeCoin] at h
  refine am_aload_n (j := 0) (am_dk tk_X6_takeCoin 0 rfl) rfl rfl ?_
  refine am_aload_n (j := 0) (am_dk tk_X6_takeCoin 1 rfl) rfl rfl ?_
  refine ly_getr (b := 69) rfl fl_X6_50 rfl rfl (am_dk tk_X6_takeCoin 2 rfl) ?_
  refine am_aload_n (j := 0) (am_dk tk_X6_takeCoin 3 rfl) rfl rfl ?_
  refine ly_geti rfl fl_X6_145 rfl (am_dk tk_X6_takeCoin 4 rfl) ?_
  refine am_iconst (v := 2) (am_dk tk_X6_takeCoin 5 rfl) (by decide) ?_
  refine am_bipush (v := 60) (am_dk tk_X6_takeCoin 6 rfl) (by decide) ?_
  obtain ⟨q12, hq12, h⟩ := am_bind h
  refine ly_cV (M := m_X6_into) (As := [.ref 69, .int (D 56 26), .int 2, .int 60]) (b := 56) (st := []) (ct_X6_into rfl hq12) rfl (by decide) rfl ml_X6_134 ld_X6_into rfl ⟨Nat.le_of_ble_eq_true rfl, Nat.le_of_ble_eq_true rfl⟩ (Nat.le_of_ble_eq_true rfl) ⟨rfl, rfl⟩ ⟨Nat.le_of_ble_eq_true rfl, Nat.le_of_ble_eq_true rfl⟩ (am_dk tk_X6_takeCoin 7 rfl) (am_kki ?_)
  refine am_istore_n (L' := [(1, .int q12.1), (0, .ref 56)]) (am_dk tk_X6_takeCoin 8 rfl) rfl (Nat.le_of_ble_eq_true rfl) rfl ?_
  refine am_iconst (v := 0) (am_dk tk_X6_takeCoin 9 rfl) (by decide) ?_
  refine am_istore_n (L' := [(2, .int 0), (1, .int q12.1), (0, .ref 56)]) (am_dk tk_X6_takeCoin 10 rfl) rfl (Nat.le_of_ble_eq_true rfl) rfl ?_
  refine am_ls [2, 1, 0] rfl ?_
  exact bx_X6_takeCoin_18  hΦ am_N _ _ _ h
abbrev m_X6_takeDebt : am_D := (yX6_takeDebt, prog_8_method_15_code, 3, (some .int), { frames := 3, cells := 0, slots := 0, locals := 73 })
theorem ld_X6_takeDebt : am_LD m_X6_takeDebt 0 := ⟨(am_tb 85 (by decide +kernel) (by decide +kernel)), (am_tb 1017 (by decide +kernel) (by decide +kernel)), by decide, by decide, by decide +kernel⟩
def tb_X6_takeDebt : List (Nat × Instr × Nat) := [(0, .aload_n 0, 1), (1, .getfield 148, 3), (4, .istore_n 1, 1), (5, .aload_n 0, 1), (6, .dup, 1), (7, .getfield 148, 3), (10, .iconst 1, 1), (11, .iadd, 1), (12, .putfield 148, 3), (15, .aload_n 0, 1), (16, .aload_n 0, 1), (17, .getfield 53, 3), (20, .iload_n 1, 1), (21, .iconst 0, 1), (22, .aload_n 0, 1), (23, .getfield 138, 3), (26, .iconst 1, 1), (27, .isub, 1), (28, .invokevirtual 134, 3), (31, .istore_n 2, 1), (32, .iload_n 2, 1), (33, .ifCond .le 7, 3), (36, .iload_n 2, 1), (37, .goto 15, 3), (40, .aload_n 0, 1), (41, .aload_n 0, 1), (42, .getfield 56, 3), (45, .iload_n 1, 1), (46, .iconst 0, 1), (47, .bipush 71, 2), (49, .invokevirtual 134, 3), (52, .istore_n 2, 1), (53, .iload_n 2, 1), (54, .ifCond .le 7, 3), (57, .iload_n 2, 1), (58, .goto 15, 3), (61, .aload_n 0, 1), (62, .aload_n 0, 1), (63, .getfield 59, 3), (66, .iload_n 1, 1), (67, .iconst 1, 1), (68, .bipush 99, 2), (70, .invokevirtual 134, 3), (73, .ireturn, 1)]
theorem tk_X6_takeDebt : am_tbl prog_8_method_15_code tb_X6_takeDebt = true := by decide +kernel
def b_X6_takeDebt_52 (x1 : Int32) (s0 : Int32) (D : am_M) : Option (Int32 × am_M) := if s0 ≤ 0 then (f_X6_into 72 8 x1 1 99 D).bind fun q70 => some (q70.1, q70.2) else some (s0, D)
def f_X6_takeDebt (D : am_M) : Option (Int32 × am_M) := (f_X6_into 70 8 (D 56 28) 0 (((am_up D 56 28 ((D 56 28) + 1)) 56 20) - 1) (am_up D 56 28 ((D 56 28) + 1))).bind fun q28 => if q28.1 ≤ 0 then (f_X6_into 71 8 (D 56 28) 0 71 q28.2).bind fun q49 => b_X6_takeDebt_52 (D 56 28) q49.1 q49.2 else b_X6_takeDebt_52 (D 56 28) q28.1 q28.2
theorem bx_X6_takeDebt_52 {l : Launch} {h0 : am_H} {Φ : am_Ph} {tw : Nat} {tp : Bool}  {r : Int32} {D' : am_M} (hΦ : Φ (some (.int r)) (ly tw tp D')) : ∀ (x1 : Int32) (s0 : Int32) (D : am_M), b_X6_takeDebt_52 x1 s0 D = some (r, D') → am_Ex (am_E l m_X6_takeDebt false h0 Φ) prog_8_method_15_code (0, 0) 52 [(0, .ref 56), (1, .int x1)] [.int s0] (ly tw tp D) := by
  intro x1 s0 D h
  rw [b_X6_takeDebt_52] at h
  refine am_istore_n (L' := [(2, .int s0), (0, .ref 56), (1, .int x1)]) (am_dk tk_X6_takeDebt 31 rfl) rfl (Nat.le_of_ble_eq_true rfl) rfl ?_
  refine am_iload_n (j := 0) (am_dk tk_X6_takeDebt 32 rfl) rfl rfl ?_
  refine am_if_le (tgt := 61) (am_dk tk_X6_takeDebt 33 rfl) (by decide) (fun hc54 => ?_) (fun hc54 => ?_)
  · rw [if_pos hc54] at h
    refine am_aload_n (j := 1) (am_dk tk_X6_takeDebt 36 rfl) rfl rfl ?_
    refine am_aload_n (j := 1) (am_dk tk_X6_takeDebt 37 rfl) rfl rfl ?_
    refine ly_getr (b := 72) rfl fl_X6_59 rfl rfl (am_dk tk_X6_takeDebt 38 rfl) ?_
    refine am_iload_n (j := 2) (am_dk tk_X6_takeDebt 39 rfl) rfl rfl ?_
    refine am_iconst (v := 1) (am_dk tk_X6_takeDebt 40 rfl) (by decide) ?_
    refine am_bipush (v := 99) (am_dk tk_X6_takeDebt 41 rfl) (by decide) ?_
    obtain ⟨q70, hq70, h⟩ := am_bind h
    refine ly_cV (M := m_X6_into) (As := [.ref 72, .int x1, .int 1, .int 99]) (b := 56) (st := []) (ct_X6_into rfl hq70) rfl (by decide) rfl ml_X6_134 ld_X6_into rfl ⟨Nat.le_of_ble_eq_true rfl, Nat.le_of_ble_eq_true rfl⟩ (Nat.le_of_ble_eq_true rfl) ⟨rfl, rfl⟩ ⟨Nat.le_of_ble_eq_true rfl, Nat.le_of_ble_eq_true rfl⟩ (am_dk tk_X6_takeDebt 42 rfl) (am_kki ?_)
    exact am_iret rfl (am_r2 h hΦ) ⟨Nat.le_of_ble_eq_true rfl, Nat.le_of_ble_eq_true rfl⟩ (am_dk tk_X6_takeDebt 43 rfl)
  · rw [if_neg hc54] at h
    refine am_iload_n (j := 0) (am_dk tk_X6_takeDebt 34 rfl) rfl rfl ?_
    refine am_goto (tgt := 73) (am_dk tk_X6_takeDebt 35 rfl) (by decide) ?_
    exact am_iret rfl (am_r2 h hΦ) ⟨Nat.le_of_ble_eq_true rfl, Nat.le_of_ble_eq_true rfl⟩ (am_dk tk_X6_takeDebt 43 rfl)
theorem ct_X6_takeDebt {l : Launch} {tw : Nat} {tp : Bool}  {r : Int32} {D D' : am_M} (h : f_X6_takeDebt D = some (r, D')) : am_CT l m_X6_takeDebt false [.ref 56] (ly tw tp D) (am_is (some (.int r)) (ly tw tp D')) := by
  have hΦ : am_is (some (.int r)) (ly tw tp D') (some (.int r)) (ly tw tp D') := ⟨rfl, rfl⟩
  refine am_CT.of (by decide) (Nat.le_of_ble_eq_true rfl) ?_
  show am_Ex _ _ _ 0 [(0, .ref 56)] [] _
  rw [f_X6_takeDebt] at h
  refine am_aload_n (j := 0) (am_dk tk_X6_takeDebt 0 rfl) rfl rfl ?_
  refine ly_geti rfl fl_X6_148 rfl (am_dk tk_X6_takeDebt 1 rfl) ?_
  refine am_istore_n (L' := [(1, .int (D 56 28)), (0, .ref 56)]) (am_dk tk_X6_takeDebt 2 rfl) rfl (Nat.le_of_ble_eq_true rfl) rfl ?_
  refine am_aload_n (j := 1) (am_dk tk_X6_takeDebt 3 rfl) rfl rfl ?_
  refine am_dup (am_dk tk_X6_takeDebt 4 rfl) rfl ?_
  refine ly_geti rfl fl_X6_148 rfl (am_dk tk_X6_takeDebt 5 rfl) ?_
  refine am_iconst (v := 1) (am_dk tk_X6_takeDebt 6 rfl) (by decide) ?_
  refine am_iadd (am_dk tk_X6_takeDebt 7 rfl) ?_
  refine ly_puti rfl fl_X6_148 rfl rfl (am_dk tk_X6_takeDebt 8 rfl) ?_
  refine am_aload_n (j := 1) (am_dk tk_X6_takeDebt 9 rfl) rfl rfl ?_
  refine am_aload_n (j := 1) (am_dk tk_X6_takeDebt 10 rfl) rfl rfl ?_
  refine ly_getr (b := 70) rfl fl_X6_53 rfl rfl (am_dk tk_X6_takeDebt 11 rfl) ?_
  refine am_iload_n (j := 0) (am_dk tk_X6_takeDebt 12 rfl) rfl rfl ?_
  refine am_iconst (v := 0) (am_dk tk_X6_takeDebt 13 rfl) (by decide) ?_
  refine am_aload_n (j := 1) (am_dk tk_X6_takeDebt 14 rfl) rfl rfl ?_
  refine ly_geti rfl fl_X6_138 rfl (am_dk tk_X6_takeDebt 15 rfl) ?_
  refine am_iconst (v := 1) (am_dk tk_X6_takeDebt 16 rfl) (by decide) ?_
  refine am_isub (am_dk tk_X6_takeDebt 17 rfl) ?_
  obtain ⟨q28, hq28, h⟩ := am_bind h
  refine ly_cV (M := m_X6_into) (As := [.ref 70, .int (D 56 28), .int 0, .int (((am_up D 56 28 ((D 56 28) + 1)) 56 20) - 1)]) (b := 56) (st := []) (ct_X6_into rfl hq28) rfl (by decide) rfl ml_X6_134 ld_X6_into rfl ⟨Nat.le_of_ble_eq_true rfl, Nat.le_of_ble_eq_true rfl⟩ (Nat.le_of_ble_eq_true rfl) ⟨rfl, rfl⟩ ⟨Nat.le_of_ble_eq_true rfl, Nat.le_of_ble_eq_true rfl⟩ (am_dk tk_X6_takeDebt 18 rfl) (am_kki ?_)
  refine am_istore_n (L' := [(2, .int q28.1), (1, .int (D 56 28)), (0, .ref 56)]) (am_dk tk_X6_takeDebt 19 rfl) rfl (Nat.le_of_ble_eq_true rfl) rfl ?_
  refine am_iload_n (j := 0) (am_dk tk_X6_takeDebt 20 rfl) rfl rfl ?_
  refine am_if_le (tgt := 40) (am_dk tk_X6_takeDebt 21 rfl) (by decide) (fun hc33 => ?_) (fun hc33 => ?_)
  · rw [if_pos hc33] at h
    refine am_aload_n (j := 2) (am_dk tk_X6_takeDebt 24 rfl) rfl rfl ?_
    refine am_aload_n (j := 2) (am_dk tk_X6_takeDebt 25 rfl) rfl rfl ?_
    refine ly_getr (b := 71) rfl fl_X6_56 rfl rfl (am_dk tk_X6_takeDebt 26 rfl) ?_
    refine am_iload_n (j := 1) (am_dk tk_X6_takeDebt 27 rfl) rfl rfl ?_
    refine am_iconst (v := 0) (am_dk tk_X6_takeDebt 28 rfl) (by decide) ?_
    refine am_bipush (v := 71) (am_dk tk_X6_takeDebt 29 rfl) (by decide) ?_
    obtain ⟨q49, hq49, h⟩ := am_bind h
    refine ly_cV (M := m_X6_into) (As := [.ref 71, .int (D 56 28), .int 0, .int 71]) (b := 56) (st := []) (ct_X6_into rfl hq49) rfl (by decide) rfl ml_X6_134 ld_X6_into rfl ⟨Nat.le_of_ble_eq_true rfl, Nat.le_of_ble_eq_true rfl⟩ (Nat.le_of_ble_eq_true rfl) ⟨rfl, rfl⟩ ⟨Nat.le_of_ble_eq_true rfl, Nat.le_of_ble_eq_true rfl⟩ (am_dk tk_X6_takeDebt 30 rfl) (am_kki ?_)
    refine am_ls [2, 1] rfl ?_
    exact bx_X6_takeDebt_52  hΦ _ _ _ h
  · rw [if_neg hc33] at h
    refine am_iload_n (j := 0) (am_dk tk_X6_takeDebt 22 rfl) rfl rfl ?_
    refine am_goto (tgt := 52) (am_dk tk_X6_takeDebt 23 rfl) (by decide) ?_
    refine am_ls [2, 1] rfl ?_
    exact bx_X6_takeDebt_52  hΦ _ _ _ h
abbrev m_X6_takeYawn : am_D := (yX6_takeYawn, prog_8_method_16_code, 3, (some .int), { frames := 3, cells := 0, slots := 0, locals := 73 })
theorem ld_X6_takeYawn : am_LD m_X6_takeYawn 0 := ⟨(am_tb 85 (by decide +kernel) (by decide +kernel)), (am_tb 1021 (by decide +kernel) (by decide +kernel)), by decide, by decide, by decide +kernel⟩
def tb_X6_takeYawn : List (Nat × Instr × Nat) := [(0, .aload_n 0, 1), (1, .iconst 0, 1), (2, .aload_n 0, 1), (3, .getfield 138, 3), (6, .iconst 1, 1), (7, .isub, 1), (8, .invokevirtual 131, 3), (11, .istore_n 1, 1), (12, .aload_n 0, 1), (13, .getfield 128, 3), (16, .istore_n 2, 1), (17, .iload_n 1, 1), (18, .ifCond .ne 24, 3), (21, .aload_n 0, 1), (22, .getfield 151, 3), (25, .iload_n 2, 1), (26, .invokestatic 154, 3), (29, .ifCond .eq 13, 3), (32, .aload_n 0, 1), (33, .iconst 4, 1), (34, .aload_n 0, 1), (35, .getfield 125, 3), (38, .invokevirtual 121, 3), (41, .ireturn, 1), (42, .iload_n 1, 1), (43, .ifCond .ne 28, 3), (46, .aload_n 0, 1), (47, .dup, 1), (48, .getfield 151, 3), (51, .iconst 1, 1), (52, .iload_n 2, 1), (53, .ishl, 1), (54, .ior, 1), (55, .putfield 151, 3), (58, .aload_n 0, 1), (59, .aload_n 0, 1), (60, .getfield 47, 3), (63, .iload_n 2, 1), (64, .iconst 1, 1), (65, .bipush 20, 2), (67, .invokevirtual 134, 3), (70, .istore_n 1, 1), (71, .iload_n 1, 1), (72, .ireturn, 1)]
theorem tk_X6_takeYawn : am_tbl prog_8_method_16_code tb_X6_takeYawn = true := by decide +kernel
def b_X6_takeYawn_42 (x1 : Int32) (x2 : Int32) (D : am_M) : Option (Int32 × am_M) := if x1 = 0 then (f_X6_into 68 5 x2 1 20 (am_up D 56 25 ((D 56 25) ||| (1 <<< (x2 &&& 31))))).bind fun q67 => some (q67.1, q67.2) else some (x1, D)
def f_X6_takeYawn (D : am_M) : Option (Int32 × am_M) := (f_X6_takeNumber 0 ((D 56 20) - 1) D).bind fun q8 => if q8.1 = 0 then if (f_X6_has (q8.2 56 25) (q8.2 56 17)) = 0 then b_X6_takeYawn_42 q8.1 (q8.2 56 17) q8.2 else (f_X6_fails 4 (q8.2 56 18) q8.2).bind fun q38 => some (q38.1, q38.2) else b_X6_takeYawn_42 q8.1 (q8.2 56 17) q8.2
theorem bx_X6_takeYawn_42 {l : Launch} {h0 : am_H} {Φ : am_Ph} {tw : Nat} {tp : Bool}  {r : Int32} {D' : am_M} (hΦ : Φ (some (.int r)) (ly tw tp D')) : ∀ (x1 : Int32) (x2 : Int32) (D : am_M), b_X6_takeYawn_42 x1 x2 D = some (r, D') → am_Ex (am_E l m_X6_takeYawn false h0 Φ) prog_8_method_16_code (0, 0) 42 [(0, .ref 56), (1, .int x1), (2, .int x2)] [] (ly tw tp D) := by
  intro x1 x2 D h
  rw [b_X6_takeYawn_42] at h
  refine am_iload_n (j := 1) (am_dk tk_X6_takeYawn 24 rfl) rfl rfl ?_
  refine am_if_ne (tgt := 71) (am_dk tk_X6_takeYawn 25 rfl) (by decide) (fun hc43 => ?_) (fun hc43 => ?_)
  · rw [if_neg hc43] at h
    refine am_iload_n (j := 1) (am_dk tk_X6_takeYawn 42 rfl) rfl rfl ?_
    exact am_iret rfl (am_r2 h hΦ) ⟨Nat.le_of_ble_eq_true rfl, Nat.le_of_ble_eq_true rfl⟩ (am_dk tk_X6_takeYawn 43 rfl)
  · rw [if_pos hc43] at h
    refine am_aload_n (j := 0) (am_dk tk_X6_takeYawn 26 rfl) rfl rfl ?_
    refine am_dup (am_dk tk_X6_takeYawn 27 rfl) rfl ?_
    refine ly_geti rfl fl_X6_151 rfl (am_dk tk_X6_takeYawn 28 rfl) ?_
    refine am_iconst (v := 1) (am_dk tk_X6_takeYawn 29 rfl) (by decide) ?_
    refine am_iload_n (j := 2) (am_dk tk_X6_takeYawn 30 rfl) rfl rfl ?_
    refine am_ishl (am_dk tk_X6_takeYawn 31 rfl) ?_
    refine am_ior (am_dk tk_X6_takeYawn 32 rfl) ?_
    refine ly_puti rfl fl_X6_151 rfl rfl (am_dk tk_X6_takeYawn 33 rfl) ?_
    refine am_aload_n (j := 0) (am_dk tk_X6_takeYawn 34 rfl) rfl rfl ?_
    refine am_aload_n (j := 0) (am_dk tk_X6_takeYawn 35 rfl) rfl rfl ?_
    refine ly_getr (b := 68) rfl fl_X6_47 rfl rfl (am_dk tk_X6_takeYawn 36 rfl) ?_
    refine am_iload_n (j := 2) (am_dk tk_X6_takeYawn 37 rfl) rfl rfl ?_
    refine am_iconst (v := 1) (am_dk tk_X6_takeYawn 38 rfl) (by decide) ?_
    refine am_bipush (v := 20) (am_dk tk_X6_takeYawn 39 rfl) (by decide) ?_
    obtain ⟨q67, hq67, h⟩ := am_bind h
    refine ly_cV (M := m_X6_into) (As := [.ref 68, .int x2, .int 1, .int 20]) (b := 56) (st := []) (ct_X6_into rfl hq67) rfl (by decide) rfl ml_X6_134 ld_X6_into rfl ⟨Nat.le_of_ble_eq_true rfl, Nat.le_of_ble_eq_true rfl⟩ (Nat.le_of_ble_eq_true rfl) ⟨rfl, rfl⟩ ⟨Nat.le_of_ble_eq_true rfl, Nat.le_of_ble_eq_true rfl⟩ (am_dk tk_X6_takeYawn 40 rfl) (am_kki ?_)
    refine am_istore_n (L' := [(1, .int q67.1), (0, .ref 56), (2, .int x2)]) (am_dk tk_X6_takeYawn 41 rfl) rfl (Nat.le_of_ble_eq_true rfl) rfl ?_
    refine am_iload_n (j := 0) (am_dk tk_X6_takeYawn 42 rfl) rfl rfl ?_
    exact am_iret rfl (am_r2 h hΦ) ⟨Nat.le_of_ble_eq_true rfl, Nat.le_of_ble_eq_true rfl⟩ (am_dk tk_X6_takeYawn 43 rfl)
theorem ct_X6_takeYawn {l : Launch} {tw : Nat} {tp : Bool}  {r : Int32} {D D' : am_M} (h : f_X6_takeYawn D = some (r, D')) : am_CT l m_X6_takeYawn false [.ref 56] (ly tw tp D) (am_is (some (.int r)) (ly tw tp D')) := by
  have hΦ : am_is (some (.int r)) (ly tw tp D') (some (.int r)) (ly tw tp D') := ⟨rfl, rfl⟩
  refine am_CT.of (by decide) (Nat.le_of_ble_eq_true rfl) ?_
  show am_Ex _ _ _ 0 [(0, .ref 56)] [] _
  rw [f_X6_takeYawn] at h
  refine am_aload_n (j := 0) (am_dk tk_X6_takeYawn 0 rfl) rfl rfl ?_
  refine am_iconst (v := 0) (am_dk tk_X6_takeYawn 1 rfl) (by decide) ?_
  refine am_aload_n (j := 0) (am_dk tk_X6_takeYawn 2 rfl) rfl rfl ?_
  refine ly_geti rfl fl_X6_138 rfl (am_dk tk_X6_takeYawn 3 rfl) ?_
  refine am_iconst (v := 1) (am_dk tk_X6_takeYawn 4 rfl) (by decide) ?_
  refine am_isub (am_dk tk_X6_takeYawn 5 rfl) ?_
  obtain ⟨q8, hq8, h⟩ := am_bind h
  refine ly_cV (M := m_X6_takeNumber) (As := [.int 0, .int ((D 56 20) - 1)]) (b := 56) (st := []) (ct_X6_takeNumber hq8) rfl (by decide) rfl ml_X6_131 ld_X6_takeNumber rfl ⟨Nat.le_of_ble_eq_true rfl, Nat.le_of_ble_eq_true rfl⟩ (Nat.le_of_ble_eq_true rfl) ⟨rfl, rfl⟩ ⟨Nat.le_of_ble_eq_true rfl, Nat.le_of_ble_eq_true rfl⟩ (am_dk tk_X6_takeYawn 6 rfl) (am_kki ?_)
  refine am_istore_n (L' := [(1, .int q8.1), (0, .ref 56)]) (am_dk tk_X6_takeYawn 7 rfl) rfl (Nat.le_of_ble_eq_true rfl) rfl ?_
  refine am_aload_n (j := 1) (am_dk tk_X6_takeYawn 8 rfl) rfl rfl ?_
  refine ly_geti rfl fl_X6_128 rfl (am_dk tk_X6_takeYawn 9 rfl) ?_
  refine am_istore_n (L' := [(2, .int (q8.2 56 17)), (1, .int q8.1), (0, .ref 56)]) (am_dk tk_X6_takeYawn 10 rfl) rfl (Nat.le_of_ble_eq_true rfl) rfl ?_
  refine am_iload_n (j := 1) (am_dk tk_X6_takeYawn 11 rfl) rfl rfl ?_
  refine am_if_ne (tgt := 42) (am_dk tk_X6_takeYawn 12 rfl) (by decide) (fun hc18 => ?_) (fun hc18 => ?_)
  · rw [if_neg hc18] at h
    refine am_ls [2, 1, 0] rfl ?_
    exact bx_X6_takeYawn_42  hΦ _ _ _ h
  · rw [if_pos hc18] at h
    refine am_aload_n (j := 2) (am_dk tk_X6_takeYawn 13 rfl) rfl rfl ?_
    refine ly_geti rfl fl_X6_151 rfl (am_dk tk_X6_takeYawn 14 rfl) ?_
    refine am_iload_n (j := 0) (am_dk tk_X6_takeYawn 15 rfl) rfl rfl ?_
    refine am_cS (M := m_X6_has) (As := [.int (q8.2 56 25), .int (q8.2 56 17)]) (st := []) (ct_X6_has _ _ _) ml_X6_154 ld_X6_has rfl ⟨Nat.le_of_ble_eq_true rfl, Nat.le_of_ble_eq_true rfl⟩ (Nat.le_of_ble_eq_true rfl) ⟨rfl, rfl⟩ ⟨Nat.le_of_ble_eq_true rfl, Nat.le_of_ble_eq_true rfl⟩ (am_dk tk_X6_takeYawn 16 rfl) (am_kki ?_)
    refine am_if_eq (tgt := 42) (am_dk tk_X6_takeYawn 17 rfl) (by decide) (fun hc29 => ?_) (fun hc29 => ?_)
    · rw [if_pos hc29] at h
      refine am_ls [2, 1, 0] rfl ?_
      exact bx_X6_takeYawn_42  hΦ _ _ _ h
    · rw [if_neg hc29] at h
      refine am_aload_n (j := 2) (am_dk tk_X6_takeYawn 18 rfl) rfl rfl ?_
      refine am_iconst (v := 4) (am_dk tk_X6_takeYawn 19 rfl) (by decide) ?_
      refine am_aload_n (j := 2) (am_dk tk_X6_takeYawn 20 rfl) rfl rfl ?_
      refine ly_geti rfl fl_X6_125 rfl (am_dk tk_X6_takeYawn 21 rfl) ?_
      obtain ⟨q38, hq38, h⟩ := am_bind h
      refine ly_cV (M := m_X6_fails) (As := [.int 4, .int (q8.2 56 18)]) (b := 56) (st := []) (ct_X6_fails hq38) rfl (by decide) rfl ml_X6_121 ld_X6_fails rfl ⟨Nat.le_of_ble_eq_true rfl, Nat.le_of_ble_eq_true rfl⟩ (Nat.le_of_ble_eq_true rfl) ⟨rfl, rfl⟩ ⟨Nat.le_of_ble_eq_true rfl, Nat.le_of_ble_eq_true rfl⟩ (am_dk tk_X6_takeYawn 22 rfl) (am_kki ?_)
      exact am_iret rfl (am_r2 h hΦ) ⟨Nat.le_of_ble_eq_true rfl, Nat.le_of_ble_eq_true rfl⟩ (am_dk tk_X6_takeYawn 23 rfl)
abbrev m_X6_takeClause : am_D := (yX6_takeClause, prog_8_method_17_code, 5, (some .int), { frames := 4, cells := 0, slots := 0, locals := 95 })
theorem ld_X6_takeClause : am_LD m_X6_takeClause 0 := ⟨(am_tb 85 (by decide +kernel) (by decide +kernel)), (am_tb 983 (by decide +kernel) (by decide +kernel)), by decide, by decide, by decide +kernel⟩
def tb_X6_takeClause : List (Nat × Instr × Nat) := [(0, .aload_n 0, 1), (1, .invokevirtual 113, 3), (4, .istore_n 1, 1), (5, .iload_n 1, 1), (6, .bipush 109, 2), (8, .if_icmp .ne 7, 3), (11, .iconst 0, 1), (12, .goto 44, 3), (15, .iload_n 1, 1), (16, .bipush 112, 2), (18, .if_icmp .ne 7, 3), (21, .iconst 1, 1), (22, .goto 34, 3), (25, .iload_n 1, 1), (26, .bipush 99, 2), (28, .if_icmp .ne 7, 3), (31, .iconst 2, 1), (32, .goto 24, 3), (35, .iload_n 1, 1), (36, .bipush 100, 2), (38, .if_icmp .ne 7, 3), (41, .iconst 3, 1), (42, .goto 14, 3), (45, .iload_n 1, 1), (46, .bipush 117, 2), (48, .if_icmp .ne 7, 3), (51, .iconst 4, 1), (52, .goto 4, 3), (55, .iconst (-1), 1), (56, .istore_n 2, 1), (57, .iload_n 2, 1), (58, .ifCond .lt 16, 3), (61, .iload_n 2, 1), (62, .ifCond .le 22, 3), (65, .aload_n 0, 1), (66, .getfield 35, 3), (69, .iconst 0, 1), (70, .iaload, 1), (71, .ifCond .ne 13, 3), (74, .aload_n 0, 1), (75, .iconst 1, 1), (76, .aload_n 0, 1), (77, .getfield 110, 3), (80, .invokevirtual 121, 3), (83, .ireturn, 1), (84, .iload_n 2, 1), (85, .ifCond .ne 20, 3), (88, .aload_n 0, 1), (89, .getfield 35, 3), (92, .iconst 0, 1), (93, .iaload, 1), (94, .ifCond .le 7, 3), (97, .iconst 1, 1), (98, .goto 68, 3), (101, .iconst 0, 1), (102, .goto 64, 3), (105, .iload_n 2, 1), (106, .iconst 1, 1), (107, .if_icmp .ne 19, 3), (110, .aload_n 0, 1)]
theorem tk_X6_takeClause : am_tbl prog_8_method_17_code tb_X6_takeClause = true := by decide +kernel
def tb_X6_takeClause_1 : List (Nat × Instr × Nat) := [(111, .getfield 138, 3), (114, .iconst 5, 1), (115, .if_icmp .ne 7, 3), (118, .iconst 1, 1), (119, .goto 47, 3), (122, .iconst 0, 1), (123, .goto 43, 3), (126, .iload_n 2, 1), (127, .iconst 2, 1), (128, .if_icmp .ne 19, 3), (131, .aload_n 0, 1), (132, .getfield 145, 3), (135, .iconst 4, 1), (136, .if_icmp .ne 7, 3), (139, .iconst 1, 1), (140, .goto 26, 3), (143, .iconst 0, 1), (144, .goto 22, 3), (147, .iload_n 2, 1), (148, .iconst 3, 1), (149, .if_icmp .ne 16, 3), (152, .aload_n 0, 1), (153, .getfield 148, 3), (156, .bipush 8, 2), (158, .if_icmp .ne 7, 3), (161, .iconst 1, 1), (162, .goto 4, 3), (165, .iconst 0, 1), (166, .istore_n 3, 1), (167, .iload_n 3, 1), (168, .ifCond .eq 13, 3), (171, .aload_n 0, 1), (172, .iconst 3, 1), (173, .aload_n 0, 1), (174, .getfield 110, 3), (177, .invokevirtual 121, 3), (180, .ireturn, 1), (181, .aload_n 0, 1), (182, .dup, 1), (183, .getfield 110, 3), (186, .iconst 1, 1), (187, .iadd, 1), (188, .putfield 110, 3), (191, .iload_n 2, 1), (192, .ifCond .ne 10, 3), (195, .aload_n 0, 1), (196, .invokevirtual 158, 3), (199, .goto 43, 3), (202, .iload_n 2, 1), (203, .iconst 1, 1), (204, .if_icmp .ne 10, 3), (207, .aload_n 0, 1), (208, .invokevirtual 161, 3), (211, .goto 31, 3), (214, .iload_n 2, 1), (215, .iconst 2, 1), (216, .if_icmp .ne 10, 3), (219, .aload_n 0, 1), (220, .invokevirtual 164, 3), (223, .goto 19, 3)]
theorem tk_X6_takeClause_1 : am_tbl prog_8_method_17_code tb_X6_takeClause_1 = true := by decide +kernel
def tb_X6_takeClause_2 : List (Nat × Instr × Nat) := [(226, .iload_n 2, 1), (227, .iconst 3, 1), (228, .if_icmp .ne 10, 3), (231, .aload_n 0, 1), (232, .invokevirtual 167, 3), (235, .goto 7, 3), (238, .aload_n 0, 1), (239, .invokevirtual 170, 3), (242, .istore 4, 2), (244, .iload 4, 2), (246, .ifCond .ne 22, 3), (249, .aload_n 0, 1), (250, .invokevirtual 113, 3), (253, .bipush 59, 2), (255, .if_icmp .eq 13, 3), (258, .aload_n 0, 1), (259, .iconst 1, 1), (260, .aload_n 0, 1), (261, .getfield 110, 3), (264, .invokevirtual 121, 3), (267, .ireturn, 1), (268, .aload_n 0, 1), (269, .dup, 1), (270, .getfield 110, 3), (273, .iconst 1, 1), (274, .iadd, 1), (275, .putfield 110, 3), (278, .iload 4, 2), (280, .ireturn, 1)]
theorem tk_X6_takeClause_2 : am_tbl prog_8_method_17_code tb_X6_takeClause_2 = true := by decide +kernel
def b_X6_takeClause_74 (D : am_M) : Option (Int32 × am_M) := (f_X6_fails 1 (D 56 16) D).bind fun q80 => some (q80.1, q80.2)
def b_X6_takeClause_268 (x4 : Int32) (D : am_M) : Option (Int32 × am_M) := some (x4, am_up D 56 16 ((D 56 16) + 1))
def b_X6_takeClause_242 (s0 : Int32) (D : am_M) : Option (Int32 × am_M) := if s0 = 0 then (f_X6_here D).bind fun q250 => if q250.1 = 59 then b_X6_takeClause_268 s0 q250.2 else (f_X6_fails 1 (q250.2 56 16) q250.2).bind fun q264 => some (q264.1, q264.2) else b_X6_takeClause_268 s0 D
def b_X6_takeClause_166 (x2 : Int32) (s0 : Int32) (D : am_M) : Option (Int32 × am_M) := if s0 = 0 then if x2 = 0 then (f_X6_takeMint (am_up D 56 16 ((D 56 16) + 1))).bind fun q196 => b_X6_takeClause_242 q196.1 q196.2 else if x2 = 1 then (f_X6_takePerson (am_up D 56 16 ((D 56 16) + 1))).bind fun q208 => b_X6_takeClause_242 q208.1 q208.2 else if x2 = 2 then (f_X6_takeCoin (am_up D 56 16 ((D 56 16) + 1))).bind fun q220 => b_X6_takeClause_242 q220.1 q220.2 else if x2 = 3 then (f_X6_takeDebt (am_up D 56 16 ((D 56 16) + 1))).bind fun q232 => b_X6_takeClause_242 q232.1 q232.2 else (f_X6_takeYawn (am_up D 56 16 ((D 56 16) + 1))).bind fun q239 => b_X6_takeClause_242 q239.1 q239.2 else (f_X6_fails 3 (D 56 16) D).bind fun q177 => some (q177.1, q177.2)
def b_X6_takeClause_165 (x2 : Int32) (D : am_M) : Option (Int32 × am_M) := b_X6_takeClause_166 x2 0 D
def b_X6_takeClause_84 (x2 : Int32) (D : am_M) : Option (Int32 × am_M) := if x2 = 0 then b_X6_takeClause_166 x2 (if (D 64 0) ≤ 0 then 0 else 1) D else if x2 = 1 then b_X6_takeClause_166 x2 (if (D 56 20) = 5 then 1 else 0) D else if x2 = 2 then b_X6_takeClause_166 x2 (if (D 56 26) = 4 then 1 else 0) D else if x2 = 3 then if (D 56 28) = 8 then b_X6_takeClause_166 x2 1 D else b_X6_takeClause_165 x2 D else b_X6_takeClause_165 x2 D
def b_X6_takeClause_56 (s0 : Int32) (D : am_M) : Option (Int32 × am_M) := if s0 < 0 then b_X6_takeClause_74 D else if s0 ≤ 0 then b_X6_takeClause_84 s0 D else if (D 64 0) = 0 then b_X6_takeClause_74 D else b_X6_takeClause_84 s0 D
def f_X6_takeClause (D : am_M) : Option (Int32 × am_M) := (f_X6_here D).bind fun q1 => b_X6_takeClause_56 (if q1.1 = 109 then 0 else (if q1.1 = 112 then 1 else (if q1.1 = 99 then 2 else (if q1.1 = 100 then 3 else (if q1.1 = 117 then 4 else (-1)))))) q1.2
theorem bx_X6_takeClause_74 {l : Launch} {h0 : am_H} {Φ : am_Ph} {tw : Nat} {tp : Bool}  {r : Int32} {D' : am_M} (hΦ : Φ (some (.int r)) (ly tw tp D')) : ∀ (D : am_M), b_X6_takeClause_74 D = some (r, D') → am_Ex (am_E l m_X6_takeClause false h0 Φ) prog_8_method_17_code (0, 0) 74 [(0, .ref 56)] [] (ly tw tp D) := by
  intro  D h
  rw [b_X6_takeClause_74] at h
  refine am_aload_n (j := 0) (am_dk tk_X6_takeClause 39 rfl) rfl rfl ?_
  refine am_iconst (v := 1) (am_dk tk_X6_takeClause 40 rfl) (by decide) ?_
  refine am_aload_n (j := 0) (am_dk tk_X6_takeClause 41 rfl) rfl rfl ?_
  refine ly_geti rfl fl_X6_110 rfl (am_dk tk_X6_takeClause 42 rfl) ?_
  obtain ⟨q80, hq80, h⟩ := am_bind h
  refine ly_cV (M := m_X6_fails) (As := [.int 1, .int (D 56 16)]) (b := 56) (st := []) (ct_X6_fails hq80) rfl (by decide) rfl ml_X6_121 ld_X6_fails rfl ⟨Nat.le_of_ble_eq_true rfl, Nat.le_of_ble_eq_true rfl⟩ (Nat.le_of_ble_eq_true rfl) ⟨rfl, rfl⟩ ⟨Nat.le_of_ble_eq_true rfl, Nat.le_of_ble_eq_true rfl⟩ (am_dk tk_X6_takeClause 43 rfl) (am_kki ?_)
  exact am_iret rfl (am_r2 h hΦ) ⟨Nat.le_of_ble_eq_true rfl, Nat.le_of_ble_eq_true rfl⟩ (am_dk tk_X6_takeClause 44 rfl)
theorem bx_X6_takeClause_268 {l : Launch} {h0 : am_H} {Φ : am_Ph} {tw : Nat} {tp : Bool}  {r : Int32} {D' : am_M} (hΦ : Φ (some (.int r)) (ly tw tp D')) : ∀ (x4 : Int32) (D : am_M), b_X6_takeClause_268 x4 D = some (r, D') → am_Ex (am_E l m_X6_takeClause false h0 Φ) prog_8_method_17_code (0, 0) 268 [(0, .ref 56), (4, .int x4)] [] (ly tw tp D) := by
  intro x4 D h
  rw [b_X6_takeClause_268] at h
  refine am_aload_n (j := 0) (am_dk tk_X6_takeClause_2 21 rfl) rfl rfl ?_
  refine am_dup (am_dk tk_X6_takeClause_2 22 rfl) rfl ?_
  refine ly_geti rfl fl_X6_110 rfl (am_dk tk_X6_takeClause_2 23 rfl) ?_
  refine am_iconst (v := 1) (am_dk tk_X6_takeClause_2 24 rfl) (by decide) ?_
  refine am_iadd (am_dk tk_X6_takeClause_2 25 rfl) ?_
  refine ly_puti rfl fl_X6_110 rfl rfl (am_dk tk_X6_takeClause_2 26 rfl) ?_
  refine am_iload (j := 1) (am_dk tk_X6_takeClause_2 27 rfl) rfl ?_
  exact am_iret rfl (am_r2 h hΦ) ⟨Nat.le_of_ble_eq_true rfl, Nat.le_of_ble_eq_true rfl⟩ (am_dk tk_X6_takeClause_2 28 rfl)
theorem bx_X6_takeClause_242 {l : Launch} {h0 : am_H} {Φ : am_Ph} {tw : Nat} {tp : Bool}  {r : Int32} {D' : am_M} (hΦ : Φ (some (.int r)) (ly tw tp D')) : ∀ (s0 : Int32) (D : am_M), b_X6_takeClause_242 s0 D = some (r, D') → am_Ex (am_E l m_X6_takeClause false h0 Φ) prog_8_method_17_code (0, 0) 242 [(0, .ref 56)] [.int s0] (ly tw tp D) := by
  intro s0 D h
  rw [b_X6_takeClause_242] at h
  refine am_istore (L' := [(4, .int s0), (0, .ref 56)]) (am_dk tk_X6_takeClause_2 8 rfl) (Nat.le_of_ble_eq_true rfl) rfl ?_
  refine am_iload (j := 0) (am_dk tk_X6_takeClause_2 9 rfl) rfl ?_
  refine am_if_ne (tgt := 268) (am_dk tk_X6_takeClause_2 10 rfl) (by decide) (fun hc246 => ?_) (fun hc246 => ?_)
  · rw [if_neg hc246] at h
    refine am_ls [1, 0] rfl ?_
    exact bx_X6_takeClause_268  hΦ _ _ h
  · rw [if_pos hc246] at h
    refine am_aload_n (j := 1) (am_dk tk_X6_takeClause_2 11 rfl) rfl rfl ?_
    obtain ⟨q250, hq250, h⟩ := am_bind h
    refine ly_cV (M := m_X6_here) (As := []) (b := 56) (st := []) (ct_X6_here hq250) rfl (by decide) rfl ml_X6_113 ld_X6_here rfl ⟨Nat.le_of_ble_eq_true rfl, Nat.le_of_ble_eq_true rfl⟩ (Nat.le_of_ble_eq_true rfl) ⟨rfl, rfl⟩ ⟨Nat.le_of_ble_eq_true rfl, Nat.le_of_ble_eq_true rfl⟩ (am_dk tk_X6_takeClause_2 12 rfl) (am_kki ?_)
    refine am_bipush (v := 59) (am_dk tk_X6_takeClause_2 13 rfl) (by decide) ?_
    refine am_icmp_eq (tgt := 268) (am_dk tk_X6_takeClause_2 14 rfl) (by decide) (fun hc255 => ?_) (fun hc255 => ?_)
    · rw [if_pos hc255] at h
      refine am_ls [1, 0] rfl ?_
      exact bx_X6_takeClause_268  hΦ _ _ h
    · rw [if_neg hc255] at h
      refine am_aload_n (j := 1) (am_dk tk_X6_takeClause_2 15 rfl) rfl rfl ?_
      refine am_iconst (v := 1) (am_dk tk_X6_takeClause_2 16 rfl) (by decide) ?_
      refine am_aload_n (j := 1) (am_dk tk_X6_takeClause_2 17 rfl) rfl rfl ?_
      refine ly_geti rfl fl_X6_110 rfl (am_dk tk_X6_takeClause_2 18 rfl) ?_
      obtain ⟨q264, hq264, h⟩ := am_bind h
      refine ly_cV (M := m_X6_fails) (As := [.int 1, .int (q250.2 56 16)]) (b := 56) (st := []) (ct_X6_fails hq264) rfl (by decide) rfl ml_X6_121 ld_X6_fails rfl ⟨Nat.le_of_ble_eq_true rfl, Nat.le_of_ble_eq_true rfl⟩ (Nat.le_of_ble_eq_true rfl) ⟨rfl, rfl⟩ ⟨Nat.le_of_ble_eq_true rfl, Nat.le_of_ble_eq_true rfl⟩ (am_dk tk_X6_takeClause_2 19 rfl) (am_kki ?_)
      exact am_iret rfl (am_r2 h hΦ) ⟨Nat.le_of_ble_eq_true rfl, Nat.le_of_ble_eq_true rfl⟩ (am_dk tk_X6_takeClause_2 20 rfl)
theorem bx_X6_takeClause_166 {l : Launch} {h0 : am_H} {Φ : am_Ph} {tw : Nat} {tp : Bool}  {r : Int32} {D' : am_M} (hΦ : Φ (some (.int r)) (ly tw tp D')) : ∀ (x2 : Int32) (s0 : Int32) (D : am_M), b_X6_takeClause_166 x2 s0 D = some (r, D') → am_Ex (am_E l m_X6_takeClause false h0 Φ) prog_8_method_17_code (0, 0) 166 [(0, .ref 56), (2, .int x2)] [.int s0] (ly tw tp D) := by
  intro x2 s0 D h
  rw [b_X6_takeClause_166] at h
  refine am_istore_n (L' := [(3, .int s0), (0, .ref 56), (2, .int x2)]) (am_dk tk_X6_takeClause_1 28 rfl) rfl (Nat.le_of_ble_eq_true rfl) rfl ?_
  refine am_iload_n (j := 0) (am_dk tk_X6_takeClause_1 29 rfl) rfl rfl ?_
  refine am_if_eq (tgt := 181) (am_dk tk_X6_takeClause_1 30 rfl) (by decide) (fun hc168 => ?_) (fun hc168 => ?_)
  · rw [if_pos hc168] at h
    refine am_aload_n (j := 1) (am_dk tk_X6_takeClause_1 37 rfl) rfl rfl ?_
    refine am_dup (am_dk tk_X6_takeClause_1 38 rfl) rfl ?_
    refine ly_geti rfl fl_X6_110 rfl (am_dk tk_X6_takeClause_1 39 rfl) ?_
    refine am_iconst (v := 1) (am_dk tk_X6_takeClause_1 40 rfl) (by decide) ?_
    refine am_iadd (am_dk tk_X6_takeClause_1 41 rfl) ?_
    refine ly_puti rfl fl_X6_110 rfl rfl (am_dk tk_X6_takeClause_1 42 rfl) ?_
    refine am_iload_n (j := 2) (am_dk tk_X6_takeClause_1 43 rfl) rfl rfl ?_
    refine am_if_ne (tgt := 202) (am_dk tk_X6_takeClause_1 44 rfl) (by decide) (fun hc192 => ?_) (fun hc192 => ?_)
    · rw [if_neg hc192] at h
      refine am_iload_n (j := 2) (am_dk tk_X6_takeClause_1 48 rfl) rfl rfl ?_
      refine am_iconst (v := 1) (am_dk tk_X6_takeClause_1 49 rfl) (by decide) ?_
      refine am_icmp_ne (tgt := 214) (am_dk tk_X6_takeClause_1 50 rfl) (by decide) (fun hc204 => ?_) (fun hc204 => ?_)
      · rw [if_neg hc204] at h
        refine am_iload_n (j := 2) (am_dk tk_X6_takeClause_1 54 rfl) rfl rfl ?_
        refine am_iconst (v := 2) (am_dk tk_X6_takeClause_1 55 rfl) (by decide) ?_
        refine am_icmp_ne (tgt := 226) (am_dk tk_X6_takeClause_1 56 rfl) (by decide) (fun hc216 => ?_) (fun hc216 => ?_)
        · rw [if_neg hc216] at h
          refine am_iload_n (j := 2) (am_dk tk_X6_takeClause_2 0 rfl) rfl rfl ?_
          refine am_iconst (v := 3) (am_dk tk_X6_takeClause_2 1 rfl) (by decide) ?_
          refine am_icmp_ne (tgt := 238) (am_dk tk_X6_takeClause_2 2 rfl) (by decide) (fun hc228 => ?_) (fun hc228 => ?_)
          · rw [if_neg hc228] at h
            refine am_aload_n (j := 1) (am_dk tk_X6_takeClause_2 6 rfl) rfl rfl ?_
            obtain ⟨q239, hq239, h⟩ := am_bind h
            refine ly_cV (M := m_X6_takeYawn) (As := []) (b := 56) (st := []) (ct_X6_takeYawn hq239) rfl (by decide) rfl ml_X6_170 ld_X6_takeYawn rfl ⟨Nat.le_of_ble_eq_true rfl, Nat.le_of_ble_eq_true rfl⟩ (Nat.le_of_ble_eq_true rfl) ⟨rfl, rfl⟩ ⟨Nat.le_of_ble_eq_true rfl, Nat.le_of_ble_eq_true rfl⟩ (am_dk tk_X6_takeClause_2 7 rfl) (am_kki ?_)
            refine am_ls [1] rfl ?_
            exact bx_X6_takeClause_242  hΦ _ _ h
          · rw [if_pos hc228] at h
            refine am_aload_n (j := 1) (am_dk tk_X6_takeClause_2 3 rfl) rfl rfl ?_
            obtain ⟨q232, hq232, h⟩ := am_bind h
            refine ly_cV (M := m_X6_takeDebt) (As := []) (b := 56) (st := []) (ct_X6_takeDebt hq232) rfl (by decide) rfl ml_X6_167 ld_X6_takeDebt rfl ⟨Nat.le_of_ble_eq_true rfl, Nat.le_of_ble_eq_true rfl⟩ (Nat.le_of_ble_eq_true rfl) ⟨rfl, rfl⟩ ⟨Nat.le_of_ble_eq_true rfl, Nat.le_of_ble_eq_true rfl⟩ (am_dk tk_X6_takeClause_2 4 rfl) (am_kki ?_)
            refine am_goto (tgt := 242) (am_dk tk_X6_takeClause_2 5 rfl) (by decide) ?_
            refine am_ls [1] rfl ?_
            exact bx_X6_takeClause_242  hΦ _ _ h
        · rw [if_pos hc216] at h
          refine am_aload_n (j := 1) (am_dk tk_X6_takeClause_1 57 rfl) rfl rfl ?_
          obtain ⟨q220, hq220, h⟩ := am_bind h
          refine ly_cV (M := m_X6_takeCoin) (As := []) (b := 56) (st := []) (ct_X6_takeCoin hq220) rfl (by decide) rfl ml_X6_164 ld_X6_takeCoin rfl ⟨Nat.le_of_ble_eq_true rfl, Nat.le_of_ble_eq_true rfl⟩ (Nat.le_of_ble_eq_true rfl) ⟨rfl, rfl⟩ ⟨Nat.le_of_ble_eq_true rfl, Nat.le_of_ble_eq_true rfl⟩ (am_dk tk_X6_takeClause_1 58 rfl) (am_kki ?_)
          refine am_goto (tgt := 242) (am_dk tk_X6_takeClause_1 59 rfl) (by decide) ?_
          refine am_ls [1] rfl ?_
          exact bx_X6_takeClause_242  hΦ _ _ h
      · rw [if_pos hc204] at h
        refine am_aload_n (j := 1) (am_dk tk_X6_takeClause_1 51 rfl) rfl rfl ?_
        obtain ⟨q208, hq208, h⟩ := am_bind h
        refine ly_cV (M := m_X6_takePerson) (As := []) (b := 56) (st := []) (ct_X6_takePerson hq208) rfl (by decide) rfl ml_X6_161 ld_X6_takePerson rfl ⟨Nat.le_of_ble_eq_true rfl, Nat.le_of_ble_eq_true rfl⟩ (Nat.le_of_ble_eq_true rfl) ⟨rfl, rfl⟩ ⟨Nat.le_of_ble_eq_true rfl, Nat.le_of_ble_eq_true rfl⟩ (am_dk tk_X6_takeClause_1 52 rfl) (am_kki ?_)
        refine am_goto (tgt := 242) (am_dk tk_X6_takeClause_1 53 rfl) (by decide) ?_
        refine am_ls [1] rfl ?_
        exact bx_X6_takeClause_242  hΦ _ _ h
    · rw [if_pos hc192] at h
      refine am_aload_n (j := 1) (am_dk tk_X6_takeClause_1 45 rfl) rfl rfl ?_
      obtain ⟨q196, hq196, h⟩ := am_bind h
      refine ly_cV (M := m_X6_takeMint) (As := []) (b := 56) (st := []) (ct_X6_takeMint hq196) rfl (by decide) rfl ml_X6_158 ld_X6_takeMint rfl ⟨Nat.le_of_ble_eq_true rfl, Nat.le_of_ble_eq_true rfl⟩ (Nat.le_of_ble_eq_true rfl) ⟨rfl, rfl⟩ ⟨Nat.le_of_ble_eq_true rfl, Nat.le_of_ble_eq_true rfl⟩ (am_dk tk_X6_takeClause_1 46 rfl) (am_kki ?_)
      refine am_goto (tgt := 242) (am_dk tk_X6_takeClause_1 47 rfl) (by decide) ?_
      refine am_ls [1] rfl ?_
      exact bx_X6_takeClause_242  hΦ _ _ h
  · rw [if_neg hc168] at h
    refine am_aload_n (j := 1) (am_dk tk_X6_takeClause_1 31 rfl) rfl rfl ?_
    refine am_iconst (v := 3) (am_dk tk_X6_takeClause_1 32 rfl) (by decide) ?_
    refine am_aload_n (j := 1) (am_dk tk_X6_takeClause_1 33 rfl) rfl rfl ?_
    refine ly_geti rfl fl_X6_110 rfl (am_dk tk_X6_takeClause_1 34 rfl) ?_
    obtain ⟨q177, hq177, h⟩ := am_bind h
    refine ly_cV (M := m_X6_fails) (As := [.int 3, .int (D 56 16)]) (b := 56) (st := []) (ct_X6_fails hq177) rfl (by decide) rfl ml_X6_121 ld_X6_fails rfl ⟨Nat.le_of_ble_eq_true rfl, Nat.le_of_ble_eq_true rfl⟩ (Nat.le_of_ble_eq_true rfl) ⟨rfl, rfl⟩ ⟨Nat.le_of_ble_eq_true rfl, Nat.le_of_ble_eq_true rfl⟩ (am_dk tk_X6_takeClause_1 35 rfl) (am_kki ?_)
    exact am_iret rfl (am_r2 h hΦ) ⟨Nat.le_of_ble_eq_true rfl, Nat.le_of_ble_eq_true rfl⟩ (am_dk tk_X6_takeClause_1 36 rfl)
theorem bx_X6_takeClause_165 {l : Launch} {h0 : am_H} {Φ : am_Ph} {tw : Nat} {tp : Bool}  {r : Int32} {D' : am_M} (hΦ : Φ (some (.int r)) (ly tw tp D')) : ∀ (x2 : Int32) (D : am_M), b_X6_takeClause_165 x2 D = some (r, D') → am_Ex (am_E l m_X6_takeClause false h0 Φ) prog_8_method_17_code (0, 0) 165 [(0, .ref 56), (2, .int x2)] [] (ly tw tp D) := by
  intro x2 D h
  rw [b_X6_takeClause_165] at h
  refine am_iconst (v := 0) (am_dk tk_X6_takeClause_1 27 rfl) (by decide) ?_
  exact bx_X6_takeClause_166  hΦ _ _ _ h
theorem bx_X6_takeClause_84 {l : Launch} {h0 : am_H} {Φ : am_Ph} {tw : Nat} {tp : Bool}  {r : Int32} {D' : am_M} (hΦ : Φ (some (.int r)) (ly tw tp D')) : ∀ (x2 : Int32) (D : am_M), b_X6_takeClause_84 x2 D = some (r, D') → am_Ex (am_E l m_X6_takeClause false h0 Φ) prog_8_method_17_code (0, 0) 84 [(0, .ref 56), (2, .int x2)] [] (ly tw tp D) := by
  intro x2 D h
  rw [b_X6_takeClause_84] at h
  refine am_iload_n (j := 1) (am_dk tk_X6_takeClause 45 rfl) rfl rfl ?_
  refine am_if_ne (tgt := 105) (am_dk tk_X6_takeClause 46 rfl) (by decide) (fun hc85 => ?_) (fun hc85 => ?_)
  · rw [if_neg hc85] at h
    refine am_iload_n (j := 1) (am_dk tk_X6_takeClause 56 rfl) rfl rfl ?_
    refine am_iconst (v := 1) (am_dk tk_X6_takeClause 57 rfl) (by decide) ?_
    refine am_icmp_ne (tgt := 126) (am_dk tk_X6_takeClause 58 rfl) (by decide) (fun hc107 => ?_) (fun hc107 => ?_)
    · rw [if_neg hc107] at h
      refine am_iload_n (j := 1) (am_dk tk_X6_takeClause_1 7 rfl) rfl rfl ?_
      refine am_iconst (v := 2) (am_dk tk_X6_takeClause_1 8 rfl) (by decide) ?_
      refine am_icmp_ne (tgt := 147) (am_dk tk_X6_takeClause_1 9 rfl) (by decide) (fun hc128 => ?_) (fun hc128 => ?_)
      · rw [if_neg hc128] at h
        refine am_iload_n (j := 1) (am_dk tk_X6_takeClause_1 18 rfl) rfl rfl ?_
        refine am_iconst (v := 3) (am_dk tk_X6_takeClause_1 19 rfl) (by decide) ?_
        refine am_icmp_ne (tgt := 165) (am_dk tk_X6_takeClause_1 20 rfl) (by decide) (fun hc149 => ?_) (fun hc149 => ?_)
        · rw [if_neg hc149] at h
          exact bx_X6_takeClause_165  hΦ _ _ h
        · rw [if_pos hc149] at h
          refine am_aload_n (j := 0) (am_dk tk_X6_takeClause_1 21 rfl) rfl rfl ?_
          refine ly_geti rfl fl_X6_148 rfl (am_dk tk_X6_takeClause_1 22 rfl) ?_
          refine am_bipush (v := 8) (am_dk tk_X6_takeClause_1 23 rfl) (by decide) ?_
          refine am_icmp_ne (tgt := 165) (am_dk tk_X6_takeClause_1 24 rfl) (by decide) (fun hc158 => ?_) (fun hc158 => ?_)
          · rw [if_neg hc158] at h
            exact bx_X6_takeClause_165  hΦ _ _ h
          · rw [if_pos hc158] at h
            refine am_iconst (v := 1) (am_dk tk_X6_takeClause_1 25 rfl) (by decide) ?_
            refine am_goto (tgt := 166) (am_dk tk_X6_takeClause_1 26 rfl) (by decide) ?_
            exact bx_X6_takeClause_166  hΦ _ _ _ h
      · rw [if_pos hc128] at h
        refine am_aload_n (j := 0) (am_dk tk_X6_takeClause_1 10 rfl) rfl rfl ?_
        refine ly_geti rfl fl_X6_145 rfl (am_dk tk_X6_takeClause_1 11 rfl) ?_
        refine am_iconst (v := 4) (am_dk tk_X6_takeClause_1 12 rfl) (by decide) ?_
        refine am_icmp_ne (tgt := 143) (am_dk tk_X6_takeClause_1 13 rfl) (by decide) (fun hc136 => ?_) (fun hc136 => ?_)
        · simp only [if_neg hc136] at h
          refine am_iconst (v := 0) (am_dk tk_X6_takeClause_1 16 rfl) (by decide) ?_
          refine am_goto (tgt := 166) (am_dk tk_X6_takeClause_1 17 rfl) (by decide) ?_
          exact bx_X6_takeClause_166  hΦ _ _ _ h
        · simp only [if_pos hc136] at h
          refine am_iconst (v := 1) (am_dk tk_X6_takeClause_1 14 rfl) (by decide) ?_
          refine am_goto (tgt := 166) (am_dk tk_X6_takeClause_1 15 rfl) (by decide) ?_
          exact bx_X6_takeClause_166  hΦ _ _ _ h
    · rw [if_pos hc107] at h
      refine am_aload_n (j := 0) (am_dk tk_X6_takeClause 59 rfl) rfl rfl ?_
      refine ly_geti rfl fl_X6_138 rfl (am_dk tk_X6_takeClause_1 0 rfl) ?_
      refine am_iconst (v := 5) (am_dk tk_X6_takeClause_1 1 rfl) (by decide) ?_
      refine am_icmp_ne (tgt := 122) (am_dk tk_X6_takeClause_1 2 rfl) (by decide) (fun hc115 => ?_) (fun hc115 => ?_)
      · simp only [if_neg hc115] at h
        refine am_iconst (v := 0) (am_dk tk_X6_takeClause_1 5 rfl) (by decide) ?_
        refine am_goto (tgt := 166) (am_dk tk_X6_takeClause_1 6 rfl) (by decide) ?_
        exact bx_X6_takeClause_166  hΦ _ _ _ h
      · simp only [if_pos hc115] at h
        refine am_iconst (v := 1) (am_dk tk_X6_takeClause_1 3 rfl) (by decide) ?_
        refine am_goto (tgt := 166) (am_dk tk_X6_takeClause_1 4 rfl) (by decide) ?_
        exact bx_X6_takeClause_166  hΦ _ _ _ h
  · rw [if_pos hc85] at h
    refine am_aload_n (j := 0) (am_dk tk_X6_takeClause 47 rfl) rfl rfl ?_
    refine ly_getr (b := 64) rfl fl_X6_35 rfl rfl (am_dk tk_X6_takeClause 48 rfl) ?_
    refine am_iconst (v := 0) (am_dk tk_X6_takeClause 49 rfl) (by decide) ?_
    refine ly_iald (k := 0) rfl (am_in_vp (by decide)) rfl (am_dk tk_X6_takeClause 50 rfl) ?_
    refine am_if_le (tgt := 101) (am_dk tk_X6_takeClause 51 rfl) (by decide) (fun hc94 => ?_) (fun hc94 => ?_)
    · simp only [if_pos hc94] at h
      refine am_iconst (v := 0) (am_dk tk_X6_takeClause 54 rfl) (by decide) ?_
      refine am_goto (tgt := 166) (am_dk tk_X6_takeClause 55 rfl) (by decide) ?_
      exact bx_X6_takeClause_166  hΦ _ _ _ h
    · simp only [if_neg hc94] at h
      refine am_iconst (v := 1) (am_dk tk_X6_takeClause 52 rfl) (by decide) ?_
      refine am_goto (tgt := 166) (am_dk tk_X6_takeClause 53 rfl) (by decide) ?_
      exact bx_X6_takeClause_166  hΦ _ _ _ h
theorem bx_X6_takeClause_56 {l : Launch} {h0 : am_H} {Φ : am_Ph} {tw : Nat} {tp : Bool}  {r : Int32} {D' : am_M} (hΦ : Φ (some (.int r)) (ly tw tp D')) : ∀ (s0 : Int32) (D : am_M), b_X6_takeClause_56 s0 D = some (r, D') → am_Ex (am_E l m_X6_takeClause false h0 Φ) prog_8_method_17_code (0, 0) 56 [(0, .ref 56)] [.int s0] (ly tw tp D) := by
  intro s0 D h
  rw [b_X6_takeClause_56] at h
  refine am_istore_n (L' := [(2, .int s0), (0, .ref 56)]) (am_dk tk_X6_takeClause 29 rfl) rfl (Nat.le_of_ble_eq_true rfl) rfl ?_
  refine am_iload_n (j := 0) (am_dk tk_X6_takeClause 30 rfl) rfl rfl ?_
  refine am_if_lt (tgt := 74) (am_dk tk_X6_takeClause 31 rfl) (by decide) (fun hc58 => ?_) (fun hc58 => ?_)
  · rw [if_pos hc58] at h
    refine am_ls [1] rfl ?_
    exact bx_X6_takeClause_74  hΦ _ h
  · rw [if_neg hc58] at h
    refine am_iload_n (j := 0) (am_dk tk_X6_takeClause 32 rfl) rfl rfl ?_
    refine am_if_le (tgt := 84) (am_dk tk_X6_takeClause 33 rfl) (by decide) (fun hc62 => ?_) (fun hc62 => ?_)
    · rw [if_pos hc62] at h
      refine am_ls [1, 0] rfl ?_
      exact bx_X6_takeClause_84  hΦ _ _ h
    · rw [if_neg hc62] at h
      refine am_aload_n (j := 1) (am_dk tk_X6_takeClause 34 rfl) rfl rfl ?_
      refine ly_getr (b := 64) rfl fl_X6_35 rfl rfl (am_dk tk_X6_takeClause 35 rfl) ?_
      refine am_iconst (v := 0) (am_dk tk_X6_takeClause 36 rfl) (by decide) ?_
      refine ly_iald (k := 0) rfl (am_in_vp (by decide)) rfl (am_dk tk_X6_takeClause 37 rfl) ?_
      refine am_if_ne (tgt := 84) (am_dk tk_X6_takeClause 38 rfl) (by decide) (fun hc71 => ?_) (fun hc71 => ?_)
      · rw [if_neg hc71] at h
        refine am_ls [1, 0] rfl ?_
        exact bx_X6_takeClause_84  hΦ _ _ h
      · rw [if_pos hc71] at h
        refine am_ls [1] rfl ?_
        exact bx_X6_takeClause_74  hΦ _ h
theorem ct_X6_takeClause {l : Launch} {tw : Nat} {tp : Bool}  {r : Int32} {D D' : am_M} (h : f_X6_takeClause D = some (r, D')) : am_CT l m_X6_takeClause false [.ref 56] (ly tw tp D) (am_is (some (.int r)) (ly tw tp D')) := by
  have hΦ : am_is (some (.int r)) (ly tw tp D') (some (.int r)) (ly tw tp D') := ⟨rfl, rfl⟩
  refine am_CT.of (by decide) (Nat.le_of_ble_eq_true rfl) ?_
  show am_Ex _ _ _ 0 [(0, .ref 56)] [] _
  rw [f_X6_takeClause] at h
  refine am_aload_n (j := 0) (am_dk tk_X6_takeClause 0 rfl) rfl rfl ?_
  obtain ⟨q1, hq1, h⟩ := am_bind h
  refine ly_cV (M := m_X6_here) (As := []) (b := 56) (st := []) (ct_X6_here hq1) rfl (by decide) rfl ml_X6_113 ld_X6_here rfl ⟨Nat.le_of_ble_eq_true rfl, Nat.le_of_ble_eq_true rfl⟩ (Nat.le_of_ble_eq_true rfl) ⟨rfl, rfl⟩ ⟨Nat.le_of_ble_eq_true rfl, Nat.le_of_ble_eq_true rfl⟩ (am_dk tk_X6_takeClause 1 rfl) (am_kki ?_)
  refine am_istore_n (L' := [(1, .int q1.1), (0, .ref 56)]) (am_dk tk_X6_takeClause 2 rfl) rfl (Nat.le_of_ble_eq_true rfl) rfl ?_
  refine am_iload_n (j := 0) (am_dk tk_X6_takeClause 3 rfl) rfl rfl ?_
  refine am_bipush (v := 109) (am_dk tk_X6_takeClause 4 rfl) (by decide) ?_
  refine am_icmp_ne (tgt := 15) (am_dk tk_X6_takeClause 5 rfl) (by decide) (fun hc8 => ?_) (fun hc8 => ?_)
  · simp only [if_neg hc8] at h
    refine am_iload_n (j := 0) (am_dk tk_X6_takeClause 8 rfl) rfl rfl ?_
    refine am_bipush (v := 112) (am_dk tk_X6_takeClause 9 rfl) (by decide) ?_
    refine am_icmp_ne (tgt := 25) (am_dk tk_X6_takeClause 10 rfl) (by decide) (fun hc18 => ?_) (fun hc18 => ?_)
    · simp only [if_neg hc18] at h
      refine am_iload_n (j := 0) (am_dk tk_X6_takeClause 13 rfl) rfl rfl ?_
      refine am_bipush (v := 99) (am_dk tk_X6_takeClause 14 rfl) (by decide) ?_
      refine am_icmp_ne (tgt := 35) (am_dk tk_X6_takeClause 15 rfl) (by decide) (fun hc28 => ?_) (fun hc28 => ?_)
      · simp only [if_neg hc28] at h
        refine am_iload_n (j := 0) (am_dk tk_X6_takeClause 18 rfl) rfl rfl ?_
        refine am_bipush (v := 100) (am_dk tk_X6_takeClause 19 rfl) (by decide) ?_
        refine am_icmp_ne (tgt := 45) (am_dk tk_X6_takeClause 20 rfl) (by decide) (fun hc38 => ?_) (fun hc38 => ?_)
        · simp only [if_neg hc38] at h
          refine am_iload_n (j := 0) (am_dk tk_X6_takeClause 23 rfl) rfl rfl ?_
          refine am_bipush (v := 117) (am_dk tk_X6_takeClause 24 rfl) (by decide) ?_
          refine am_icmp_ne (tgt := 55) (am_dk tk_X6_takeClause 25 rfl) (by decide) (fun hc48 => ?_) (fun hc48 => ?_)
          · simp only [if_neg hc48] at h
            refine am_iconst (v := (-1)) (am_dk tk_X6_takeClause 28 rfl) (by decide) ?_
            refine am_ls [1] rfl ?_
            exact bx_X6_takeClause_56  hΦ _ _ h
          · simp only [if_pos hc48] at h
            refine am_iconst (v := 4) (am_dk tk_X6_takeClause 26 rfl) (by decide) ?_
            refine am_goto (tgt := 56) (am_dk tk_X6_takeClause 27 rfl) (by decide) ?_
            refine am_ls [1] rfl ?_
            exact bx_X6_takeClause_56  hΦ _ _ h
        · simp only [if_pos hc38] at h
          refine am_iconst (v := 3) (am_dk tk_X6_takeClause 21 rfl) (by decide) ?_
          refine am_goto (tgt := 56) (am_dk tk_X6_takeClause 22 rfl) (by decide) ?_
          refine am_ls [1] rfl ?_
          exact bx_X6_takeClause_56  hΦ _ _ h
      · simp only [if_pos hc28] at h
        refine am_iconst (v := 2) (am_dk tk_X6_takeClause 16 rfl) (by decide) ?_
        refine am_goto (tgt := 56) (am_dk tk_X6_takeClause 17 rfl) (by decide) ?_
        refine am_ls [1] rfl ?_
        exact bx_X6_takeClause_56  hΦ _ _ h
    · simp only [if_pos hc18] at h
      refine am_iconst (v := 1) (am_dk tk_X6_takeClause 11 rfl) (by decide) ?_
      refine am_goto (tgt := 56) (am_dk tk_X6_takeClause 12 rfl) (by decide) ?_
      refine am_ls [1] rfl ?_
      exact bx_X6_takeClause_56  hΦ _ _ h
  · simp only [if_pos hc8] at h
    refine am_iconst (v := 0) (am_dk tk_X6_takeClause 6 rfl) (by decide) ?_
    refine am_goto (tgt := 56) (am_dk tk_X6_takeClause 7 rfl) (by decide) ?_
    refine am_ls [1] rfl ?_
    exact bx_X6_takeClause_56  hΦ _ _ h
abbrev m_X6_takeRead : am_D := (yX6_takeRead, prog_8_method_18_code, 2, none, { frames := 0, cells := 0, slots := 0, locals := 0 })
theorem ld_X6_takeRead : am_LD m_X6_takeRead 0 := ⟨(am_tb 85 (by decide +kernel) (by decide +kernel)), (am_tb 1028 (by decide +kernel) (by decide +kernel)), by decide, by decide, by decide +kernel⟩
def tb_X6_takeRead : List (Nat × Instr × Nat) := [(0, .aload_n 0, 1), (1, .aload_n 0, 1), (2, .getfield 35, 3), (5, .iconst 0, 1), (6, .iaload, 1), (7, .putfield 93, 3), (10, .aload_n 0, 1), (11, .aload_n 0, 1), (12, .getfield 35, 3), (15, .iconst 1, 1), (16, .iaload, 1), (17, .putfield 173, 3), (20, .aload_n 0, 1), (21, .aload_n 0, 1), (22, .getfield 35, 3), (25, .iconst 2, 1), (26, .iaload, 1), (27, .putfield 176, 3), (30, .aload_n 0, 1), (31, .aload_n 0, 1), (32, .getfield 138, 3), (35, .putfield 96, 3), (38, .aload_n 0, 1), (39, .aload_n 0, 1), (40, .getfield 145, 3), (43, .putfield 179, 3), (46, .aload_n 0, 1), (47, .aload_n 0, 1), (48, .getfield 148, 3), (51, .putfield 182, 3), (54, .iconst 0, 1), (55, .istore_n 1, 1), (56, .iload_n 1, 1), (57, .sipush 138, 3), (60, .if_icmp .ge 16, 3), (63, .aload_n 0, 1), (64, .getfield 25, 3), (67, .iload_n 1, 1), (68, .iconst 0, 1), (69, .iastore, 1), (70, .iinc 1 1, 3), (73, .goto (-17), 3), (76, .iconst 0, 1), (77, .istore_n 1, 1), (78, .iload_n 1, 1), (79, .aload_n 0, 1), (80, .getfield 96, 3), (83, .if_icmp .ge 48, 3), (86, .aload_n 0, 1), (87, .getfield 25, 3), (90, .iload_n 1, 1), (91, .aload_n 0, 1), (92, .getfield 38, 3), (95, .iload_n 1, 1), (96, .iaload, 1), (97, .iastore, 1), (98, .aload_n 0, 1), (99, .getfield 25, 3), (102, .bipush 10, 2), (104, .iload_n 1, 1)]
theorem tk_X6_takeRead : am_tbl prog_8_method_18_code tb_X6_takeRead = true := by decide +kernel
def tb_X6_takeRead_1 : List (Nat × Instr × Nat) := [(105, .iadd, 1), (106, .aload_n 0, 1), (107, .getfield 41, 3), (110, .iload_n 1, 1), (111, .iaload, 1), (112, .iastore, 1), (113, .aload_n 0, 1), (114, .getfield 7, 3), (117, .iload_n 1, 1), (118, .aload_n 0, 1), (119, .getfield 47, 3), (122, .iload_n 1, 1), (123, .iaload, 1), (124, .iastore, 1), (125, .iinc 1 1, 3), (128, .goto (-50), 3), (131, .iconst 0, 1), (132, .istore_n 1, 1), (133, .iload_n 1, 1), (134, .bipush 24, 2), (136, .aload_n 0, 1), (137, .getfield 96, 3), (140, .imul, 1), (141, .if_icmp .ge 24, 3), (144, .aload_n 0, 1), (145, .getfield 25, 3), (148, .bipush 15, 2), (150, .iload_n 1, 1), (151, .iadd, 1), (152, .aload_n 0, 1), (153, .getfield 44, 3), (156, .iload_n 1, 1), (157, .iaload, 1), (158, .iastore, 1), (159, .iinc 1 1, 3), (162, .goto (-29), 3), (165, .iconst 0, 1), (166, .istore_n 1, 1), (167, .iload_n 1, 1), (168, .aload_n 0, 1), (169, .getfield 179, 3), (172, .if_icmp .ge 21, 3), (175, .aload_n 0, 1), (176, .getfield 13, 3), (179, .iload_n 1, 1), (180, .aload_n 0, 1), (181, .getfield 50, 3), (184, .iload_n 1, 1), (185, .iaload, 1), (186, .iastore, 1), (187, .iinc 1 1, 3), (190, .goto (-23), 3), (193, .iconst 0, 1), (194, .istore_n 1, 1), (195, .iload_n 1, 1), (196, .aload_n 0, 1), (197, .getfield 182, 3), (200, .if_icmp .ge 45, 3), (203, .aload_n 0, 1), (204, .getfield 16, 3)]
theorem tk_X6_takeRead_1 : am_tbl prog_8_method_18_code tb_X6_takeRead_1 = true := by decide +kernel
def tb_X6_takeRead_2 : List (Nat × Instr × Nat) := [(207, .iload_n 1, 1), (208, .aload_n 0, 1), (209, .getfield 53, 3), (212, .iload_n 1, 1), (213, .iaload, 1), (214, .iastore, 1), (215, .aload_n 0, 1), (216, .getfield 19, 3), (219, .iload_n 1, 1), (220, .aload_n 0, 1), (221, .getfield 56, 3), (224, .iload_n 1, 1), (225, .iaload, 1), (226, .iastore, 1), (227, .aload_n 0, 1), (228, .getfield 22, 3), (231, .iload_n 1, 1), (232, .aload_n 0, 1), (233, .getfield 59, 3), (236, .iload_n 1, 1), (237, .iaload, 1), (238, .iastore, 1), (239, .iinc 1 1, 3), (242, .goto (-47), 3), (245, .return_, 1)]
theorem tk_X6_takeRead_2 : am_tbl prog_8_method_18_code tb_X6_takeRead_2 = true := by decide +kernel
def b_X6_takeRead_239 (k195 : Int32 → am_M → Option am_M) (x1 : Int32) (D : am_M) : Option am_M := k195 (x1 + 1) D
def b_X6_takeRead_195 : Nat → Int32 → am_M → Option am_M
  | 0, _, _ => none
  | n + 1, x1, D => if (D 56 7) ≤ x1 then some D else if am_in x1 8 = true then b_X6_takeRead_239 (b_X6_takeRead_195 n) x1 (am_up (am_up (am_up D 59 x1.toNatClampNeg (D 70 x1.toNatClampNeg)) 60 x1.toNatClampNeg ((am_up D 59 x1.toNatClampNeg (D 70 x1.toNatClampNeg)) 71 x1.toNatClampNeg)) 61 x1.toNatClampNeg ((am_up (am_up D 59 x1.toNatClampNeg (D 70 x1.toNatClampNeg)) 60 x1.toNatClampNeg ((am_up D 59 x1.toNatClampNeg (D 70 x1.toNatClampNeg)) 71 x1.toNatClampNeg)) 72 x1.toNatClampNeg)) else none
def b_X6_takeRead_167 : Nat → Int32 → am_M → Option am_M
  | 0, _, _ => none
  | n + 1, x1, D => if (D 56 5) ≤ x1 then b_X6_takeRead_195 am_N 0 D else if am_in x1 4 = true then b_X6_takeRead_167 n (x1 + 1) (am_up D 58 x1.toNatClampNeg (D 69 x1.toNatClampNeg)) else none
def b_X6_takeRead_133 : Nat → Int32 → am_M → Option am_M
  | 0, _, _ => none
  | n + 1, x1, D => if (24 * (D 56 3)) ≤ x1 then b_X6_takeRead_167 am_N 0 D else if am_in x1 120 = true then if am_in (15 + x1) 138 = true then b_X6_takeRead_133 n (x1 + 1) (am_up D 62 (15 + x1).toNatClampNeg (D 67 x1.toNatClampNeg)) else none else none
def b_X6_takeRead_125 (k78 : Int32 → am_M → Option am_M) (x1 : Int32) (D : am_M) : Option am_M := k78 (x1 + 1) D
def b_X6_takeRead_78 : Nat → Int32 → am_M → Option am_M
  | 0, _, _ => none
  | n + 1, x1, D => if (D 56 3) ≤ x1 then b_X6_takeRead_133 am_N 0 D else if am_in x1 5 = true then if am_in x1 138 = true then if am_in (10 + x1) 138 = true then b_X6_takeRead_125 (b_X6_takeRead_78 n) x1 (am_up (am_up (am_up D 62 x1.toNatClampNeg (D 65 x1.toNatClampNeg)) 62 (10 + x1).toNatClampNeg ((am_up D 62 x1.toNatClampNeg (D 65 x1.toNatClampNeg)) 66 x1.toNatClampNeg)) 57 x1.toNatClampNeg ((am_up (am_up D 62 x1.toNatClampNeg (D 65 x1.toNatClampNeg)) 62 (10 + x1).toNatClampNeg ((am_up D 62 x1.toNatClampNeg (D 65 x1.toNatClampNeg)) 66 x1.toNatClampNeg)) 68 x1.toNatClampNeg)) else none else none else none
def b_X6_takeRead_56 : Nat → Int32 → am_M → Option am_M
  | 0, _, _ => none
  | n + 1, x1, D => if 138 ≤ x1 then b_X6_takeRead_78 am_N 0 D else if am_in x1 138 = true then b_X6_takeRead_56 n (x1 + 1) (am_up D 62 x1.toNatClampNeg 0) else none
def b_X6_takeRead_38 (D : am_M) : Option am_M := b_X6_takeRead_56 am_N 0 (am_up (am_up D 56 5 (D 56 26)) 56 7 ((am_up D 56 5 (D 56 26)) 56 28))
def f_X6_takeRead (D : am_M) : Option am_M := b_X6_takeRead_38 (am_up (am_up (am_up (am_up D 56 0 (D 64 0)) 56 1 ((am_up D 56 0 (D 64 0)) 64 1)) 56 2 ((am_up (am_up D 56 0 (D 64 0)) 56 1 ((am_up D 56 0 (D 64 0)) 64 1)) 64 2)) 56 3 ((am_up (am_up (am_up D 56 0 (D 64 0)) 56 1 ((am_up D 56 0 (D 64 0)) 64 1)) 56 2 ((am_up (am_up D 56 0 (D 64 0)) 56 1 ((am_up D 56 0 (D 64 0)) 64 1)) 64 2)) 56 20))
theorem bx_X6_takeRead_239 {l : Launch} {h0 : am_H} {Φ : am_Ph} {tw : Nat} {tp : Bool}  {D' : am_M} (hΦ : Φ none (ly tw tp D')) {k195 : Int32 → am_M → Option am_M} (hk195 : ∀ (x1 : Int32) (D : am_M), k195 x1 D = some D' → am_Ex (am_E l m_X6_takeRead false h0 Φ) prog_8_method_18_code (0, 0) 195 [(0, .ref 56), (1, .int x1)] [] (ly tw tp D)) : ∀ (x1 : Int32) (D : am_M), b_X6_takeRead_239 k195 x1 D = some D' → am_Ex (am_E l m_X6_takeRead false h0 Φ) prog_8_method_18_code (0, 0) 239 [(0, .ref 56), (1, .int x1)] [] (ly tw tp D) := by
  intro x1 D h
  rw [b_X6_takeRead_239] at h
  refine am_iinc (j := 1) (v := x1 + 1) (L' := [(1, .int (x1 + 1)), (0, .ref 56)]) (am_dk tk_X6_takeRead_2 22 rfl) rfl rfl (Nat.le_of_ble_eq_true rfl) rfl ?_
  refine am_goto (tgt := 195) (am_dk tk_X6_takeRead_2 23 rfl) (by decide) ?_
  refine am_ls [1, 0] rfl ?_
  exact hk195 _ _ h
theorem bx_X6_takeRead_195 {l : Launch} {h0 : am_H} {Φ : am_Ph} {tw : Nat} {tp : Bool}  {D' : am_M} (hΦ : Φ none (ly tw tp D')) : ∀ (n : Nat) (x1 : Int32) (D : am_M), b_X6_takeRead_195 n x1 D = some D' → am_Ex (am_E l m_X6_takeRead false h0 Φ) prog_8_method_18_code (0, 0) 195 [(0, .ref 56), (1, .int x1)] [] (ly tw tp D) := by
  intro n
  induction n with
  | zero =>
    intro x1 D h
    exact absurd h (by simp [b_X6_takeRead_195])
  | succ n ih =>
    intro x1 D h
    rw [b_X6_takeRead_195] at h
    refine am_iload_n (j := 1) (am_dk tk_X6_takeRead_1 54 rfl) rfl rfl ?_
    refine am_aload_n (j := 0) (am_dk tk_X6_takeRead_1 55 rfl) rfl rfl ?_
    refine ly_geti rfl fl_X6_182 rfl (am_dk tk_X6_takeRead_1 56 rfl) ?_
    refine am_icmp_ge (tgt := 245) (am_dk tk_X6_takeRead_1 57 rfl) (by decide) (fun hc200 => ?_) (fun hc200 => ?_)
    · rw [if_pos hc200] at h
      exact am_vret rfl (am_r0 h hΦ) ⟨Nat.le_of_ble_eq_true rfl, Nat.le_of_ble_eq_true rfl⟩ (am_dk tk_X6_takeRead_2 24 rfl)
    · rw [if_neg hc200] at h
      refine am_aload_n (j := 0) (am_dk tk_X6_takeRead_1 58 rfl) rfl rfl ?_
      refine ly_getr (b := 59) rfl fl_X6_16 rfl rfl (am_dk tk_X6_takeRead_1 59 rfl) ?_
      refine am_iload_n (j := 1) (am_dk tk_X6_takeRead_2 0 rfl) rfl rfl ?_
      refine am_aload_n (j := 0) (am_dk tk_X6_takeRead_2 1 rfl) rfl rfl ?_
      refine ly_getr (b := 70) rfl fl_X6_53 rfl rfl (am_dk tk_X6_takeRead_2 2 rfl) ?_
      refine am_iload_n (j := 1) (am_dk tk_X6_takeRead_2 3 rfl) rfl rfl ?_
      obtain ⟨hi213, h⟩ := am_chk h
      refine ly_iald (k := x1.toNatClampNeg) rfl (am_in_vp hi213) rfl (am_dk tk_X6_takeRead_2 4 rfl) ?_
      refine ly_iast (k := x1.toNatClampNeg) rfl (am_in_vp hi213) rfl (am_dk tk_X6_takeRead_2 5 rfl) ?_
      refine am_aload_n (j := 0) (am_dk tk_X6_takeRead_2 6 rfl) rfl rfl ?_
      refine ly_getr (b := 60) rfl fl_X6_19 rfl rfl (am_dk tk_X6_takeRead_2 7 rfl) ?_
      refine am_iload_n (j := 1) (am_dk tk_X6_takeRead_2 8 rfl) rfl rfl ?_
      refine am_aload_n (j := 0) (am_dk tk_X6_takeRead_2 9 rfl) rfl rfl ?_
      refine ly_getr (b := 71) rfl fl_X6_56 rfl rfl (am_dk tk_X6_takeRead_2 10 rfl) ?_
      refine am_iload_n (j := 1) (am_dk tk_X6_takeRead_2 11 rfl) rfl rfl ?_
      refine ly_iald (k := x1.toNatClampNeg) rfl (am_in_vp hi213) rfl (am_dk tk_X6_takeRead_2 12 rfl) ?_
      refine ly_iast (k := x1.toNatClampNeg) rfl (am_in_vp hi213) rfl (am_dk tk_X6_takeRead_2 13 rfl) ?_
      refine am_aload_n (j := 0) (am_dk tk_X6_takeRead_2 14 rfl) rfl rfl ?_
      refine ly_getr (b := 61) rfl fl_X6_22 rfl rfl (am_dk tk_X6_takeRead_2 15 rfl) ?_
      refine am_iload_n (j := 1) (am_dk tk_X6_takeRead_2 16 rfl) rfl rfl ?_
      refine am_aload_n (j := 0) (am_dk tk_X6_takeRead_2 17 rfl) rfl rfl ?_
      refine ly_getr (b := 72) rfl fl_X6_59 rfl rfl (am_dk tk_X6_takeRead_2 18 rfl) ?_
      refine am_iload_n (j := 1) (am_dk tk_X6_takeRead_2 19 rfl) rfl rfl ?_
      refine ly_iald (k := x1.toNatClampNeg) rfl (am_in_vp hi213) rfl (am_dk tk_X6_takeRead_2 20 rfl) ?_
      refine ly_iast (k := x1.toNatClampNeg) rfl (am_in_vp hi213) rfl (am_dk tk_X6_takeRead_2 21 rfl) ?_
      exact bx_X6_takeRead_239  hΦ (ih) _ _ h
theorem bx_X6_takeRead_167 {l : Launch} {h0 : am_H} {Φ : am_Ph} {tw : Nat} {tp : Bool}  {D' : am_M} (hΦ : Φ none (ly tw tp D')) : ∀ (n : Nat) (x1 : Int32) (D : am_M), b_X6_takeRead_167 n x1 D = some D' → am_Ex (am_E l m_X6_takeRead false h0 Φ) prog_8_method_18_code (0, 0) 167 [(0, .ref 56), (1, .int x1)] [] (ly tw tp D) := by
  intro n
  induction n with
  | zero =>
    intro x1 D h
    exact absurd h (by simp [b_X6_takeRead_167])
  | succ n ih =>
    intro x1 D h
    rw [b_X6_takeRead_167] at h
    refine am_iload_n (j := 1) (am_dk tk_X6_takeRead_1 38 rfl) rfl rfl ?_
    refine am_aload_n (j := 0) (am_dk tk_X6_takeRead_1 39 rfl) rfl rfl ?_
    refine ly_geti rfl fl_X6_179 rfl (am_dk tk_X6_takeRead_1 40 rfl) ?_
    refine am_icmp_ge (tgt := 193) (am_dk tk_X6_takeRead_1 41 rfl) (by decide) (fun hc172 => ?_) (fun hc172 => ?_)
    · rw [if_pos hc172] at h
      refine am_iconst (v := 0) (am_dk tk_X6_takeRead_1 52 rfl) (by decide) ?_
      refine am_istore_n (L' := [(1, .int 0), (0, .ref 56)]) (am_dk tk_X6_takeRead_1 53 rfl) rfl (Nat.le_of_ble_eq_true rfl) rfl ?_
      refine am_ls [1, 0] rfl ?_
      exact bx_X6_takeRead_195  hΦ am_N _ _ h
    · rw [if_neg hc172] at h
      refine am_aload_n (j := 0) (am_dk tk_X6_takeRead_1 42 rfl) rfl rfl ?_
      refine ly_getr (b := 58) rfl fl_X6_13 rfl rfl (am_dk tk_X6_takeRead_1 43 rfl) ?_
      refine am_iload_n (j := 1) (am_dk tk_X6_takeRead_1 44 rfl) rfl rfl ?_
      refine am_aload_n (j := 0) (am_dk tk_X6_takeRead_1 45 rfl) rfl rfl ?_
      refine ly_getr (b := 69) rfl fl_X6_50 rfl rfl (am_dk tk_X6_takeRead_1 46 rfl) ?_
      refine am_iload_n (j := 1) (am_dk tk_X6_takeRead_1 47 rfl) rfl rfl ?_
      obtain ⟨hi185, h⟩ := am_chk h
      refine ly_iald (k := x1.toNatClampNeg) rfl (am_in_vp hi185) rfl (am_dk tk_X6_takeRead_1 48 rfl) ?_
      refine ly_iast (k := x1.toNatClampNeg) rfl (am_in_vp hi185) rfl (am_dk tk_X6_takeRead_1 49 rfl) ?_
      refine am_iinc (j := 1) (v := x1 + 1) (L' := [(1, .int (x1 + 1)), (0, .ref 56)]) (am_dk tk_X6_takeRead_1 50 rfl) rfl rfl (Nat.le_of_ble_eq_true rfl) rfl ?_
      refine am_goto (tgt := 167) (am_dk tk_X6_takeRead_1 51 rfl) (by decide) ?_
      refine am_ls [1, 0] rfl ?_
      exact ih _ _ h
theorem bx_X6_takeRead_133 {l : Launch} {h0 : am_H} {Φ : am_Ph} {tw : Nat} {tp : Bool}  {D' : am_M} (hΦ : Φ none (ly tw tp D')) : ∀ (n : Nat) (x1 : Int32) (D : am_M), b_X6_takeRead_133 n x1 D = some D' → am_Ex (am_E l m_X6_takeRead false h0 Φ) prog_8_method_18_code (0, 0) 133 [(0, .ref 56), (1, .int x1)] [] (ly tw tp D) := by
  intro n
  induction n with
  | zero =>
    intro x1 D h
    exact absurd h (by simp [b_X6_takeRead_133])
  | succ n ih =>
    intro x1 D h
    rw [b_X6_takeRead_133] at h
    refine am_iload_n (j := 1) (am_dk tk_X6_takeRead_1 18 rfl) rfl rfl ?_
    refine am_bipush (v := 24) (am_dk tk_X6_takeRead_1 19 rfl) (by decide) ?_
    refine am_aload_n (j := 0) (am_dk tk_X6_takeRead_1 20 rfl) rfl rfl ?_
    refine ly_geti rfl fl_X6_96 rfl (am_dk tk_X6_takeRead_1 21 rfl) ?_
    refine am_imul (am_dk tk_X6_takeRead_1 22 rfl) ?_
    refine am_icmp_ge (tgt := 165) (am_dk tk_X6_takeRead_1 23 rfl) (by decide) (fun hc141 => ?_) (fun hc141 => ?_)
    · rw [if_pos hc141] at h
      refine am_iconst (v := 0) (am_dk tk_X6_takeRead_1 36 rfl) (by decide) ?_
      refine am_istore_n (L' := [(1, .int 0), (0, .ref 56)]) (am_dk tk_X6_takeRead_1 37 rfl) rfl (Nat.le_of_ble_eq_true rfl) rfl ?_
      refine am_ls [1, 0] rfl ?_
      exact bx_X6_takeRead_167  hΦ am_N _ _ h
    · rw [if_neg hc141] at h
      refine am_aload_n (j := 0) (am_dk tk_X6_takeRead_1 24 rfl) rfl rfl ?_
      refine ly_getr (b := 62) rfl fl_X6_25 rfl rfl (am_dk tk_X6_takeRead_1 25 rfl) ?_
      refine am_bipush (v := 15) (am_dk tk_X6_takeRead_1 26 rfl) (by decide) ?_
      refine am_iload_n (j := 1) (am_dk tk_X6_takeRead_1 27 rfl) rfl rfl ?_
      refine am_iadd (am_dk tk_X6_takeRead_1 28 rfl) ?_
      refine am_aload_n (j := 0) (am_dk tk_X6_takeRead_1 29 rfl) rfl rfl ?_
      refine ly_getr (b := 67) rfl fl_X6_44 rfl rfl (am_dk tk_X6_takeRead_1 30 rfl) ?_
      refine am_iload_n (j := 1) (am_dk tk_X6_takeRead_1 31 rfl) rfl rfl ?_
      obtain ⟨hi157, h⟩ := am_chk h
      refine ly_iald (k := x1.toNatClampNeg) rfl (am_in_vp hi157) rfl (am_dk tk_X6_takeRead_1 32 rfl) ?_
      obtain ⟨hi158, h⟩ := am_chk h
      refine ly_iast (k := (15 + x1).toNatClampNeg) rfl (am_in_vp hi158) rfl (am_dk tk_X6_takeRead_1 33 rfl) ?_
      refine am_iinc (j := 1) (v := x1 + 1) (L' := [(1, .int (x1 + 1)), (0, .ref 56)]) (am_dk tk_X6_takeRead_1 34 rfl) rfl rfl (Nat.le_of_ble_eq_true rfl) rfl ?_
      refine am_goto (tgt := 133) (am_dk tk_X6_takeRead_1 35 rfl) (by decide) ?_
      refine am_ls [1, 0] rfl ?_
      exact ih _ _ h
theorem bx_X6_takeRead_125 {l : Launch} {h0 : am_H} {Φ : am_Ph} {tw : Nat} {tp : Bool}  {D' : am_M} (hΦ : Φ none (ly tw tp D')) {k78 : Int32 → am_M → Option am_M} (hk78 : ∀ (x1 : Int32) (D : am_M), k78 x1 D = some D' → am_Ex (am_E l m_X6_takeRead false h0 Φ) prog_8_method_18_code (0, 0) 78 [(0, .ref 56), (1, .int x1)] [] (ly tw tp D)) : ∀ (x1 : Int32) (D : am_M), b_X6_takeRead_125 k78 x1 D = some D' → am_Ex (am_E l m_X6_takeRead false h0 Φ) prog_8_method_18_code (0, 0) 125 [(0, .ref 56), (1, .int x1)] [] (ly tw tp D) := by
  intro x1 D h
  rw [b_X6_takeRead_125] at h
  refine am_iinc (j := 1) (v := x1 + 1) (L' := [(1, .int (x1 + 1)), (0, .ref 56)]) (am_dk tk_X6_takeRead_1 14 rfl) rfl rfl (Nat.le_of_ble_eq_true rfl) rfl ?_
  refine am_goto (tgt := 78) (am_dk tk_X6_takeRead_1 15 rfl) (by decide) ?_
  refine am_ls [1, 0] rfl ?_
  exact hk78 _ _ h
theorem bx_X6_takeRead_78 {l : Launch} {h0 : am_H} {Φ : am_Ph} {tw : Nat} {tp : Bool}  {D' : am_M} (hΦ : Φ none (ly tw tp D')) : ∀ (n : Nat) (x1 : Int32) (D : am_M), b_X6_takeRead_78 n x1 D = some D' → am_Ex (am_E l m_X6_takeRead false h0 Φ) prog_8_method_18_code (0, 0) 78 [(0, .ref 56), (1, .int x1)] [] (ly tw tp D) := by
  intro n
  induction n with
  | zero =>
    intro x1 D h
    exact absurd h (by simp [b_X6_takeRead_78])
  | succ n ih =>
    intro x1 D h
    rw [b_X6_takeRead_78] at h
    refine am_iload_n (j := 1) (am_dk tk_X6_takeRead 44 rfl) rfl rfl ?_
    refine am_aload_n (j := 0) (am_dk tk_X6_takeRead 45 rfl) rfl rfl ?_
    refine ly_geti rfl fl_X6_96 rfl (am_dk tk_X6_takeRead 46 rfl) ?_
    refine am_icmp_ge (tgt := 131) (am_dk tk_X6_takeRead 47 rfl) (by decide) (fun hc83 => ?_) (fun hc83 => ?_)
    · rw [if_pos hc83] at h
      refine am_iconst (v := 0) (am_dk tk_X6_takeRead_1 16 rfl) (by decide) ?_
      refine am_istore_n (L' := [(1, .int 0), (0, .ref 56)]) (am_dk tk_X6_takeRead_1 17 rfl) rfl (Nat.le_of_ble_eq_true rfl) rfl ?_
      refine am_ls [1, 0] rfl ?_
      exact bx_X6_takeRead_133  hΦ am_N _ _ h
    · rw [if_neg hc83] at h
      refine am_aload_n (j := 0) (am_dk tk_X6_takeRead 48 rfl) rfl rfl ?_
      refine ly_getr (b := 62) rfl fl_X6_25 rfl rfl (am_dk tk_X6_takeRead 49 rfl) ?_
      refine am_iload_n (j := 1) (am_dk tk_X6_takeRead 50 rfl) rfl rfl ?_
      refine am_aload_n (j := 0) (am_dk tk_X6_takeRead 51 rfl) rfl rfl ?_
      refine ly_getr (b := 65) rfl fl_X6_38 rfl rfl (am_dk tk_X6_takeRead 52 rfl) ?_
      refine am_iload_n (j := 1) (am_dk tk_X6_takeRead 53 rfl) rfl rfl ?_
      obtain ⟨hi96, h⟩ := am_chk h
      refine ly_iald (k := x1.toNatClampNeg) rfl (am_in_vp hi96) rfl (am_dk tk_X6_takeRead 54 rfl) ?_
      obtain ⟨hi97, h⟩ := am_chk h
      refine ly_iast (k := x1.toNatClampNeg) rfl (am_in_vp hi97) rfl (am_dk tk_X6_takeRead 55 rfl) ?_
      refine am_aload_n (j := 0) (am_dk tk_X6_takeRead 56 rfl) rfl rfl ?_
      refine ly_getr (b := 62) rfl fl_X6_25 rfl rfl (am_dk tk_X6_takeRead 57 rfl) ?_
      refine am_bipush (v := 10) (am_dk tk_X6_takeRead 58 rfl) (by decide) ?_
      refine am_iload_n (j := 1) (am_dk tk_X6_takeRead 59 rfl) rfl rfl ?_
      refine am_iadd (am_dk tk_X6_takeRead_1 0 rfl) ?_
      refine am_aload_n (j := 0) (am_dk tk_X6_takeRead_1 1 rfl) rfl rfl ?_
      refine ly_getr (b := 66) rfl fl_X6_41 rfl rfl (am_dk tk_X6_takeRead_1 2 rfl) ?_
      refine am_iload_n (j := 1) (am_dk tk_X6_takeRead_1 3 rfl) rfl rfl ?_
      refine ly_iald (k := x1.toNatClampNeg) rfl (am_in_vp hi96) rfl (am_dk tk_X6_takeRead_1 4 rfl) ?_
      obtain ⟨hi112, h⟩ := am_chk h
      refine ly_iast (k := (10 + x1).toNatClampNeg) rfl (am_in_vp hi112) rfl (am_dk tk_X6_takeRead_1 5 rfl) ?_
      refine am_aload_n (j := 0) (am_dk tk_X6_takeRead_1 6 rfl) rfl rfl ?_
      refine ly_getr (b := 57) rfl fl_X6_7 rfl rfl (am_dk tk_X6_takeRead_1 7 rfl) ?_
      refine am_iload_n (j := 1) (am_dk tk_X6_takeRead_1 8 rfl) rfl rfl ?_
      refine am_aload_n (j := 0) (am_dk tk_X6_takeRead_1 9 rfl) rfl rfl ?_
      refine ly_getr (b := 68) rfl fl_X6_47 rfl rfl (am_dk tk_X6_takeRead_1 10 rfl) ?_
      refine am_iload_n (j := 1) (am_dk tk_X6_takeRead_1 11 rfl) rfl rfl ?_
      refine ly_iald (k := x1.toNatClampNeg) rfl (am_in_vp hi96) rfl (am_dk tk_X6_takeRead_1 12 rfl) ?_
      refine ly_iast (k := x1.toNatClampNeg) rfl (am_in_vp hi96) rfl (am_dk tk_X6_takeRead_1 13 rfl) ?_
      exact bx_X6_takeRead_125  hΦ (ih) _ _ h
theorem bx_X6_takeRead_56 {l : Launch} {h0 : am_H} {Φ : am_Ph} {tw : Nat} {tp : Bool}  {D' : am_M} (hΦ : Φ none (ly tw tp D')) : ∀ (n : Nat) (x1 : Int32) (D : am_M), b_X6_takeRead_56 n x1 D = some D' → am_Ex (am_E l m_X6_takeRead false h0 Φ) prog_8_method_18_code (0, 0) 56 [(0, .ref 56), (1, .int x1)] [] (ly tw tp D) := by
  intro n
  induction n with
  | zero =>
    intro x1 D h
    exact absurd h (by simp [b_X6_takeRead_56])
  | succ n ih =>
    intro x1 D h
    rw [b_X6_takeRead_56] at h
    refine am_iload_n (j := 1) (am_dk tk_X6_takeRead 32 rfl) rfl rfl ?_
    refine am_sipush (v := 138) (am_dk tk_X6_takeRead 33 rfl) (by decide) ?_
    refine am_icmp_ge (tgt := 76) (am_dk tk_X6_takeRead 34 rfl) (by decide) (fun hc60 => ?_) (fun hc60 => ?_)
    · rw [if_pos hc60] at h
      refine am_iconst (v := 0) (am_dk tk_X6_takeRead 42 rfl) (by decide) ?_
      refine am_istore_n (L' := [(1, .int 0), (0, .ref 56)]) (am_dk tk_X6_takeRead 43 rfl) rfl (Nat.le_of_ble_eq_true rfl) rfl ?_
      refine am_ls [1, 0] rfl ?_
      exact bx_X6_takeRead_78  hΦ am_N _ _ h
    · rw [if_neg hc60] at h
      refine am_aload_n (j := 0) (am_dk tk_X6_takeRead 35 rfl) rfl rfl ?_
      refine ly_getr (b := 62) rfl fl_X6_25 rfl rfl (am_dk tk_X6_takeRead 36 rfl) ?_
      refine am_iload_n (j := 1) (am_dk tk_X6_takeRead 37 rfl) rfl rfl ?_
      refine am_iconst (v := 0) (am_dk tk_X6_takeRead 38 rfl) (by decide) ?_
      obtain ⟨hi69, h⟩ := am_chk h
      refine ly_iast (k := x1.toNatClampNeg) rfl (am_in_vp hi69) rfl (am_dk tk_X6_takeRead 39 rfl) ?_
      refine am_iinc (j := 1) (v := x1 + 1) (L' := [(1, .int (x1 + 1)), (0, .ref 56)]) (am_dk tk_X6_takeRead 40 rfl) rfl rfl (Nat.le_of_ble_eq_true rfl) rfl ?_
      refine am_goto (tgt := 56) (am_dk tk_X6_takeRead 41 rfl) (by decide) ?_
      refine am_ls [1, 0] rfl ?_
      exact ih _ _ h
theorem bx_X6_takeRead_38 {l : Launch} {h0 : am_H} {Φ : am_Ph} {tw : Nat} {tp : Bool}  {D' : am_M} (hΦ : Φ none (ly tw tp D')) : ∀ (D : am_M), b_X6_takeRead_38 D = some D' → am_Ex (am_E l m_X6_takeRead false h0 Φ) prog_8_method_18_code (0, 0) 38 [(0, .ref 56)] [] (ly tw tp D) := by
  intro  D h
  rw [b_X6_takeRead_38] at h
  refine am_aload_n (j := 0) (am_dk tk_X6_takeRead 22 rfl) rfl rfl ?_
  refine am_aload_n (j := 0) (am_dk tk_X6_takeRead 23 rfl) rfl rfl ?_
  refine ly_geti rfl fl_X6_145 rfl (am_dk tk_X6_takeRead 24 rfl) ?_
  refine ly_puti rfl fl_X6_179 rfl rfl (am_dk tk_X6_takeRead 25 rfl) ?_
  refine am_aload_n (j := 0) (am_dk tk_X6_takeRead 26 rfl) rfl rfl ?_
  refine am_aload_n (j := 0) (am_dk tk_X6_takeRead 27 rfl) rfl rfl ?_
  refine ly_geti rfl fl_X6_148 rfl (am_dk tk_X6_takeRead 28 rfl) ?_
  refine ly_puti rfl fl_X6_182 rfl rfl (am_dk tk_X6_takeRead 29 rfl) ?_
  refine am_iconst (v := 0) (am_dk tk_X6_takeRead 30 rfl) (by decide) ?_
  refine am_istore_n (L' := [(1, .int 0), (0, .ref 56)]) (am_dk tk_X6_takeRead 31 rfl) rfl (Nat.le_of_ble_eq_true rfl) rfl ?_
  refine am_ls [1, 0] rfl ?_
  exact bx_X6_takeRead_56  hΦ am_N _ _ h
theorem ct_X6_takeRead {l : Launch} {tw : Nat} {tp : Bool}  {D D' : am_M} (h : f_X6_takeRead D = some D') : am_CT l m_X6_takeRead false [.ref 56] (ly tw tp D) (am_is none (ly tw tp D')) := by
  have hΦ : am_is none (ly tw tp D') none (ly tw tp D') := ⟨rfl, rfl⟩
  refine am_CT.of (by decide) (Nat.le_of_ble_eq_true rfl) ?_
  show am_Ex _ _ _ 0 [(0, .ref 56)] [] _
  rw [f_X6_takeRead] at h
  refine am_aload_n (j := 0) (am_dk tk_X6_takeRead 0 rfl) rfl rfl ?_
  refine am_aload_n (j := 0) (am_dk tk_X6_takeRead 1 rfl) rfl rfl ?_
  refine ly_getr (b := 64) rfl fl_X6_35 rfl rfl (am_dk tk_X6_takeRead 2 rfl) ?_
  refine am_iconst (v := 0) (am_dk tk_X6_takeRead 3 rfl) (by decide) ?_
  refine ly_iald (k := 0) rfl (am_in_vp (by decide)) rfl (am_dk tk_X6_takeRead 4 rfl) ?_
  refine ly_puti rfl fl_X6_93 rfl rfl (am_dk tk_X6_takeRead 5 rfl) ?_
  refine am_aload_n (j := 0) (am_dk tk_X6_takeRead 6 rfl) rfl rfl ?_
  refine am_aload_n (j := 0) (am_dk tk_X6_takeRead 7 rfl) rfl rfl ?_
  refine ly_getr (b := 64) rfl fl_X6_35 rfl rfl (am_dk tk_X6_takeRead 8 rfl) ?_
  refine am_iconst (v := 1) (am_dk tk_X6_takeRead 9 rfl) (by decide) ?_
  refine ly_iald (k := 1) rfl (am_in_vp (by decide)) rfl (am_dk tk_X6_takeRead 10 rfl) ?_
  refine ly_puti rfl fl_X6_173 rfl rfl (am_dk tk_X6_takeRead 11 rfl) ?_
  refine am_aload_n (j := 0) (am_dk tk_X6_takeRead 12 rfl) rfl rfl ?_
  refine am_aload_n (j := 0) (am_dk tk_X6_takeRead 13 rfl) rfl rfl ?_
  refine ly_getr (b := 64) rfl fl_X6_35 rfl rfl (am_dk tk_X6_takeRead 14 rfl) ?_
  refine am_iconst (v := 2) (am_dk tk_X6_takeRead 15 rfl) (by decide) ?_
  refine ly_iald (k := 2) rfl (am_in_vp (by decide)) rfl (am_dk tk_X6_takeRead 16 rfl) ?_
  refine ly_puti rfl fl_X6_176 rfl rfl (am_dk tk_X6_takeRead 17 rfl) ?_
  refine am_aload_n (j := 0) (am_dk tk_X6_takeRead 18 rfl) rfl rfl ?_
  refine am_aload_n (j := 0) (am_dk tk_X6_takeRead 19 rfl) rfl rfl ?_
  refine ly_geti rfl fl_X6_138 rfl (am_dk tk_X6_takeRead 20 rfl) ?_
  refine ly_puti rfl fl_X6_96 rfl rfl (am_dk tk_X6_takeRead 21 rfl) ?_
  exact bx_X6_takeRead_38  hΦ _ h
abbrev m_X6_capital : am_D := (yX6_capital, prog_8_method_19_code, 2, (some .int), { frames := 5, cells := 0, slots := 0, locals := 119 })
theorem ld_X6_capital : am_LD m_X6_capital 0 := ⟨(am_tb 85 (by decide +kernel) (by decide +kernel)), (am_tb 975 (by decide +kernel) (by decide +kernel)), by decide, by decide, by decide +kernel⟩
def tb_X6_capital : List (Nat × Instr × Nat) := [(0, .aload_n 0, 1), (1, .iconst (-1), 1), (2, .putfield 31, 3), (5, .aload_n 0, 1), (6, .iconst 0, 1), (7, .putfield 110, 3), (10, .iconst 0, 1), (11, .istore_n 1, 1), (12, .iload_n 1, 1), (13, .iconst 3, 1), (14, .if_icmp .ge 16, 3), (17, .aload_n 0, 1), (18, .getfield 35, 3), (21, .iload_n 1, 1), (22, .iconst 0, 1), (23, .iastore, 1), (24, .iinc 1 1, 3), (27, .goto (-15), 3), (30, .aload_n 0, 1), (31, .iconst 0, 1), (32, .putfield 138, 3), (35, .aload_n 0, 1), (36, .iconst 0, 1), (37, .putfield 151, 3), (40, .aload_n 0, 1), (41, .iconst 0, 1), (42, .putfield 145, 3), (45, .aload_n 0, 1), (46, .iconst 0, 1), (47, .putfield 148, 3), (50, .iconst 0, 1), (51, .istore_n 1, 1), (52, .iload_n 1, 1), (53, .ifCond .ne 18, 3), (56, .aload_n 0, 1), (57, .invokevirtual 113, 3), (60, .ifCond .lt 11, 3), (63, .aload_n 0, 1), (64, .invokevirtual 185, 3), (67, .istore_n 1, 1), (68, .goto (-16), 3), (71, .aload_n 0, 1), (72, .iconst 0, 1), (73, .putfield 106, 3), (76, .iload_n 1, 1), (77, .ifCond .le 8, 3), (80, .bipush (-10), 2), (82, .iload_n 1, 1), (83, .isub, 1), (84, .ireturn, 1), (85, .aload_n 0, 1), (86, .invokevirtual 188, 3), (89, .aload_n 0, 1), (90, .iconst 0, 1), (91, .putfield 191, 3), (94, .aload_n 0, 1), (95, .getfield 89, 3), (98, .iconst 0, 1), (99, .iconst 0, 1), (100, .bastore, 1)]
theorem tk_X6_capital : am_tbl prog_8_method_19_code tb_X6_capital = true := by decide +kernel
def tb_X6_capital_1 : List (Nat × Instr × Nat) := [(101, .aload_n 0, 1), (102, .getfield 89, 3), (105, .iconst 1, 1), (106, .iconst 0, 1), (107, .bastore, 1), (108, .aload_n 0, 1), (109, .getfield 96, 3), (112, .ireturn, 1)]
theorem tk_X6_capital_1 : am_tbl prog_8_method_19_code tb_X6_capital_1 = true := by decide +kernel
def b_X6_capital_71 (x1 : Int32) (D : am_M) : Option (Int32 × am_M) := if x1 ≤ 0 then (f_X6_takeRead (am_up D 56 14 0)).bind fun q86 => some ((am_up (am_up (am_up q86 56 39 0) 82 0 (vp_nar .boolean 0)) 82 1 (vp_nar .boolean 0)) 56 3, am_up (am_up (am_up q86 56 39 0) 82 0 (vp_nar .boolean 0)) 82 1 (vp_nar .boolean 0)) else some ((-10) - x1, am_up D 56 14 0)
def b_X6_capital_52 : Nat → Int32 → am_M → Option (Int32 × am_M)
  | 0, _, _ => none
  | n + 1, x1, D => if x1 = 0 then (f_X6_here D).bind fun q57 => if q57.1 < 0 then b_X6_capital_71 x1 q57.2 else (f_X6_takeClause q57.2).bind fun q64 => b_X6_capital_52 n q64.1 q64.2 else b_X6_capital_71 x1 D
def b_X6_capital_12 : Nat → Int32 → am_M → Option (Int32 × am_M)
  | 0, _, _ => none
  | n + 1, x1, D => if 3 ≤ x1 then b_X6_capital_52 am_N 0 (am_up (am_up (am_up (am_up D 56 20 0) 56 25 0) 56 26 0) 56 28 0) else if am_in x1 3 = true then b_X6_capital_12 n (x1 + 1) (am_up D 64 x1.toNatClampNeg 0) else none
def f_X6_capital (D : am_M) : Option (Int32 × am_M) := b_X6_capital_12 am_N 0 (am_up (am_up D 56 15 (-1)) 56 16 0)
theorem bx_X6_capital_71 {l : Launch} {h0 : am_H} {Φ : am_Ph} {tw : Nat} {tp : Bool}  {r : Int32} {D' : am_M} (hΦ : Φ (some (.int r)) (ly tw tp D')) : ∀ (x1 : Int32) (D : am_M), b_X6_capital_71 x1 D = some (r, D') → am_Ex (am_E l m_X6_capital false h0 Φ) prog_8_method_19_code (0, 0) 71 [(0, .ref 56), (1, .int x1)] [] (ly tw tp D) := by
  intro x1 D h
  rw [b_X6_capital_71] at h
  refine am_aload_n (j := 0) (am_dk tk_X6_capital 41 rfl) rfl rfl ?_
  refine am_iconst (v := 0) (am_dk tk_X6_capital 42 rfl) (by decide) ?_
  refine ly_puti rfl fl_X6_106 rfl rfl (am_dk tk_X6_capital 43 rfl) ?_
  refine am_iload_n (j := 1) (am_dk tk_X6_capital 44 rfl) rfl rfl ?_
  refine am_if_le (tgt := 85) (am_dk tk_X6_capital 45 rfl) (by decide) (fun hc77 => ?_) (fun hc77 => ?_)
  · rw [if_pos hc77] at h
    refine am_aload_n (j := 0) (am_dk tk_X6_capital 50 rfl) rfl rfl ?_
    obtain ⟨q86, hq86, h⟩ := am_bind h
    refine ly_cV (M := m_X6_takeRead) (As := []) (b := 56) (st := []) (ct_X6_takeRead hq86) rfl (by decide) rfl ml_X6_188 ld_X6_takeRead rfl ⟨Nat.le_of_ble_eq_true rfl, Nat.le_of_ble_eq_true rfl⟩ (Nat.le_of_ble_eq_true rfl) ⟨rfl, rfl⟩ ⟨Nat.le_of_ble_eq_true rfl, Nat.le_of_ble_eq_true rfl⟩ (am_dk tk_X6_capital 51 rfl) (am_kkv ?_)
    refine am_aload_n (j := 0) (am_dk tk_X6_capital 52 rfl) rfl rfl ?_
    refine am_iconst (v := 0) (am_dk tk_X6_capital 53 rfl) (by decide) ?_
    refine ly_puti rfl fl_X6_191 rfl rfl (am_dk tk_X6_capital 54 rfl) ?_
    refine am_aload_n (j := 0) (am_dk tk_X6_capital 55 rfl) rfl rfl ?_
    refine ly_getr (b := 82) rfl fl_X6_89 rfl rfl (am_dk tk_X6_capital 56 rfl) ?_
    refine am_iconst (v := 0) (am_dk tk_X6_capital 57 rfl) (by decide) ?_
    refine am_iconst (v := 0) (am_dk tk_X6_capital 58 rfl) (by decide) ?_
    refine ly_bast (k := 0) rfl (am_in_vp (by decide)) rfl (am_dk tk_X6_capital 59 rfl) ?_
    refine am_aload_n (j := 0) (am_dk tk_X6_capital_1 0 rfl) rfl rfl ?_
    refine ly_getr (b := 82) rfl fl_X6_89 rfl rfl (am_dk tk_X6_capital_1 1 rfl) ?_
    refine am_iconst (v := 1) (am_dk tk_X6_capital_1 2 rfl) (by decide) ?_
    refine am_iconst (v := 0) (am_dk tk_X6_capital_1 3 rfl) (by decide) ?_
    refine ly_bast (k := 1) rfl (am_in_vp (by decide)) rfl (am_dk tk_X6_capital_1 4 rfl) ?_
    refine am_aload_n (j := 0) (am_dk tk_X6_capital_1 5 rfl) rfl rfl ?_
    refine ly_geti rfl fl_X6_96 rfl (am_dk tk_X6_capital_1 6 rfl) ?_
    exact am_iret rfl (am_r2 h hΦ) ⟨Nat.le_of_ble_eq_true rfl, Nat.le_of_ble_eq_true rfl⟩ (am_dk tk_X6_capital_1 7 rfl)
  · rw [if_neg hc77] at h
    refine am_bipush (v := (-10)) (am_dk tk_X6_capital 46 rfl) (by decide) ?_
    refine am_iload_n (j := 1) (am_dk tk_X6_capital 47 rfl) rfl rfl ?_
    refine am_isub (am_dk tk_X6_capital 48 rfl) ?_
    exact am_iret rfl (am_r2 h hΦ) ⟨Nat.le_of_ble_eq_true rfl, Nat.le_of_ble_eq_true rfl⟩ (am_dk tk_X6_capital 49 rfl)
theorem bx_X6_capital_52 {l : Launch} {h0 : am_H} {Φ : am_Ph} {tw : Nat} {tp : Bool}  {r : Int32} {D' : am_M} (hΦ : Φ (some (.int r)) (ly tw tp D')) : ∀ (n : Nat) (x1 : Int32) (D : am_M), b_X6_capital_52 n x1 D = some (r, D') → am_Ex (am_E l m_X6_capital false h0 Φ) prog_8_method_19_code (0, 0) 52 [(0, .ref 56), (1, .int x1)] [] (ly tw tp D) := by
  intro n
  induction n with
  | zero =>
    intro x1 D h
    exact absurd h (by simp [b_X6_capital_52])
  | succ n ih =>
    intro x1 D h
    rw [b_X6_capital_52] at h
    refine am_iload_n (j := 1) (am_dk tk_X6_capital 32 rfl) rfl rfl ?_
    refine am_if_ne (tgt := 71) (am_dk tk_X6_capital 33 rfl) (by decide) (fun hc53 => ?_) (fun hc53 => ?_)
    · rw [if_neg hc53] at h
      exact bx_X6_capital_71  hΦ _ _ h
    · rw [if_pos hc53] at h
      refine am_aload_n (j := 0) (am_dk tk_X6_capital 34 rfl) rfl rfl ?_
      obtain ⟨q57, hq57, h⟩ := am_bind h
      refine ly_cV (M := m_X6_here) (As := []) (b := 56) (st := []) (ct_X6_here hq57) rfl (by decide) rfl ml_X6_113 ld_X6_here rfl ⟨Nat.le_of_ble_eq_true rfl, Nat.le_of_ble_eq_true rfl⟩ (Nat.le_of_ble_eq_true rfl) ⟨rfl, rfl⟩ ⟨Nat.le_of_ble_eq_true rfl, Nat.le_of_ble_eq_true rfl⟩ (am_dk tk_X6_capital 35 rfl) (am_kki ?_)
      refine am_if_lt (tgt := 71) (am_dk tk_X6_capital 36 rfl) (by decide) (fun hc60 => ?_) (fun hc60 => ?_)
      · rw [if_pos hc60] at h
        exact bx_X6_capital_71  hΦ _ _ h
      · rw [if_neg hc60] at h
        refine am_aload_n (j := 0) (am_dk tk_X6_capital 37 rfl) rfl rfl ?_
        obtain ⟨q64, hq64, h⟩ := am_bind h
        refine ly_cV (M := m_X6_takeClause) (As := []) (b := 56) (st := []) (ct_X6_takeClause hq64) rfl (by decide) rfl ml_X6_185 ld_X6_takeClause rfl ⟨Nat.le_of_ble_eq_true rfl, Nat.le_of_ble_eq_true rfl⟩ (Nat.le_of_ble_eq_true rfl) ⟨rfl, rfl⟩ ⟨Nat.le_of_ble_eq_true rfl, Nat.le_of_ble_eq_true rfl⟩ (am_dk tk_X6_capital 38 rfl) (am_kki ?_)
        refine am_istore_n (L' := [(1, .int q64.1), (0, .ref 56)]) (am_dk tk_X6_capital 39 rfl) rfl (Nat.le_of_ble_eq_true rfl) rfl ?_
        refine am_goto (tgt := 52) (am_dk tk_X6_capital 40 rfl) (by decide) ?_
        refine am_ls [1, 0] rfl ?_
        exact ih _ _ h
theorem bx_X6_capital_12 {l : Launch} {h0 : am_H} {Φ : am_Ph} {tw : Nat} {tp : Bool}  {r : Int32} {D' : am_M} (hΦ : Φ (some (.int r)) (ly tw tp D')) : ∀ (n : Nat) (x1 : Int32) (D : am_M), b_X6_capital_12 n x1 D = some (r, D') → am_Ex (am_E l m_X6_capital false h0 Φ) prog_8_method_19_code (0, 0) 12 [(0, .ref 56), (1, .int x1)] [] (ly tw tp D) := by
  intro n
  induction n with
  | zero =>
    intro x1 D h
    exact absurd h (by simp [b_X6_capital_12])
  | succ n ih =>
    intro x1 D h
    rw [b_X6_capital_12] at h
    refine am_iload_n (j := 1) (am_dk tk_X6_capital 8 rfl) rfl rfl ?_
    refine am_iconst (v := 3) (am_dk tk_X6_capital 9 rfl) (by decide) ?_
    refine am_icmp_ge (tgt := 30) (am_dk tk_X6_capital 10 rfl) (by decide) (fun hc14 => ?_) (fun hc14 => ?_)
    · rw [if_pos hc14] at h
      refine am_aload_n (j := 0) (am_dk tk_X6_capital 18 rfl) rfl rfl ?_
      refine am_iconst (v := 0) (am_dk tk_X6_capital 19 rfl) (by decide) ?_
      refine ly_puti rfl fl_X6_138 rfl rfl (am_dk tk_X6_capital 20 rfl) ?_
      refine am_aload_n (j := 0) (am_dk tk_X6_capital 21 rfl) rfl rfl ?_
      refine am_iconst (v := 0) (am_dk tk_X6_capital 22 rfl) (by decide) ?_
      refine ly_puti rfl fl_X6_151 rfl rfl (am_dk tk_X6_capital 23 rfl) ?_
      refine am_aload_n (j := 0) (am_dk tk_X6_capital 24 rfl) rfl rfl ?_
      refine am_iconst (v := 0) (am_dk tk_X6_capital 25 rfl) (by decide) ?_
      refine ly_puti rfl fl_X6_145 rfl rfl (am_dk tk_X6_capital 26 rfl) ?_
      refine am_aload_n (j := 0) (am_dk tk_X6_capital 27 rfl) rfl rfl ?_
      refine am_iconst (v := 0) (am_dk tk_X6_capital 28 rfl) (by decide) ?_
      refine ly_puti rfl fl_X6_148 rfl rfl (am_dk tk_X6_capital 29 rfl) ?_
      refine am_iconst (v := 0) (am_dk tk_X6_capital 30 rfl) (by decide) ?_
      refine am_istore_n (L' := [(1, .int 0), (0, .ref 56)]) (am_dk tk_X6_capital 31 rfl) rfl (Nat.le_of_ble_eq_true rfl) rfl ?_
      refine am_ls [1, 0] rfl ?_
      exact bx_X6_capital_52  hΦ am_N _ _ h
    · rw [if_neg hc14] at h
      refine am_aload_n (j := 0) (am_dk tk_X6_capital 11 rfl) rfl rfl ?_
      refine ly_getr (b := 64) rfl fl_X6_35 rfl rfl (am_dk tk_X6_capital 12 rfl) ?_
      refine am_iload_n (j := 1) (am_dk tk_X6_capital 13 rfl) rfl rfl ?_
      refine am_iconst (v := 0) (am_dk tk_X6_capital 14 rfl) (by decide) ?_
      obtain ⟨hi23, h⟩ := am_chk h
      refine ly_iast (k := x1.toNatClampNeg) rfl (am_in_vp hi23) rfl (am_dk tk_X6_capital 15 rfl) ?_
      refine am_iinc (j := 1) (v := x1 + 1) (L' := [(1, .int (x1 + 1)), (0, .ref 56)]) (am_dk tk_X6_capital 16 rfl) rfl rfl (Nat.le_of_ble_eq_true rfl) rfl ?_
      refine am_goto (tgt := 12) (am_dk tk_X6_capital 17 rfl) (by decide) ?_
      refine am_ls [1, 0] rfl ?_
      exact ih _ _ h
theorem ct_X6_capital {l : Launch} {tw : Nat} {tp : Bool}  {r : Int32} {D D' : am_M} (h : f_X6_capital D = some (r, D')) : am_CT l m_X6_capital false [.ref 56] (ly tw tp D) (am_is (some (.int r)) (ly tw tp D')) := by
  have hΦ : am_is (some (.int r)) (ly tw tp D') (some (.int r)) (ly tw tp D') := ⟨rfl, rfl⟩
  refine am_CT.of (by decide) (Nat.le_of_ble_eq_true rfl) ?_
  show am_Ex _ _ _ 0 [(0, .ref 56)] [] _
  rw [f_X6_capital] at h
  refine am_aload_n (j := 0) (am_dk tk_X6_capital 0 rfl) rfl rfl ?_
  refine am_iconst (v := (-1)) (am_dk tk_X6_capital 1 rfl) (by decide) ?_
  refine ly_puti rfl fl_X6_31 rfl rfl (am_dk tk_X6_capital 2 rfl) ?_
  refine am_aload_n (j := 0) (am_dk tk_X6_capital 3 rfl) rfl rfl ?_
  refine am_iconst (v := 0) (am_dk tk_X6_capital 4 rfl) (by decide) ?_
  refine ly_puti rfl fl_X6_110 rfl rfl (am_dk tk_X6_capital 5 rfl) ?_
  refine am_iconst (v := 0) (am_dk tk_X6_capital 6 rfl) (by decide) ?_
  refine am_istore_n (L' := [(1, .int 0), (0, .ref 56)]) (am_dk tk_X6_capital 7 rfl) rfl (Nat.le_of_ble_eq_true rfl) rfl ?_
  refine am_ls [1, 0] rfl ?_
  exact bx_X6_capital_12  hΦ am_N _ _ h
abbrev m_X6_fault : am_D := (yX6_fault, prog_8_method_20_code, 1, (some .int), { frames := 0, cells := 0, slots := 0, locals := 0 })
theorem ld_X6_fault : am_LD m_X6_fault 0 := ⟨(am_tb 85 (by decide +kernel) (by decide +kernel)), (am_tb 1032 (by decide +kernel) (by decide +kernel)), by decide, by decide, by decide +kernel⟩
def tb_X6_fault : List (Nat × Instr × Nat) := [(0, .aload_n 0, 1), (1, .getfield 31, 3), (4, .ireturn, 1)]
theorem tk_X6_fault : am_tbl prog_8_method_20_code tb_X6_fault = true := by decide +kernel
def f_X6_fault (D : am_M) : Int32 := D 56 15
theorem ct_X6_fault {l : Launch} {tw : Nat} {tp : Bool} (D : am_M) : am_CT l m_X6_fault false [.ref 56] (ly tw tp D) (am_is (some (.int (f_X6_fault D))) (ly tw tp D)) := by
  refine am_CT.of (by decide) (Nat.le_of_ble_eq_true rfl) ?_
  show am_Ex _ _ _ 0 [(0, .ref 56)] [] _
  refine am_aload_n (j := 0) (am_dk tk_X6_fault 0 rfl) rfl rfl ?_
  refine ly_geti rfl fl_X6_31 rfl (am_dk tk_X6_fault 1 rfl) ?_
  exact am_iret rfl ⟨rfl, rfl⟩ ⟨Nat.le_of_ble_eq_true rfl, Nat.le_of_ble_eq_true rfl⟩ (am_dk tk_X6_fault 2 rfl)
abbrev m_X6_asleep : am_D := (yX6_asleep, prog_8_method_21_code, 3, (some .int), { frames := 0, cells := 0, slots := 0, locals := 0 })
theorem ld_X6_asleep : am_LD m_X6_asleep 0 := ⟨(am_tb 85 (by decide +kernel) (by decide +kernel)), (am_tb 1040 (by decide +kernel) (by decide +kernel)), by decide, by decide, by decide +kernel⟩
def tb_X6_asleep : List (Nat × Instr × Nat) := [(0, .iconst 0, 1), (1, .istore_n 1, 1), (2, .iconst 0, 1), (3, .istore_n 2, 1), (4, .iload_n 2, 1), (5, .aload_n 0, 1), (6, .getfield 96, 3), (9, .if_icmp .ge 30, 3), (12, .iload_n 1, 1), (13, .aload_n 0, 1), (14, .getfield 25, 3), (17, .iconst 5, 1), (18, .iload_n 2, 1), (19, .iadd, 1), (20, .iaload, 1), (21, .ifCond .le 9, 3), (24, .iconst 1, 1), (25, .iload_n 2, 1), (26, .ishl, 1), (27, .goto 4, 3), (30, .iconst 0, 1), (31, .ior, 1), (32, .istore_n 1, 1), (33, .iinc 2 1, 3), (36, .goto (-32), 3), (39, .iload_n 1, 1), (40, .ireturn, 1)]
theorem tk_X6_asleep : am_tbl prog_8_method_21_code tb_X6_asleep = true := by decide +kernel
def b_X6_asleep_4 : Nat → Int32 → Int32 → am_M → Option (Int32 × am_M)
  | 0, _, _, _ => none
  | n + 1, x1, x2, D => if (D 56 3) ≤ x2 then some (x1, D) else if am_in (5 + x2) 138 = true then b_X6_asleep_4 n (if (D 62 (5 + x2).toNatClampNeg) ≤ 0 then x1 ||| 0 else x1 ||| (1 <<< (x2 &&& 31))) (x2 + 1) D else none
def f_X6_asleep (D : am_M) : Option (Int32 × am_M) := b_X6_asleep_4 am_N 0 0 D
theorem bx_X6_asleep_4 {l : Launch} {h0 : am_H} {Φ : am_Ph} {tw : Nat} {tp : Bool}  {r : Int32} {D' : am_M} (hΦ : Φ (some (.int r)) (ly tw tp D')) : ∀ (n : Nat) (x1 : Int32) (x2 : Int32) (D : am_M), b_X6_asleep_4 n x1 x2 D = some (r, D') → am_Ex (am_E l m_X6_asleep false h0 Φ) prog_8_method_21_code (0, 0) 4 [(0, .ref 56), (1, .int x1), (2, .int x2)] [] (ly tw tp D) := by
  intro n
  induction n with
  | zero =>
    intro x1 x2 D h
    exact absurd h (by simp [b_X6_asleep_4])
  | succ n ih =>
    intro x1 x2 D h
    rw [b_X6_asleep_4] at h
    refine am_iload_n (j := 2) (am_dk tk_X6_asleep 4 rfl) rfl rfl ?_
    refine am_aload_n (j := 0) (am_dk tk_X6_asleep 5 rfl) rfl rfl ?_
    refine ly_geti rfl fl_X6_96 rfl (am_dk tk_X6_asleep 6 rfl) ?_
    refine am_icmp_ge (tgt := 39) (am_dk tk_X6_asleep 7 rfl) (by decide) (fun hc9 => ?_) (fun hc9 => ?_)
    · rw [if_pos hc9] at h
      refine am_iload_n (j := 1) (am_dk tk_X6_asleep 25 rfl) rfl rfl ?_
      exact am_iret rfl (am_r2 h hΦ) ⟨Nat.le_of_ble_eq_true rfl, Nat.le_of_ble_eq_true rfl⟩ (am_dk tk_X6_asleep 26 rfl)
    · rw [if_neg hc9] at h
      refine am_iload_n (j := 1) (am_dk tk_X6_asleep 8 rfl) rfl rfl ?_
      refine am_aload_n (j := 0) (am_dk tk_X6_asleep 9 rfl) rfl rfl ?_
      refine ly_getr (b := 62) rfl fl_X6_25 rfl rfl (am_dk tk_X6_asleep 10 rfl) ?_
      refine am_iconst (v := 5) (am_dk tk_X6_asleep 11 rfl) (by decide) ?_
      refine am_iload_n (j := 2) (am_dk tk_X6_asleep 12 rfl) rfl rfl ?_
      refine am_iadd (am_dk tk_X6_asleep 13 rfl) ?_
      obtain ⟨hi20, h⟩ := am_chk h
      refine ly_iald (k := (5 + x2).toNatClampNeg) rfl (am_in_vp hi20) rfl (am_dk tk_X6_asleep 14 rfl) ?_
      refine am_if_le (tgt := 30) (am_dk tk_X6_asleep 15 rfl) (by decide) (fun hc21 => ?_) (fun hc21 => ?_)
      · simp only [if_pos hc21] at h
        refine am_iconst (v := 0) (am_dk tk_X6_asleep 20 rfl) (by decide) ?_
        refine am_ior (am_dk tk_X6_asleep 21 rfl) ?_
        refine am_istore_n (L' := [(1, .int (x1 ||| 0)), (0, .ref 56), (2, .int x2)]) (am_dk tk_X6_asleep 22 rfl) rfl (Nat.le_of_ble_eq_true rfl) rfl ?_
        refine am_iinc (j := 2) (v := x2 + 1) (L' := [(2, .int (x2 + 1)), (1, .int (x1 ||| 0)), (0, .ref 56)]) (am_dk tk_X6_asleep 23 rfl) rfl rfl (Nat.le_of_ble_eq_true rfl) rfl ?_
        refine am_goto (tgt := 4) (am_dk tk_X6_asleep 24 rfl) (by decide) ?_
        refine am_ls [2, 1, 0] rfl ?_
        exact ih _ _ _ h
      · simp only [if_neg hc21] at h
        refine am_iconst (v := 1) (am_dk tk_X6_asleep 16 rfl) (by decide) ?_
        refine am_iload_n (j := 2) (am_dk tk_X6_asleep 17 rfl) rfl rfl ?_
        refine am_ishl (am_dk tk_X6_asleep 18 rfl) ?_
        refine am_goto (tgt := 31) (am_dk tk_X6_asleep 19 rfl) (by decide) ?_
        refine am_ior (am_dk tk_X6_asleep 21 rfl) ?_
        refine am_istore_n (L' := [(1, .int (x1 ||| (1 <<< (x2 &&& 31)))), (0, .ref 56), (2, .int x2)]) (am_dk tk_X6_asleep 22 rfl) rfl (Nat.le_of_ble_eq_true rfl) rfl ?_
        refine am_iinc (j := 2) (v := x2 + 1) (L' := [(2, .int (x2 + 1)), (1, .int (x1 ||| (1 <<< (x2 &&& 31)))), (0, .ref 56)]) (am_dk tk_X6_asleep 23 rfl) rfl rfl (Nat.le_of_ble_eq_true rfl) rfl ?_
        refine am_goto (tgt := 4) (am_dk tk_X6_asleep 24 rfl) (by decide) ?_
        refine am_ls [2, 1, 0] rfl ?_
        exact ih _ _ _ h
theorem ct_X6_asleep {l : Launch} {tw : Nat} {tp : Bool}  {r : Int32} {D D' : am_M} (h : f_X6_asleep D = some (r, D')) : am_CT l m_X6_asleep false [.ref 56] (ly tw tp D) (am_is (some (.int r)) (ly tw tp D')) := by
  have hΦ : am_is (some (.int r)) (ly tw tp D') (some (.int r)) (ly tw tp D') := ⟨rfl, rfl⟩
  refine am_CT.of (by decide) (Nat.le_of_ble_eq_true rfl) ?_
  show am_Ex _ _ _ 0 [(0, .ref 56)] [] _
  rw [f_X6_asleep] at h
  refine am_iconst (v := 0) (am_dk tk_X6_asleep 0 rfl) (by decide) ?_
  refine am_istore_n (L' := [(1, .int 0), (0, .ref 56)]) (am_dk tk_X6_asleep 1 rfl) rfl (Nat.le_of_ble_eq_true rfl) rfl ?_
  refine am_iconst (v := 0) (am_dk tk_X6_asleep 2 rfl) (by decide) ?_
  refine am_istore_n (L' := [(2, .int 0), (1, .int 0), (0, .ref 56)]) (am_dk tk_X6_asleep 3 rfl) rfl (Nat.le_of_ble_eq_true rfl) rfl ?_
  refine am_ls [2, 1, 0] rfl ?_
  exact bx_X6_asleep_4  hΦ am_N _ _ _ h
abbrev m_X6_told : am_D := (yX6_told, prog_8_method_22_code, 2, (some .int), { frames := 1, cells := 0, slots := 0, locals := 22 })
theorem ld_X6_told : am_LD m_X6_told 1 := ⟨(am_tb 85 (by decide +kernel) (by decide +kernel)), (am_tb 1036 (by decide +kernel) (by decide +kernel)), by decide, by decide, by decide +kernel⟩
def tb_X6_told : List (Nat × Instr × Nat) := [(0, .iload_n 1, 1), (1, .tableswitch 135 0 11 #[63, 68, 73, 78, 83, 88, 93, 98, 107, 116, 125, 130], 63), (64, .aload_n 0, 1), (65, .getfield 93, 3), (68, .ireturn, 1), (69, .aload_n 0, 1), (70, .getfield 173, 3), (73, .ireturn, 1), (74, .aload_n 0, 1), (75, .getfield 176, 3), (78, .ireturn, 1), (79, .aload_n 0, 1), (80, .getfield 96, 3), (83, .ireturn, 1), (84, .aload_n 0, 1), (85, .getfield 179, 3), (88, .ireturn, 1), (89, .aload_n 0, 1), (90, .getfield 182, 3), (93, .ireturn, 1), (94, .aload_n 0, 1), (95, .getfield 106, 3), (98, .ireturn, 1), (99, .aload_n 0, 1), (100, .getfield 25, 3), (103, .sipush 137, 3), (106, .iaload, 1), (107, .ireturn, 1), (108, .aload_n 0, 1), (109, .getfield 25, 3), (112, .sipush 135, 3), (115, .iaload, 1), (116, .ireturn, 1), (117, .aload_n 0, 1), (118, .getfield 25, 3), (121, .sipush 136, 3), (124, .iaload, 1), (125, .ireturn, 1), (126, .aload_n 0, 1), (127, .invokevirtual 194, 3), (130, .ireturn, 1), (131, .aload_n 0, 1), (132, .getfield 191, 3), (135, .ireturn, 1), (136, .ldc 105, 2), (138, .ireturn, 1)]
theorem tk_X6_told : am_tbl prog_8_method_22_code tb_X6_told = true := by decide +kernel
def f_X6_told (x1 : Int32) (D : am_M) : Option (Int32 × am_M) := if x1 = 0 then some (D 56 0, D) else if x1 = 1 then some (D 56 1, D) else if x1 = 2 then some (D 56 2, D) else if x1 = 3 then some (D 56 3, D) else if x1 = 4 then some (D 56 5, D) else if x1 = 5 then some (D 56 7, D) else if x1 = 6 then some (D 56 14, D) else if x1 = 7 then some (D 62 137, D) else if x1 = 8 then some (D 62 135, D) else if x1 = 9 then some (D 62 136, D) else if x1 = 10 then (f_X6_asleep D).bind fun q127 => some (q127.1, q127.2) else if x1 = 11 then some (D 56 39, D) else some ((-1000000002), D)
theorem ct_X6_told {l : Launch} {tw : Nat} {tp : Bool}  {x1 : Int32} {r : Int32} {D D' : am_M} (h : f_X6_told x1 D = some (r, D')) : am_CT l m_X6_told false [.ref 56, .int x1] (ly tw tp D) (am_is (some (.int r)) (ly tw tp D')) := by
  have hΦ : am_is (some (.int r)) (ly tw tp D') (some (.int r)) (ly tw tp D') := ⟨rfl, rfl⟩
  refine am_CT.of (by decide) (Nat.le_of_ble_eq_true rfl) ?_
  show am_Ex _ _ _ 0 [(0, .ref 56), (1, .int x1)] [] _
  rw [f_X6_told] at h
  refine am_iload_n (j := 1) (am_dk tk_X6_told 0 rfl) rfl rfl ?_
  by_cases hs1_0 : x1 = 0
  · rw [if_pos hs1_0] at h
    refine am_tableIn (tgt := 64) (am_dk tk_X6_told 1 rfl) (by rw [hs1_0]; decide) (by rw [hs1_0]; decide) (by rw [hs1_0]; rfl) (by decide) ?_
    refine am_aload_n (j := 0) (am_dk tk_X6_told 2 rfl) rfl rfl ?_
    refine ly_geti rfl fl_X6_93 rfl (am_dk tk_X6_told 3 rfl) ?_
    exact am_iret rfl (am_r2 h hΦ) ⟨Nat.le_of_ble_eq_true rfl, Nat.le_of_ble_eq_true rfl⟩ (am_dk tk_X6_told 4 rfl)
  rw [if_neg hs1_0] at h
  by_cases hs1_1 : x1 = 1
  · rw [if_pos hs1_1] at h
    refine am_tableIn (tgt := 69) (am_dk tk_X6_told 1 rfl) (by rw [hs1_1]; decide) (by rw [hs1_1]; decide) (by rw [hs1_1]; rfl) (by decide) ?_
    refine am_aload_n (j := 0) (am_dk tk_X6_told 5 rfl) rfl rfl ?_
    refine ly_geti rfl fl_X6_173 rfl (am_dk tk_X6_told 6 rfl) ?_
    exact am_iret rfl (am_r2 h hΦ) ⟨Nat.le_of_ble_eq_true rfl, Nat.le_of_ble_eq_true rfl⟩ (am_dk tk_X6_told 7 rfl)
  rw [if_neg hs1_1] at h
  by_cases hs1_2 : x1 = 2
  · rw [if_pos hs1_2] at h
    refine am_tableIn (tgt := 74) (am_dk tk_X6_told 1 rfl) (by rw [hs1_2]; decide) (by rw [hs1_2]; decide) (by rw [hs1_2]; rfl) (by decide) ?_
    refine am_aload_n (j := 0) (am_dk tk_X6_told 8 rfl) rfl rfl ?_
    refine ly_geti rfl fl_X6_176 rfl (am_dk tk_X6_told 9 rfl) ?_
    exact am_iret rfl (am_r2 h hΦ) ⟨Nat.le_of_ble_eq_true rfl, Nat.le_of_ble_eq_true rfl⟩ (am_dk tk_X6_told 10 rfl)
  rw [if_neg hs1_2] at h
  by_cases hs1_3 : x1 = 3
  · rw [if_pos hs1_3] at h
    refine am_tableIn (tgt := 79) (am_dk tk_X6_told 1 rfl) (by rw [hs1_3]; decide) (by rw [hs1_3]; decide) (by rw [hs1_3]; rfl) (by decide) ?_
    refine am_aload_n (j := 0) (am_dk tk_X6_told 11 rfl) rfl rfl ?_
    refine ly_geti rfl fl_X6_96 rfl (am_dk tk_X6_told 12 rfl) ?_
    exact am_iret rfl (am_r2 h hΦ) ⟨Nat.le_of_ble_eq_true rfl, Nat.le_of_ble_eq_true rfl⟩ (am_dk tk_X6_told 13 rfl)
  rw [if_neg hs1_3] at h
  by_cases hs1_4 : x1 = 4
  · rw [if_pos hs1_4] at h
    refine am_tableIn (tgt := 84) (am_dk tk_X6_told 1 rfl) (by rw [hs1_4]; decide) (by rw [hs1_4]; decide) (by rw [hs1_4]; rfl) (by decide) ?_
    refine am_aload_n (j := 0) (am_dk tk_X6_told 14 rfl) rfl rfl ?_
    refine ly_geti rfl fl_X6_179 rfl (am_dk tk_X6_told 15 rfl) ?_
    exact am_iret rfl (am_r2 h hΦ) ⟨Nat.le_of_ble_eq_true rfl, Nat.le_of_ble_eq_true rfl⟩ (am_dk tk_X6_told 16 rfl)
  rw [if_neg hs1_4] at h
  by_cases hs1_5 : x1 = 5
  · rw [if_pos hs1_5] at h
    refine am_tableIn (tgt := 89) (am_dk tk_X6_told 1 rfl) (by rw [hs1_5]; decide) (by rw [hs1_5]; decide) (by rw [hs1_5]; rfl) (by decide) ?_
    refine am_aload_n (j := 0) (am_dk tk_X6_told 17 rfl) rfl rfl ?_
    refine ly_geti rfl fl_X6_182 rfl (am_dk tk_X6_told 18 rfl) ?_
    exact am_iret rfl (am_r2 h hΦ) ⟨Nat.le_of_ble_eq_true rfl, Nat.le_of_ble_eq_true rfl⟩ (am_dk tk_X6_told 19 rfl)
  rw [if_neg hs1_5] at h
  by_cases hs1_6 : x1 = 6
  · rw [if_pos hs1_6] at h
    refine am_tableIn (tgt := 94) (am_dk tk_X6_told 1 rfl) (by rw [hs1_6]; decide) (by rw [hs1_6]; decide) (by rw [hs1_6]; rfl) (by decide) ?_
    refine am_aload_n (j := 0) (am_dk tk_X6_told 20 rfl) rfl rfl ?_
    refine ly_geti rfl fl_X6_106 rfl (am_dk tk_X6_told 21 rfl) ?_
    exact am_iret rfl (am_r2 h hΦ) ⟨Nat.le_of_ble_eq_true rfl, Nat.le_of_ble_eq_true rfl⟩ (am_dk tk_X6_told 22 rfl)
  rw [if_neg hs1_6] at h
  by_cases hs1_7 : x1 = 7
  · rw [if_pos hs1_7] at h
    refine am_tableIn (tgt := 99) (am_dk tk_X6_told 1 rfl) (by rw [hs1_7]; decide) (by rw [hs1_7]; decide) (by rw [hs1_7]; rfl) (by decide) ?_
    refine am_aload_n (j := 0) (am_dk tk_X6_told 23 rfl) rfl rfl ?_
    refine ly_getr (b := 62) rfl fl_X6_25 rfl rfl (am_dk tk_X6_told 24 rfl) ?_
    refine am_sipush (v := 137) (am_dk tk_X6_told 25 rfl) (by decide) ?_
    refine ly_iald (k := 137) rfl (am_in_vp (by decide)) rfl (am_dk tk_X6_told 26 rfl) ?_
    exact am_iret rfl (am_r2 h hΦ) ⟨Nat.le_of_ble_eq_true rfl, Nat.le_of_ble_eq_true rfl⟩ (am_dk tk_X6_told 27 rfl)
  rw [if_neg hs1_7] at h
  by_cases hs1_8 : x1 = 8
  · rw [if_pos hs1_8] at h
    refine am_tableIn (tgt := 108) (am_dk tk_X6_told 1 rfl) (by rw [hs1_8]; decide) (by rw [hs1_8]; decide) (by rw [hs1_8]; rfl) (by decide) ?_
    refine am_aload_n (j := 0) (am_dk tk_X6_told 28 rfl) rfl rfl ?_
    refine ly_getr (b := 62) rfl fl_X6_25 rfl rfl (am_dk tk_X6_told 29 rfl) ?_
    refine am_sipush (v := 135) (am_dk tk_X6_told 30 rfl) (by decide) ?_
    refine ly_iald (k := 135) rfl (am_in_vp (by decide)) rfl (am_dk tk_X6_told 31 rfl) ?_
    exact am_iret rfl (am_r2 h hΦ) ⟨Nat.le_of_ble_eq_true rfl, Nat.le_of_ble_eq_true rfl⟩ (am_dk tk_X6_told 32 rfl)
  rw [if_neg hs1_8] at h
  by_cases hs1_9 : x1 = 9
  · rw [if_pos hs1_9] at h
    refine am_tableIn (tgt := 117) (am_dk tk_X6_told 1 rfl) (by rw [hs1_9]; decide) (by rw [hs1_9]; decide) (by rw [hs1_9]; rfl) (by decide) ?_
    refine am_aload_n (j := 0) (am_dk tk_X6_told 33 rfl) rfl rfl ?_
    refine ly_getr (b := 62) rfl fl_X6_25 rfl rfl (am_dk tk_X6_told 34 rfl) ?_
    refine am_sipush (v := 136) (am_dk tk_X6_told 35 rfl) (by decide) ?_
    refine ly_iald (k := 136) rfl (am_in_vp (by decide)) rfl (am_dk tk_X6_told 36 rfl) ?_
    exact am_iret rfl (am_r2 h hΦ) ⟨Nat.le_of_ble_eq_true rfl, Nat.le_of_ble_eq_true rfl⟩ (am_dk tk_X6_told 37 rfl)
  rw [if_neg hs1_9] at h
  by_cases hs1_10 : x1 = 10
  · rw [if_pos hs1_10] at h
    refine am_tableIn (tgt := 126) (am_dk tk_X6_told 1 rfl) (by rw [hs1_10]; decide) (by rw [hs1_10]; decide) (by rw [hs1_10]; rfl) (by decide) ?_
    refine am_aload_n (j := 0) (am_dk tk_X6_told 38 rfl) rfl rfl ?_
    obtain ⟨q127, hq127, h⟩ := am_bind h
    refine ly_cV (M := m_X6_asleep) (As := []) (b := 56) (st := []) (ct_X6_asleep hq127) rfl (by decide) rfl ml_X6_194 ld_X6_asleep rfl ⟨Nat.le_of_ble_eq_true rfl, Nat.le_of_ble_eq_true rfl⟩ (Nat.le_of_ble_eq_true rfl) ⟨rfl, rfl⟩ ⟨Nat.le_of_ble_eq_true rfl, Nat.le_of_ble_eq_true rfl⟩ (am_dk tk_X6_told 39 rfl) (am_kki ?_)
    exact am_iret rfl (am_r2 h hΦ) ⟨Nat.le_of_ble_eq_true rfl, Nat.le_of_ble_eq_true rfl⟩ (am_dk tk_X6_told 40 rfl)
  rw [if_neg hs1_10] at h
  by_cases hs1_11 : x1 = 11
  · rw [if_pos hs1_11] at h
    refine am_tableIn (tgt := 131) (am_dk tk_X6_told 1 rfl) (by rw [hs1_11]; decide) (by rw [hs1_11]; decide) (by rw [hs1_11]; rfl) (by decide) ?_
    refine am_aload_n (j := 0) (am_dk tk_X6_told 41 rfl) rfl rfl ?_
    refine ly_geti rfl fl_X6_191 rfl (am_dk tk_X6_told 42 rfl) ?_
    exact am_iret rfl (am_r2 h hΦ) ⟨Nat.le_of_ble_eq_true rfl, Nat.le_of_ble_eq_true rfl⟩ (am_dk tk_X6_told 43 rfl)
  rw [if_neg hs1_11] at h
  refine am_tableOut (tgt := 136) (am_dk tk_X6_told 1 rfl) (by have e0 := lv_neT (a := 0) hs1_0 rfl; have e1 := lv_neT (a := 1) hs1_1 rfl; have e2 := lv_neT (a := 2) hs1_2 rfl; have e3 := lv_neT (a := 3) hs1_3 rfl; have e4 := lv_neT (a := 4) hs1_4 rfl; have e5 := lv_neT (a := 5) hs1_5 rfl; have e6 := lv_neT (a := 6) hs1_6 rfl; have e7 := lv_neT (a := 7) hs1_7 rfl; have e8 := lv_neT (a := 8) hs1_8 rfl; have e9 := lv_neT (a := 9) hs1_9 rfl; have e10 := lv_neT (a := 10) hs1_10 rfl; have e11 := lv_neT (a := 11) hs1_11 rfl; omega) (by decide) ?_
  refine am_ldc kc_X6_105 (am_dk tk_X6_told 44 rfl) ?_
  exact am_iret rfl (am_r2 h hΦ) ⟨Nat.le_of_ble_eq_true rfl, Nat.le_of_ble_eq_true rfl⟩ (am_dk tk_X6_told 45 rfl)
abbrev m_X6_person : am_D := (yX6_person, prog_8_method_23_code, 3, (some .int), { frames := 2, cells := 0, slots := 0, locals := 46 })
theorem ld_X6_person : am_LD m_X6_person 2 := ⟨(am_tb 85 (by decide +kernel) (by decide +kernel)), (am_tb 1044 (by decide +kernel) (by decide +kernel)), by decide, by decide, by decide +kernel⟩
def tb_X6_person : List (Nat × Instr × Nat) := [(0, .aload_n 0, 1), (1, .iload_n 1, 1), (2, .invokevirtual 197, 3), (5, .ifCond .ne 6, 3), (8, .ldc 201, 2), (10, .ireturn, 1), (11, .iload_n 2, 1), (12, .tableswitch 65 0 3 #[32, 39, 49, 58], 32), (44, .aload_n 0, 1), (45, .getfield 25, 3), (48, .iload_n 1, 1), (49, .iaload, 1), (50, .ireturn, 1), (51, .aload_n 0, 1), (52, .getfield 25, 3), (55, .bipush 10, 2), (57, .iload_n 1, 1), (58, .iadd, 1), (59, .iaload, 1), (60, .ireturn, 1), (61, .aload_n 0, 1), (62, .getfield 25, 3), (65, .iconst 5, 1), (66, .iload_n 1, 1), (67, .iadd, 1), (68, .iaload, 1), (69, .ireturn, 1), (70, .aload_n 0, 1), (71, .getfield 7, 3), (74, .iload_n 1, 1), (75, .iaload, 1), (76, .ireturn, 1), (77, .ldc 105, 2), (79, .ireturn, 1)]
theorem tk_X6_person : am_tbl prog_8_method_23_code tb_X6_person = true := by decide +kernel
def f_X6_person (x1 : Int32) (x2 : Int32) (D : am_M) : Option (Int32 × am_M) := if (f_X6_isPerson x1 D) = 0 then some ((-1000000001), D) else if x2 = 0 then if am_in x1 138 = true then some (D 62 x1.toNatClampNeg, D) else none else if x2 = 1 then if am_in (10 + x1) 138 = true then some (D 62 (10 + x1).toNatClampNeg, D) else none else if x2 = 2 then if am_in (5 + x1) 138 = true then some (D 62 (5 + x1).toNatClampNeg, D) else none else if x2 = 3 then if am_in x1 5 = true then some (D 57 x1.toNatClampNeg, D) else none else some ((-1000000002), D)
theorem ct_X6_person {l : Launch} {tw : Nat} {tp : Bool}  {x1 : Int32} {x2 : Int32} {r : Int32} {D D' : am_M} (h : f_X6_person x1 x2 D = some (r, D')) : am_CT l m_X6_person false [.ref 56, .int x1, .int x2] (ly tw tp D) (am_is (some (.int r)) (ly tw tp D')) := by
  have hΦ : am_is (some (.int r)) (ly tw tp D') (some (.int r)) (ly tw tp D') := ⟨rfl, rfl⟩
  refine am_CT.of (by decide) (Nat.le_of_ble_eq_true rfl) ?_
  show am_Ex _ _ _ 0 [(0, .ref 56), (1, .int x1), (2, .int x2)] [] _
  rw [f_X6_person] at h
  refine am_aload_n (j := 0) (am_dk tk_X6_person 0 rfl) rfl rfl ?_
  refine am_iload_n (j := 1) (am_dk tk_X6_person 1 rfl) rfl rfl ?_
  refine ly_cV (M := m_X6_isPerson) (As := [.int x1]) (b := 56) (st := []) (ct_X6_isPerson _ _) rfl (by decide) rfl ml_X6_197 ld_X6_isPerson rfl ⟨Nat.le_of_ble_eq_true rfl, Nat.le_of_ble_eq_true rfl⟩ (Nat.le_of_ble_eq_true rfl) ⟨rfl, rfl⟩ ⟨Nat.le_of_ble_eq_true rfl, Nat.le_of_ble_eq_true rfl⟩ (am_dk tk_X6_person 2 rfl) (am_kki ?_)
  refine am_if_ne (tgt := 11) (am_dk tk_X6_person 3 rfl) (by decide) (fun hc5 => ?_) (fun hc5 => ?_)
  · rw [if_neg hc5] at h
    refine am_iload_n (j := 2) (am_dk tk_X6_person 6 rfl) rfl rfl ?_
    by_cases hs12_0 : x2 = 0
    · rw [if_pos hs12_0] at h
      refine am_tableIn (tgt := 44) (am_dk tk_X6_person 7 rfl) (by rw [hs12_0]; decide) (by rw [hs12_0]; decide) (by rw [hs12_0]; rfl) (by decide) ?_
      refine am_aload_n (j := 0) (am_dk tk_X6_person 8 rfl) rfl rfl ?_
      refine ly_getr (b := 62) rfl fl_X6_25 rfl rfl (am_dk tk_X6_person 9 rfl) ?_
      refine am_iload_n (j := 1) (am_dk tk_X6_person 10 rfl) rfl rfl ?_
      obtain ⟨hi49, h⟩ := am_chk h
      refine ly_iald (k := x1.toNatClampNeg) rfl (am_in_vp hi49) rfl (am_dk tk_X6_person 11 rfl) ?_
      exact am_iret rfl (am_r2 h hΦ) ⟨Nat.le_of_ble_eq_true rfl, Nat.le_of_ble_eq_true rfl⟩ (am_dk tk_X6_person 12 rfl)
    rw [if_neg hs12_0] at h
    by_cases hs12_1 : x2 = 1
    · rw [if_pos hs12_1] at h
      refine am_tableIn (tgt := 51) (am_dk tk_X6_person 7 rfl) (by rw [hs12_1]; decide) (by rw [hs12_1]; decide) (by rw [hs12_1]; rfl) (by decide) ?_
      refine am_aload_n (j := 0) (am_dk tk_X6_person 13 rfl) rfl rfl ?_
      refine ly_getr (b := 62) rfl fl_X6_25 rfl rfl (am_dk tk_X6_person 14 rfl) ?_
      refine am_bipush (v := 10) (am_dk tk_X6_person 15 rfl) (by decide) ?_
      refine am_iload_n (j := 1) (am_dk tk_X6_person 16 rfl) rfl rfl ?_
      refine am_iadd (am_dk tk_X6_person 17 rfl) ?_
      obtain ⟨hi59, h⟩ := am_chk h
      refine ly_iald (k := (10 + x1).toNatClampNeg) rfl (am_in_vp hi59) rfl (am_dk tk_X6_person 18 rfl) ?_
      exact am_iret rfl (am_r2 h hΦ) ⟨Nat.le_of_ble_eq_true rfl, Nat.le_of_ble_eq_true rfl⟩ (am_dk tk_X6_person 19 rfl)
    rw [if_neg hs12_1] at h
    by_cases hs12_2 : x2 = 2
    · rw [if_pos hs12_2] at h
      refine am_tableIn (tgt := 61) (am_dk tk_X6_person 7 rfl) (by rw [hs12_2]; decide) (by rw [hs12_2]; decide) (by rw [hs12_2]; rfl) (by decide) ?_
      refine am_aload_n (j := 0) (am_dk tk_X6_person 20 rfl) rfl rfl ?_
      refine ly_getr (b := 62) rfl fl_X6_25 rfl rfl (am_dk tk_X6_person 21 rfl) ?_
      refine am_iconst (v := 5) (am_dk tk_X6_person 22 rfl) (by decide) ?_
      refine am_iload_n (j := 1) (am_dk tk_X6_person 23 rfl) rfl rfl ?_
      refine am_iadd (am_dk tk_X6_person 24 rfl) ?_
      obtain ⟨hi68, h⟩ := am_chk h
      refine ly_iald (k := (5 + x1).toNatClampNeg) rfl (am_in_vp hi68) rfl (am_dk tk_X6_person 25 rfl) ?_
      exact am_iret rfl (am_r2 h hΦ) ⟨Nat.le_of_ble_eq_true rfl, Nat.le_of_ble_eq_true rfl⟩ (am_dk tk_X6_person 26 rfl)
    rw [if_neg hs12_2] at h
    by_cases hs12_3 : x2 = 3
    · rw [if_pos hs12_3] at h
      refine am_tableIn (tgt := 70) (am_dk tk_X6_person 7 rfl) (by rw [hs12_3]; decide) (by rw [hs12_3]; decide) (by rw [hs12_3]; rfl) (by decide) ?_
      refine am_aload_n (j := 0) (am_dk tk_X6_person 27 rfl) rfl rfl ?_
      refine ly_getr (b := 57) rfl fl_X6_7 rfl rfl (am_dk tk_X6_person 28 rfl) ?_
      refine am_iload_n (j := 1) (am_dk tk_X6_person 29 rfl) rfl rfl ?_
      obtain ⟨hi75, h⟩ := am_chk h
      refine ly_iald (k := x1.toNatClampNeg) rfl (am_in_vp hi75) rfl (am_dk tk_X6_person 30 rfl) ?_
      exact am_iret rfl (am_r2 h hΦ) ⟨Nat.le_of_ble_eq_true rfl, Nat.le_of_ble_eq_true rfl⟩ (am_dk tk_X6_person 31 rfl)
    rw [if_neg hs12_3] at h
    refine am_tableOut (tgt := 77) (am_dk tk_X6_person 7 rfl) (by have e0 := lv_neT (a := 0) hs12_0 rfl; have e1 := lv_neT (a := 1) hs12_1 rfl; have e2 := lv_neT (a := 2) hs12_2 rfl; have e3 := lv_neT (a := 3) hs12_3 rfl; omega) (by decide) ?_
    refine am_ldc kc_X6_105 (am_dk tk_X6_person 32 rfl) ?_
    exact am_iret rfl (am_r2 h hΦ) ⟨Nat.le_of_ble_eq_true rfl, Nat.le_of_ble_eq_true rfl⟩ (am_dk tk_X6_person 33 rfl)
  · rw [if_pos hc5] at h
    refine am_ldc kc_X6_201 (am_dk tk_X6_person 4 rfl) ?_
    exact am_iret rfl (am_r2 h hΦ) ⟨Nat.le_of_ble_eq_true rfl, Nat.le_of_ble_eq_true rfl⟩ (am_dk tk_X6_person 5 rfl)
abbrev m_X6_row : am_D := (yX6_row, prog_8_method_24_code, 3, (some .int), { frames := 2, cells := 0, slots := 0, locals := 46 })
theorem ld_X6_row : am_LD m_X6_row 2 := ⟨(am_tb 85 (by decide +kernel) (by decide +kernel)), (am_tb 1053 (by decide +kernel) (by decide +kernel)), by decide, by decide, by decide +kernel⟩
def tb_X6_row : List (Nat × Instr × Nat) := [(0, .aload_n 0, 1), (1, .iload_n 1, 1), (2, .invokevirtual 197, 3), (5, .ifCond .ne 6, 3), (8, .ldc 201, 2), (10, .ireturn, 1), (11, .iload_n 2, 1), (12, .i2l, 1), (13, .lconst 0, 1), (14, .ldc2_w 202, 3), (17, .invokestatic 99, 3), (20, .ifCond .eq 20, 3), (23, .aload_n 0, 1), (24, .getfield 25, 3), (27, .bipush 15, 2), (29, .bipush 24, 2), (31, .iload_n 1, 1), (32, .imul, 1), (33, .iadd, 1), (34, .iload_n 2, 1), (35, .iadd, 1), (36, .iaload, 1), (37, .goto 5, 3), (40, .ldc 105, 2), (42, .ireturn, 1)]
theorem tk_X6_row : am_tbl prog_8_method_24_code tb_X6_row = true := by decide +kernel
def f_X6_row (x1 : Int32) (x2 : Int32) (D : am_M) : Option (Int32 × am_M) := if (f_X6_isPerson x1 D) = 0 then some ((-1000000001), D) else if (f_X6_in x2.toInt64 0 23) = 0 then some ((-1000000002), D) else if am_in ((15 + (24 * x1)) + x2) 138 = true then some (D 62 ((15 + (24 * x1)) + x2).toNatClampNeg, D) else none
theorem ct_X6_row {l : Launch} {tw : Nat} {tp : Bool}  {x1 : Int32} {x2 : Int32} {r : Int32} {D D' : am_M} (h : f_X6_row x1 x2 D = some (r, D')) : am_CT l m_X6_row false [.ref 56, .int x1, .int x2] (ly tw tp D) (am_is (some (.int r)) (ly tw tp D')) := by
  have hΦ : am_is (some (.int r)) (ly tw tp D') (some (.int r)) (ly tw tp D') := ⟨rfl, rfl⟩
  refine am_CT.of (by decide) (Nat.le_of_ble_eq_true rfl) ?_
  show am_Ex _ _ _ 0 [(0, .ref 56), (1, .int x1), (2, .int x2)] [] _
  rw [f_X6_row] at h
  refine am_aload_n (j := 0) (am_dk tk_X6_row 0 rfl) rfl rfl ?_
  refine am_iload_n (j := 1) (am_dk tk_X6_row 1 rfl) rfl rfl ?_
  refine ly_cV (M := m_X6_isPerson) (As := [.int x1]) (b := 56) (st := []) (ct_X6_isPerson _ _) rfl (by decide) rfl ml_X6_197 ld_X6_isPerson rfl ⟨Nat.le_of_ble_eq_true rfl, Nat.le_of_ble_eq_true rfl⟩ (Nat.le_of_ble_eq_true rfl) ⟨rfl, rfl⟩ ⟨Nat.le_of_ble_eq_true rfl, Nat.le_of_ble_eq_true rfl⟩ (am_dk tk_X6_row 2 rfl) (am_kki ?_)
  refine am_if_ne (tgt := 11) (am_dk tk_X6_row 3 rfl) (by decide) (fun hc5 => ?_) (fun hc5 => ?_)
  · rw [if_neg hc5] at h
    refine am_iload_n (j := 2) (am_dk tk_X6_row 6 rfl) rfl rfl ?_
    refine am_i2l (am_dk tk_X6_row 7 rfl) ?_
    refine am_lconst (v := 0) (am_dk tk_X6_row 8 rfl) (by decide) ?_
    refine am_ldc2 kl_X6_202 (am_dk tk_X6_row 9 rfl) ?_
    refine am_cS (M := m_X6_in) (As := [.long x2.toInt64, .long 0, .long 23]) (st := []) (ct_X6_in _ _ _ _) ml_X6_99 ld_X6_in rfl ⟨Nat.le_of_ble_eq_true rfl, Nat.le_of_ble_eq_true rfl⟩ (Nat.le_of_ble_eq_true rfl) ⟨rfl, rfl⟩ ⟨Nat.le_of_ble_eq_true rfl, Nat.le_of_ble_eq_true rfl⟩ (am_dk tk_X6_row 10 rfl) (am_kki ?_)
    refine am_if_eq (tgt := 40) (am_dk tk_X6_row 11 rfl) (by decide) (fun hc20 => ?_) (fun hc20 => ?_)
    · rw [if_pos hc20] at h
      refine am_ldc kc_X6_105 (am_dk tk_X6_row 23 rfl) ?_
      exact am_iret rfl (am_r2 h hΦ) ⟨Nat.le_of_ble_eq_true rfl, Nat.le_of_ble_eq_true rfl⟩ (am_dk tk_X6_row 24 rfl)
    · rw [if_neg hc20] at h
      refine am_aload_n (j := 0) (am_dk tk_X6_row 12 rfl) rfl rfl ?_
      refine ly_getr (b := 62) rfl fl_X6_25 rfl rfl (am_dk tk_X6_row 13 rfl) ?_
      refine am_bipush (v := 15) (am_dk tk_X6_row 14 rfl) (by decide) ?_
      refine am_bipush (v := 24) (am_dk tk_X6_row 15 rfl) (by decide) ?_
      refine am_iload_n (j := 1) (am_dk tk_X6_row 16 rfl) rfl rfl ?_
      refine am_imul (am_dk tk_X6_row 17 rfl) ?_
      refine am_iadd (am_dk tk_X6_row 18 rfl) ?_
      refine am_iload_n (j := 2) (am_dk tk_X6_row 19 rfl) rfl rfl ?_
      refine am_iadd (am_dk tk_X6_row 20 rfl) ?_
      obtain ⟨hi36, h⟩ := am_chk h
      refine ly_iald (k := ((15 + (24 * x1)) + x2).toNatClampNeg) rfl (am_in_vp hi36) rfl (am_dk tk_X6_row 21 rfl) ?_
      refine am_goto (tgt := 42) (am_dk tk_X6_row 22 rfl) (by decide) ?_
      exact am_iret rfl (am_r2 h hΦ) ⟨Nat.le_of_ble_eq_true rfl, Nat.le_of_ble_eq_true rfl⟩ (am_dk tk_X6_row 24 rfl)
  · rw [if_pos hc5] at h
    refine am_ldc kc_X6_201 (am_dk tk_X6_row 4 rfl) ?_
    exact am_iret rfl (am_r2 h hΦ) ⟨Nat.le_of_ble_eq_true rfl, Nat.le_of_ble_eq_true rfl⟩ (am_dk tk_X6_row 5 rfl)
abbrev m_X6_coin : am_D := (yX6_coin, prog_8_method_25_code, 2, (some .int), { frames := 1, cells := 0, slots := 0, locals := 25 })
theorem ld_X6_coin : am_LD m_X6_coin 1 := ⟨(am_tb 85 (by decide +kernel) (by decide +kernel)), (am_tb 1058 (by decide +kernel) (by decide +kernel)), by decide, by decide, by decide +kernel⟩
def tb_X6_coin : List (Nat × Instr × Nat) := [(0, .iload_n 1, 1), (1, .i2l, 1), (2, .lconst 0, 1), (3, .aload_n 0, 1), (4, .getfield 179, 3), (7, .iconst 1, 1), (8, .isub, 1), (9, .i2l, 1), (10, .invokestatic 99, 3), (13, .ifCond .eq 12, 3), (16, .aload_n 0, 1), (17, .getfield 13, 3), (20, .iload_n 1, 1), (21, .iaload, 1), (22, .goto 5, 3), (25, .ldc 201, 2), (27, .ireturn, 1)]
theorem tk_X6_coin : am_tbl prog_8_method_25_code tb_X6_coin = true := by decide +kernel
def f_X6_coin (x1 : Int32) (D : am_M) : Option (Int32 × am_M) := if (f_X6_in x1.toInt64 0 (((D 56 5) - 1).toInt64)) = 0 then some ((-1000000001), D) else if am_in x1 4 = true then some (D 58 x1.toNatClampNeg, D) else none
theorem ct_X6_coin {l : Launch} {tw : Nat} {tp : Bool}  {x1 : Int32} {r : Int32} {D D' : am_M} (h : f_X6_coin x1 D = some (r, D')) : am_CT l m_X6_coin false [.ref 56, .int x1] (ly tw tp D) (am_is (some (.int r)) (ly tw tp D')) := by
  have hΦ : am_is (some (.int r)) (ly tw tp D') (some (.int r)) (ly tw tp D') := ⟨rfl, rfl⟩
  refine am_CT.of (by decide) (Nat.le_of_ble_eq_true rfl) ?_
  show am_Ex _ _ _ 0 [(0, .ref 56), (1, .int x1)] [] _
  rw [f_X6_coin] at h
  refine am_iload_n (j := 1) (am_dk tk_X6_coin 0 rfl) rfl rfl ?_
  refine am_i2l (am_dk tk_X6_coin 1 rfl) ?_
  refine am_lconst (v := 0) (am_dk tk_X6_coin 2 rfl) (by decide) ?_
  refine am_aload_n (j := 0) (am_dk tk_X6_coin 3 rfl) rfl rfl ?_
  refine ly_geti rfl fl_X6_179 rfl (am_dk tk_X6_coin 4 rfl) ?_
  refine am_iconst (v := 1) (am_dk tk_X6_coin 5 rfl) (by decide) ?_
  refine am_isub (am_dk tk_X6_coin 6 rfl) ?_
  refine am_i2l (am_dk tk_X6_coin 7 rfl) ?_
  refine am_cS (M := m_X6_in) (As := [.long x1.toInt64, .long 0, .long (((D 56 5) - 1).toInt64)]) (st := []) (ct_X6_in _ _ _ _) ml_X6_99 ld_X6_in rfl ⟨Nat.le_of_ble_eq_true rfl, Nat.le_of_ble_eq_true rfl⟩ (Nat.le_of_ble_eq_true rfl) ⟨rfl, rfl⟩ ⟨Nat.le_of_ble_eq_true rfl, Nat.le_of_ble_eq_true rfl⟩ (am_dk tk_X6_coin 8 rfl) (am_kki ?_)
  refine am_if_eq (tgt := 25) (am_dk tk_X6_coin 9 rfl) (by decide) (fun hc13 => ?_) (fun hc13 => ?_)
  · rw [if_pos hc13] at h
    refine am_ldc kc_X6_201 (am_dk tk_X6_coin 15 rfl) ?_
    exact am_iret rfl (am_r2 h hΦ) ⟨Nat.le_of_ble_eq_true rfl, Nat.le_of_ble_eq_true rfl⟩ (am_dk tk_X6_coin 16 rfl)
  · rw [if_neg hc13] at h
    refine am_aload_n (j := 0) (am_dk tk_X6_coin 10 rfl) rfl rfl ?_
    refine ly_getr (b := 58) rfl fl_X6_13 rfl rfl (am_dk tk_X6_coin 11 rfl) ?_
    refine am_iload_n (j := 1) (am_dk tk_X6_coin 12 rfl) rfl rfl ?_
    obtain ⟨hi21, h⟩ := am_chk h
    refine ly_iald (k := x1.toNatClampNeg) rfl (am_in_vp hi21) rfl (am_dk tk_X6_coin 13 rfl) ?_
    refine am_goto (tgt := 27) (am_dk tk_X6_coin 14 rfl) (by decide) ?_
    exact am_iret rfl (am_r2 h hΦ) ⟨Nat.le_of_ble_eq_true rfl, Nat.le_of_ble_eq_true rfl⟩ (am_dk tk_X6_coin 16 rfl)
abbrev m_X6_debt : am_D := (yX6_debt, prog_8_method_26_code, 3, (some .int), { frames := 1, cells := 0, slots := 0, locals := 25 })
theorem ld_X6_debt : am_LD m_X6_debt 2 := ⟨(am_tb 85 (by decide +kernel) (by decide +kernel)), (am_tb 1062 (by decide +kernel) (by decide +kernel)), by decide, by decide, by decide +kernel⟩
def tb_X6_debt : List (Nat × Instr × Nat) := [(0, .iload_n 1, 1), (1, .i2l, 1), (2, .lconst 0, 1), (3, .aload_n 0, 1), (4, .getfield 182, 3), (7, .iconst 1, 1), (8, .isub, 1), (9, .i2l, 1), (10, .invokestatic 99, 3), (13, .ifCond .ne 6, 3), (16, .ldc 201, 2), (18, .ireturn, 1), (19, .iload_n 2, 1), (20, .tableswitch 93 0 3 #[32, 39, 46, 53], 32), (52, .aload_n 0, 1), (53, .getfield 16, 3), (56, .iload_n 1, 1), (57, .iaload, 1), (58, .ireturn, 1), (59, .aload_n 0, 1), (60, .getfield 19, 3), (63, .iload_n 1, 1), (64, .iaload, 1), (65, .ireturn, 1), (66, .aload_n 0, 1), (67, .getfield 22, 3), (70, .iload_n 1, 1), (71, .iaload, 1), (72, .ireturn, 1), (73, .aload_n 0, 1), (74, .getfield 25, 3), (77, .sipush 135, 3), (80, .iaload, 1), (81, .iload_n 1, 1), (82, .invokestatic 154, 3), (85, .ifCond .eq 7, 3), (88, .iconst 1, 1), (89, .goto 23, 3), (92, .aload_n 0, 1), (93, .getfield 25, 3), (96, .sipush 136, 3), (99, .iaload, 1), (100, .iload_n 1, 1), (101, .invokestatic 154, 3), (104, .ifCond .eq 7, 3), (107, .iconst 2, 1), (108, .goto 4, 3), (111, .iconst 0, 1), (112, .ireturn, 1), (113, .ldc 105, 2), (115, .ireturn, 1)]
theorem tk_X6_debt : am_tbl prog_8_method_26_code tb_X6_debt = true := by decide +kernel
def f_X6_debt (x1 : Int32) (x2 : Int32) (D : am_M) : Option (Int32 × am_M) := if (f_X6_in x1.toInt64 0 (((D 56 7) - 1).toInt64)) = 0 then some ((-1000000001), D) else if x2 = 0 then if am_in x1 8 = true then some (D 59 x1.toNatClampNeg, D) else none else if x2 = 1 then if am_in x1 8 = true then some (D 60 x1.toNatClampNeg, D) else none else if x2 = 2 then if am_in x1 8 = true then some (D 61 x1.toNatClampNeg, D) else none else if x2 = 3 then if (f_X6_has (D 62 135) x1) = 0 then if (f_X6_has (D 62 136) x1) = 0 then some (0, D) else some (2, D) else some (1, D) else some ((-1000000002), D)
theorem ct_X6_debt {l : Launch} {tw : Nat} {tp : Bool}  {x1 : Int32} {x2 : Int32} {r : Int32} {D D' : am_M} (h : f_X6_debt x1 x2 D = some (r, D')) : am_CT l m_X6_debt false [.ref 56, .int x1, .int x2] (ly tw tp D) (am_is (some (.int r)) (ly tw tp D')) := by
  have hΦ : am_is (some (.int r)) (ly tw tp D') (some (.int r)) (ly tw tp D') := ⟨rfl, rfl⟩
  refine am_CT.of (by decide) (Nat.le_of_ble_eq_true rfl) ?_
  show am_Ex _ _ _ 0 [(0, .ref 56), (1, .int x1), (2, .int x2)] [] _
  rw [f_X6_debt] at h
  refine am_iload_n (j := 1) (am_dk tk_X6_debt 0 rfl) rfl rfl ?_
  refine am_i2l (am_dk tk_X6_debt 1 rfl) ?_
  refine am_lconst (v := 0) (am_dk tk_X6_debt 2 rfl) (by decide) ?_
  refine am_aload_n (j := 0) (am_dk tk_X6_debt 3 rfl) rfl rfl ?_
  refine ly_geti rfl fl_X6_182 rfl (am_dk tk_X6_debt 4 rfl) ?_
  refine am_iconst (v := 1) (am_dk tk_X6_debt 5 rfl) (by decide) ?_
  refine am_isub (am_dk tk_X6_debt 6 rfl) ?_
  refine am_i2l (am_dk tk_X6_debt 7 rfl) ?_
  refine am_cS (M := m_X6_in) (As := [.long x1.toInt64, .long 0, .long (((D 56 7) - 1).toInt64)]) (st := []) (ct_X6_in _ _ _ _) ml_X6_99 ld_X6_in rfl ⟨Nat.le_of_ble_eq_true rfl, Nat.le_of_ble_eq_true rfl⟩ (Nat.le_of_ble_eq_true rfl) ⟨rfl, rfl⟩ ⟨Nat.le_of_ble_eq_true rfl, Nat.le_of_ble_eq_true rfl⟩ (am_dk tk_X6_debt 8 rfl) (am_kki ?_)
  refine am_if_ne (tgt := 19) (am_dk tk_X6_debt 9 rfl) (by decide) (fun hc13 => ?_) (fun hc13 => ?_)
  · rw [if_neg hc13] at h
    refine am_iload_n (j := 2) (am_dk tk_X6_debt 12 rfl) rfl rfl ?_
    by_cases hs20_0 : x2 = 0
    · rw [if_pos hs20_0] at h
      refine am_tableIn (tgt := 52) (am_dk tk_X6_debt 13 rfl) (by rw [hs20_0]; decide) (by rw [hs20_0]; decide) (by rw [hs20_0]; rfl) (by decide) ?_
      refine am_aload_n (j := 0) (am_dk tk_X6_debt 14 rfl) rfl rfl ?_
      refine ly_getr (b := 59) rfl fl_X6_16 rfl rfl (am_dk tk_X6_debt 15 rfl) ?_
      refine am_iload_n (j := 1) (am_dk tk_X6_debt 16 rfl) rfl rfl ?_
      obtain ⟨hi57, h⟩ := am_chk h
      refine ly_iald (k := x1.toNatClampNeg) rfl (am_in_vp hi57) rfl (am_dk tk_X6_debt 17 rfl) ?_
      exact am_iret rfl (am_r2 h hΦ) ⟨Nat.le_of_ble_eq_true rfl, Nat.le_of_ble_eq_true rfl⟩ (am_dk tk_X6_debt 18 rfl)
    rw [if_neg hs20_0] at h
    by_cases hs20_1 : x2 = 1
    · rw [if_pos hs20_1] at h
      refine am_tableIn (tgt := 59) (am_dk tk_X6_debt 13 rfl) (by rw [hs20_1]; decide) (by rw [hs20_1]; decide) (by rw [hs20_1]; rfl) (by decide) ?_
      refine am_aload_n (j := 0) (am_dk tk_X6_debt 19 rfl) rfl rfl ?_
      refine ly_getr (b := 60) rfl fl_X6_19 rfl rfl (am_dk tk_X6_debt 20 rfl) ?_
      refine am_iload_n (j := 1) (am_dk tk_X6_debt 21 rfl) rfl rfl ?_
      obtain ⟨hi64, h⟩ := am_chk h
      refine ly_iald (k := x1.toNatClampNeg) rfl (am_in_vp hi64) rfl (am_dk tk_X6_debt 22 rfl) ?_
      exact am_iret rfl (am_r2 h hΦ) ⟨Nat.le_of_ble_eq_true rfl, Nat.le_of_ble_eq_true rfl⟩ (am_dk tk_X6_debt 23 rfl)
    rw [if_neg hs20_1] at h
    by_cases hs20_2 : x2 = 2
    · rw [if_pos hs20_2] at h
      refine am_tableIn (tgt := 66) (am_dk tk_X6_debt 13 rfl) (by rw [hs20_2]; decide) (by rw [hs20_2]; decide) (by rw [hs20_2]; rfl) (by decide) ?_
      refine am_aload_n (j := 0) (am_dk tk_X6_debt 24 rfl) rfl rfl ?_
      refine ly_getr (b := 61) rfl fl_X6_22 rfl rfl (am_dk tk_X6_debt 25 rfl) ?_
      refine am_iload_n (j := 1) (am_dk tk_X6_debt 26 rfl) rfl rfl ?_
      obtain ⟨hi71, h⟩ := am_chk h
      refine ly_iald (k := x1.toNatClampNeg) rfl (am_in_vp hi71) rfl (am_dk tk_X6_debt 27 rfl) ?_
      exact am_iret rfl (am_r2 h hΦ) ⟨Nat.le_of_ble_eq_true rfl, Nat.le_of_ble_eq_true rfl⟩ (am_dk tk_X6_debt 28 rfl)
    rw [if_neg hs20_2] at h
    by_cases hs20_3 : x2 = 3
    · rw [if_pos hs20_3] at h
      refine am_tableIn (tgt := 73) (am_dk tk_X6_debt 13 rfl) (by rw [hs20_3]; decide) (by rw [hs20_3]; decide) (by rw [hs20_3]; rfl) (by decide) ?_
      refine am_aload_n (j := 0) (am_dk tk_X6_debt 29 rfl) rfl rfl ?_
      refine ly_getr (b := 62) rfl fl_X6_25 rfl rfl (am_dk tk_X6_debt 30 rfl) ?_
      refine am_sipush (v := 135) (am_dk tk_X6_debt 31 rfl) (by decide) ?_
      refine ly_iald (k := 135) rfl (am_in_vp (by decide)) rfl (am_dk tk_X6_debt 32 rfl) ?_
      refine am_iload_n (j := 1) (am_dk tk_X6_debt 33 rfl) rfl rfl ?_
      refine am_cS (M := m_X6_has) (As := [.int (D 62 135), .int x1]) (st := []) (ct_X6_has _ _ _) ml_X6_154 ld_X6_has rfl ⟨Nat.le_of_ble_eq_true rfl, Nat.le_of_ble_eq_true rfl⟩ (Nat.le_of_ble_eq_true rfl) ⟨rfl, rfl⟩ ⟨Nat.le_of_ble_eq_true rfl, Nat.le_of_ble_eq_true rfl⟩ (am_dk tk_X6_debt 34 rfl) (am_kki ?_)
      refine am_if_eq (tgt := 92) (am_dk tk_X6_debt 35 rfl) (by decide) (fun hc85 => ?_) (fun hc85 => ?_)
      · rw [if_pos hc85] at h
        refine am_aload_n (j := 0) (am_dk tk_X6_debt 38 rfl) rfl rfl ?_
        refine ly_getr (b := 62) rfl fl_X6_25 rfl rfl (am_dk tk_X6_debt 39 rfl) ?_
        refine am_sipush (v := 136) (am_dk tk_X6_debt 40 rfl) (by decide) ?_
        refine ly_iald (k := 136) rfl (am_in_vp (by decide)) rfl (am_dk tk_X6_debt 41 rfl) ?_
        refine am_iload_n (j := 1) (am_dk tk_X6_debt 42 rfl) rfl rfl ?_
        refine am_cS (M := m_X6_has) (As := [.int (D 62 136), .int x1]) (st := []) (ct_X6_has _ _ _) ml_X6_154 ld_X6_has rfl ⟨Nat.le_of_ble_eq_true rfl, Nat.le_of_ble_eq_true rfl⟩ (Nat.le_of_ble_eq_true rfl) ⟨rfl, rfl⟩ ⟨Nat.le_of_ble_eq_true rfl, Nat.le_of_ble_eq_true rfl⟩ (am_dk tk_X6_debt 43 rfl) (am_kki ?_)
        refine am_if_eq (tgt := 111) (am_dk tk_X6_debt 44 rfl) (by decide) (fun hc104 => ?_) (fun hc104 => ?_)
        · rw [if_pos hc104] at h
          refine am_iconst (v := 0) (am_dk tk_X6_debt 47 rfl) (by decide) ?_
          exact am_iret rfl (am_r2 h hΦ) ⟨Nat.le_of_ble_eq_true rfl, Nat.le_of_ble_eq_true rfl⟩ (am_dk tk_X6_debt 48 rfl)
        · rw [if_neg hc104] at h
          refine am_iconst (v := 2) (am_dk tk_X6_debt 45 rfl) (by decide) ?_
          refine am_goto (tgt := 112) (am_dk tk_X6_debt 46 rfl) (by decide) ?_
          exact am_iret rfl (am_r2 h hΦ) ⟨Nat.le_of_ble_eq_true rfl, Nat.le_of_ble_eq_true rfl⟩ (am_dk tk_X6_debt 48 rfl)
      · rw [if_neg hc85] at h
        refine am_iconst (v := 1) (am_dk tk_X6_debt 36 rfl) (by decide) ?_
        refine am_goto (tgt := 112) (am_dk tk_X6_debt 37 rfl) (by decide) ?_
        exact am_iret rfl (am_r2 h hΦ) ⟨Nat.le_of_ble_eq_true rfl, Nat.le_of_ble_eq_true rfl⟩ (am_dk tk_X6_debt 48 rfl)
    rw [if_neg hs20_3] at h
    refine am_tableOut (tgt := 113) (am_dk tk_X6_debt 13 rfl) (by have e0 := lv_neT (a := 0) hs20_0 rfl; have e1 := lv_neT (a := 1) hs20_1 rfl; have e2 := lv_neT (a := 2) hs20_2 rfl; have e3 := lv_neT (a := 3) hs20_3 rfl; omega) (by decide) ?_
    refine am_ldc kc_X6_105 (am_dk tk_X6_debt 49 rfl) ?_
    exact am_iret rfl (am_r2 h hΦ) ⟨Nat.le_of_ble_eq_true rfl, Nat.le_of_ble_eq_true rfl⟩ (am_dk tk_X6_debt 50 rfl)
  · rw [if_pos hc13] at h
    refine am_ldc kc_X6_201 (am_dk tk_X6_debt 10 rfl) ?_
    exact am_iret rfl (am_r2 h hΦ) ⟨Nat.le_of_ble_eq_true rfl, Nat.le_of_ble_eq_true rfl⟩ (am_dk tk_X6_debt 11 rfl)
abbrev m_X6_atMost : am_D := (yX6_atMost, prog_8_method_27_code, 2, (some .int), { frames := 0, cells := 0, slots := 0, locals := 0 })
theorem ld_X6_atMost : am_LD m_X6_atMost 2 := ⟨(am_tb 85 (by decide +kernel) (by decide +kernel)), (am_tb 1088 (by decide +kernel) (by decide +kernel)), by decide, by decide, by decide +kernel⟩
def tb_X6_atMost : List (Nat × Instr × Nat) := [(0, .iload_n 0, 1), (1, .iload_n 1, 1), (2, .if_icmp .ge 7, 3), (5, .iload_n 0, 1), (6, .goto 4, 3), (9, .iload_n 1, 1), (10, .ireturn, 1)]
theorem tk_X6_atMost : am_tbl prog_8_method_27_code tb_X6_atMost = true := by decide +kernel
def f_X6_atMost (x0 : Int32) (x1 : Int32) : Int32 := if x1 ≤ x0 then x1 else x0
theorem ct_X6_atMost {l : Launch} (x0 : Int32) (x1 : Int32) (h : am_H) : am_CT l m_X6_atMost false [.int x0, .int x1] h (am_is (some (.int (f_X6_atMost x0 x1))) h) := by
  refine am_CT.of (by decide) (Nat.le_of_ble_eq_true rfl) ?_
  show am_Ex _ _ _ 0 [(0, .int x0), (1, .int x1)] [] _
  refine am_iload_n (j := 0) (am_dk tk_X6_atMost 0 rfl) rfl rfl ?_
  refine am_iload_n (j := 1) (am_dk tk_X6_atMost 1 rfl) rfl rfl ?_
  refine am_icmp_ge (tgt := 9) (am_dk tk_X6_atMost 2 rfl) (by decide) (fun hc2 => ?_) (fun hc2 => ?_)
  · skip
    refine am_iload_n (j := 1) (am_dk tk_X6_atMost 5 rfl) rfl rfl ?_
    exact am_iret rfl ⟨by simp only [f_X6_atMost, if_pos hc2], rfl⟩ ⟨Nat.le_of_ble_eq_true rfl, Nat.le_of_ble_eq_true rfl⟩ (am_dk tk_X6_atMost 6 rfl)
  · skip
    refine am_iload_n (j := 0) (am_dk tk_X6_atMost 3 rfl) rfl rfl ?_
    refine am_goto (tgt := 10) (am_dk tk_X6_atMost 4 rfl) (by decide) ?_
    exact am_iret rfl ⟨by simp only [f_X6_atMost, if_neg hc2], rfl⟩ ⟨Nat.le_of_ble_eq_true rfl, Nat.le_of_ble_eq_true rfl⟩ (am_dk tk_X6_atMost 6 rfl)
abbrev m_X6_minted : am_D := (yX6_minted, prog_8_method_28_code, 2, (some .int), { frames := 0, cells := 0, slots := 0, locals := 0 })
theorem ld_X6_minted : am_LD m_X6_minted 1 := ⟨(am_tb 85 (by decide +kernel) (by decide +kernel)), (am_tb 1085 (by decide +kernel) (by decide +kernel)), by decide, by decide, by decide +kernel⟩
def tb_X6_minted : List (Nat × Instr × Nat) := [(0, .iload_n 1, 1), (1, .aload_n 0, 1), (2, .getfield 173, 3), (5, .if_icmp .lt 10, 3), (8, .aload_n 0, 1), (9, .getfield 176, 3), (12, .goto 4, 3), (15, .iconst 1, 1), (16, .ireturn, 1)]
theorem tk_X6_minted : am_tbl prog_8_method_28_code tb_X6_minted = true := by decide +kernel
def f_X6_minted (x1 : Int32) (D : am_M) : Int32 := if x1 < (D 56 1) then 1 else D 56 2
theorem ct_X6_minted {l : Launch} {tw : Nat} {tp : Bool} (x1 : Int32) (D : am_M) : am_CT l m_X6_minted false [.ref 56, .int x1] (ly tw tp D) (am_is (some (.int (f_X6_minted x1 D))) (ly tw tp D)) := by
  refine am_CT.of (by decide) (Nat.le_of_ble_eq_true rfl) ?_
  show am_Ex _ _ _ 0 [(0, .ref 56), (1, .int x1)] [] _
  refine am_iload_n (j := 1) (am_dk tk_X6_minted 0 rfl) rfl rfl ?_
  refine am_aload_n (j := 0) (am_dk tk_X6_minted 1 rfl) rfl rfl ?_
  refine ly_geti rfl fl_X6_173 rfl (am_dk tk_X6_minted 2 rfl) ?_
  refine am_icmp_lt (tgt := 15) (am_dk tk_X6_minted 3 rfl) (by decide) (fun hc5 => ?_) (fun hc5 => ?_)
  · skip
    refine am_iconst (v := 1) (am_dk tk_X6_minted 7 rfl) (by decide) ?_
    exact am_iret rfl ⟨by simp only [f_X6_minted, if_pos hc5], rfl⟩ ⟨Nat.le_of_ble_eq_true rfl, Nat.le_of_ble_eq_true rfl⟩ (am_dk tk_X6_minted 8 rfl)
  · skip
    refine am_aload_n (j := 0) (am_dk tk_X6_minted 4 rfl) rfl rfl ?_
    refine ly_geti rfl fl_X6_176 rfl (am_dk tk_X6_minted 5 rfl) ?_
    refine am_goto (tgt := 16) (am_dk tk_X6_minted 6 rfl) (by decide) ?_
    exact am_iret rfl ⟨by simp only [f_X6_minted, if_neg hc5], rfl⟩ ⟨Nat.le_of_ble_eq_true rfl, Nat.le_of_ble_eq_true rfl⟩ (am_dk tk_X6_minted 8 rfl)
abbrev m_X6_doHour : am_D := (yX6_doHour, prog_8_method_29_code, 4, none, { frames := 1, cells := 0, slots := 0, locals := 21 })
theorem ld_X6_doHour : am_LD m_X6_doHour 3 := ⟨(am_tb 85 (by decide +kernel) (by decide +kernel)), (am_tb 1081 (by decide +kernel) (by decide +kernel)), by decide, by decide, by decide +kernel⟩
def tb_X6_doHour : List (Nat × Instr × Nat) := [(0, .iload_n 2, 1), (1, .ifCond .ne 96, 3), (4, .iload_n 3, 1), (5, .ifCond .eq 92, 3), (8, .aload_n 0, 1), (9, .getfield 25, 3), (12, .iload_n 1, 1), (13, .iaload, 1), (14, .ifCond .le 83, 3), (17, .aload_n 0, 1), (18, .getfield 25, 3), (21, .iconst 5, 1), (22, .iload_n 1, 1), (23, .iadd, 1), (24, .dup2, 1), (25, .iaload, 1), (26, .iconst 1, 1), (27, .iadd, 1), (28, .iastore, 1), (29, .aload_n 0, 1), (30, .getfield 25, 3), (33, .iload_n 1, 1), (34, .aload_n 0, 1), (35, .getfield 25, 3), (38, .iload_n 1, 1), (39, .iaload, 1), (40, .iconst 4, 1), (41, .if_icmp .le 14, 3), (44, .aload_n 0, 1), (45, .getfield 25, 3), (48, .iload_n 1, 1), (49, .iaload, 1), (50, .iconst 4, 1), (51, .isub, 1), (52, .goto 4, 3), (55, .iconst 0, 1), (56, .iastore, 1), (57, .aload_n 0, 1), (58, .getfield 25, 3), (61, .bipush 10, 2), (63, .iload_n 1, 1), (64, .iadd, 1), (65, .aload_n 0, 1), (66, .getfield 25, 3), (69, .bipush 10, 2), (71, .iload_n 1, 1), (72, .iadd, 1), (73, .iaload, 1), (74, .aload_n 0, 1), (75, .aload_n 0, 1), (76, .getfield 25, 3), (79, .iconst 5, 1), (80, .iload_n 1, 1), (81, .iadd, 1), (82, .iaload, 1), (83, .invokevirtual 204, 3), (86, .iadd, 1), (87, .sipush 9999, 3), (90, .invokestatic 207, 3), (93, .iastore, 1)]
theorem tk_X6_doHour : am_tbl prog_8_method_29_code tb_X6_doHour = true := by decide +kernel
def tb_X6_doHour_1 : List (Nat × Instr × Nat) := [(94, .goto 40, 3), (97, .aload_n 0, 1), (98, .getfield 25, 3), (101, .iconst 5, 1), (102, .iload_n 1, 1), (103, .iadd, 1), (104, .iconst 0, 1), (105, .iastore, 1), (106, .aload_n 0, 1), (107, .getfield 25, 3), (110, .iload_n 1, 1), (111, .aload_n 0, 1), (112, .getfield 25, 3), (115, .iload_n 1, 1), (116, .iaload, 1), (117, .iload_n 2, 1), (118, .iconst 1, 1), (119, .if_icmp .ne 7, 3), (122, .iconst 3, 1), (123, .goto 4, 3), (126, .iconst 1, 1), (127, .iadd, 1), (128, .bipush 99, 2), (130, .invokestatic 207, 3), (133, .iastore, 1), (134, .return_, 1)]
theorem tk_X6_doHour_1 : am_tbl prog_8_method_29_code tb_X6_doHour_1 = true := by decide +kernel
def b_X6_doHour_127 (s0 : Int32) (s1 : Int32) (s2 : Int32) (D : am_M) : Option am_M := if am_in s2 138 = true then some (am_up D 62 s2.toNatClampNeg (f_X6_atMost (s1 + s0) 99)) else none
def b_X6_doHour_97 (x1 : Int32) (x2 : Int32) (D : am_M) : Option am_M := if am_in (5 + x1) 138 = true then if am_in x1 138 = true then b_X6_doHour_127 (if x2 = 1 then 3 else 1) ((am_up D 62 (5 + x1).toNatClampNeg 0) 62 x1.toNatClampNeg) x1 (am_up D 62 (5 + x1).toNatClampNeg 0) else none else none
def b_X6_doHour_56 (x1 : Int32) (s0 : Int32) (s1 : Int32) (D : am_M) : Option am_M := if am_in s1 138 = true then if am_in (10 + x1) 138 = true then if am_in (5 + x1) 138 = true then some (am_up (am_up D 62 s1.toNatClampNeg s0) 62 (10 + x1).toNatClampNeg (f_X6_atMost (((am_up D 62 s1.toNatClampNeg s0) 62 (10 + x1).toNatClampNeg) + (f_X6_minted ((am_up D 62 s1.toNatClampNeg s0) 62 (5 + x1).toNatClampNeg) (am_up D 62 s1.toNatClampNeg s0))) 9999)) else none else none else none
def f_X6_doHour (x1 : Int32) (x2 : Int32) (x3 : Int32) (D : am_M) : Option am_M := if x2 = 0 then if x3 = 0 then b_X6_doHour_97 x1 x2 D else if am_in x1 138 = true then if (D 62 x1.toNatClampNeg) ≤ 0 then b_X6_doHour_97 x1 x2 D else if am_in (5 + x1) 138 = true then b_X6_doHour_56 x1 (if ((am_up D 62 (5 + x1).toNatClampNeg ((D 62 (5 + x1).toNatClampNeg) + 1)) 62 x1.toNatClampNeg) ≤ 4 then 0 else ((am_up D 62 (5 + x1).toNatClampNeg ((D 62 (5 + x1).toNatClampNeg) + 1)) 62 x1.toNatClampNeg) - 4) x1 (am_up D 62 (5 + x1).toNatClampNeg ((D 62 (5 + x1).toNatClampNeg) + 1)) else none else none else b_X6_doHour_97 x1 x2 D
theorem bx_X6_doHour_127 {l : Launch} {h0 : am_H} {Φ : am_Ph} {tw : Nat} {tp : Bool}  {D' : am_M} (hΦ : Φ none (ly tw tp D')) : ∀ (s0 : Int32) (s1 : Int32) (s2 : Int32) (D : am_M), b_X6_doHour_127 s0 s1 s2 D = some D' → am_Ex (am_E l m_X6_doHour false h0 Φ) prog_8_method_29_code (0, 0) 127 [] [.int s0, .int s1, .int s2, .ref 62] (ly tw tp D) := by
  intro s0 s1 s2 D h
  rw [b_X6_doHour_127] at h
  refine am_iadd (am_dk tk_X6_doHour_1 21 rfl) ?_
  refine am_bipush (v := 99) (am_dk tk_X6_doHour_1 22 rfl) (by decide) ?_
  refine am_cS (M := m_X6_atMost) (As := [.int (s1 + s0), .int 99]) (st := [.int s2, .ref 62]) (ct_X6_atMost _ _ _) ml_X6_207 ld_X6_atMost rfl ⟨Nat.le_of_ble_eq_true rfl, Nat.le_of_ble_eq_true rfl⟩ (Nat.le_of_ble_eq_true rfl) ⟨rfl, rfl⟩ ⟨Nat.le_of_ble_eq_true rfl, Nat.le_of_ble_eq_true rfl⟩ (am_dk tk_X6_doHour_1 23 rfl) (am_kki ?_)
  obtain ⟨hi133, h⟩ := am_chk h
  refine ly_iast (k := s2.toNatClampNeg) rfl (am_in_vp hi133) rfl (am_dk tk_X6_doHour_1 24 rfl) ?_
  exact am_vret rfl (am_r0 h hΦ) ⟨Nat.le_of_ble_eq_true rfl, Nat.le_of_ble_eq_true rfl⟩ (am_dk tk_X6_doHour_1 25 rfl)
theorem bx_X6_doHour_97 {l : Launch} {h0 : am_H} {Φ : am_Ph} {tw : Nat} {tp : Bool}  {D' : am_M} (hΦ : Φ none (ly tw tp D')) : ∀ (x1 : Int32) (x2 : Int32) (D : am_M), b_X6_doHour_97 x1 x2 D = some D' → am_Ex (am_E l m_X6_doHour false h0 Φ) prog_8_method_29_code (0, 0) 97 [(0, .ref 56), (1, .int x1), (2, .int x2)] [] (ly tw tp D) := by
  intro x1 x2 D h
  rw [b_X6_doHour_97] at h
  refine am_aload_n (j := 0) (am_dk tk_X6_doHour_1 1 rfl) rfl rfl ?_
  refine ly_getr (b := 62) rfl fl_X6_25 rfl rfl (am_dk tk_X6_doHour_1 2 rfl) ?_
  refine am_iconst (v := 5) (am_dk tk_X6_doHour_1 3 rfl) (by decide) ?_
  refine am_iload_n (j := 1) (am_dk tk_X6_doHour_1 4 rfl) rfl rfl ?_
  refine am_iadd (am_dk tk_X6_doHour_1 5 rfl) ?_
  refine am_iconst (v := 0) (am_dk tk_X6_doHour_1 6 rfl) (by decide) ?_
  obtain ⟨hi105, h⟩ := am_chk h
  refine ly_iast (k := (5 + x1).toNatClampNeg) rfl (am_in_vp hi105) rfl (am_dk tk_X6_doHour_1 7 rfl) ?_
  refine am_aload_n (j := 0) (am_dk tk_X6_doHour_1 8 rfl) rfl rfl ?_
  refine ly_getr (b := 62) rfl fl_X6_25 rfl rfl (am_dk tk_X6_doHour_1 9 rfl) ?_
  refine am_iload_n (j := 1) (am_dk tk_X6_doHour_1 10 rfl) rfl rfl ?_
  refine am_aload_n (j := 0) (am_dk tk_X6_doHour_1 11 rfl) rfl rfl ?_
  refine ly_getr (b := 62) rfl fl_X6_25 rfl rfl (am_dk tk_X6_doHour_1 12 rfl) ?_
  refine am_iload_n (j := 1) (am_dk tk_X6_doHour_1 13 rfl) rfl rfl ?_
  obtain ⟨hi116, h⟩ := am_chk h
  refine ly_iald (k := x1.toNatClampNeg) rfl (am_in_vp hi116) rfl (am_dk tk_X6_doHour_1 14 rfl) ?_
  refine am_iload_n (j := 2) (am_dk tk_X6_doHour_1 15 rfl) rfl rfl ?_
  refine am_iconst (v := 1) (am_dk tk_X6_doHour_1 16 rfl) (by decide) ?_
  refine am_icmp_ne (tgt := 126) (am_dk tk_X6_doHour_1 17 rfl) (by decide) (fun hc119 => ?_) (fun hc119 => ?_)
  · simp only [if_neg hc119] at h
    refine am_iconst (v := 1) (am_dk tk_X6_doHour_1 20 rfl) (by decide) ?_
    refine am_ls [] rfl ?_
    exact bx_X6_doHour_127  hΦ _ _ _ _ h
  · simp only [if_pos hc119] at h
    refine am_iconst (v := 3) (am_dk tk_X6_doHour_1 18 rfl) (by decide) ?_
    refine am_goto (tgt := 127) (am_dk tk_X6_doHour_1 19 rfl) (by decide) ?_
    refine am_ls [] rfl ?_
    exact bx_X6_doHour_127  hΦ _ _ _ _ h
theorem bx_X6_doHour_56 {l : Launch} {h0 : am_H} {Φ : am_Ph} {tw : Nat} {tp : Bool}  {D' : am_M} (hΦ : Φ none (ly tw tp D')) : ∀ (x1 : Int32) (s0 : Int32) (s1 : Int32) (D : am_M), b_X6_doHour_56 x1 s0 s1 D = some D' → am_Ex (am_E l m_X6_doHour false h0 Φ) prog_8_method_29_code (0, 0) 56 [(0, .ref 56), (1, .int x1)] [.int s0, .int s1, .ref 62] (ly tw tp D) := by
  intro x1 s0 s1 D h
  rw [b_X6_doHour_56] at h
  obtain ⟨hi56, h⟩ := am_chk h
  refine ly_iast (k := s1.toNatClampNeg) rfl (am_in_vp hi56) rfl (am_dk tk_X6_doHour 36 rfl) ?_
  refine am_aload_n (j := 0) (am_dk tk_X6_doHour 37 rfl) rfl rfl ?_
  refine ly_getr (b := 62) rfl fl_X6_25 rfl rfl (am_dk tk_X6_doHour 38 rfl) ?_
  refine am_bipush (v := 10) (am_dk tk_X6_doHour 39 rfl) (by decide) ?_
  refine am_iload_n (j := 1) (am_dk tk_X6_doHour 40 rfl) rfl rfl ?_
  refine am_iadd (am_dk tk_X6_doHour 41 rfl) ?_
  refine am_aload_n (j := 0) (am_dk tk_X6_doHour 42 rfl) rfl rfl ?_
  refine ly_getr (b := 62) rfl fl_X6_25 rfl rfl (am_dk tk_X6_doHour 43 rfl) ?_
  refine am_bipush (v := 10) (am_dk tk_X6_doHour 44 rfl) (by decide) ?_
  refine am_iload_n (j := 1) (am_dk tk_X6_doHour 45 rfl) rfl rfl ?_
  refine am_iadd (am_dk tk_X6_doHour 46 rfl) ?_
  obtain ⟨hi73, h⟩ := am_chk h
  refine ly_iald (k := (10 + x1).toNatClampNeg) rfl (am_in_vp hi73) rfl (am_dk tk_X6_doHour 47 rfl) ?_
  refine am_aload_n (j := 0) (am_dk tk_X6_doHour 48 rfl) rfl rfl ?_
  refine am_aload_n (j := 0) (am_dk tk_X6_doHour 49 rfl) rfl rfl ?_
  refine ly_getr (b := 62) rfl fl_X6_25 rfl rfl (am_dk tk_X6_doHour 50 rfl) ?_
  refine am_iconst (v := 5) (am_dk tk_X6_doHour 51 rfl) (by decide) ?_
  refine am_iload_n (j := 1) (am_dk tk_X6_doHour 52 rfl) rfl rfl ?_
  refine am_iadd (am_dk tk_X6_doHour 53 rfl) ?_
  obtain ⟨hi82, h⟩ := am_chk h
  refine ly_iald (k := (5 + x1).toNatClampNeg) rfl (am_in_vp hi82) rfl (am_dk tk_X6_doHour 54 rfl) ?_
  refine ly_cV (M := m_X6_minted) (As := [.int ((am_up D 62 s1.toNatClampNeg s0) 62 (5 + x1).toNatClampNeg)]) (b := 56) (st := [.int ((am_up D 62 s1.toNatClampNeg s0) 62 (10 + x1).toNatClampNeg), .int (10 + x1), .ref 62]) (ct_X6_minted _ _) rfl (by decide) rfl ml_X6_204 ld_X6_minted rfl ⟨Nat.le_of_ble_eq_true rfl, Nat.le_of_ble_eq_true rfl⟩ (Nat.le_of_ble_eq_true rfl) ⟨rfl, rfl⟩ ⟨Nat.le_of_ble_eq_true rfl, Nat.le_of_ble_eq_true rfl⟩ (am_dk tk_X6_doHour 55 rfl) (am_kki ?_)
  refine am_iadd (am_dk tk_X6_doHour 56 rfl) ?_
  refine am_sipush (v := 9999) (am_dk tk_X6_doHour 57 rfl) (by decide) ?_
  refine am_cS (M := m_X6_atMost) (As := [.int (((am_up D 62 s1.toNatClampNeg s0) 62 (10 + x1).toNatClampNeg) + (f_X6_minted ((am_up D 62 s1.toNatClampNeg s0) 62 (5 + x1).toNatClampNeg) (am_up D 62 s1.toNatClampNeg s0))), .int 9999]) (st := [.int (10 + x1), .ref 62]) (ct_X6_atMost _ _ _) ml_X6_207 ld_X6_atMost rfl ⟨Nat.le_of_ble_eq_true rfl, Nat.le_of_ble_eq_true rfl⟩ (Nat.le_of_ble_eq_true rfl) ⟨rfl, rfl⟩ ⟨Nat.le_of_ble_eq_true rfl, Nat.le_of_ble_eq_true rfl⟩ (am_dk tk_X6_doHour 58 rfl) (am_kki ?_)
  refine ly_iast (k := (10 + x1).toNatClampNeg) rfl (am_in_vp hi73) rfl (am_dk tk_X6_doHour 59 rfl) ?_
  refine am_goto (tgt := 134) (am_dk tk_X6_doHour_1 0 rfl) (by decide) ?_
  exact am_vret rfl (am_r0 h hΦ) ⟨Nat.le_of_ble_eq_true rfl, Nat.le_of_ble_eq_true rfl⟩ (am_dk tk_X6_doHour_1 25 rfl)
theorem ct_X6_doHour {l : Launch} {tw : Nat} {tp : Bool}  {x1 : Int32} {x2 : Int32} {x3 : Int32} {D D' : am_M} (h : f_X6_doHour x1 x2 x3 D = some D') : am_CT l m_X6_doHour false [.ref 56, .int x1, .int x2, .int x3] (ly tw tp D) (am_is none (ly tw tp D')) := by
  have hΦ : am_is none (ly tw tp D') none (ly tw tp D') := ⟨rfl, rfl⟩
  refine am_CT.of (by decide) (Nat.le_of_ble_eq_true rfl) ?_
  show am_Ex _ _ _ 0 [(0, .ref 56), (1, .int x1), (2, .int x2), (3, .int x3)] [] _
  rw [f_X6_doHour] at h
  refine am_iload_n (j := 2) (am_dk tk_X6_doHour 0 rfl) rfl rfl ?_
  refine am_if_ne (tgt := 97) (am_dk tk_X6_doHour 1 rfl) (by decide) (fun hc1 => ?_) (fun hc1 => ?_)
  · rw [if_neg hc1] at h
    refine am_ls [0, 1, 2] rfl ?_
    exact bx_X6_doHour_97  hΦ _ _ _ h
  · rw [if_pos hc1] at h
    refine am_iload_n (j := 3) (am_dk tk_X6_doHour 2 rfl) rfl rfl ?_
    refine am_if_eq (tgt := 97) (am_dk tk_X6_doHour 3 rfl) (by decide) (fun hc5 => ?_) (fun hc5 => ?_)
    · rw [if_pos hc5] at h
      refine am_ls [0, 1, 2] rfl ?_
      exact bx_X6_doHour_97  hΦ _ _ _ h
    · rw [if_neg hc5] at h
      refine am_aload_n (j := 0) (am_dk tk_X6_doHour 4 rfl) rfl rfl ?_
      refine ly_getr (b := 62) rfl fl_X6_25 rfl rfl (am_dk tk_X6_doHour 5 rfl) ?_
      refine am_iload_n (j := 1) (am_dk tk_X6_doHour 6 rfl) rfl rfl ?_
      obtain ⟨hi13, h⟩ := am_chk h
      refine ly_iald (k := x1.toNatClampNeg) rfl (am_in_vp hi13) rfl (am_dk tk_X6_doHour 7 rfl) ?_
      refine am_if_le (tgt := 97) (am_dk tk_X6_doHour 8 rfl) (by decide) (fun hc14 => ?_) (fun hc14 => ?_)
      · rw [if_pos hc14] at h
        refine am_ls [0, 1, 2] rfl ?_
        exact bx_X6_doHour_97  hΦ _ _ _ h
      · rw [if_neg hc14] at h
        refine am_aload_n (j := 0) (am_dk tk_X6_doHour 9 rfl) rfl rfl ?_
        refine ly_getr (b := 62) rfl fl_X6_25 rfl rfl (am_dk tk_X6_doHour 10 rfl) ?_
        refine am_iconst (v := 5) (am_dk tk_X6_doHour 11 rfl) (by decide) ?_
        refine am_iload_n (j := 1) (am_dk tk_X6_doHour 12 rfl) rfl rfl ?_
        refine am_iadd (am_dk tk_X6_doHour 13 rfl) ?_
        refine am_dup2 (am_dk tk_X6_doHour 14 rfl) rfl rfl ?_
        obtain ⟨hi25, h⟩ := am_chk h
        refine ly_iald (k := (5 + x1).toNatClampNeg) rfl (am_in_vp hi25) rfl (am_dk tk_X6_doHour 15 rfl) ?_
        refine am_iconst (v := 1) (am_dk tk_X6_doHour 16 rfl) (by decide) ?_
        refine am_iadd (am_dk tk_X6_doHour 17 rfl) ?_
        refine ly_iast (k := (5 + x1).toNatClampNeg) rfl (am_in_vp hi25) rfl (am_dk tk_X6_doHour 18 rfl) ?_
        refine am_aload_n (j := 0) (am_dk tk_X6_doHour 19 rfl) rfl rfl ?_
        refine ly_getr (b := 62) rfl fl_X6_25 rfl rfl (am_dk tk_X6_doHour 20 rfl) ?_
        refine am_iload_n (j := 1) (am_dk tk_X6_doHour 21 rfl) rfl rfl ?_
        refine am_aload_n (j := 0) (am_dk tk_X6_doHour 22 rfl) rfl rfl ?_
        refine ly_getr (b := 62) rfl fl_X6_25 rfl rfl (am_dk tk_X6_doHour 23 rfl) ?_
        refine am_iload_n (j := 1) (am_dk tk_X6_doHour 24 rfl) rfl rfl ?_
        refine ly_iald (k := x1.toNatClampNeg) rfl (am_in_vp hi13) rfl (am_dk tk_X6_doHour 25 rfl) ?_
        refine am_iconst (v := 4) (am_dk tk_X6_doHour 26 rfl) (by decide) ?_
        refine am_icmp_le (tgt := 55) (am_dk tk_X6_doHour 27 rfl) (by decide) (fun hc41 => ?_) (fun hc41 => ?_)
        · simp only [if_pos hc41] at h
          refine am_iconst (v := 0) (am_dk tk_X6_doHour 35 rfl) (by decide) ?_
          refine am_ls [0, 1] rfl ?_
          exact bx_X6_doHour_56  hΦ _ _ _ _ h
        · simp only [if_neg hc41] at h
          refine am_aload_n (j := 0) (am_dk tk_X6_doHour 28 rfl) rfl rfl ?_
          refine ly_getr (b := 62) rfl fl_X6_25 rfl rfl (am_dk tk_X6_doHour 29 rfl) ?_
          refine am_iload_n (j := 1) (am_dk tk_X6_doHour 30 rfl) rfl rfl ?_
          refine ly_iald (k := x1.toNatClampNeg) rfl (am_in_vp hi13) rfl (am_dk tk_X6_doHour 31 rfl) ?_
          refine am_iconst (v := 4) (am_dk tk_X6_doHour 32 rfl) (by decide) ?_
          refine am_isub (am_dk tk_X6_doHour 33 rfl) ?_
          refine am_goto (tgt := 56) (am_dk tk_X6_doHour 34 rfl) (by decide) ?_
          refine am_ls [0, 1] rfl ?_
          exact bx_X6_doHour_56  hΦ _ _ _ _ h
abbrev m_X6_pass : am_D := (yX6_pass, prog_8_method_30_code, 5, none, { frames := 2, cells := 0, slots := 0, locals := 44 })
theorem ld_X6_pass : am_LD m_X6_pass 0 := ⟨(am_tb 85 (by decide +kernel) (by decide +kernel)), (am_tb 1077 (by decide +kernel) (by decide +kernel)), by decide, by decide, by decide +kernel⟩
def tb_X6_pass : List (Nat × Instr × Nat) := [(0, .iconst 0, 1), (1, .istore_n 1, 1), (2, .aload_n 0, 1), (3, .getfield 25, 3), (6, .sipush 137, 3), (9, .iaload, 1), (10, .bipush 24, 2), (12, .irem, 1), (13, .istore_n 2, 1), (14, .iconst 0, 1), (15, .istore_n 3, 1), (16, .iload_n 3, 1), (17, .aload_n 0, 1), (18, .getfield 96, 3), (21, .if_icmp .ge 60, 3), (24, .aload_n 0, 1), (25, .iload_n 3, 1), (26, .aload_n 0, 1), (27, .getfield 25, 3), (30, .bipush 15, 2), (32, .bipush 24, 2), (34, .iload_n 3, 1), (35, .imul, 1), (36, .iadd, 1), (37, .iload_n 2, 1), (38, .iadd, 1), (39, .iaload, 1), (40, .iload_n 1, 1), (41, .aload_n 0, 1), (42, .getfield 93, 3), (45, .if_icmp .ge 7, 3), (48, .iconst 1, 1), (49, .goto 4, 3), (52, .iconst 0, 1), (53, .invokevirtual 210, 3), (56, .iload_n 1, 1), (57, .aload_n 0, 1), (58, .getfield 25, 3), (61, .iconst 5, 1), (62, .iload_n 3, 1), (63, .iadd, 1), (64, .iaload, 1), (65, .ifCond .le 7, 3), (68, .iconst 1, 1), (69, .goto 4, 3), (72, .iconst 0, 1), (73, .iadd, 1), (74, .istore_n 1, 1), (75, .iinc 3 1, 3), (78, .goto (-62), 3), (81, .iconst 0, 1), (82, .istore_n 3, 1), (83, .iload_n 3, 1), (84, .aload_n 0, 1), (85, .getfield 182, 3), (88, .if_icmp .ge 134, 3), (91, .aload_n 0, 1), (92, .getfield 19, 3), (95, .iload_n 3, 1), (96, .iaload, 1)]
theorem tk_X6_pass : am_tbl prog_8_method_30_code tb_X6_pass = true := by decide +kernel
def tb_X6_pass_1 : List (Nat × Instr × Nat) := [(97, .aload_n 0, 1), (98, .getfield 25, 3), (101, .sipush 137, 3), (104, .iaload, 1), (105, .if_icmp .ne 111, 3), (108, .aload_n 0, 1), (109, .getfield 25, 3), (112, .bipush 10, 2), (114, .aload_n 0, 1), (115, .getfield 16, 3), (118, .iload_n 3, 1), (119, .iaload, 1), (120, .iadd, 1), (121, .iaload, 1), (122, .aload_n 0, 1), (123, .getfield 22, 3), (126, .iload_n 3, 1), (127, .iaload, 1), (128, .if_icmp .lt 7, 3), (131, .iconst 1, 1), (132, .goto 4, 3), (135, .iconst 0, 1), (136, .istore 4, 2), (138, .aload_n 0, 1), (139, .getfield 25, 3), (142, .bipush 10, 2), (144, .aload_n 0, 1), (145, .getfield 16, 3), (148, .iload_n 3, 1), (149, .iaload, 1), (150, .iadd, 1), (151, .dup2, 1), (152, .iaload, 1), (153, .iload 4, 2), (155, .ifCond .eq 12, 3), (158, .aload_n 0, 1), (159, .getfield 22, 3), (162, .iload_n 3, 1), (163, .iaload, 1), (164, .goto 4, 3), (167, .iconst 0, 1), (168, .isub, 1), (169, .iastore, 1), (170, .aload_n 0, 1), (171, .getfield 25, 3), (174, .sipush 135, 3), (177, .dup2, 1), (178, .iaload, 1), (179, .iload 4, 2), (181, .ifCond .eq 9, 3), (184, .iconst 1, 1), (185, .iload_n 3, 1), (186, .ishl, 1), (187, .goto 4, 3), (190, .iconst 0, 1), (191, .ior, 1), (192, .iastore, 1), (193, .aload_n 0, 1), (194, .getfield 25, 3), (197, .sipush 136, 3)]
theorem tk_X6_pass_1 : am_tbl prog_8_method_30_code tb_X6_pass_1 = true := by decide +kernel
def tb_X6_pass_2 : List (Nat × Instr × Nat) := [(200, .dup2, 1), (201, .iaload, 1), (202, .iload 4, 2), (204, .ifCond .eq 7, 3), (207, .iconst 0, 1), (208, .goto 6, 3), (211, .iconst 1, 1), (212, .iload_n 3, 1), (213, .ishl, 1), (214, .ior, 1), (215, .iastore, 1), (216, .iinc 3 1, 3), (219, .goto (-136), 3), (222, .aload_n 0, 1), (223, .getfield 25, 3), (226, .sipush 137, 3), (229, .dup2, 1), (230, .iaload, 1), (231, .iconst 1, 1), (232, .iadd, 1), (233, .iastore, 1), (234, .return_, 1)]
theorem tk_X6_pass_2 : am_tbl prog_8_method_30_code tb_X6_pass_2 = true := by decide +kernel
def b_X6_pass_214 (k83 : Int32 → am_M → Option am_M) (x3 : Int32) (s0 : Int32) (s1 : Int32) (s2 : Int32) (D : am_M) : Option am_M := if am_in s2 138 = true then k83 (x3 + 1) (am_up D 62 s2.toNatClampNeg (s1 ||| s0)) else none
def b_X6_pass_191 (k83 : Int32 → am_M → Option am_M) (x3 : Int32) (x4 : Int32) (s0 : Int32) (s1 : Int32) (s2 : Int32) (D : am_M) : Option am_M := if am_in s2 138 = true then b_X6_pass_214 k83 x3 (if x4 = 0 then 1 <<< (x3 &&& 31) else 0) ((am_up D 62 s2.toNatClampNeg (s1 ||| s0)) 62 136) 136 (am_up D 62 s2.toNatClampNeg (s1 ||| s0)) else none
def b_X6_pass_168 (k83 : Int32 → am_M → Option am_M) (x3 : Int32) (x4 : Int32) (s0 : Int32) (s1 : Int32) (s2 : Int32) (D : am_M) : Option am_M := if am_in s2 138 = true then b_X6_pass_191 k83 x3 x4 (if x4 = 0 then 0 else 1 <<< (x3 &&& 31)) ((am_up D 62 s2.toNatClampNeg (s1 - s0)) 62 135) 135 (am_up D 62 s2.toNatClampNeg (s1 - s0)) else none
def b_X6_pass_136 (k83 : Int32 → am_M → Option am_M) (x3 : Int32) (s0 : Int32) (D : am_M) : Option am_M := if am_in x3 8 = true then if am_in (10 + (D 59 x3.toNatClampNeg)) 138 = true then b_X6_pass_168 k83 x3 s0 (if s0 = 0 then 0 else D 61 x3.toNatClampNeg) (D 62 (10 + (D 59 x3.toNatClampNeg)).toNatClampNeg) (10 + (D 59 x3.toNatClampNeg)) D else none else none
def b_X6_pass_83 : Nat → Int32 → am_M → Option am_M
  | 0, _, _ => none
  | n + 1, x3, D => if (D 56 7) ≤ x3 then some (am_up D 62 137 ((D 62 137) + 1)) else if am_in x3 8 = true then if (D 60 x3.toNatClampNeg) = (D 62 137) then if am_in (10 + (D 59 x3.toNatClampNeg)) 138 = true then b_X6_pass_136 (b_X6_pass_83 n) x3 (if (D 62 (10 + (D 59 x3.toNatClampNeg)).toNatClampNeg) < (D 61 x3.toNatClampNeg) then 0 else 1) D else none else b_X6_pass_83 n (x3 + 1) D else none
def b_X6_pass_53 (k16 : Int32 → Int32 → Int32 → am_M → Option am_M) (x1 : Int32) (x2 : Int32) (x3 : Int32) (s0 : Int32) (s1 : Int32) (s2 : Int32) (D : am_M) : Option am_M := (f_X6_doHour s2 s1 s0 D).bind fun q53 => if am_in (5 + x3) 138 = true then k16 (if (q53 62 (5 + x3).toNatClampNeg) ≤ 0 then x1 + 0 else x1 + 1) x2 (x3 + 1) q53 else none
def b_X6_pass_16 : Nat → Int32 → Int32 → Int32 → am_M → Option am_M
  | 0, _, _, _, _ => none
  | n + 1, x1, x2, x3, D => if (D 56 3) ≤ x3 then b_X6_pass_83 am_N 0 D else if am_in ((15 + (24 * x3)) + x2) 138 = true then b_X6_pass_53 (b_X6_pass_16 n) x1 x2 x3 (if (D 56 0) ≤ x1 then 0 else 1) (D 62 ((15 + (24 * x3)) + x2).toNatClampNeg) x3 D else none
def f_X6_pass (D : am_M) : Option am_M := b_X6_pass_16 am_N 0 ((D 62 137) - (D 62 137) / 24 * 24) 0 D
theorem bx_X6_pass_214 {l : Launch} {h0 : am_H} {Φ : am_Ph} {tw : Nat} {tp : Bool}  {D' : am_M} (hΦ : Φ none (ly tw tp D')) {k83 : Int32 → am_M → Option am_M} (hk83 : ∀ (x3 : Int32) (D : am_M), k83 x3 D = some D' → am_Ex (am_E l m_X6_pass false h0 Φ) prog_8_method_30_code (0, 0) 83 [(0, .ref 56), (3, .int x3)] [] (ly tw tp D)) : ∀ (x3 : Int32) (s0 : Int32) (s1 : Int32) (s2 : Int32) (D : am_M), b_X6_pass_214 k83 x3 s0 s1 s2 D = some D' → am_Ex (am_E l m_X6_pass false h0 Φ) prog_8_method_30_code (0, 0) 214 [(0, .ref 56), (3, .int x3)] [.int s0, .int s1, .int s2, .ref 62] (ly tw tp D) := by
  intro x3 s0 s1 s2 D h
  rw [b_X6_pass_214] at h
  refine am_ior (am_dk tk_X6_pass_2 9 rfl) ?_
  obtain ⟨hi215, h⟩ := am_chk h
  refine ly_iast (k := s2.toNatClampNeg) rfl (am_in_vp hi215) rfl (am_dk tk_X6_pass_2 10 rfl) ?_
  refine am_iinc (j := 1) (v := x3 + 1) (L' := [(3, .int (x3 + 1)), (0, .ref 56)]) (am_dk tk_X6_pass_2 11 rfl) rfl rfl (Nat.le_of_ble_eq_true rfl) rfl ?_
  refine am_goto (tgt := 83) (am_dk tk_X6_pass_2 12 rfl) (by decide) ?_
  refine am_ls [1, 0] rfl ?_
  exact hk83 _ _ h
theorem bx_X6_pass_191 {l : Launch} {h0 : am_H} {Φ : am_Ph} {tw : Nat} {tp : Bool}  {D' : am_M} (hΦ : Φ none (ly tw tp D')) {k83 : Int32 → am_M → Option am_M} (hk83 : ∀ (x3 : Int32) (D : am_M), k83 x3 D = some D' → am_Ex (am_E l m_X6_pass false h0 Φ) prog_8_method_30_code (0, 0) 83 [(0, .ref 56), (3, .int x3)] [] (ly tw tp D)) : ∀ (x3 : Int32) (x4 : Int32) (s0 : Int32) (s1 : Int32) (s2 : Int32) (D : am_M), b_X6_pass_191 k83 x3 x4 s0 s1 s2 D = some D' → am_Ex (am_E l m_X6_pass false h0 Φ) prog_8_method_30_code (0, 0) 191 [(0, .ref 56), (3, .int x3), (4, .int x4)] [.int s0, .int s1, .int s2, .ref 62] (ly tw tp D) := by
  intro x3 x4 s0 s1 s2 D h
  rw [b_X6_pass_191] at h
  refine am_ior (am_dk tk_X6_pass_1 55 rfl) ?_
  obtain ⟨hi192, h⟩ := am_chk h
  refine ly_iast (k := s2.toNatClampNeg) rfl (am_in_vp hi192) rfl (am_dk tk_X6_pass_1 56 rfl) ?_
  refine am_aload_n (j := 0) (am_dk tk_X6_pass_1 57 rfl) rfl rfl ?_
  refine ly_getr (b := 62) rfl fl_X6_25 rfl rfl (am_dk tk_X6_pass_1 58 rfl) ?_
  refine am_sipush (v := 136) (am_dk tk_X6_pass_1 59 rfl) (by decide) ?_
  refine am_dup2 (am_dk tk_X6_pass_2 0 rfl) rfl rfl ?_
  refine ly_iald (k := 136) rfl (am_in_vp (by decide)) rfl (am_dk tk_X6_pass_2 1 rfl) ?_
  refine am_iload (j := 2) (am_dk tk_X6_pass_2 2 rfl) rfl ?_
  refine am_if_eq (tgt := 211) (am_dk tk_X6_pass_2 3 rfl) (by decide) (fun hc204 => ?_) (fun hc204 => ?_)
  · simp only [if_pos hc204] at h
    refine am_iconst (v := 1) (am_dk tk_X6_pass_2 6 rfl) (by decide) ?_
    refine am_iload_n (j := 1) (am_dk tk_X6_pass_2 7 rfl) rfl rfl ?_
    refine am_ishl (am_dk tk_X6_pass_2 8 rfl) ?_
    refine am_ls [0, 1] rfl ?_
    exact bx_X6_pass_214  hΦ hk83 _ _ _ _ _ h
  · simp only [if_neg hc204] at h
    refine am_iconst (v := 0) (am_dk tk_X6_pass_2 4 rfl) (by decide) ?_
    refine am_goto (tgt := 214) (am_dk tk_X6_pass_2 5 rfl) (by decide) ?_
    refine am_ls [0, 1] rfl ?_
    exact bx_X6_pass_214  hΦ hk83 _ _ _ _ _ h
theorem bx_X6_pass_168 {l : Launch} {h0 : am_H} {Φ : am_Ph} {tw : Nat} {tp : Bool}  {D' : am_M} (hΦ : Φ none (ly tw tp D')) {k83 : Int32 → am_M → Option am_M} (hk83 : ∀ (x3 : Int32) (D : am_M), k83 x3 D = some D' → am_Ex (am_E l m_X6_pass false h0 Φ) prog_8_method_30_code (0, 0) 83 [(0, .ref 56), (3, .int x3)] [] (ly tw tp D)) : ∀ (x3 : Int32) (x4 : Int32) (s0 : Int32) (s1 : Int32) (s2 : Int32) (D : am_M), b_X6_pass_168 k83 x3 x4 s0 s1 s2 D = some D' → am_Ex (am_E l m_X6_pass false h0 Φ) prog_8_method_30_code (0, 0) 168 [(0, .ref 56), (3, .int x3), (4, .int x4)] [.int s0, .int s1, .int s2, .ref 62] (ly tw tp D) := by
  intro x3 x4 s0 s1 s2 D h
  rw [b_X6_pass_168] at h
  refine am_isub (am_dk tk_X6_pass_1 41 rfl) ?_
  obtain ⟨hi169, h⟩ := am_chk h
  refine ly_iast (k := s2.toNatClampNeg) rfl (am_in_vp hi169) rfl (am_dk tk_X6_pass_1 42 rfl) ?_
  refine am_aload_n (j := 0) (am_dk tk_X6_pass_1 43 rfl) rfl rfl ?_
  refine ly_getr (b := 62) rfl fl_X6_25 rfl rfl (am_dk tk_X6_pass_1 44 rfl) ?_
  refine am_sipush (v := 135) (am_dk tk_X6_pass_1 45 rfl) (by decide) ?_
  refine am_dup2 (am_dk tk_X6_pass_1 46 rfl) rfl rfl ?_
  refine ly_iald (k := 135) rfl (am_in_vp (by decide)) rfl (am_dk tk_X6_pass_1 47 rfl) ?_
  refine am_iload (j := 2) (am_dk tk_X6_pass_1 48 rfl) rfl ?_
  refine am_if_eq (tgt := 190) (am_dk tk_X6_pass_1 49 rfl) (by decide) (fun hc181 => ?_) (fun hc181 => ?_)
  · simp only [if_pos hc181] at h
    refine am_iconst (v := 0) (am_dk tk_X6_pass_1 54 rfl) (by decide) ?_
    exact bx_X6_pass_191  hΦ hk83 _ _ _ _ _ _ h
  · simp only [if_neg hc181] at h
    refine am_iconst (v := 1) (am_dk tk_X6_pass_1 50 rfl) (by decide) ?_
    refine am_iload_n (j := 1) (am_dk tk_X6_pass_1 51 rfl) rfl rfl ?_
    refine am_ishl (am_dk tk_X6_pass_1 52 rfl) ?_
    refine am_goto (tgt := 191) (am_dk tk_X6_pass_1 53 rfl) (by decide) ?_
    exact bx_X6_pass_191  hΦ hk83 _ _ _ _ _ _ h
theorem bx_X6_pass_136 {l : Launch} {h0 : am_H} {Φ : am_Ph} {tw : Nat} {tp : Bool}  {D' : am_M} (hΦ : Φ none (ly tw tp D')) {k83 : Int32 → am_M → Option am_M} (hk83 : ∀ (x3 : Int32) (D : am_M), k83 x3 D = some D' → am_Ex (am_E l m_X6_pass false h0 Φ) prog_8_method_30_code (0, 0) 83 [(0, .ref 56), (3, .int x3)] [] (ly tw tp D)) : ∀ (x3 : Int32) (s0 : Int32) (D : am_M), b_X6_pass_136 k83 x3 s0 D = some D' → am_Ex (am_E l m_X6_pass false h0 Φ) prog_8_method_30_code (0, 0) 136 [(0, .ref 56), (3, .int x3)] [.int s0] (ly tw tp D) := by
  intro x3 s0 D h
  rw [b_X6_pass_136] at h
  refine am_istore (L' := [(4, .int s0), (0, .ref 56), (3, .int x3)]) (am_dk tk_X6_pass_1 22 rfl) (Nat.le_of_ble_eq_true rfl) rfl ?_
  refine am_aload_n (j := 1) (am_dk tk_X6_pass_1 23 rfl) rfl rfl ?_
  refine ly_getr (b := 62) rfl fl_X6_25 rfl rfl (am_dk tk_X6_pass_1 24 rfl) ?_
  refine am_bipush (v := 10) (am_dk tk_X6_pass_1 25 rfl) (by decide) ?_
  refine am_aload_n (j := 1) (am_dk tk_X6_pass_1 26 rfl) rfl rfl ?_
  refine ly_getr (b := 59) rfl fl_X6_16 rfl rfl (am_dk tk_X6_pass_1 27 rfl) ?_
  refine am_iload_n (j := 2) (am_dk tk_X6_pass_1 28 rfl) rfl rfl ?_
  obtain ⟨hi149, h⟩ := am_chk h
  refine ly_iald (k := x3.toNatClampNeg) rfl (am_in_vp hi149) rfl (am_dk tk_X6_pass_1 29 rfl) ?_
  refine am_iadd (am_dk tk_X6_pass_1 30 rfl) ?_
  refine am_dup2 (am_dk tk_X6_pass_1 31 rfl) rfl rfl ?_
  obtain ⟨hi152, h⟩ := am_chk h
  refine ly_iald (k := (10 + (D 59 x3.toNatClampNeg)).toNatClampNeg) rfl (am_in_vp hi152) rfl (am_dk tk_X6_pass_1 32 rfl) ?_
  refine am_iload (j := 0) (am_dk tk_X6_pass_1 33 rfl) rfl ?_
  refine am_if_eq (tgt := 167) (am_dk tk_X6_pass_1 34 rfl) (by decide) (fun hc155 => ?_) (fun hc155 => ?_)
  · simp only [if_pos hc155] at h
    refine am_iconst (v := 0) (am_dk tk_X6_pass_1 40 rfl) (by decide) ?_
    refine am_ls [1, 2, 0] rfl ?_
    exact bx_X6_pass_168  hΦ hk83 _ _ _ _ _ _ h
  · simp only [if_neg hc155] at h
    refine am_aload_n (j := 1) (am_dk tk_X6_pass_1 35 rfl) rfl rfl ?_
    refine ly_getr (b := 61) rfl fl_X6_22 rfl rfl (am_dk tk_X6_pass_1 36 rfl) ?_
    refine am_iload_n (j := 2) (am_dk tk_X6_pass_1 37 rfl) rfl rfl ?_
    refine ly_iald (k := x3.toNatClampNeg) rfl (am_in_vp hi149) rfl (am_dk tk_X6_pass_1 38 rfl) ?_
    refine am_goto (tgt := 168) (am_dk tk_X6_pass_1 39 rfl) (by decide) ?_
    refine am_ls [1, 2, 0] rfl ?_
    exact bx_X6_pass_168  hΦ hk83 _ _ _ _ _ _ h
theorem bx_X6_pass_83 {l : Launch} {h0 : am_H} {Φ : am_Ph} {tw : Nat} {tp : Bool}  {D' : am_M} (hΦ : Φ none (ly tw tp D')) : ∀ (n : Nat) (x3 : Int32) (D : am_M), b_X6_pass_83 n x3 D = some D' → am_Ex (am_E l m_X6_pass false h0 Φ) prog_8_method_30_code (0, 0) 83 [(0, .ref 56), (3, .int x3)] [] (ly tw tp D) := by
  intro n
  induction n with
  | zero =>
    intro x3 D h
    exact absurd h (by simp [b_X6_pass_83])
  | succ n ih =>
    intro x3 D h
    rw [b_X6_pass_83] at h
    refine am_iload_n (j := 1) (am_dk tk_X6_pass 52 rfl) rfl rfl ?_
    refine am_aload_n (j := 0) (am_dk tk_X6_pass 53 rfl) rfl rfl ?_
    refine ly_geti rfl fl_X6_182 rfl (am_dk tk_X6_pass 54 rfl) ?_
    refine am_icmp_ge (tgt := 222) (am_dk tk_X6_pass 55 rfl) (by decide) (fun hc88 => ?_) (fun hc88 => ?_)
    · rw [if_pos hc88] at h
      refine am_aload_n (j := 0) (am_dk tk_X6_pass_2 13 rfl) rfl rfl ?_
      refine ly_getr (b := 62) rfl fl_X6_25 rfl rfl (am_dk tk_X6_pass_2 14 rfl) ?_
      refine am_sipush (v := 137) (am_dk tk_X6_pass_2 15 rfl) (by decide) ?_
      refine am_dup2 (am_dk tk_X6_pass_2 16 rfl) rfl rfl ?_
      refine ly_iald (k := 137) rfl (am_in_vp (by decide)) rfl (am_dk tk_X6_pass_2 17 rfl) ?_
      refine am_iconst (v := 1) (am_dk tk_X6_pass_2 18 rfl) (by decide) ?_
      refine am_iadd (am_dk tk_X6_pass_2 19 rfl) ?_
      refine ly_iast (k := 137) rfl (am_in_vp (by decide)) rfl (am_dk tk_X6_pass_2 20 rfl) ?_
      exact am_vret rfl (am_r0 h hΦ) ⟨Nat.le_of_ble_eq_true rfl, Nat.le_of_ble_eq_true rfl⟩ (am_dk tk_X6_pass_2 21 rfl)
    · rw [if_neg hc88] at h
      refine am_aload_n (j := 0) (am_dk tk_X6_pass 56 rfl) rfl rfl ?_
      refine ly_getr (b := 60) rfl fl_X6_19 rfl rfl (am_dk tk_X6_pass 57 rfl) ?_
      refine am_iload_n (j := 1) (am_dk tk_X6_pass 58 rfl) rfl rfl ?_
      obtain ⟨hi96, h⟩ := am_chk h
      refine ly_iald (k := x3.toNatClampNeg) rfl (am_in_vp hi96) rfl (am_dk tk_X6_pass 59 rfl) ?_
      refine am_aload_n (j := 0) (am_dk tk_X6_pass_1 0 rfl) rfl rfl ?_
      refine ly_getr (b := 62) rfl fl_X6_25 rfl rfl (am_dk tk_X6_pass_1 1 rfl) ?_
      refine am_sipush (v := 137) (am_dk tk_X6_pass_1 2 rfl) (by decide) ?_
      refine ly_iald (k := 137) rfl (am_in_vp (by decide)) rfl (am_dk tk_X6_pass_1 3 rfl) ?_
      refine am_icmp_ne (tgt := 216) (am_dk tk_X6_pass_1 4 rfl) (by decide) (fun hc105 => ?_) (fun hc105 => ?_)
      · rw [if_neg hc105] at h
        refine am_iinc (j := 1) (v := x3 + 1) (L' := [(3, .int (x3 + 1)), (0, .ref 56)]) (am_dk tk_X6_pass_2 11 rfl) rfl rfl (Nat.le_of_ble_eq_true rfl) rfl ?_
        refine am_goto (tgt := 83) (am_dk tk_X6_pass_2 12 rfl) (by decide) ?_
        refine am_ls [1, 0] rfl ?_
        exact ih _ _ h
      · rw [if_pos hc105] at h
        refine am_aload_n (j := 0) (am_dk tk_X6_pass_1 5 rfl) rfl rfl ?_
        refine ly_getr (b := 62) rfl fl_X6_25 rfl rfl (am_dk tk_X6_pass_1 6 rfl) ?_
        refine am_bipush (v := 10) (am_dk tk_X6_pass_1 7 rfl) (by decide) ?_
        refine am_aload_n (j := 0) (am_dk tk_X6_pass_1 8 rfl) rfl rfl ?_
        refine ly_getr (b := 59) rfl fl_X6_16 rfl rfl (am_dk tk_X6_pass_1 9 rfl) ?_
        refine am_iload_n (j := 1) (am_dk tk_X6_pass_1 10 rfl) rfl rfl ?_
        refine ly_iald (k := x3.toNatClampNeg) rfl (am_in_vp hi96) rfl (am_dk tk_X6_pass_1 11 rfl) ?_
        refine am_iadd (am_dk tk_X6_pass_1 12 rfl) ?_
        obtain ⟨hi121, h⟩ := am_chk h
        refine ly_iald (k := (10 + (D 59 x3.toNatClampNeg)).toNatClampNeg) rfl (am_in_vp hi121) rfl (am_dk tk_X6_pass_1 13 rfl) ?_
        refine am_aload_n (j := 0) (am_dk tk_X6_pass_1 14 rfl) rfl rfl ?_
        refine ly_getr (b := 61) rfl fl_X6_22 rfl rfl (am_dk tk_X6_pass_1 15 rfl) ?_
        refine am_iload_n (j := 1) (am_dk tk_X6_pass_1 16 rfl) rfl rfl ?_
        refine ly_iald (k := x3.toNatClampNeg) rfl (am_in_vp hi96) rfl (am_dk tk_X6_pass_1 17 rfl) ?_
        refine am_icmp_lt (tgt := 135) (am_dk tk_X6_pass_1 18 rfl) (by decide) (fun hc128 => ?_) (fun hc128 => ?_)
        · simp only [if_pos hc128] at h
          refine am_iconst (v := 0) (am_dk tk_X6_pass_1 21 rfl) (by decide) ?_
          exact bx_X6_pass_136  hΦ (ih) _ _ _ h
        · simp only [if_neg hc128] at h
          refine am_iconst (v := 1) (am_dk tk_X6_pass_1 19 rfl) (by decide) ?_
          refine am_goto (tgt := 136) (am_dk tk_X6_pass_1 20 rfl) (by decide) ?_
          exact bx_X6_pass_136  hΦ (ih) _ _ _ h
theorem bx_X6_pass_53 {l : Launch} {h0 : am_H} {Φ : am_Ph} {tw : Nat} {tp : Bool}  {D' : am_M} (hΦ : Φ none (ly tw tp D')) {k16 : Int32 → Int32 → Int32 → am_M → Option am_M} (hk16 : ∀ (x1 : Int32) (x2 : Int32) (x3 : Int32) (D : am_M), k16 x1 x2 x3 D = some D' → am_Ex (am_E l m_X6_pass false h0 Φ) prog_8_method_30_code (0, 0) 16 [(0, .ref 56), (1, .int x1), (2, .int x2), (3, .int x3)] [] (ly tw tp D)) : ∀ (x1 : Int32) (x2 : Int32) (x3 : Int32) (s0 : Int32) (s1 : Int32) (s2 : Int32) (D : am_M), b_X6_pass_53 k16 x1 x2 x3 s0 s1 s2 D = some D' → am_Ex (am_E l m_X6_pass false h0 Φ) prog_8_method_30_code (0, 0) 53 [(0, .ref 56), (1, .int x1), (2, .int x2), (3, .int x3)] [.int s0, .int s1, .int s2, .ref 56] (ly tw tp D) := by
  intro x1 x2 x3 s0 s1 s2 D h
  rw [b_X6_pass_53] at h
  obtain ⟨q53, hq53, h⟩ := am_bind h
  refine ly_cV (M := m_X6_doHour) (As := [.int s2, .int s1, .int s0]) (b := 56) (st := []) (ct_X6_doHour hq53) rfl (by decide) rfl ml_X6_210 ld_X6_doHour rfl ⟨Nat.le_of_ble_eq_true rfl, Nat.le_of_ble_eq_true rfl⟩ (Nat.le_of_ble_eq_true rfl) ⟨rfl, rfl⟩ ⟨Nat.le_of_ble_eq_true rfl, Nat.le_of_ble_eq_true rfl⟩ (am_dk tk_X6_pass 34 rfl) (am_kkv ?_)
  refine am_iload_n (j := 1) (am_dk tk_X6_pass 35 rfl) rfl rfl ?_
  refine am_aload_n (j := 0) (am_dk tk_X6_pass 36 rfl) rfl rfl ?_
  refine ly_getr (b := 62) rfl fl_X6_25 rfl rfl (am_dk tk_X6_pass 37 rfl) ?_
  refine am_iconst (v := 5) (am_dk tk_X6_pass 38 rfl) (by decide) ?_
  refine am_iload_n (j := 3) (am_dk tk_X6_pass 39 rfl) rfl rfl ?_
  refine am_iadd (am_dk tk_X6_pass 40 rfl) ?_
  obtain ⟨hi64, h⟩ := am_chk h
  refine ly_iald (k := (5 + x3).toNatClampNeg) rfl (am_in_vp hi64) rfl (am_dk tk_X6_pass 41 rfl) ?_
  refine am_if_le (tgt := 72) (am_dk tk_X6_pass 42 rfl) (by decide) (fun hc65 => ?_) (fun hc65 => ?_)
  · simp only [if_pos hc65] at h
    refine am_iconst (v := 0) (am_dk tk_X6_pass 45 rfl) (by decide) ?_
    refine am_iadd (am_dk tk_X6_pass 46 rfl) ?_
    refine am_istore_n (L' := [(1, .int (x1 + 0)), (0, .ref 56), (2, .int x2), (3, .int x3)]) (am_dk tk_X6_pass 47 rfl) rfl (Nat.le_of_ble_eq_true rfl) rfl ?_
    refine am_iinc (j := 3) (v := x3 + 1) (L' := [(3, .int (x3 + 1)), (1, .int (x1 + 0)), (0, .ref 56), (2, .int x2)]) (am_dk tk_X6_pass 48 rfl) rfl rfl (Nat.le_of_ble_eq_true rfl) rfl ?_
    refine am_goto (tgt := 16) (am_dk tk_X6_pass 49 rfl) (by decide) ?_
    refine am_ls [2, 1, 3, 0] rfl ?_
    exact hk16 _ _ _ _ h
  · simp only [if_neg hc65] at h
    refine am_iconst (v := 1) (am_dk tk_X6_pass 43 rfl) (by decide) ?_
    refine am_goto (tgt := 73) (am_dk tk_X6_pass 44 rfl) (by decide) ?_
    refine am_iadd (am_dk tk_X6_pass 46 rfl) ?_
    refine am_istore_n (L' := [(1, .int (x1 + 1)), (0, .ref 56), (2, .int x2), (3, .int x3)]) (am_dk tk_X6_pass 47 rfl) rfl (Nat.le_of_ble_eq_true rfl) rfl ?_
    refine am_iinc (j := 3) (v := x3 + 1) (L' := [(3, .int (x3 + 1)), (1, .int (x1 + 1)), (0, .ref 56), (2, .int x2)]) (am_dk tk_X6_pass 48 rfl) rfl rfl (Nat.le_of_ble_eq_true rfl) rfl ?_
    refine am_goto (tgt := 16) (am_dk tk_X6_pass 49 rfl) (by decide) ?_
    refine am_ls [2, 1, 3, 0] rfl ?_
    exact hk16 _ _ _ _ h
theorem bx_X6_pass_16 {l : Launch} {h0 : am_H} {Φ : am_Ph} {tw : Nat} {tp : Bool}  {D' : am_M} (hΦ : Φ none (ly tw tp D')) : ∀ (n : Nat) (x1 : Int32) (x2 : Int32) (x3 : Int32) (D : am_M), b_X6_pass_16 n x1 x2 x3 D = some D' → am_Ex (am_E l m_X6_pass false h0 Φ) prog_8_method_30_code (0, 0) 16 [(0, .ref 56), (1, .int x1), (2, .int x2), (3, .int x3)] [] (ly tw tp D) := by
  intro n
  induction n with
  | zero =>
    intro x1 x2 x3 D h
    exact absurd h (by simp [b_X6_pass_16])
  | succ n ih =>
    intro x1 x2 x3 D h
    rw [b_X6_pass_16] at h
    refine am_iload_n (j := 3) (am_dk tk_X6_pass 11 rfl) rfl rfl ?_
    refine am_aload_n (j := 0) (am_dk tk_X6_pass 12 rfl) rfl rfl ?_
    refine ly_geti rfl fl_X6_96 rfl (am_dk tk_X6_pass 13 rfl) ?_
    refine am_icmp_ge (tgt := 81) (am_dk tk_X6_pass 14 rfl) (by decide) (fun hc21 => ?_) (fun hc21 => ?_)
    · rw [if_pos hc21] at h
      refine am_iconst (v := 0) (am_dk tk_X6_pass 50 rfl) (by decide) ?_
      refine am_istore_n (L' := [(3, .int 0), (0, .ref 56), (1, .int x1), (2, .int x2)]) (am_dk tk_X6_pass 51 rfl) rfl (Nat.le_of_ble_eq_true rfl) rfl ?_
      refine am_ls [1, 0] rfl ?_
      exact bx_X6_pass_83  hΦ am_N _ _ h
    · rw [if_neg hc21] at h
      refine am_aload_n (j := 0) (am_dk tk_X6_pass 15 rfl) rfl rfl ?_
      refine am_iload_n (j := 3) (am_dk tk_X6_pass 16 rfl) rfl rfl ?_
      refine am_aload_n (j := 0) (am_dk tk_X6_pass 17 rfl) rfl rfl ?_
      refine ly_getr (b := 62) rfl fl_X6_25 rfl rfl (am_dk tk_X6_pass 18 rfl) ?_
      refine am_bipush (v := 15) (am_dk tk_X6_pass 19 rfl) (by decide) ?_
      refine am_bipush (v := 24) (am_dk tk_X6_pass 20 rfl) (by decide) ?_
      refine am_iload_n (j := 3) (am_dk tk_X6_pass 21 rfl) rfl rfl ?_
      refine am_imul (am_dk tk_X6_pass 22 rfl) ?_
      refine am_iadd (am_dk tk_X6_pass 23 rfl) ?_
      refine am_iload_n (j := 2) (am_dk tk_X6_pass 24 rfl) rfl rfl ?_
      refine am_iadd (am_dk tk_X6_pass 25 rfl) ?_
      obtain ⟨hi39, h⟩ := am_chk h
      refine ly_iald (k := ((15 + (24 * x3)) + x2).toNatClampNeg) rfl (am_in_vp hi39) rfl (am_dk tk_X6_pass 26 rfl) ?_
      refine am_iload_n (j := 1) (am_dk tk_X6_pass 27 rfl) rfl rfl ?_
      refine am_aload_n (j := 0) (am_dk tk_X6_pass 28 rfl) rfl rfl ?_
      refine ly_geti rfl fl_X6_93 rfl (am_dk tk_X6_pass 29 rfl) ?_
      refine am_icmp_ge (tgt := 52) (am_dk tk_X6_pass 30 rfl) (by decide) (fun hc45 => ?_) (fun hc45 => ?_)
      · simp only [if_pos hc45] at h
        refine am_iconst (v := 0) (am_dk tk_X6_pass 33 rfl) (by decide) ?_
        exact bx_X6_pass_53  hΦ (ih) _ _ _ _ _ _ _ h
      · simp only [if_neg hc45] at h
        refine am_iconst (v := 1) (am_dk tk_X6_pass 31 rfl) (by decide) ?_
        refine am_goto (tgt := 53) (am_dk tk_X6_pass 32 rfl) (by decide) ?_
        exact bx_X6_pass_53  hΦ (ih) _ _ _ _ _ _ _ h
theorem ct_X6_pass {l : Launch} {tw : Nat} {tp : Bool}  {D D' : am_M} (h : f_X6_pass D = some D') : am_CT l m_X6_pass false [.ref 56] (ly tw tp D) (am_is none (ly tw tp D')) := by
  have hΦ : am_is none (ly tw tp D') none (ly tw tp D') := ⟨rfl, rfl⟩
  refine am_CT.of (by decide) (Nat.le_of_ble_eq_true rfl) ?_
  show am_Ex _ _ _ 0 [(0, .ref 56)] [] _
  rw [f_X6_pass] at h
  refine am_iconst (v := 0) (am_dk tk_X6_pass 0 rfl) (by decide) ?_
  refine am_istore_n (L' := [(1, .int 0), (0, .ref 56)]) (am_dk tk_X6_pass 1 rfl) rfl (Nat.le_of_ble_eq_true rfl) rfl ?_
  refine am_aload_n (j := 1) (am_dk tk_X6_pass 2 rfl) rfl rfl ?_
  refine ly_getr (b := 62) rfl fl_X6_25 rfl rfl (am_dk tk_X6_pass 3 rfl) ?_
  refine am_sipush (v := 137) (am_dk tk_X6_pass 4 rfl) (by decide) ?_
  refine ly_iald (k := 137) rfl (am_in_vp (by decide)) rfl (am_dk tk_X6_pass 5 rfl) ?_
  refine am_bipush (v := 24) (am_dk tk_X6_pass 6 rfl) (by decide) ?_
  refine am_irem (am_dk tk_X6_pass 7 rfl) (by decide) ?_
  refine am_istore_n (L' := [(2, .int ((D 62 137) - (D 62 137) / 24 * 24)), (1, .int 0), (0, .ref 56)]) (am_dk tk_X6_pass 8 rfl) rfl (Nat.le_of_ble_eq_true rfl) rfl ?_
  refine am_iconst (v := 0) (am_dk tk_X6_pass 9 rfl) (by decide) ?_
  refine am_istore_n (L' := [(3, .int 0), (2, .int ((D 62 137) - (D 62 137) / 24 * 24)), (1, .int 0), (0, .ref 56)]) (am_dk tk_X6_pass 10 rfl) rfl (Nat.le_of_ble_eq_true rfl) rfl ?_
  refine am_ls [3, 2, 1, 0] rfl ?_
  exact bx_X6_pass_16  hΦ am_N _ _ _ _ h
abbrev m_X6_hoursRefused : am_D := (yX6_hoursRefused, prog_8_method_31_code, 2, (some .int), { frames := 1, cells := 0, slots := 0, locals := 25 })
theorem ld_X6_hoursRefused : am_LD m_X6_hoursRefused 1 := ⟨(am_tb 85 (by decide +kernel) (by decide +kernel)), (am_tb 1070 (by decide +kernel) (by decide +kernel)), by decide, by decide, by decide +kernel⟩
def tb_X6_hoursRefused : List (Nat × Instr × Nat) := [(0, .iload_n 1, 1), (1, .i2l, 1), (2, .lconst 1, 1), (3, .ldc2_w 214, 3), (6, .invokestatic 99, 3), (9, .ifCond .ne 6, 3), (12, .ldc 105, 2), (14, .ireturn, 1), (15, .aload_n 0, 1), (16, .getfield 93, 3), (19, .ifCond .ne 8, 3), (22, .ldc 216, 2), (24, .goto 22, 3), (27, .aload_n 0, 1), (28, .getfield 25, 3), (31, .sipush 137, 3), (34, .iaload, 1), (35, .ldc 217, 2), (37, .if_icmp .le 8, 3), (40, .ldc 109, 2), (42, .goto 4, 3), (45, .iconst 0, 1), (46, .ireturn, 1)]
theorem tk_X6_hoursRefused : am_tbl prog_8_method_31_code tb_X6_hoursRefused = true := by decide +kernel
def f_X6_hoursRefused (x1 : Int32) (D : am_M) : Int32 := if (f_X6_in x1.toInt64 1 96) = 0 then (-1000000002) else if (D 56 0) = 0 then (-1000000003) else if (D 62 137) ≤ 90000 then 0 else (-1000000004)
theorem ct_X6_hoursRefused {l : Launch} {tw : Nat} {tp : Bool} (x1 : Int32) (D : am_M) : am_CT l m_X6_hoursRefused false [.ref 56, .int x1] (ly tw tp D) (am_is (some (.int (f_X6_hoursRefused x1 D))) (ly tw tp D)) := by
  refine am_CT.of (by decide) (Nat.le_of_ble_eq_true rfl) ?_
  show am_Ex _ _ _ 0 [(0, .ref 56), (1, .int x1)] [] _
  refine am_iload_n (j := 1) (am_dk tk_X6_hoursRefused 0 rfl) rfl rfl ?_
  refine am_i2l (am_dk tk_X6_hoursRefused 1 rfl) ?_
  refine am_lconst (v := 1) (am_dk tk_X6_hoursRefused 2 rfl) (by decide) ?_
  refine am_ldc2 kl_X6_214 (am_dk tk_X6_hoursRefused 3 rfl) ?_
  refine am_cS (M := m_X6_in) (As := [.long x1.toInt64, .long 1, .long 96]) (st := []) (ct_X6_in _ _ _ _) ml_X6_99 ld_X6_in rfl ⟨Nat.le_of_ble_eq_true rfl, Nat.le_of_ble_eq_true rfl⟩ (Nat.le_of_ble_eq_true rfl) ⟨rfl, rfl⟩ ⟨Nat.le_of_ble_eq_true rfl, Nat.le_of_ble_eq_true rfl⟩ (am_dk tk_X6_hoursRefused 4 rfl) (am_kki ?_)
  refine am_if_ne (tgt := 15) (am_dk tk_X6_hoursRefused 5 rfl) (by decide) (fun hc9 => ?_) (fun hc9 => ?_)
  · skip
    refine am_aload_n (j := 0) (am_dk tk_X6_hoursRefused 8 rfl) rfl rfl ?_
    refine ly_geti rfl fl_X6_93 rfl (am_dk tk_X6_hoursRefused 9 rfl) ?_
    refine am_if_ne (tgt := 27) (am_dk tk_X6_hoursRefused 10 rfl) (by decide) (fun hc19 => ?_) (fun hc19 => ?_)
    · skip
      refine am_aload_n (j := 0) (am_dk tk_X6_hoursRefused 13 rfl) rfl rfl ?_
      refine ly_getr (b := 62) rfl fl_X6_25 rfl rfl (am_dk tk_X6_hoursRefused 14 rfl) ?_
      refine am_sipush (v := 137) (am_dk tk_X6_hoursRefused 15 rfl) (by decide) ?_
      refine ly_iald (k := 137) rfl (am_in_vp (by decide)) rfl (am_dk tk_X6_hoursRefused 16 rfl) ?_
      refine am_ldc kc_X6_217 (am_dk tk_X6_hoursRefused 17 rfl) ?_
      refine am_icmp_le (tgt := 45) (am_dk tk_X6_hoursRefused 18 rfl) (by decide) (fun hc37 => ?_) (fun hc37 => ?_)
      · skip
        refine am_iconst (v := 0) (am_dk tk_X6_hoursRefused 21 rfl) (by decide) ?_
        exact am_iret rfl ⟨by simp only [f_X6_hoursRefused, if_neg hc9, if_neg hc19, if_pos hc37], rfl⟩ ⟨Nat.le_of_ble_eq_true rfl, Nat.le_of_ble_eq_true rfl⟩ (am_dk tk_X6_hoursRefused 22 rfl)
      · skip
        refine am_ldc kc_X6_109 (am_dk tk_X6_hoursRefused 19 rfl) ?_
        refine am_goto (tgt := 46) (am_dk tk_X6_hoursRefused 20 rfl) (by decide) ?_
        exact am_iret rfl ⟨by simp only [f_X6_hoursRefused, if_neg hc9, if_neg hc19, if_neg hc37], rfl⟩ ⟨Nat.le_of_ble_eq_true rfl, Nat.le_of_ble_eq_true rfl⟩ (am_dk tk_X6_hoursRefused 22 rfl)
    · skip
      refine am_ldc kc_X6_216 (am_dk tk_X6_hoursRefused 11 rfl) ?_
      refine am_goto (tgt := 46) (am_dk tk_X6_hoursRefused 12 rfl) (by decide) ?_
      exact am_iret rfl ⟨by simp only [f_X6_hoursRefused, if_neg hc9, if_pos hc19], rfl⟩ ⟨Nat.le_of_ble_eq_true rfl, Nat.le_of_ble_eq_true rfl⟩ (am_dk tk_X6_hoursRefused 22 rfl)
  · skip
    refine am_ldc kc_X6_105 (am_dk tk_X6_hoursRefused 6 rfl) ?_
    exact am_iret rfl ⟨by simp only [f_X6_hoursRefused, if_pos hc9], rfl⟩ ⟨Nat.le_of_ble_eq_true rfl, Nat.le_of_ble_eq_true rfl⟩ (am_dk tk_X6_hoursRefused 7 rfl)
