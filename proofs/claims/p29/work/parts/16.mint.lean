abbrev m_X5_isPerson : am_D := (yX5_isPerson, prog_1_method_35_code, 2, (some .boolean), { frames := 1, cells := 0, slots := 0, locals := 22 })
theorem ld_X5_isPerson : am_LD m_X5_isPerson 1 := ⟨(am_tb 79 (by decide +kernel) (by decide +kernel)), (am_tb 518 (by decide +kernel) (by decide +kernel)), by decide, by decide, by decide +kernel⟩
def tb_X5_isPerson : List (Nat × Instr × Nat) := [(0, .iload_n 1, 1), (1, .iconst 0, 1), (2, .aload_n 0, 1), (3, .getfield 10, 3), (6, .getfield 104, 3), (9, .iconst 1, 1), (10, .isub, 1), (11, .invokestatic 67, 3), (14, .ireturn, 1)]
theorem tk_X5_isPerson : am_tbl prog_1_method_35_code tb_X5_isPerson = true := by decide +kernel
def f_X5_isPerson (tw : Nat) (x1 : Int32) (D : am_M) : Int32 := f_X5_isWithin x1 0 ((D tw 3) - 1)
theorem zb_X5_isPerson (tw : Nat) (x1 : Int32) (D : am_M) : f_X5_isPerson tw x1 D = 0 ∨ f_X5_isPerson tw x1 D = 1 := by
  unfold f_X5_isPerson
  repeat' split
  all_goals first | exact Or.inl rfl | exact Or.inr rfl | exact zb_X5_isWithin x1 0 ((D tw 3) - 1)
theorem ct_X5_isPerson {l : Launch} {tw : Nat} {tp : Bool} (htw : lyT tw) (x1 : Int32) (D : am_M) : am_CT l m_X5_isPerson false [.ref 0, .int x1] (ly tw tp D) (am_is (some (.int (f_X5_isPerson tw x1 D))) (ly tw tp D)) := by
  refine am_CT.of (by decide) (Nat.le_of_ble_eq_true rfl) ?_
  show am_Ex _ _ _ 0 [(0, .ref 0), (1, .int x1)] [] _
  refine am_iload_n (j := 1) (am_dk tk_X5_isPerson 0 rfl) rfl rfl ?_
  refine am_iconst (v := 0) (am_dk tk_X5_isPerson 1 rfl) (by decide) ?_
  refine am_aload_n (j := 0) (am_dk tk_X5_isPerson 2 rfl) rfl rfl ?_
  refine ly_getr (b := tw) rfl fl_X5_10 rfl rfl (am_dk tk_X5_isPerson 3 rfl) ?_
  refine ly_geti (lyT_s htw) fl_X5_104 rfl (am_dk tk_X5_isPerson 4 rfl) ?_
  refine am_iconst (v := 1) (am_dk tk_X5_isPerson 5 rfl) (by decide) ?_
  refine am_isub (am_dk tk_X5_isPerson 6 rfl) ?_
  refine am_cS (M := m_X5_isWithin) (As := [.int x1, .int 0, .int ((D tw 3) - 1)]) (st := []) (ct_X5_isWithin _ _ _ _) ml_X5_67 ld_X5_isWithin rfl ⟨Nat.le_of_ble_eq_true rfl, Nat.le_of_ble_eq_true rfl⟩ (Nat.le_of_ble_eq_true rfl) ⟨rfl, rfl⟩ ⟨Nat.le_of_ble_eq_true rfl, Nat.le_of_ble_eq_true rfl⟩ (am_dk tk_X5_isPerson 7 rfl) (am_kki ?_)
  exact am_zret (zb_X5_isWithin x1 0 ((D tw 3) - 1)) rfl ⟨rfl, rfl⟩ ⟨Nat.le_of_ble_eq_true rfl, Nat.le_of_ble_eq_true rfl⟩ (am_dk tk_X5_isPerson 8 rfl)
abbrev m_X5_feed : am_D := (yX5_feed, prog_1_method_2_code, 2, (some .int), { frames := 1, cells := 0, slots := 0, locals := 22 })
theorem ld_X5_feed : am_LD m_X5_feed 1 := ⟨(am_tb 79 (by decide +kernel) (by decide +kernel)), (am_tb 396 (by decide +kernel) (by decide +kernel)), by decide, by decide, by decide +kernel⟩
def tb_X5_feed : List (Nat × Instr × Nat) := [(0, .iload_n 1, 1), (1, .iconst 0, 1), (2, .sipush 255, 3), (5, .invokestatic 67, 3), (8, .ifCond .ne 6, 3), (11, .ldc 71, 2), (13, .ireturn, 1), (14, .aload_n 0, 1), (15, .getfield 19, 3), (18, .getfield 72, 3), (21, .sipush 250, 3), (24, .if_icmp .lt 6, 3), (27, .ldc 75, 2), (29, .ireturn, 1), (30, .aload_n 0, 1), (31, .getfield 19, 3), (34, .iload_n 1, 1), (35, .invokevirtual 76, 3), (38, .ireturn, 1)]
theorem tk_X5_feed : am_tbl prog_1_method_2_code tb_X5_feed = true := by decide +kernel
def f_X5_feed (tw : Nat) (x1 : Int32) (D : am_M) : Option (Int32 × am_M) := if (f_X5_isWithin x1 0 255) = 0 then some ((-1000000002), D) else if (D 12 4) < 250 then (f_X3_add tw x1 D).bind fun q35 => some (q35.1, q35.2) else some ((-1000000004), D)
theorem ct_X5_feed {l : Launch} {tw : Nat} {tp : Bool} (htw : lyT tw) {x1 : Int32} {r : Int32} {D D' : am_M} (h : f_X5_feed tw x1 D = some (r, D')) : am_CT l m_X5_feed false [.ref 0, .int x1] (ly tw tp D) (am_is (some (.int r)) (ly tw tp D')) := by
  have hΦ : am_is (some (.int r)) (ly tw tp D') (some (.int r)) (ly tw tp D') := ⟨rfl, rfl⟩
  refine am_CT.of (by decide) (Nat.le_of_ble_eq_true rfl) ?_
  show am_Ex _ _ _ 0 [(0, .ref 0), (1, .int x1)] [] _
  rw [f_X5_feed] at h
  refine am_iload_n (j := 1) (am_dk tk_X5_feed 0 rfl) rfl rfl ?_
  refine am_iconst (v := 0) (am_dk tk_X5_feed 1 rfl) (by decide) ?_
  refine am_sipush (v := 255) (am_dk tk_X5_feed 2 rfl) (by decide) ?_
  refine am_cS (M := m_X5_isWithin) (As := [.int x1, .int 0, .int 255]) (st := []) (ct_X5_isWithin _ _ _ _) ml_X5_67 ld_X5_isWithin rfl ⟨Nat.le_of_ble_eq_true rfl, Nat.le_of_ble_eq_true rfl⟩ (Nat.le_of_ble_eq_true rfl) ⟨rfl, rfl⟩ ⟨Nat.le_of_ble_eq_true rfl, Nat.le_of_ble_eq_true rfl⟩ (am_dk tk_X5_feed 3 rfl) (am_kki ?_)
  refine am_if_ne (tgt := 14) (am_dk tk_X5_feed 4 rfl) (by decide) (fun hc8 => ?_) (fun hc8 => ?_)
  · rw [if_neg hc8] at h
    refine am_aload_n (j := 0) (am_dk tk_X5_feed 7 rfl) rfl rfl ?_
    refine ly_getr (b := 12) rfl fl_X5_19 rfl rfl (am_dk tk_X5_feed 8 rfl) ?_
    refine ly_geti rfl fl_X5_72 rfl (am_dk tk_X5_feed 9 rfl) ?_
    refine am_sipush (v := 250) (am_dk tk_X5_feed 10 rfl) (by decide) ?_
    refine am_icmp_lt (tgt := 30) (am_dk tk_X5_feed 11 rfl) (by decide) (fun hc24 => ?_) (fun hc24 => ?_)
    · rw [if_pos hc24] at h
      refine am_aload_n (j := 0) (am_dk tk_X5_feed 14 rfl) rfl rfl ?_
      refine ly_getr (b := 12) rfl fl_X5_19 rfl rfl (am_dk tk_X5_feed 15 rfl) ?_
      refine am_iload_n (j := 1) (am_dk tk_X5_feed 16 rfl) rfl rfl ?_
      obtain ⟨q35, hq35, h⟩ := am_bind h
      refine ly_cV (M := m_X3_add) (As := [.int x1]) (b := 12) (st := []) (ct_X3_add htw hq35) rfl (by decide) rfl ml_X5_76 ld_X3_add rfl ⟨Nat.le_of_ble_eq_true rfl, Nat.le_of_ble_eq_true rfl⟩ (Nat.le_of_ble_eq_true rfl) ⟨rfl, rfl⟩ ⟨Nat.le_of_ble_eq_true rfl, Nat.le_of_ble_eq_true rfl⟩ (am_dk tk_X5_feed 17 rfl) (am_kki ?_)
      exact am_iret rfl (am_r2 h hΦ) ⟨Nat.le_of_ble_eq_true rfl, Nat.le_of_ble_eq_true rfl⟩ (am_dk tk_X5_feed 18 rfl)
    · rw [if_neg hc24] at h
      refine am_ldc kc_X5_75 (am_dk tk_X5_feed 12 rfl) ?_
      exact am_iret rfl (am_r2 h hΦ) ⟨Nat.le_of_ble_eq_true rfl, Nat.le_of_ble_eq_true rfl⟩ (am_dk tk_X5_feed 13 rfl)
  · rw [if_pos hc8] at h
    refine am_ldc kc_X5_71 (am_dk tk_X5_feed 5 rfl) ?_
    exact am_iret rfl (am_r2 h hΦ) ⟨Nat.le_of_ble_eq_true rfl, Nat.le_of_ble_eq_true rfl⟩ (am_dk tk_X5_feed 6 rfl)
abbrev m_X5_fault : am_D := (yX5_fault, prog_1_method_4_code, 1, (some .int), { frames := 0, cells := 0, slots := 0, locals := 0 })
theorem ld_X5_fault : am_LD m_X5_fault 0 := ⟨(am_tb 79 (by decide +kernel) (by decide +kernel)), (am_tb 502 (by decide +kernel) (by decide +kernel)), by decide, by decide, by decide +kernel⟩
def tb_X5_fault : List (Nat × Instr × Nat) := [(0, .aload_n 0, 1), (1, .getfield 19, 3), (4, .getfield 107, 3), (7, .ireturn, 1)]
theorem tk_X5_fault : am_tbl prog_1_method_4_code tb_X5_fault = true := by decide +kernel
def f_X5_fault (tw : Nat) (D : am_M) : Int32 := D 12 6
theorem ct_X5_fault {l : Launch} {tw : Nat} {tp : Bool} (htw : lyT tw) (D : am_M) : am_CT l m_X5_fault false [.ref 0] (ly tw tp D) (am_is (some (.int (f_X5_fault tw D))) (ly tw tp D)) := by
  refine am_CT.of (by decide) (Nat.le_of_ble_eq_true rfl) ?_
  show am_Ex _ _ _ 0 [(0, .ref 0)] [] _
  refine am_aload_n (j := 0) (am_dk tk_X5_fault 0 rfl) rfl rfl ?_
  refine ly_getr (b := 12) rfl fl_X5_19 rfl rfl (am_dk tk_X5_fault 1 rfl) ?_
  refine ly_geti rfl fl_X5_107 rfl (am_dk tk_X5_fault 2 rfl) ?_
  exact am_iret rfl ⟨rfl, rfl⟩ ⟨Nat.le_of_ble_eq_true rfl, Nat.le_of_ble_eq_true rfl⟩ (am_dk tk_X5_fault 3 rfl)
abbrev m_X5_told : am_D := (yX5_told, prog_1_method_5_code, 2, (some .int), { frames := 1, cells := 0, slots := 0, locals := 23 })
theorem ld_X5_told : am_LD m_X5_told 1 := ⟨(am_tb 79 (by decide +kernel) (by decide +kernel)), (am_tb 506 (by decide +kernel) (by decide +kernel)), by decide, by decide, by decide +kernel⟩
def tb_X5_told : List (Nat × Instr × Nat) := [(0, .iload_n 1, 1), (1, .tableswitch 163 0 11 #[63, 71, 79, 87, 95, 103, 111, 119, 127, 135, 143, 158], 63), (64, .aload_n 0, 1), (65, .getfield 10, 3), (68, .getfield 110, 3), (71, .ireturn, 1), (72, .aload_n 0, 1), (73, .getfield 10, 3), (76, .getfield 113, 3), (79, .ireturn, 1), (80, .aload_n 0, 1), (81, .getfield 10, 3), (84, .getfield 116, 3), (87, .ireturn, 1), (88, .aload_n 0, 1), (89, .getfield 10, 3), (92, .getfield 104, 3), (95, .ireturn, 1), (96, .aload_n 0, 1), (97, .getfield 10, 3), (100, .getfield 119, 3), (103, .ireturn, 1), (104, .aload_n 0, 1), (105, .getfield 10, 3), (108, .getfield 122, 3), (111, .ireturn, 1), (112, .aload_n 0, 1), (113, .getfield 19, 3), (116, .getfield 72, 3), (119, .ireturn, 1), (120, .aload_n 0, 1), (121, .getfield 26, 3), (124, .getfield 125, 3), (127, .ireturn, 1), (128, .aload_n 0, 1), (129, .getfield 26, 3), (132, .getfield 128, 3), (135, .ireturn, 1), (136, .aload_n 0, 1), (137, .getfield 26, 3), (140, .getfield 131, 3), (143, .ireturn, 1), (144, .aload_n 0, 1), (145, .getfield 26, 3), (148, .aload_n 0, 1), (149, .getfield 10, 3), (152, .getfield 104, 3), (155, .invokevirtual 134, 3), (158, .ireturn, 1), (159, .aload_n 0, 1), (160, .getfield 64, 3), (163, .ireturn, 1), (164, .ldc 71, 2), (166, .ireturn, 1)]
theorem tk_X5_told : am_tbl prog_1_method_5_code tb_X5_told = true := by decide +kernel
def f_X5_told (tw : Nat) (x1 : Int32) (D : am_M) : Option (Int32 × am_M) := if x1 = 0 then some (D tw 0, D) else if x1 = 1 then some (D tw 1, D) else if x1 = 2 then some (D tw 2, D) else if x1 = 3 then some (D tw 3, D) else if x1 = 4 then some (D tw 4, D) else if x1 = 5 then some (D tw 5, D) else if x1 = 6 then some (D 12 4, D) else if x1 = 7 then some (D 25 6, D) else if x1 = 8 then some (D 25 4, D) else if x1 = 9 then some (D 25 5, D) else if x1 = 10 then (f_X2_sleepers 25 (D tw 3) D).bind fun q155 => some (q155.1, q155.2) else if x1 = 11 then some (D 0 11, D) else some ((-1000000002), D)
theorem ct_X5_told {l : Launch} {tw : Nat} {tp : Bool} (htw : lyT tw) {x1 : Int32} {r : Int32} {D D' : am_M} (h : f_X5_told tw x1 D = some (r, D')) : am_CT l m_X5_told false [.ref 0, .int x1] (ly tw tp D) (am_is (some (.int r)) (ly tw tp D')) := by
  have hΦ : am_is (some (.int r)) (ly tw tp D') (some (.int r)) (ly tw tp D') := ⟨rfl, rfl⟩
  refine am_CT.of (by decide) (Nat.le_of_ble_eq_true rfl) ?_
  show am_Ex _ _ _ 0 [(0, .ref 0), (1, .int x1)] [] _
  rw [f_X5_told] at h
  refine am_iload_n (j := 1) (am_dk tk_X5_told 0 rfl) rfl rfl ?_
  by_cases hs1_0 : x1 = 0
  · rw [if_pos hs1_0] at h
    refine am_tableIn (tgt := 64) (am_dk tk_X5_told 1 rfl) (by rw [hs1_0]; decide) (by rw [hs1_0]; decide) (by rw [hs1_0]; rfl) (by decide) ?_
    refine am_aload_n (j := 0) (am_dk tk_X5_told 2 rfl) rfl rfl ?_
    refine ly_getr (b := tw) rfl fl_X5_10 rfl rfl (am_dk tk_X5_told 3 rfl) ?_
    refine ly_geti (lyT_s htw) fl_X5_110 rfl (am_dk tk_X5_told 4 rfl) ?_
    exact am_iret rfl (am_r2 h hΦ) ⟨Nat.le_of_ble_eq_true rfl, Nat.le_of_ble_eq_true rfl⟩ (am_dk tk_X5_told 5 rfl)
  rw [if_neg hs1_0] at h
  by_cases hs1_1 : x1 = 1
  · rw [if_pos hs1_1] at h
    refine am_tableIn (tgt := 72) (am_dk tk_X5_told 1 rfl) (by rw [hs1_1]; decide) (by rw [hs1_1]; decide) (by rw [hs1_1]; rfl) (by decide) ?_
    refine am_aload_n (j := 0) (am_dk tk_X5_told 6 rfl) rfl rfl ?_
    refine ly_getr (b := tw) rfl fl_X5_10 rfl rfl (am_dk tk_X5_told 7 rfl) ?_
    refine ly_geti (lyT_s htw) fl_X5_113 rfl (am_dk tk_X5_told 8 rfl) ?_
    exact am_iret rfl (am_r2 h hΦ) ⟨Nat.le_of_ble_eq_true rfl, Nat.le_of_ble_eq_true rfl⟩ (am_dk tk_X5_told 9 rfl)
  rw [if_neg hs1_1] at h
  by_cases hs1_2 : x1 = 2
  · rw [if_pos hs1_2] at h
    refine am_tableIn (tgt := 80) (am_dk tk_X5_told 1 rfl) (by rw [hs1_2]; decide) (by rw [hs1_2]; decide) (by rw [hs1_2]; rfl) (by decide) ?_
    refine am_aload_n (j := 0) (am_dk tk_X5_told 10 rfl) rfl rfl ?_
    refine ly_getr (b := tw) rfl fl_X5_10 rfl rfl (am_dk tk_X5_told 11 rfl) ?_
    refine ly_geti (lyT_s htw) fl_X5_116 rfl (am_dk tk_X5_told 12 rfl) ?_
    exact am_iret rfl (am_r2 h hΦ) ⟨Nat.le_of_ble_eq_true rfl, Nat.le_of_ble_eq_true rfl⟩ (am_dk tk_X5_told 13 rfl)
  rw [if_neg hs1_2] at h
  by_cases hs1_3 : x1 = 3
  · rw [if_pos hs1_3] at h
    refine am_tableIn (tgt := 88) (am_dk tk_X5_told 1 rfl) (by rw [hs1_3]; decide) (by rw [hs1_3]; decide) (by rw [hs1_3]; rfl) (by decide) ?_
    refine am_aload_n (j := 0) (am_dk tk_X5_told 14 rfl) rfl rfl ?_
    refine ly_getr (b := tw) rfl fl_X5_10 rfl rfl (am_dk tk_X5_told 15 rfl) ?_
    refine ly_geti (lyT_s htw) fl_X5_104 rfl (am_dk tk_X5_told 16 rfl) ?_
    exact am_iret rfl (am_r2 h hΦ) ⟨Nat.le_of_ble_eq_true rfl, Nat.le_of_ble_eq_true rfl⟩ (am_dk tk_X5_told 17 rfl)
  rw [if_neg hs1_3] at h
  by_cases hs1_4 : x1 = 4
  · rw [if_pos hs1_4] at h
    refine am_tableIn (tgt := 96) (am_dk tk_X5_told 1 rfl) (by rw [hs1_4]; decide) (by rw [hs1_4]; decide) (by rw [hs1_4]; rfl) (by decide) ?_
    refine am_aload_n (j := 0) (am_dk tk_X5_told 18 rfl) rfl rfl ?_
    refine ly_getr (b := tw) rfl fl_X5_10 rfl rfl (am_dk tk_X5_told 19 rfl) ?_
    refine ly_geti (lyT_s htw) fl_X5_119 rfl (am_dk tk_X5_told 20 rfl) ?_
    exact am_iret rfl (am_r2 h hΦ) ⟨Nat.le_of_ble_eq_true rfl, Nat.le_of_ble_eq_true rfl⟩ (am_dk tk_X5_told 21 rfl)
  rw [if_neg hs1_4] at h
  by_cases hs1_5 : x1 = 5
  · rw [if_pos hs1_5] at h
    refine am_tableIn (tgt := 104) (am_dk tk_X5_told 1 rfl) (by rw [hs1_5]; decide) (by rw [hs1_5]; decide) (by rw [hs1_5]; rfl) (by decide) ?_
    refine am_aload_n (j := 0) (am_dk tk_X5_told 22 rfl) rfl rfl ?_
    refine ly_getr (b := tw) rfl fl_X5_10 rfl rfl (am_dk tk_X5_told 23 rfl) ?_
    refine ly_geti (lyT_s htw) fl_X5_122 rfl (am_dk tk_X5_told 24 rfl) ?_
    exact am_iret rfl (am_r2 h hΦ) ⟨Nat.le_of_ble_eq_true rfl, Nat.le_of_ble_eq_true rfl⟩ (am_dk tk_X5_told 25 rfl)
  rw [if_neg hs1_5] at h
  by_cases hs1_6 : x1 = 6
  · rw [if_pos hs1_6] at h
    refine am_tableIn (tgt := 112) (am_dk tk_X5_told 1 rfl) (by rw [hs1_6]; decide) (by rw [hs1_6]; decide) (by rw [hs1_6]; rfl) (by decide) ?_
    refine am_aload_n (j := 0) (am_dk tk_X5_told 26 rfl) rfl rfl ?_
    refine ly_getr (b := 12) rfl fl_X5_19 rfl rfl (am_dk tk_X5_told 27 rfl) ?_
    refine ly_geti rfl fl_X5_72 rfl (am_dk tk_X5_told 28 rfl) ?_
    exact am_iret rfl (am_r2 h hΦ) ⟨Nat.le_of_ble_eq_true rfl, Nat.le_of_ble_eq_true rfl⟩ (am_dk tk_X5_told 29 rfl)
  rw [if_neg hs1_6] at h
  by_cases hs1_7 : x1 = 7
  · rw [if_pos hs1_7] at h
    refine am_tableIn (tgt := 120) (am_dk tk_X5_told 1 rfl) (by rw [hs1_7]; decide) (by rw [hs1_7]; decide) (by rw [hs1_7]; rfl) (by decide) ?_
    refine am_aload_n (j := 0) (am_dk tk_X5_told 30 rfl) rfl rfl ?_
    refine ly_getr (b := 25) rfl fl_X5_26 rfl rfl (am_dk tk_X5_told 31 rfl) ?_
    refine ly_geti rfl fl_X5_125 rfl (am_dk tk_X5_told 32 rfl) ?_
    exact am_iret rfl (am_r2 h hΦ) ⟨Nat.le_of_ble_eq_true rfl, Nat.le_of_ble_eq_true rfl⟩ (am_dk tk_X5_told 33 rfl)
  rw [if_neg hs1_7] at h
  by_cases hs1_8 : x1 = 8
  · rw [if_pos hs1_8] at h
    refine am_tableIn (tgt := 128) (am_dk tk_X5_told 1 rfl) (by rw [hs1_8]; decide) (by rw [hs1_8]; decide) (by rw [hs1_8]; rfl) (by decide) ?_
    refine am_aload_n (j := 0) (am_dk tk_X5_told 34 rfl) rfl rfl ?_
    refine ly_getr (b := 25) rfl fl_X5_26 rfl rfl (am_dk tk_X5_told 35 rfl) ?_
    refine ly_geti rfl fl_X5_128 rfl (am_dk tk_X5_told 36 rfl) ?_
    exact am_iret rfl (am_r2 h hΦ) ⟨Nat.le_of_ble_eq_true rfl, Nat.le_of_ble_eq_true rfl⟩ (am_dk tk_X5_told 37 rfl)
  rw [if_neg hs1_8] at h
  by_cases hs1_9 : x1 = 9
  · rw [if_pos hs1_9] at h
    refine am_tableIn (tgt := 136) (am_dk tk_X5_told 1 rfl) (by rw [hs1_9]; decide) (by rw [hs1_9]; decide) (by rw [hs1_9]; rfl) (by decide) ?_
    refine am_aload_n (j := 0) (am_dk tk_X5_told 38 rfl) rfl rfl ?_
    refine ly_getr (b := 25) rfl fl_X5_26 rfl rfl (am_dk tk_X5_told 39 rfl) ?_
    refine ly_geti rfl fl_X5_131 rfl (am_dk tk_X5_told 40 rfl) ?_
    exact am_iret rfl (am_r2 h hΦ) ⟨Nat.le_of_ble_eq_true rfl, Nat.le_of_ble_eq_true rfl⟩ (am_dk tk_X5_told 41 rfl)
  rw [if_neg hs1_9] at h
  by_cases hs1_10 : x1 = 10
  · rw [if_pos hs1_10] at h
    refine am_tableIn (tgt := 144) (am_dk tk_X5_told 1 rfl) (by rw [hs1_10]; decide) (by rw [hs1_10]; decide) (by rw [hs1_10]; rfl) (by decide) ?_
    refine am_aload_n (j := 0) (am_dk tk_X5_told 42 rfl) rfl rfl ?_
    refine ly_getr (b := 25) rfl fl_X5_26 rfl rfl (am_dk tk_X5_told 43 rfl) ?_
    refine am_aload_n (j := 0) (am_dk tk_X5_told 44 rfl) rfl rfl ?_
    refine ly_getr (b := tw) rfl fl_X5_10 rfl rfl (am_dk tk_X5_told 45 rfl) ?_
    refine ly_geti (lyT_s htw) fl_X5_104 rfl (am_dk tk_X5_told 46 rfl) ?_
    obtain ⟨q155, hq155, h⟩ := am_bind h
    refine ly_cV (M := m_X2_sleepers) (As := [.int (D tw 3)]) (b := 25) (st := []) (ct_X2_sleepers lyM_25 hq155) rfl (by decide) rfl ml_X5_134 ld_X2_sleepers rfl ⟨Nat.le_of_ble_eq_true rfl, Nat.le_of_ble_eq_true rfl⟩ (Nat.le_of_ble_eq_true rfl) ⟨rfl, rfl⟩ ⟨Nat.le_of_ble_eq_true rfl, Nat.le_of_ble_eq_true rfl⟩ (am_dk tk_X5_told 47 rfl) (am_kki ?_)
    exact am_iret rfl (am_r2 h hΦ) ⟨Nat.le_of_ble_eq_true rfl, Nat.le_of_ble_eq_true rfl⟩ (am_dk tk_X5_told 48 rfl)
  rw [if_neg hs1_10] at h
  by_cases hs1_11 : x1 = 11
  · rw [if_pos hs1_11] at h
    refine am_tableIn (tgt := 159) (am_dk tk_X5_told 1 rfl) (by rw [hs1_11]; decide) (by rw [hs1_11]; decide) (by rw [hs1_11]; rfl) (by decide) ?_
    refine am_aload_n (j := 0) (am_dk tk_X5_told 49 rfl) rfl rfl ?_
    refine ly_geti rfl fl_X5_64 rfl (am_dk tk_X5_told 50 rfl) ?_
    exact am_iret rfl (am_r2 h hΦ) ⟨Nat.le_of_ble_eq_true rfl, Nat.le_of_ble_eq_true rfl⟩ (am_dk tk_X5_told 51 rfl)
  rw [if_neg hs1_11] at h
  refine am_tableOut (tgt := 164) (am_dk tk_X5_told 1 rfl) (by have e0 := lv_neT (a := 0) hs1_0 rfl; have e1 := lv_neT (a := 1) hs1_1 rfl; have e2 := lv_neT (a := 2) hs1_2 rfl; have e3 := lv_neT (a := 3) hs1_3 rfl; have e4 := lv_neT (a := 4) hs1_4 rfl; have e5 := lv_neT (a := 5) hs1_5 rfl; have e6 := lv_neT (a := 6) hs1_6 rfl; have e7 := lv_neT (a := 7) hs1_7 rfl; have e8 := lv_neT (a := 8) hs1_8 rfl; have e9 := lv_neT (a := 9) hs1_9 rfl; have e10 := lv_neT (a := 10) hs1_10 rfl; have e11 := lv_neT (a := 11) hs1_11 rfl; omega) (by decide) ?_
  refine am_ldc kc_X5_71 (am_dk tk_X5_told 52 rfl) ?_
  exact am_iret rfl (am_r2 h hΦ) ⟨Nat.le_of_ble_eq_true rfl, Nat.le_of_ble_eq_true rfl⟩ (am_dk tk_X5_told 53 rfl)
abbrev m_X5_person : am_D := (yX5_person, prog_1_method_6_code, 3, (some .int), { frames := 2, cells := 0, slots := 0, locals := 43 })
theorem ld_X5_person : am_LD m_X5_person 2 := ⟨(am_tb 79 (by decide +kernel) (by decide +kernel)), (am_tb 514 (by decide +kernel) (by decide +kernel)), by decide, by decide, by decide +kernel⟩
def tb_X5_person : List (Nat × Instr × Nat) := [(0, .aload_n 0, 1), (1, .iload_n 1, 1), (2, .invokevirtual 137, 3), (5, .ifCond .ne 6, 3), (8, .ldc 141, 2), (10, .ireturn, 1), (11, .iload_n 2, 1), (12, .tableswitch 72 0 3 #[32, 42, 52, 62], 32), (44, .aload_n 0, 1), (45, .getfield 26, 3), (48, .getfield 142, 3), (51, .iload_n 1, 1), (52, .iaload, 1), (53, .ireturn, 1), (54, .aload_n 0, 1), (55, .getfield 26, 3), (58, .getfield 145, 3), (61, .iload_n 1, 1), (62, .iaload, 1), (63, .ireturn, 1), (64, .aload_n 0, 1), (65, .getfield 26, 3), (68, .getfield 148, 3), (71, .iload_n 1, 1), (72, .iaload, 1), (73, .ireturn, 1), (74, .aload_n 0, 1), (75, .getfield 10, 3), (78, .getfield 151, 3), (81, .iload_n 1, 1), (82, .iaload, 1), (83, .ireturn, 1), (84, .ldc 71, 2), (86, .ireturn, 1)]
theorem tk_X5_person : am_tbl prog_1_method_6_code tb_X5_person = true := by decide +kernel
def f_X5_person (tw : Nat) (x1 : Int32) (x2 : Int32) (D : am_M) : Option (Int32 × am_M) := if (f_X5_isPerson tw x1 D) = 0 then some ((-1000000001), D) else if x2 = 0 then if am_in x1 5 = true then some (D 26 x1.toNatClampNeg, D) else none else if x2 = 1 then if am_in x1 5 = true then some (D 28 x1.toNatClampNeg, D) else none else if x2 = 2 then if am_in x1 5 = true then some (D 27 x1.toNatClampNeg, D) else none else if x2 = 3 then if am_in x1 5 = true then some (D (tw + 5) x1.toNatClampNeg, D) else none else some ((-1000000002), D)
theorem ct_X5_person {l : Launch} {tw : Nat} {tp : Bool} (htw : lyT tw) {x1 : Int32} {x2 : Int32} {r : Int32} {D D' : am_M} (h : f_X5_person tw x1 x2 D = some (r, D')) : am_CT l m_X5_person false [.ref 0, .int x1, .int x2] (ly tw tp D) (am_is (some (.int r)) (ly tw tp D')) := by
  have hΦ : am_is (some (.int r)) (ly tw tp D') (some (.int r)) (ly tw tp D') := ⟨rfl, rfl⟩
  refine am_CT.of (by decide) (Nat.le_of_ble_eq_true rfl) ?_
  show am_Ex _ _ _ 0 [(0, .ref 0), (1, .int x1), (2, .int x2)] [] _
  rw [f_X5_person] at h
  refine am_aload_n (j := 0) (am_dk tk_X5_person 0 rfl) rfl rfl ?_
  refine am_iload_n (j := 1) (am_dk tk_X5_person 1 rfl) rfl rfl ?_
  refine ly_cV (M := m_X5_isPerson) (As := [.int x1]) (b := 0) (st := []) (ct_X5_isPerson htw _ _) rfl (by decide) rfl ml_X5_137 ld_X5_isPerson rfl ⟨Nat.le_of_ble_eq_true rfl, Nat.le_of_ble_eq_true rfl⟩ (Nat.le_of_ble_eq_true rfl) ⟨rfl, rfl⟩ ⟨Nat.le_of_ble_eq_true rfl, Nat.le_of_ble_eq_true rfl⟩ (am_dk tk_X5_person 2 rfl) (am_kki ?_)
  refine am_if_ne (tgt := 11) (am_dk tk_X5_person 3 rfl) (by decide) (fun hc5 => ?_) (fun hc5 => ?_)
  · rw [if_neg hc5] at h
    refine am_iload_n (j := 2) (am_dk tk_X5_person 6 rfl) rfl rfl ?_
    by_cases hs12_0 : x2 = 0
    · rw [if_pos hs12_0] at h
      refine am_tableIn (tgt := 44) (am_dk tk_X5_person 7 rfl) (by rw [hs12_0]; decide) (by rw [hs12_0]; decide) (by rw [hs12_0]; rfl) (by decide) ?_
      refine am_aload_n (j := 0) (am_dk tk_X5_person 8 rfl) rfl rfl ?_
      refine ly_getr (b := 25) rfl fl_X5_26 rfl rfl (am_dk tk_X5_person 9 rfl) ?_
      refine ly_getr (b := 26) rfl fl_X5_142 rfl rfl (am_dk tk_X5_person 10 rfl) ?_
      refine am_iload_n (j := 1) (am_dk tk_X5_person 11 rfl) rfl rfl ?_
      obtain ⟨hi52, h⟩ := am_chk h
      refine ly_iald (k := x1.toNatClampNeg) rfl (am_in_vp hi52) rfl (am_dk tk_X5_person 12 rfl) ?_
      exact am_iret rfl (am_r2 h hΦ) ⟨Nat.le_of_ble_eq_true rfl, Nat.le_of_ble_eq_true rfl⟩ (am_dk tk_X5_person 13 rfl)
    rw [if_neg hs12_0] at h
    by_cases hs12_1 : x2 = 1
    · rw [if_pos hs12_1] at h
      refine am_tableIn (tgt := 54) (am_dk tk_X5_person 7 rfl) (by rw [hs12_1]; decide) (by rw [hs12_1]; decide) (by rw [hs12_1]; rfl) (by decide) ?_
      refine am_aload_n (j := 0) (am_dk tk_X5_person 14 rfl) rfl rfl ?_
      refine ly_getr (b := 25) rfl fl_X5_26 rfl rfl (am_dk tk_X5_person 15 rfl) ?_
      refine ly_getr (b := 28) rfl fl_X5_145 rfl rfl (am_dk tk_X5_person 16 rfl) ?_
      refine am_iload_n (j := 1) (am_dk tk_X5_person 17 rfl) rfl rfl ?_
      obtain ⟨hi62, h⟩ := am_chk h
      refine ly_iald (k := x1.toNatClampNeg) rfl (am_in_vp hi62) rfl (am_dk tk_X5_person 18 rfl) ?_
      exact am_iret rfl (am_r2 h hΦ) ⟨Nat.le_of_ble_eq_true rfl, Nat.le_of_ble_eq_true rfl⟩ (am_dk tk_X5_person 19 rfl)
    rw [if_neg hs12_1] at h
    by_cases hs12_2 : x2 = 2
    · rw [if_pos hs12_2] at h
      refine am_tableIn (tgt := 64) (am_dk tk_X5_person 7 rfl) (by rw [hs12_2]; decide) (by rw [hs12_2]; decide) (by rw [hs12_2]; rfl) (by decide) ?_
      refine am_aload_n (j := 0) (am_dk tk_X5_person 20 rfl) rfl rfl ?_
      refine ly_getr (b := 25) rfl fl_X5_26 rfl rfl (am_dk tk_X5_person 21 rfl) ?_
      refine ly_getr (b := 27) rfl fl_X5_148 rfl rfl (am_dk tk_X5_person 22 rfl) ?_
      refine am_iload_n (j := 1) (am_dk tk_X5_person 23 rfl) rfl rfl ?_
      obtain ⟨hi72, h⟩ := am_chk h
      refine ly_iald (k := x1.toNatClampNeg) rfl (am_in_vp hi72) rfl (am_dk tk_X5_person 24 rfl) ?_
      exact am_iret rfl (am_r2 h hΦ) ⟨Nat.le_of_ble_eq_true rfl, Nat.le_of_ble_eq_true rfl⟩ (am_dk tk_X5_person 25 rfl)
    rw [if_neg hs12_2] at h
    by_cases hs12_3 : x2 = 3
    · rw [if_pos hs12_3] at h
      refine am_tableIn (tgt := 74) (am_dk tk_X5_person 7 rfl) (by rw [hs12_3]; decide) (by rw [hs12_3]; decide) (by rw [hs12_3]; rfl) (by decide) ?_
      refine am_aload_n (j := 0) (am_dk tk_X5_person 26 rfl) rfl rfl ?_
      refine ly_getr (b := tw) rfl fl_X5_10 rfl rfl (am_dk tk_X5_person 27 rfl) ?_
      refine ly_getr (b := (tw + 5)) (lyT_s htw) fl_X5_151 rfl (lyT_r11 htw) (am_dk tk_X5_person 28 rfl) ?_
      refine am_iload_n (j := 1) (am_dk tk_X5_person 29 rfl) rfl rfl ?_
      obtain ⟨hi82, h⟩ := am_chk h
      refine ly_iald (k := x1.toNatClampNeg) (lyT_a11 htw) (am_in_vp hi82) rfl (am_dk tk_X5_person 30 rfl) ?_
      exact am_iret rfl (am_r2 h hΦ) ⟨Nat.le_of_ble_eq_true rfl, Nat.le_of_ble_eq_true rfl⟩ (am_dk tk_X5_person 31 rfl)
    rw [if_neg hs12_3] at h
    refine am_tableOut (tgt := 84) (am_dk tk_X5_person 7 rfl) (by have e0 := lv_neT (a := 0) hs12_0 rfl; have e1 := lv_neT (a := 1) hs12_1 rfl; have e2 := lv_neT (a := 2) hs12_2 rfl; have e3 := lv_neT (a := 3) hs12_3 rfl; omega) (by decide) ?_
    refine am_ldc kc_X5_71 (am_dk tk_X5_person 32 rfl) ?_
    exact am_iret rfl (am_r2 h hΦ) ⟨Nat.le_of_ble_eq_true rfl, Nat.le_of_ble_eq_true rfl⟩ (am_dk tk_X5_person 33 rfl)
  · rw [if_pos hc5] at h
    refine am_ldc kc_X5_141 (am_dk tk_X5_person 4 rfl) ?_
    exact am_iret rfl (am_r2 h hΦ) ⟨Nat.le_of_ble_eq_true rfl, Nat.le_of_ble_eq_true rfl⟩ (am_dk tk_X5_person 5 rfl)
abbrev m_X5_row : am_D := (yX5_row, prog_1_method_7_code, 3, (some .int), { frames := 2, cells := 0, slots := 0, locals := 43 })
theorem ld_X5_row : am_LD m_X5_row 2 := ⟨(am_tb 79 (by decide +kernel) (by decide +kernel)), (am_tb 523 (by decide +kernel) (by decide +kernel)), by decide, by decide, by decide +kernel⟩
def tb_X5_row : List (Nat × Instr × Nat) := [(0, .aload_n 0, 1), (1, .iload_n 1, 1), (2, .invokevirtual 137, 3), (5, .ifCond .ne 6, 3), (8, .ldc 141, 2), (10, .ireturn, 1), (11, .iload_n 2, 1), (12, .iconst 0, 1), (13, .bipush 23, 2), (15, .invokestatic 67, 3), (18, .ifCond .ne 6, 3), (21, .ldc 71, 2), (23, .ireturn, 1), (24, .aload_n 0, 1), (25, .getfield 26, 3), (28, .getfield 154, 3), (31, .iload_n 1, 1), (32, .bipush 24, 2), (34, .imul, 1), (35, .iload_n 2, 1), (36, .iadd, 1), (37, .iaload, 1), (38, .ireturn, 1)]
theorem tk_X5_row : am_tbl prog_1_method_7_code tb_X5_row = true := by decide +kernel
def f_X5_row (tw : Nat) (x1 : Int32) (x2 : Int32) (D : am_M) : Option (Int32 × am_M) := if (f_X5_isPerson tw x1 D) = 0 then some ((-1000000001), D) else if (f_X5_isWithin x2 0 23) = 0 then some ((-1000000002), D) else if am_in ((x1 * 24) + x2) 120 = true then some (D 29 ((x1 * 24) + x2).toNatClampNeg, D) else none
theorem ct_X5_row {l : Launch} {tw : Nat} {tp : Bool} (htw : lyT tw) {x1 : Int32} {x2 : Int32} {r : Int32} {D D' : am_M} (h : f_X5_row tw x1 x2 D = some (r, D')) : am_CT l m_X5_row false [.ref 0, .int x1, .int x2] (ly tw tp D) (am_is (some (.int r)) (ly tw tp D')) := by
  have hΦ : am_is (some (.int r)) (ly tw tp D') (some (.int r)) (ly tw tp D') := ⟨rfl, rfl⟩
  refine am_CT.of (by decide) (Nat.le_of_ble_eq_true rfl) ?_
  show am_Ex _ _ _ 0 [(0, .ref 0), (1, .int x1), (2, .int x2)] [] _
  rw [f_X5_row] at h
  refine am_aload_n (j := 0) (am_dk tk_X5_row 0 rfl) rfl rfl ?_
  refine am_iload_n (j := 1) (am_dk tk_X5_row 1 rfl) rfl rfl ?_
  refine ly_cV (M := m_X5_isPerson) (As := [.int x1]) (b := 0) (st := []) (ct_X5_isPerson htw _ _) rfl (by decide) rfl ml_X5_137 ld_X5_isPerson rfl ⟨Nat.le_of_ble_eq_true rfl, Nat.le_of_ble_eq_true rfl⟩ (Nat.le_of_ble_eq_true rfl) ⟨rfl, rfl⟩ ⟨Nat.le_of_ble_eq_true rfl, Nat.le_of_ble_eq_true rfl⟩ (am_dk tk_X5_row 2 rfl) (am_kki ?_)
  refine am_if_ne (tgt := 11) (am_dk tk_X5_row 3 rfl) (by decide) (fun hc5 => ?_) (fun hc5 => ?_)
  · rw [if_neg hc5] at h
    refine am_iload_n (j := 2) (am_dk tk_X5_row 6 rfl) rfl rfl ?_
    refine am_iconst (v := 0) (am_dk tk_X5_row 7 rfl) (by decide) ?_
    refine am_bipush (v := 23) (am_dk tk_X5_row 8 rfl) (by decide) ?_
    refine am_cS (M := m_X5_isWithin) (As := [.int x2, .int 0, .int 23]) (st := []) (ct_X5_isWithin _ _ _ _) ml_X5_67 ld_X5_isWithin rfl ⟨Nat.le_of_ble_eq_true rfl, Nat.le_of_ble_eq_true rfl⟩ (Nat.le_of_ble_eq_true rfl) ⟨rfl, rfl⟩ ⟨Nat.le_of_ble_eq_true rfl, Nat.le_of_ble_eq_true rfl⟩ (am_dk tk_X5_row 9 rfl) (am_kki ?_)
    refine am_if_ne (tgt := 24) (am_dk tk_X5_row 10 rfl) (by decide) (fun hc18 => ?_) (fun hc18 => ?_)
    · rw [if_neg hc18] at h
      refine am_aload_n (j := 0) (am_dk tk_X5_row 13 rfl) rfl rfl ?_
      refine ly_getr (b := 25) rfl fl_X5_26 rfl rfl (am_dk tk_X5_row 14 rfl) ?_
      refine ly_getr (b := 29) rfl fl_X5_154 rfl rfl (am_dk tk_X5_row 15 rfl) ?_
      refine am_iload_n (j := 1) (am_dk tk_X5_row 16 rfl) rfl rfl ?_
      refine am_bipush (v := 24) (am_dk tk_X5_row 17 rfl) (by decide) ?_
      refine am_imul (am_dk tk_X5_row 18 rfl) ?_
      refine am_iload_n (j := 2) (am_dk tk_X5_row 19 rfl) rfl rfl ?_
      refine am_iadd (am_dk tk_X5_row 20 rfl) ?_
      obtain ⟨hi37, h⟩ := am_chk h
      refine ly_iald (k := ((x1 * 24) + x2).toNatClampNeg) rfl (am_in_vp hi37) rfl (am_dk tk_X5_row 21 rfl) ?_
      exact am_iret rfl (am_r2 h hΦ) ⟨Nat.le_of_ble_eq_true rfl, Nat.le_of_ble_eq_true rfl⟩ (am_dk tk_X5_row 22 rfl)
    · rw [if_pos hc18] at h
      refine am_ldc kc_X5_71 (am_dk tk_X5_row 11 rfl) ?_
      exact am_iret rfl (am_r2 h hΦ) ⟨Nat.le_of_ble_eq_true rfl, Nat.le_of_ble_eq_true rfl⟩ (am_dk tk_X5_row 12 rfl)
  · rw [if_pos hc5] at h
    refine am_ldc kc_X5_141 (am_dk tk_X5_row 4 rfl) ?_
    exact am_iret rfl (am_r2 h hΦ) ⟨Nat.le_of_ble_eq_true rfl, Nat.le_of_ble_eq_true rfl⟩ (am_dk tk_X5_row 5 rfl)
abbrev m_X5_coin : am_D := (yX5_coin, prog_1_method_8_code, 2, (some .int), { frames := 1, cells := 0, slots := 0, locals := 22 })
theorem ld_X5_coin : am_LD m_X5_coin 1 := ⟨(am_tb 79 (by decide +kernel) (by decide +kernel)), (am_tb 527 (by decide +kernel) (by decide +kernel)), by decide, by decide, by decide +kernel⟩
def tb_X5_coin : List (Nat × Instr × Nat) := [(0, .iload_n 1, 1), (1, .iconst 0, 1), (2, .aload_n 0, 1), (3, .getfield 10, 3), (6, .getfield 119, 3), (9, .iconst 1, 1), (10, .isub, 1), (11, .invokestatic 67, 3), (14, .ifCond .ne 6, 3), (17, .ldc 141, 2), (19, .ireturn, 1), (20, .aload_n 0, 1), (21, .getfield 10, 3), (24, .getfield 157, 3), (27, .iload_n 1, 1), (28, .iaload, 1), (29, .ireturn, 1)]
theorem tk_X5_coin : am_tbl prog_1_method_8_code tb_X5_coin = true := by decide +kernel
def f_X5_coin (tw : Nat) (x1 : Int32) (D : am_M) : Option (Int32 × am_M) := if (f_X5_isWithin x1 0 ((D tw 4) - 1)) = 0 then some ((-1000000001), D) else if am_in x1 4 = true then some (D (tw + 1) x1.toNatClampNeg, D) else none
theorem ct_X5_coin {l : Launch} {tw : Nat} {tp : Bool} (htw : lyT tw) {x1 : Int32} {r : Int32} {D D' : am_M} (h : f_X5_coin tw x1 D = some (r, D')) : am_CT l m_X5_coin false [.ref 0, .int x1] (ly tw tp D) (am_is (some (.int r)) (ly tw tp D')) := by
  have hΦ : am_is (some (.int r)) (ly tw tp D') (some (.int r)) (ly tw tp D') := ⟨rfl, rfl⟩
  refine am_CT.of (by decide) (Nat.le_of_ble_eq_true rfl) ?_
  show am_Ex _ _ _ 0 [(0, .ref 0), (1, .int x1)] [] _
  rw [f_X5_coin] at h
  refine am_iload_n (j := 1) (am_dk tk_X5_coin 0 rfl) rfl rfl ?_
  refine am_iconst (v := 0) (am_dk tk_X5_coin 1 rfl) (by decide) ?_
  refine am_aload_n (j := 0) (am_dk tk_X5_coin 2 rfl) rfl rfl ?_
  refine ly_getr (b := tw) rfl fl_X5_10 rfl rfl (am_dk tk_X5_coin 3 rfl) ?_
  refine ly_geti (lyT_s htw) fl_X5_119 rfl (am_dk tk_X5_coin 4 rfl) ?_
  refine am_iconst (v := 1) (am_dk tk_X5_coin 5 rfl) (by decide) ?_
  refine am_isub (am_dk tk_X5_coin 6 rfl) ?_
  refine am_cS (M := m_X5_isWithin) (As := [.int x1, .int 0, .int ((D tw 4) - 1)]) (st := []) (ct_X5_isWithin _ _ _ _) ml_X5_67 ld_X5_isWithin rfl ⟨Nat.le_of_ble_eq_true rfl, Nat.le_of_ble_eq_true rfl⟩ (Nat.le_of_ble_eq_true rfl) ⟨rfl, rfl⟩ ⟨Nat.le_of_ble_eq_true rfl, Nat.le_of_ble_eq_true rfl⟩ (am_dk tk_X5_coin 7 rfl) (am_kki ?_)
  refine am_if_ne (tgt := 20) (am_dk tk_X5_coin 8 rfl) (by decide) (fun hc14 => ?_) (fun hc14 => ?_)
  · rw [if_neg hc14] at h
    refine am_aload_n (j := 0) (am_dk tk_X5_coin 11 rfl) rfl rfl ?_
    refine ly_getr (b := tw) rfl fl_X5_10 rfl rfl (am_dk tk_X5_coin 12 rfl) ?_
    refine ly_getr (b := (tw + 1)) (lyT_s htw) fl_X5_157 rfl (lyT_r7 htw) (am_dk tk_X5_coin 13 rfl) ?_
    refine am_iload_n (j := 1) (am_dk tk_X5_coin 14 rfl) rfl rfl ?_
    obtain ⟨hi28, h⟩ := am_chk h
    refine ly_iald (k := x1.toNatClampNeg) (lyT_a7 htw) (am_in_vp hi28) rfl (am_dk tk_X5_coin 15 rfl) ?_
    exact am_iret rfl (am_r2 h hΦ) ⟨Nat.le_of_ble_eq_true rfl, Nat.le_of_ble_eq_true rfl⟩ (am_dk tk_X5_coin 16 rfl)
  · rw [if_pos hc14] at h
    refine am_ldc kc_X5_141 (am_dk tk_X5_coin 9 rfl) ?_
    exact am_iret rfl (am_r2 h hΦ) ⟨Nat.le_of_ble_eq_true rfl, Nat.le_of_ble_eq_true rfl⟩ (am_dk tk_X5_coin 10 rfl)
abbrev m_X5_debtState : am_D := (yX5_debtState, prog_1_method_10_code, 2, (some .int), { frames := 1, cells := 0, slots := 0, locals := 21 })
theorem ld_X5_debtState : am_LD m_X5_debtState 1 := ⟨(am_tb 79 (by decide +kernel) (by decide +kernel)), (am_tb 535 (by decide +kernel) (by decide +kernel)), by decide, by decide, by decide +kernel⟩
def tb_X5_debtState : List (Nat × Instr × Nat) := [(0, .aload_n 0, 1), (1, .getfield 26, 3), (4, .getfield 128, 3), (7, .iload_n 1, 1), (8, .invokestatic 172, 3), (11, .ifCond .eq 5, 3), (14, .iconst 1, 1), (15, .ireturn, 1), (16, .aload_n 0, 1), (17, .getfield 26, 3), (20, .getfield 131, 3), (23, .iload_n 1, 1), (24, .invokestatic 172, 3), (27, .ifCond .eq 7, 3), (30, .iconst 2, 1), (31, .goto 4, 3), (34, .iconst 0, 1), (35, .ireturn, 1)]
theorem tk_X5_debtState : am_tbl prog_1_method_10_code tb_X5_debtState = true := by decide +kernel
def f_X5_debtState (tw : Nat) (x1 : Int32) (D : am_M) : Int32 := if (f_X5_isIn (D 25 4) x1) = 0 then if (f_X5_isIn (D 25 5) x1) = 0 then 0 else 2 else 1
theorem ct_X5_debtState {l : Launch} {tw : Nat} {tp : Bool} (htw : lyT tw) (x1 : Int32) (D : am_M) : am_CT l m_X5_debtState false [.ref 0, .int x1] (ly tw tp D) (am_is (some (.int (f_X5_debtState tw x1 D))) (ly tw tp D)) := by
  refine am_CT.of (by decide) (Nat.le_of_ble_eq_true rfl) ?_
  show am_Ex _ _ _ 0 [(0, .ref 0), (1, .int x1)] [] _
  refine am_aload_n (j := 0) (am_dk tk_X5_debtState 0 rfl) rfl rfl ?_
  refine ly_getr (b := 25) rfl fl_X5_26 rfl rfl (am_dk tk_X5_debtState 1 rfl) ?_
  refine ly_geti rfl fl_X5_128 rfl (am_dk tk_X5_debtState 2 rfl) ?_
  refine am_iload_n (j := 1) (am_dk tk_X5_debtState 3 rfl) rfl rfl ?_
  refine am_cS (M := m_X5_isIn) (As := [.int (D 25 4), .int x1]) (st := []) (ct_X5_isIn _ _ _) ml_X5_172 ld_X5_isIn rfl ⟨Nat.le_of_ble_eq_true rfl, Nat.le_of_ble_eq_true rfl⟩ (Nat.le_of_ble_eq_true rfl) ⟨rfl, rfl⟩ ⟨Nat.le_of_ble_eq_true rfl, Nat.le_of_ble_eq_true rfl⟩ (am_dk tk_X5_debtState 4 rfl) (am_kki ?_)
  refine am_if_eq (tgt := 16) (am_dk tk_X5_debtState 5 rfl) (by decide) (fun hc11 => ?_) (fun hc11 => ?_)
  · skip
    refine am_aload_n (j := 0) (am_dk tk_X5_debtState 8 rfl) rfl rfl ?_
    refine ly_getr (b := 25) rfl fl_X5_26 rfl rfl (am_dk tk_X5_debtState 9 rfl) ?_
    refine ly_geti rfl fl_X5_131 rfl (am_dk tk_X5_debtState 10 rfl) ?_
    refine am_iload_n (j := 1) (am_dk tk_X5_debtState 11 rfl) rfl rfl ?_
    refine am_cS (M := m_X5_isIn) (As := [.int (D 25 5), .int x1]) (st := []) (ct_X5_isIn _ _ _) ml_X5_172 ld_X5_isIn rfl ⟨Nat.le_of_ble_eq_true rfl, Nat.le_of_ble_eq_true rfl⟩ (Nat.le_of_ble_eq_true rfl) ⟨rfl, rfl⟩ ⟨Nat.le_of_ble_eq_true rfl, Nat.le_of_ble_eq_true rfl⟩ (am_dk tk_X5_debtState 12 rfl) (am_kki ?_)
    refine am_if_eq (tgt := 34) (am_dk tk_X5_debtState 13 rfl) (by decide) (fun hc27 => ?_) (fun hc27 => ?_)
    · skip
      refine am_iconst (v := 0) (am_dk tk_X5_debtState 16 rfl) (by decide) ?_
      exact am_iret rfl ⟨by simp only [f_X5_debtState, if_pos hc11, if_pos hc27], rfl⟩ ⟨Nat.le_of_ble_eq_true rfl, Nat.le_of_ble_eq_true rfl⟩ (am_dk tk_X5_debtState 17 rfl)
    · skip
      refine am_iconst (v := 2) (am_dk tk_X5_debtState 14 rfl) (by decide) ?_
      refine am_goto (tgt := 35) (am_dk tk_X5_debtState 15 rfl) (by decide) ?_
      exact am_iret rfl ⟨by simp only [f_X5_debtState, if_pos hc11, if_neg hc27], rfl⟩ ⟨Nat.le_of_ble_eq_true rfl, Nat.le_of_ble_eq_true rfl⟩ (am_dk tk_X5_debtState 17 rfl)
  · skip
    refine am_iconst (v := 1) (am_dk tk_X5_debtState 6 rfl) (by decide) ?_
    exact am_iret rfl ⟨by simp only [f_X5_debtState, if_neg hc11], rfl⟩ ⟨Nat.le_of_ble_eq_true rfl, Nat.le_of_ble_eq_true rfl⟩ (am_dk tk_X5_debtState 7 rfl)
abbrev m_X5_debt : am_D := (yX5_debt, prog_1_method_9_code, 3, (some .int), { frames := 2, cells := 0, slots := 0, locals := 42 })
theorem ld_X5_debt : am_LD m_X5_debt 2 := ⟨(am_tb 79 (by decide +kernel) (by decide +kernel)), (am_tb 531 (by decide +kernel) (by decide +kernel)), by decide, by decide, by decide +kernel⟩
def tb_X5_debt : List (Nat × Instr × Nat) := [(0, .iload_n 1, 1), (1, .iconst 0, 1), (2, .aload_n 0, 1), (3, .getfield 10, 3), (6, .getfield 122, 3), (9, .iconst 1, 1), (10, .isub, 1), (11, .invokestatic 67, 3), (14, .ifCond .ne 6, 3), (17, .ldc 141, 2), (19, .ireturn, 1), (20, .iload_n 2, 1), (21, .tableswitch 67 0 3 #[31, 41, 51, 61], 31), (52, .aload_n 0, 1), (53, .getfield 10, 3), (56, .getfield 160, 3), (59, .iload_n 1, 1), (60, .iaload, 1), (61, .ireturn, 1), (62, .aload_n 0, 1), (63, .getfield 10, 3), (66, .getfield 163, 3), (69, .iload_n 1, 1), (70, .iaload, 1), (71, .ireturn, 1), (72, .aload_n 0, 1), (73, .getfield 10, 3), (76, .getfield 166, 3), (79, .iload_n 1, 1), (80, .iaload, 1), (81, .ireturn, 1), (82, .aload_n 0, 1), (83, .iload_n 1, 1), (84, .invokevirtual 169, 3), (87, .ireturn, 1), (88, .ldc 71, 2), (90, .ireturn, 1)]
theorem tk_X5_debt : am_tbl prog_1_method_9_code tb_X5_debt = true := by decide +kernel
def f_X5_debt (tw : Nat) (x1 : Int32) (x2 : Int32) (D : am_M) : Option (Int32 × am_M) := if (f_X5_isWithin x1 0 ((D tw 5) - 1)) = 0 then some ((-1000000001), D) else if x2 = 0 then if am_in x1 8 = true then some (D (tw + 2) x1.toNatClampNeg, D) else none else if x2 = 1 then if am_in x1 8 = true then some (D (tw + 3) x1.toNatClampNeg, D) else none else if x2 = 2 then if am_in x1 8 = true then some (D (tw + 4) x1.toNatClampNeg, D) else none else if x2 = 3 then some (f_X5_debtState tw x1 D, D) else some ((-1000000002), D)
theorem ct_X5_debt {l : Launch} {tw : Nat} {tp : Bool} (htw : lyT tw) {x1 : Int32} {x2 : Int32} {r : Int32} {D D' : am_M} (h : f_X5_debt tw x1 x2 D = some (r, D')) : am_CT l m_X5_debt false [.ref 0, .int x1, .int x2] (ly tw tp D) (am_is (some (.int r)) (ly tw tp D')) := by
  have hΦ : am_is (some (.int r)) (ly tw tp D') (some (.int r)) (ly tw tp D') := ⟨rfl, rfl⟩
  refine am_CT.of (by decide) (Nat.le_of_ble_eq_true rfl) ?_
  show am_Ex _ _ _ 0 [(0, .ref 0), (1, .int x1), (2, .int x2)] [] _
  rw [f_X5_debt] at h
  refine am_iload_n (j := 1) (am_dk tk_X5_debt 0 rfl) rfl rfl ?_
  refine am_iconst (v := 0) (am_dk tk_X5_debt 1 rfl) (by decide) ?_
  refine am_aload_n (j := 0) (am_dk tk_X5_debt 2 rfl) rfl rfl ?_
  refine ly_getr (b := tw) rfl fl_X5_10 rfl rfl (am_dk tk_X5_debt 3 rfl) ?_
  refine ly_geti (lyT_s htw) fl_X5_122 rfl (am_dk tk_X5_debt 4 rfl) ?_
  refine am_iconst (v := 1) (am_dk tk_X5_debt 5 rfl) (by decide) ?_
  refine am_isub (am_dk tk_X5_debt 6 rfl) ?_
  refine am_cS (M := m_X5_isWithin) (As := [.int x1, .int 0, .int ((D tw 5) - 1)]) (st := []) (ct_X5_isWithin _ _ _ _) ml_X5_67 ld_X5_isWithin rfl ⟨Nat.le_of_ble_eq_true rfl, Nat.le_of_ble_eq_true rfl⟩ (Nat.le_of_ble_eq_true rfl) ⟨rfl, rfl⟩ ⟨Nat.le_of_ble_eq_true rfl, Nat.le_of_ble_eq_true rfl⟩ (am_dk tk_X5_debt 7 rfl) (am_kki ?_)
  refine am_if_ne (tgt := 20) (am_dk tk_X5_debt 8 rfl) (by decide) (fun hc14 => ?_) (fun hc14 => ?_)
  · rw [if_neg hc14] at h
    refine am_iload_n (j := 2) (am_dk tk_X5_debt 11 rfl) rfl rfl ?_
    by_cases hs21_0 : x2 = 0
    · rw [if_pos hs21_0] at h
      refine am_tableIn (tgt := 52) (am_dk tk_X5_debt 12 rfl) (by rw [hs21_0]; decide) (by rw [hs21_0]; decide) (by rw [hs21_0]; rfl) (by decide) ?_
      refine am_aload_n (j := 0) (am_dk tk_X5_debt 13 rfl) rfl rfl ?_
      refine ly_getr (b := tw) rfl fl_X5_10 rfl rfl (am_dk tk_X5_debt 14 rfl) ?_
      refine ly_getr (b := (tw + 2)) (lyT_s htw) fl_X5_160 rfl (lyT_r8 htw) (am_dk tk_X5_debt 15 rfl) ?_
      refine am_iload_n (j := 1) (am_dk tk_X5_debt 16 rfl) rfl rfl ?_
      obtain ⟨hi60, h⟩ := am_chk h
      refine ly_iald (k := x1.toNatClampNeg) (lyT_a8 htw) (am_in_vp hi60) rfl (am_dk tk_X5_debt 17 rfl) ?_
      exact am_iret rfl (am_r2 h hΦ) ⟨Nat.le_of_ble_eq_true rfl, Nat.le_of_ble_eq_true rfl⟩ (am_dk tk_X5_debt 18 rfl)
    rw [if_neg hs21_0] at h
    by_cases hs21_1 : x2 = 1
    · rw [if_pos hs21_1] at h
      refine am_tableIn (tgt := 62) (am_dk tk_X5_debt 12 rfl) (by rw [hs21_1]; decide) (by rw [hs21_1]; decide) (by rw [hs21_1]; rfl) (by decide) ?_
      refine am_aload_n (j := 0) (am_dk tk_X5_debt 19 rfl) rfl rfl ?_
      refine ly_getr (b := tw) rfl fl_X5_10 rfl rfl (am_dk tk_X5_debt 20 rfl) ?_
      refine ly_getr (b := (tw + 3)) (lyT_s htw) fl_X5_163 rfl (lyT_r9 htw) (am_dk tk_X5_debt 21 rfl) ?_
      refine am_iload_n (j := 1) (am_dk tk_X5_debt 22 rfl) rfl rfl ?_
      obtain ⟨hi70, h⟩ := am_chk h
      refine ly_iald (k := x1.toNatClampNeg) (lyT_a9 htw) (am_in_vp hi70) rfl (am_dk tk_X5_debt 23 rfl) ?_
      exact am_iret rfl (am_r2 h hΦ) ⟨Nat.le_of_ble_eq_true rfl, Nat.le_of_ble_eq_true rfl⟩ (am_dk tk_X5_debt 24 rfl)
    rw [if_neg hs21_1] at h
    by_cases hs21_2 : x2 = 2
    · rw [if_pos hs21_2] at h
      refine am_tableIn (tgt := 72) (am_dk tk_X5_debt 12 rfl) (by rw [hs21_2]; decide) (by rw [hs21_2]; decide) (by rw [hs21_2]; rfl) (by decide) ?_
      refine am_aload_n (j := 0) (am_dk tk_X5_debt 25 rfl) rfl rfl ?_
      refine ly_getr (b := tw) rfl fl_X5_10 rfl rfl (am_dk tk_X5_debt 26 rfl) ?_
      refine ly_getr (b := (tw + 4)) (lyT_s htw) fl_X5_166 rfl (lyT_r10 htw) (am_dk tk_X5_debt 27 rfl) ?_
      refine am_iload_n (j := 1) (am_dk tk_X5_debt 28 rfl) rfl rfl ?_
      obtain ⟨hi80, h⟩ := am_chk h
      refine ly_iald (k := x1.toNatClampNeg) (lyT_a10 htw) (am_in_vp hi80) rfl (am_dk tk_X5_debt 29 rfl) ?_
      exact am_iret rfl (am_r2 h hΦ) ⟨Nat.le_of_ble_eq_true rfl, Nat.le_of_ble_eq_true rfl⟩ (am_dk tk_X5_debt 30 rfl)
    rw [if_neg hs21_2] at h
    by_cases hs21_3 : x2 = 3
    · rw [if_pos hs21_3] at h
      refine am_tableIn (tgt := 82) (am_dk tk_X5_debt 12 rfl) (by rw [hs21_3]; decide) (by rw [hs21_3]; decide) (by rw [hs21_3]; rfl) (by decide) ?_
      refine am_aload_n (j := 0) (am_dk tk_X5_debt 31 rfl) rfl rfl ?_
      refine am_iload_n (j := 1) (am_dk tk_X5_debt 32 rfl) rfl rfl ?_
      refine ly_cV (M := m_X5_debtState) (As := [.int x1]) (b := 0) (st := []) (ct_X5_debtState htw _ _) rfl (by decide) rfl ml_X5_169 ld_X5_debtState rfl ⟨Nat.le_of_ble_eq_true rfl, Nat.le_of_ble_eq_true rfl⟩ (Nat.le_of_ble_eq_true rfl) ⟨rfl, rfl⟩ ⟨Nat.le_of_ble_eq_true rfl, Nat.le_of_ble_eq_true rfl⟩ (am_dk tk_X5_debt 33 rfl) (am_kki ?_)
      exact am_iret rfl (am_r2 h hΦ) ⟨Nat.le_of_ble_eq_true rfl, Nat.le_of_ble_eq_true rfl⟩ (am_dk tk_X5_debt 34 rfl)
    rw [if_neg hs21_3] at h
    refine am_tableOut (tgt := 88) (am_dk tk_X5_debt 12 rfl) (by have e0 := lv_neT (a := 0) hs21_0 rfl; have e1 := lv_neT (a := 1) hs21_1 rfl; have e2 := lv_neT (a := 2) hs21_2 rfl; have e3 := lv_neT (a := 3) hs21_3 rfl; omega) (by decide) ?_
    refine am_ldc kc_X5_71 (am_dk tk_X5_debt 35 rfl) ?_
    exact am_iret rfl (am_r2 h hΦ) ⟨Nat.le_of_ble_eq_true rfl, Nat.le_of_ble_eq_true rfl⟩ (am_dk tk_X5_debt 36 rfl)
  · rw [if_pos hc14] at h
    refine am_ldc kc_X5_141 (am_dk tk_X5_debt 9 rfl) ?_
    exact am_iret rfl (am_r2 h hΦ) ⟨Nat.le_of_ble_eq_true rfl, Nat.le_of_ble_eq_true rfl⟩ (am_dk tk_X5_debt 10 rfl)
abbrev m_X5_refusalOfHours : am_D := (yX5_refusalOfHours, prog_1_method_13_code, 2, (some .int), { frames := 1, cells := 0, slots := 0, locals := 22 })
theorem ld_X5_refusalOfHours : am_LD m_X5_refusalOfHours 1 := ⟨(am_tb 79 (by decide +kernel) (by decide +kernel)), (am_tb 544 (by decide +kernel) (by decide +kernel)), by decide, by decide, by decide +kernel⟩
def tb_X5_refusalOfHours : List (Nat × Instr × Nat) := [(0, .iload_n 1, 1), (1, .iconst 1, 1), (2, .bipush 96, 2), (4, .invokestatic 67, 3), (7, .ifCond .ne 6, 3), (10, .ldc 71, 2), (12, .ireturn, 1), (13, .aload_n 0, 1), (14, .getfield 10, 3), (17, .getfield 110, 3), (20, .ifCond .ne 6, 3), (23, .ldc 191, 2), (25, .ireturn, 1), (26, .aload_n 0, 1), (27, .getfield 26, 3), (30, .getfield 125, 3), (33, .ldc 192, 2), (35, .if_icmp .le 8, 3), (38, .ldc 75, 2), (40, .goto 4, 3), (43, .iconst 0, 1), (44, .ireturn, 1)]
theorem tk_X5_refusalOfHours : am_tbl prog_1_method_13_code tb_X5_refusalOfHours = true := by decide +kernel
def f_X5_refusalOfHours (tw : Nat) (x1 : Int32) (D : am_M) : Int32 := if (f_X5_isWithin x1 1 96) = 0 then (-1000000002) else if (D tw 0) = 0 then (-1000000003) else if (D 25 6) ≤ 90000 then 0 else (-1000000004)
theorem ct_X5_refusalOfHours {l : Launch} {tw : Nat} {tp : Bool} (htw : lyT tw) (x1 : Int32) (D : am_M) : am_CT l m_X5_refusalOfHours false [.ref 0, .int x1] (ly tw tp D) (am_is (some (.int (f_X5_refusalOfHours tw x1 D))) (ly tw tp D)) := by
  refine am_CT.of (by decide) (Nat.le_of_ble_eq_true rfl) ?_
  show am_Ex _ _ _ 0 [(0, .ref 0), (1, .int x1)] [] _
  refine am_iload_n (j := 1) (am_dk tk_X5_refusalOfHours 0 rfl) rfl rfl ?_
  refine am_iconst (v := 1) (am_dk tk_X5_refusalOfHours 1 rfl) (by decide) ?_
  refine am_bipush (v := 96) (am_dk tk_X5_refusalOfHours 2 rfl) (by decide) ?_
  refine am_cS (M := m_X5_isWithin) (As := [.int x1, .int 1, .int 96]) (st := []) (ct_X5_isWithin _ _ _ _) ml_X5_67 ld_X5_isWithin rfl ⟨Nat.le_of_ble_eq_true rfl, Nat.le_of_ble_eq_true rfl⟩ (Nat.le_of_ble_eq_true rfl) ⟨rfl, rfl⟩ ⟨Nat.le_of_ble_eq_true rfl, Nat.le_of_ble_eq_true rfl⟩ (am_dk tk_X5_refusalOfHours 3 rfl) (am_kki ?_)
  refine am_if_ne (tgt := 13) (am_dk tk_X5_refusalOfHours 4 rfl) (by decide) (fun hc7 => ?_) (fun hc7 => ?_)
  · skip
    refine am_aload_n (j := 0) (am_dk tk_X5_refusalOfHours 7 rfl) rfl rfl ?_
    refine ly_getr (b := tw) rfl fl_X5_10 rfl rfl (am_dk tk_X5_refusalOfHours 8 rfl) ?_
    refine ly_geti (lyT_s htw) fl_X5_110 rfl (am_dk tk_X5_refusalOfHours 9 rfl) ?_
    refine am_if_ne (tgt := 26) (am_dk tk_X5_refusalOfHours 10 rfl) (by decide) (fun hc20 => ?_) (fun hc20 => ?_)
    · skip
      refine am_aload_n (j := 0) (am_dk tk_X5_refusalOfHours 13 rfl) rfl rfl ?_
      refine ly_getr (b := 25) rfl fl_X5_26 rfl rfl (am_dk tk_X5_refusalOfHours 14 rfl) ?_
      refine ly_geti rfl fl_X5_125 rfl (am_dk tk_X5_refusalOfHours 15 rfl) ?_
      refine am_ldc kc_X5_192 (am_dk tk_X5_refusalOfHours 16 rfl) ?_
      refine am_icmp_le (tgt := 43) (am_dk tk_X5_refusalOfHours 17 rfl) (by decide) (fun hc35 => ?_) (fun hc35 => ?_)
      · skip
        refine am_iconst (v := 0) (am_dk tk_X5_refusalOfHours 20 rfl) (by decide) ?_
        exact am_iret rfl ⟨by simp only [f_X5_refusalOfHours, if_neg hc7, if_neg hc20, if_pos hc35], rfl⟩ ⟨Nat.le_of_ble_eq_true rfl, Nat.le_of_ble_eq_true rfl⟩ (am_dk tk_X5_refusalOfHours 21 rfl)
      · skip
        refine am_ldc kc_X5_75 (am_dk tk_X5_refusalOfHours 18 rfl) ?_
        refine am_goto (tgt := 44) (am_dk tk_X5_refusalOfHours 19 rfl) (by decide) ?_
        exact am_iret rfl ⟨by simp only [f_X5_refusalOfHours, if_neg hc7, if_neg hc20, if_neg hc35], rfl⟩ ⟨Nat.le_of_ble_eq_true rfl, Nat.le_of_ble_eq_true rfl⟩ (am_dk tk_X5_refusalOfHours 21 rfl)
    · skip
      refine am_ldc kc_X5_191 (am_dk tk_X5_refusalOfHours 11 rfl) ?_
      exact am_iret rfl ⟨by simp only [f_X5_refusalOfHours, if_neg hc7, if_pos hc20], rfl⟩ ⟨Nat.le_of_ble_eq_true rfl, Nat.le_of_ble_eq_true rfl⟩ (am_dk tk_X5_refusalOfHours 12 rfl)
  · skip
    refine am_ldc kc_X5_71 (am_dk tk_X5_refusalOfHours 5 rfl) ?_
    exact am_iret rfl ⟨by simp only [f_X5_refusalOfHours, if_pos hc7], rfl⟩ ⟨Nat.le_of_ble_eq_true rfl, Nat.le_of_ble_eq_true rfl⟩ (am_dk tk_X5_refusalOfHours 6 rfl)
abbrev m_X5_hour : am_D := (yX5_hour, prog_1_method_11_code, 3, (some .int), { frames := 4, cells := 0, slots := 0, locals := 86 })
theorem ld_X5_hour : am_LD m_X5_hour 1 := ⟨(am_tb 79 (by decide +kernel) (by decide +kernel)), (am_tb 540 (by decide +kernel) (by decide +kernel)), by decide, by decide, by decide +kernel⟩
def tb_X5_hour : List (Nat × Instr × Nat) := [(0, .aload_n 0, 1), (1, .iload_n 1, 1), (2, .invokevirtual 176, 3), (5, .istore_n 2, 1), (6, .iload_n 2, 1), (7, .ifCond .eq 5, 3), (10, .iload_n 2, 1), (11, .ireturn, 1), (12, .aload_n 0, 1), (13, .getfield 26, 3), (16, .aload_n 0, 1), (17, .getfield 10, 3), (20, .iload_n 1, 1), (21, .invokevirtual 179, 3), (24, .aload_n 0, 1), (25, .getfield 26, 3), (28, .getfield 125, 3), (31, .ireturn, 1)]
theorem tk_X5_hour : am_tbl prog_1_method_11_code tb_X5_hour = true := by decide +kernel
def f_X5_hour (tw : Nat) (x1 : Int32) (D : am_M) : Option (Int32 × am_M) := if (f_X5_refusalOfHours tw x1 D) = 0 then (f_X2_passHours 25 tw x1 D).bind fun q21 => some (q21 25 6, q21) else some (f_X5_refusalOfHours tw x1 D, D)
theorem ct_X5_hour {l : Launch} {tw : Nat} {tp : Bool} (htw : lyT tw) {x1 : Int32} {r : Int32} {D D' : am_M} (h : f_X5_hour tw x1 D = some (r, D')) : am_CT l m_X5_hour false [.ref 0, .int x1] (ly tw tp D) (am_is (some (.int r)) (ly tw tp D')) := by
  have hΦ : am_is (some (.int r)) (ly tw tp D') (some (.int r)) (ly tw tp D') := ⟨rfl, rfl⟩
  refine am_CT.of (by decide) (Nat.le_of_ble_eq_true rfl) ?_
  show am_Ex _ _ _ 0 [(0, .ref 0), (1, .int x1)] [] _
  rw [f_X5_hour] at h
  refine am_aload_n (j := 0) (am_dk tk_X5_hour 0 rfl) rfl rfl ?_
  refine am_iload_n (j := 1) (am_dk tk_X5_hour 1 rfl) rfl rfl ?_
  refine ly_cV (M := m_X5_refusalOfHours) (As := [.int x1]) (b := 0) (st := []) (ct_X5_refusalOfHours htw _ _) rfl (by decide) rfl ml_X5_176 ld_X5_refusalOfHours rfl ⟨Nat.le_of_ble_eq_true rfl, Nat.le_of_ble_eq_true rfl⟩ (Nat.le_of_ble_eq_true rfl) ⟨rfl, rfl⟩ ⟨Nat.le_of_ble_eq_true rfl, Nat.le_of_ble_eq_true rfl⟩ (am_dk tk_X5_hour 2 rfl) (am_kki ?_)
  refine am_istore_n (L' := [(2, .int (f_X5_refusalOfHours tw x1 D)), (0, .ref 0), (1, .int x1)]) (am_dk tk_X5_hour 3 rfl) rfl (Nat.le_of_ble_eq_true rfl) rfl ?_
  refine am_iload_n (j := 0) (am_dk tk_X5_hour 4 rfl) rfl rfl ?_
  refine am_if_eq (tgt := 12) (am_dk tk_X5_hour 5 rfl) (by decide) (fun hc7 => ?_) (fun hc7 => ?_)
  · rw [if_pos hc7] at h
    refine am_aload_n (j := 1) (am_dk tk_X5_hour 8 rfl) rfl rfl ?_
    refine ly_getr (b := 25) rfl fl_X5_26 rfl rfl (am_dk tk_X5_hour 9 rfl) ?_
    refine am_aload_n (j := 1) (am_dk tk_X5_hour 10 rfl) rfl rfl ?_
    refine ly_getr (b := tw) rfl fl_X5_10 rfl rfl (am_dk tk_X5_hour 11 rfl) ?_
    refine am_iload_n (j := 2) (am_dk tk_X5_hour 12 rfl) rfl rfl ?_
    obtain ⟨q21, hq21, h⟩ := am_bind h
    refine ly_cV (M := m_X2_passHours) (As := [.ref tw, .int x1]) (b := 25) (st := []) (ct_X2_passHours lyM_25 htw hq21) rfl (by decide) rfl ml_X5_179 ld_X2_passHours rfl ⟨Nat.le_of_ble_eq_true rfl, Nat.le_of_ble_eq_true rfl⟩ (Nat.le_of_ble_eq_true rfl) ⟨rfl, rfl⟩ ⟨Nat.le_of_ble_eq_true rfl, Nat.le_of_ble_eq_true rfl⟩ (am_dk tk_X5_hour 13 rfl) (am_kkv ?_)
    refine am_aload_n (j := 1) (am_dk tk_X5_hour 14 rfl) rfl rfl ?_
    refine ly_getr (b := 25) rfl fl_X5_26 rfl rfl (am_dk tk_X5_hour 15 rfl) ?_
    refine ly_geti rfl fl_X5_125 rfl (am_dk tk_X5_hour 16 rfl) ?_
    exact am_iret rfl (am_r2 h hΦ) ⟨Nat.le_of_ble_eq_true rfl, Nat.le_of_ble_eq_true rfl⟩ (am_dk tk_X5_hour 17 rfl)
  · rw [if_neg hc7] at h
    refine am_iload_n (j := 0) (am_dk tk_X5_hour 6 rfl) rfl rfl ?_
    exact am_iret rfl (am_r2 h hΦ) ⟨Nat.le_of_ble_eq_true rfl, Nat.le_of_ble_eq_true rfl⟩ (am_dk tk_X5_hour 7 rfl)
abbrev m_X5_drift : am_D := (yX5_drift, prog_1_method_12_code, 4, (some .int), { frames := 3, cells := 0, slots := 0, locals := 63 })
theorem ld_X5_drift : am_LD m_X5_drift 1 := ⟨(am_tb 79 (by decide +kernel) (by decide +kernel)), (am_tb 576 (by decide +kernel) (by decide +kernel)), by decide, by decide, by decide +kernel⟩
def tb_X5_drift : List (Nat × Instr × Nat) := [(0, .aload_n 0, 1), (1, .iload_n 1, 1), (2, .invokevirtual 176, 3), (5, .istore_n 2, 1), (6, .iload_n 2, 1), (7, .ifCond .eq 5, 3), (10, .iload_n 2, 1), (11, .ireturn, 1), (12, .iconst 0, 1), (13, .istore_n 3, 1), (14, .iload_n 3, 1), (15, .iload_n 1, 1), (16, .if_icmp .ge 34, 3), (19, .aload_n 0, 1), (20, .getfield 26, 3), (23, .aload_n 0, 1), (24, .getfield 10, 3), (27, .getfield 104, 3), (30, .invokevirtual 183, 3), (33, .aload_n 0, 1), (34, .getfield 26, 3), (37, .aload_n 0, 1), (38, .getfield 10, 3), (41, .invokevirtual 187, 3), (44, .iinc 3 1, 3), (47, .goto (-33), 3), (50, .aload_n 0, 1), (51, .getfield 26, 3), (54, .getfield 125, 3), (57, .ireturn, 1)]
theorem tk_X5_drift : am_tbl prog_1_method_12_code tb_X5_drift = true := by decide +kernel
def b_X5_drift_14 (tw : Nat) : Nat → Int32 → Int32 → am_M → Option (Int32 × am_M)
  | 0, _, _, _ => none
  | n + 1, x1, x3, D => if x1 ≤ x3 then some (D 25 6, D) else (f_X2_wakeByDraw 25 (D tw 3) D).bind fun q30 => (f_X2_passHour 25 tw q30).bind fun q41 => b_X5_drift_14 tw n x1 (x3 + 1) q41
def f_X5_drift (tw : Nat) (x1 : Int32) (D : am_M) : Option (Int32 × am_M) := if (f_X5_refusalOfHours tw x1 D) = 0 then b_X5_drift_14 tw am_N x1 0 D else some (f_X5_refusalOfHours tw x1 D, D)
theorem bx_X5_drift_14 {l : Launch} {h0 : am_H} {Φ : am_Ph} {tw : Nat} {tp : Bool} (htw : lyT tw) {r : Int32} {D' : am_M} (hΦ : Φ (some (.int r)) (ly tw tp D')) : ∀ (n : Nat) (x1 : Int32) (x3 : Int32) (D : am_M), b_X5_drift_14 tw n x1 x3 D = some (r, D') → am_Ex (am_E l m_X5_drift false h0 Φ) prog_1_method_12_code (0, 0) 14 [(0, .ref 0), (1, .int x1), (3, .int x3)] [] (ly tw tp D) := by
  intro n
  induction n with
  | zero =>
    intro x1 x3 D h
    exact absurd h (by simp [b_X5_drift_14])
  | succ n ih =>
    intro x1 x3 D h
    rw [b_X5_drift_14] at h
    refine am_iload_n (j := 2) (am_dk tk_X5_drift 10 rfl) rfl rfl ?_
    refine am_iload_n (j := 1) (am_dk tk_X5_drift 11 rfl) rfl rfl ?_
    refine am_icmp_ge (tgt := 50) (am_dk tk_X5_drift 12 rfl) (by decide) (fun hc16 => ?_) (fun hc16 => ?_)
    · rw [if_pos hc16] at h
      refine am_aload_n (j := 0) (am_dk tk_X5_drift 26 rfl) rfl rfl ?_
      refine ly_getr (b := 25) rfl fl_X5_26 rfl rfl (am_dk tk_X5_drift 27 rfl) ?_
      refine ly_geti rfl fl_X5_125 rfl (am_dk tk_X5_drift 28 rfl) ?_
      exact am_iret rfl (am_r2 h hΦ) ⟨Nat.le_of_ble_eq_true rfl, Nat.le_of_ble_eq_true rfl⟩ (am_dk tk_X5_drift 29 rfl)
    · rw [if_neg hc16] at h
      refine am_aload_n (j := 0) (am_dk tk_X5_drift 13 rfl) rfl rfl ?_
      refine ly_getr (b := 25) rfl fl_X5_26 rfl rfl (am_dk tk_X5_drift 14 rfl) ?_
      refine am_aload_n (j := 0) (am_dk tk_X5_drift 15 rfl) rfl rfl ?_
      refine ly_getr (b := tw) rfl fl_X5_10 rfl rfl (am_dk tk_X5_drift 16 rfl) ?_
      refine ly_geti (lyT_s htw) fl_X5_104 rfl (am_dk tk_X5_drift 17 rfl) ?_
      obtain ⟨q30, hq30, h⟩ := am_bind h
      refine ly_cV (M := m_X2_wakeByDraw) (As := [.int (D tw 3)]) (b := 25) (st := []) (ct_X2_wakeByDraw lyM_25 hq30) rfl (by decide) rfl ml_X5_183 ld_X2_wakeByDraw rfl ⟨Nat.le_of_ble_eq_true rfl, Nat.le_of_ble_eq_true rfl⟩ (Nat.le_of_ble_eq_true rfl) ⟨rfl, rfl⟩ ⟨Nat.le_of_ble_eq_true rfl, Nat.le_of_ble_eq_true rfl⟩ (am_dk tk_X5_drift 18 rfl) (am_kkv ?_)
      refine am_aload_n (j := 0) (am_dk tk_X5_drift 19 rfl) rfl rfl ?_
      refine ly_getr (b := 25) rfl fl_X5_26 rfl rfl (am_dk tk_X5_drift 20 rfl) ?_
      refine am_aload_n (j := 0) (am_dk tk_X5_drift 21 rfl) rfl rfl ?_
      refine ly_getr (b := tw) rfl fl_X5_10 rfl rfl (am_dk tk_X5_drift 22 rfl) ?_
      obtain ⟨q41, hq41, h⟩ := am_bind h
      refine ly_cV (M := m_X2_passHour) (As := [.ref tw]) (b := 25) (st := []) (ct_X2_passHour lyM_25 htw hq41) rfl (by decide) rfl ml_X5_187 ld_X2_passHour rfl ⟨Nat.le_of_ble_eq_true rfl, Nat.le_of_ble_eq_true rfl⟩ (Nat.le_of_ble_eq_true rfl) ⟨rfl, rfl⟩ ⟨Nat.le_of_ble_eq_true rfl, Nat.le_of_ble_eq_true rfl⟩ (am_dk tk_X5_drift 23 rfl) (am_kkv ?_)
      refine am_iinc (j := 2) (v := x3 + 1) (L' := [(3, .int (x3 + 1)), (0, .ref 0), (1, .int x1)]) (am_dk tk_X5_drift 24 rfl) rfl rfl (Nat.le_of_ble_eq_true rfl) rfl ?_
      refine am_goto (tgt := 14) (am_dk tk_X5_drift 25 rfl) (by decide) ?_
      refine am_ls [1, 2, 0] rfl ?_
      exact ih _ _ _ h
theorem ct_X5_drift {l : Launch} {tw : Nat} {tp : Bool} (htw : lyT tw) {x1 : Int32} {r : Int32} {D D' : am_M} (h : f_X5_drift tw x1 D = some (r, D')) : am_CT l m_X5_drift false [.ref 0, .int x1] (ly tw tp D) (am_is (some (.int r)) (ly tw tp D')) := by
  have hΦ : am_is (some (.int r)) (ly tw tp D') (some (.int r)) (ly tw tp D') := ⟨rfl, rfl⟩
  refine am_CT.of (by decide) (Nat.le_of_ble_eq_true rfl) ?_
  show am_Ex _ _ _ 0 [(0, .ref 0), (1, .int x1)] [] _
  rw [f_X5_drift] at h
  refine am_aload_n (j := 0) (am_dk tk_X5_drift 0 rfl) rfl rfl ?_
  refine am_iload_n (j := 1) (am_dk tk_X5_drift 1 rfl) rfl rfl ?_
  refine ly_cV (M := m_X5_refusalOfHours) (As := [.int x1]) (b := 0) (st := []) (ct_X5_refusalOfHours htw _ _) rfl (by decide) rfl ml_X5_176 ld_X5_refusalOfHours rfl ⟨Nat.le_of_ble_eq_true rfl, Nat.le_of_ble_eq_true rfl⟩ (Nat.le_of_ble_eq_true rfl) ⟨rfl, rfl⟩ ⟨Nat.le_of_ble_eq_true rfl, Nat.le_of_ble_eq_true rfl⟩ (am_dk tk_X5_drift 2 rfl) (am_kki ?_)
  refine am_istore_n (L' := [(2, .int (f_X5_refusalOfHours tw x1 D)), (0, .ref 0), (1, .int x1)]) (am_dk tk_X5_drift 3 rfl) rfl (Nat.le_of_ble_eq_true rfl) rfl ?_
  refine am_iload_n (j := 0) (am_dk tk_X5_drift 4 rfl) rfl rfl ?_
  refine am_if_eq (tgt := 12) (am_dk tk_X5_drift 5 rfl) (by decide) (fun hc7 => ?_) (fun hc7 => ?_)
  · rw [if_pos hc7] at h
    refine am_iconst (v := 0) (am_dk tk_X5_drift 8 rfl) (by decide) ?_
    refine am_istore_n (L' := [(3, .int 0), (2, .int (f_X5_refusalOfHours tw x1 D)), (0, .ref 0), (1, .int x1)]) (am_dk tk_X5_drift 9 rfl) rfl (Nat.le_of_ble_eq_true rfl) rfl ?_
    refine am_ls [2, 3, 0] rfl ?_
    exact bx_X5_drift_14 htw hΦ am_N _ _ _ h
  · rw [if_neg hc7] at h
    refine am_iload_n (j := 0) (am_dk tk_X5_drift 6 rfl) rfl rfl ?_
    exact am_iret rfl (am_r2 h hΦ) ⟨Nat.le_of_ble_eq_true rfl, Nat.le_of_ble_eq_true rfl⟩ (am_dk tk_X5_drift 7 rfl)
abbrev m_X5_give : am_D := (yX5_give, prog_1_method_14_code, 4, (some .int), { frames := 2, cells := 0, slots := 0, locals := 43 })
theorem ld_X5_give : am_LD m_X5_give 3 := ⟨(am_tb 79 (by decide +kernel) (by decide +kernel)), (am_tb 593 (by decide +kernel) (by decide +kernel)), by decide, by decide, by decide +kernel⟩
def tb_X5_give : List (Nat × Instr × Nat) := [(0, .aload_n 0, 1), (1, .iload_n 1, 1), (2, .invokevirtual 137, 3), (5, .ifCond .eq 16, 3), (8, .aload_n 0, 1), (9, .iload_n 2, 1), (10, .invokevirtual 137, 3), (13, .ifCond .eq 8, 3), (16, .iload_n 1, 1), (17, .iload_n 2, 1), (18, .if_icmp .ne 6, 3), (21, .ldc 141, 2), (23, .ireturn, 1), (24, .iload_n 3, 1), (25, .iconst 1, 1), (26, .sipush 999, 3), (29, .invokestatic 67, 3), (32, .ifCond .ne 6, 3), (35, .ldc 71, 2), (37, .ireturn, 1), (38, .aload_n 0, 1), (39, .getfield 26, 3), (42, .getfield 145, 3), (45, .iload_n 1, 1), (46, .iaload, 1), (47, .iload_n 3, 1), (48, .if_icmp .ge 6, 3), (51, .ldc 191, 2), (53, .ireturn, 1), (54, .aload_n 0, 1), (55, .getfield 26, 3), (58, .getfield 145, 3), (61, .iload_n 1, 1), (62, .dup2, 1), (63, .iaload, 1), (64, .iload_n 3, 1), (65, .isub, 1), (66, .iastore, 1), (67, .aload_n 0, 1), (68, .getfield 26, 3), (71, .getfield 145, 3), (74, .iload_n 2, 1), (75, .aload_n 0, 1), (76, .getfield 26, 3), (79, .getfield 145, 3), (82, .iload_n 2, 1), (83, .iaload, 1), (84, .iload_n 3, 1), (85, .iadd, 1), (86, .sipush 9999, 3), (89, .invokestatic 193, 3), (92, .iastore, 1), (93, .aload_n 0, 1), (94, .getfield 26, 3), (97, .getfield 145, 3), (100, .iload_n 1, 1), (101, .iaload, 1), (102, .ireturn, 1)]
theorem tk_X5_give : am_tbl prog_1_method_14_code tb_X5_give = true := by decide +kernel
def f_X5_give (tw : Nat) (x1 : Int32) (x2 : Int32) (x3 : Int32) (D : am_M) : Option (Int32 × am_M) := if (f_X5_isPerson tw x1 D) = 0 then some ((-1000000001), D) else if (f_X5_isPerson tw x2 D) = 0 then some ((-1000000001), D) else if x1 = x2 then some ((-1000000001), D) else if (f_X5_isWithin x3 1 999) = 0 then some ((-1000000002), D) else if am_in x1 5 = true then if x3 ≤ (D 28 x1.toNatClampNeg) then if am_in x2 5 = true then some ((am_up (am_up D 28 x1.toNatClampNeg ((D 28 x1.toNatClampNeg) - x3)) 28 x2.toNatClampNeg (am_min (((am_up D 28 x1.toNatClampNeg ((D 28 x1.toNatClampNeg) - x3)) 28 x2.toNatClampNeg) + x3) 9999)) 28 x1.toNatClampNeg, am_up (am_up D 28 x1.toNatClampNeg ((D 28 x1.toNatClampNeg) - x3)) 28 x2.toNatClampNeg (am_min (((am_up D 28 x1.toNatClampNeg ((D 28 x1.toNatClampNeg) - x3)) 28 x2.toNatClampNeg) + x3) 9999)) else none else some ((-1000000003), D) else none
theorem ct_X5_give {l : Launch} {tw : Nat} {tp : Bool} (htw : lyT tw) {x1 : Int32} {x2 : Int32} {x3 : Int32} {r : Int32} {D D' : am_M} (h : f_X5_give tw x1 x2 x3 D = some (r, D')) : am_CT l m_X5_give false [.ref 0, .int x1, .int x2, .int x3] (ly tw tp D) (am_is (some (.int r)) (ly tw tp D')) := by
  have hΦ : am_is (some (.int r)) (ly tw tp D') (some (.int r)) (ly tw tp D') := ⟨rfl, rfl⟩
  refine am_CT.of (by decide) (Nat.le_of_ble_eq_true rfl) ?_
  show am_Ex _ _ _ 0 [(0, .ref 0), (1, .int x1), (2, .int x2), (3, .int x3)] [] _
  rw [f_X5_give] at h
  refine am_aload_n (j := 0) (am_dk tk_X5_give 0 rfl) rfl rfl ?_
  refine am_iload_n (j := 1) (am_dk tk_X5_give 1 rfl) rfl rfl ?_
  refine ly_cV (M := m_X5_isPerson) (As := [.int x1]) (b := 0) (st := []) (ct_X5_isPerson htw _ _) rfl (by decide) rfl ml_X5_137 ld_X5_isPerson rfl ⟨Nat.le_of_ble_eq_true rfl, Nat.le_of_ble_eq_true rfl⟩ (Nat.le_of_ble_eq_true rfl) ⟨rfl, rfl⟩ ⟨Nat.le_of_ble_eq_true rfl, Nat.le_of_ble_eq_true rfl⟩ (am_dk tk_X5_give 2 rfl) (am_kki ?_)
  refine am_if_eq (tgt := 21) (am_dk tk_X5_give 3 rfl) (by decide) (fun hc5 => ?_) (fun hc5 => ?_)
  · rw [if_pos hc5] at h
    refine am_ldc kc_X5_141 (am_dk tk_X5_give 11 rfl) ?_
    exact am_iret rfl (am_r2 h hΦ) ⟨Nat.le_of_ble_eq_true rfl, Nat.le_of_ble_eq_true rfl⟩ (am_dk tk_X5_give 12 rfl)
  · rw [if_neg hc5] at h
    refine am_aload_n (j := 0) (am_dk tk_X5_give 4 rfl) rfl rfl ?_
    refine am_iload_n (j := 2) (am_dk tk_X5_give 5 rfl) rfl rfl ?_
    refine ly_cV (M := m_X5_isPerson) (As := [.int x2]) (b := 0) (st := []) (ct_X5_isPerson htw _ _) rfl (by decide) rfl ml_X5_137 ld_X5_isPerson rfl ⟨Nat.le_of_ble_eq_true rfl, Nat.le_of_ble_eq_true rfl⟩ (Nat.le_of_ble_eq_true rfl) ⟨rfl, rfl⟩ ⟨Nat.le_of_ble_eq_true rfl, Nat.le_of_ble_eq_true rfl⟩ (am_dk tk_X5_give 6 rfl) (am_kki ?_)
    refine am_if_eq (tgt := 21) (am_dk tk_X5_give 7 rfl) (by decide) (fun hc13 => ?_) (fun hc13 => ?_)
    · rw [if_pos hc13] at h
      refine am_ldc kc_X5_141 (am_dk tk_X5_give 11 rfl) ?_
      exact am_iret rfl (am_r2 h hΦ) ⟨Nat.le_of_ble_eq_true rfl, Nat.le_of_ble_eq_true rfl⟩ (am_dk tk_X5_give 12 rfl)
    · rw [if_neg hc13] at h
      refine am_iload_n (j := 1) (am_dk tk_X5_give 8 rfl) rfl rfl ?_
      refine am_iload_n (j := 2) (am_dk tk_X5_give 9 rfl) rfl rfl ?_
      refine am_icmp_ne (tgt := 24) (am_dk tk_X5_give 10 rfl) (by decide) (fun hc18 => ?_) (fun hc18 => ?_)
      · rw [if_neg hc18] at h
        refine am_iload_n (j := 3) (am_dk tk_X5_give 13 rfl) rfl rfl ?_
        refine am_iconst (v := 1) (am_dk tk_X5_give 14 rfl) (by decide) ?_
        refine am_sipush (v := 999) (am_dk tk_X5_give 15 rfl) (by decide) ?_
        refine am_cS (M := m_X5_isWithin) (As := [.int x3, .int 1, .int 999]) (st := []) (ct_X5_isWithin _ _ _ _) ml_X5_67 ld_X5_isWithin rfl ⟨Nat.le_of_ble_eq_true rfl, Nat.le_of_ble_eq_true rfl⟩ (Nat.le_of_ble_eq_true rfl) ⟨rfl, rfl⟩ ⟨Nat.le_of_ble_eq_true rfl, Nat.le_of_ble_eq_true rfl⟩ (am_dk tk_X5_give 16 rfl) (am_kki ?_)
        refine am_if_ne (tgt := 38) (am_dk tk_X5_give 17 rfl) (by decide) (fun hc32 => ?_) (fun hc32 => ?_)
        · rw [if_neg hc32] at h
          refine am_aload_n (j := 0) (am_dk tk_X5_give 20 rfl) rfl rfl ?_
          refine ly_getr (b := 25) rfl fl_X5_26 rfl rfl (am_dk tk_X5_give 21 rfl) ?_
          refine ly_getr (b := 28) rfl fl_X5_145 rfl rfl (am_dk tk_X5_give 22 rfl) ?_
          refine am_iload_n (j := 1) (am_dk tk_X5_give 23 rfl) rfl rfl ?_
          obtain ⟨hi46, h⟩ := am_chk h
          refine ly_iald (k := x1.toNatClampNeg) rfl (am_in_vp hi46) rfl (am_dk tk_X5_give 24 rfl) ?_
          refine am_iload_n (j := 3) (am_dk tk_X5_give 25 rfl) rfl rfl ?_
          refine am_icmp_ge (tgt := 54) (am_dk tk_X5_give 26 rfl) (by decide) (fun hc48 => ?_) (fun hc48 => ?_)
          · rw [if_pos hc48] at h
            refine am_aload_n (j := 0) (am_dk tk_X5_give 29 rfl) rfl rfl ?_
            refine ly_getr (b := 25) rfl fl_X5_26 rfl rfl (am_dk tk_X5_give 30 rfl) ?_
            refine ly_getr (b := 28) rfl fl_X5_145 rfl rfl (am_dk tk_X5_give 31 rfl) ?_
            refine am_iload_n (j := 1) (am_dk tk_X5_give 32 rfl) rfl rfl ?_
            refine am_dup2 (am_dk tk_X5_give 33 rfl) rfl rfl ?_
            refine ly_iald (k := x1.toNatClampNeg) rfl (am_in_vp hi46) rfl (am_dk tk_X5_give 34 rfl) ?_
            refine am_iload_n (j := 3) (am_dk tk_X5_give 35 rfl) rfl rfl ?_
            refine am_isub (am_dk tk_X5_give 36 rfl) ?_
            refine ly_iast (k := x1.toNatClampNeg) rfl (am_in_vp hi46) rfl (am_dk tk_X5_give 37 rfl) ?_
            refine am_aload_n (j := 0) (am_dk tk_X5_give 38 rfl) rfl rfl ?_
            refine ly_getr (b := 25) rfl fl_X5_26 rfl rfl (am_dk tk_X5_give 39 rfl) ?_
            refine ly_getr (b := 28) rfl fl_X5_145 rfl rfl (am_dk tk_X5_give 40 rfl) ?_
            refine am_iload_n (j := 2) (am_dk tk_X5_give 41 rfl) rfl rfl ?_
            refine am_aload_n (j := 0) (am_dk tk_X5_give 42 rfl) rfl rfl ?_
            refine ly_getr (b := 25) rfl fl_X5_26 rfl rfl (am_dk tk_X5_give 43 rfl) ?_
            refine ly_getr (b := 28) rfl fl_X5_145 rfl rfl (am_dk tk_X5_give 44 rfl) ?_
            refine am_iload_n (j := 2) (am_dk tk_X5_give 45 rfl) rfl rfl ?_
            obtain ⟨hi83, h⟩ := am_chk h
            refine ly_iald (k := x2.toNatClampNeg) rfl (am_in_vp hi83) rfl (am_dk tk_X5_give 46 rfl) ?_
            refine am_iload_n (j := 3) (am_dk tk_X5_give 47 rfl) rfl rfl ?_
            refine am_iadd (am_dk tk_X5_give 48 rfl) ?_
            refine am_sipush (v := 9999) (am_dk tk_X5_give 49 rfl) (by decide) ?_
            refine am_mmin lm_X5_193 (Nat.le_of_ble_eq_true rfl) (Nat.le_of_ble_eq_true rfl) ⟨Nat.le_of_ble_eq_true rfl, Nat.le_of_ble_eq_true rfl⟩ (am_dk tk_X5_give 50 rfl) ?_
            refine ly_iast (k := x2.toNatClampNeg) rfl (am_in_vp hi83) rfl (am_dk tk_X5_give 51 rfl) ?_
            refine am_aload_n (j := 0) (am_dk tk_X5_give 52 rfl) rfl rfl ?_
            refine ly_getr (b := 25) rfl fl_X5_26 rfl rfl (am_dk tk_X5_give 53 rfl) ?_
            refine ly_getr (b := 28) rfl fl_X5_145 rfl rfl (am_dk tk_X5_give 54 rfl) ?_
            refine am_iload_n (j := 1) (am_dk tk_X5_give 55 rfl) rfl rfl ?_
            refine ly_iald (k := x1.toNatClampNeg) rfl (am_in_vp hi46) rfl (am_dk tk_X5_give 56 rfl) ?_
            exact am_iret rfl (am_r2 h hΦ) ⟨Nat.le_of_ble_eq_true rfl, Nat.le_of_ble_eq_true rfl⟩ (am_dk tk_X5_give 57 rfl)
          · rw [if_neg hc48] at h
            refine am_ldc kc_X5_191 (am_dk tk_X5_give 27 rfl) ?_
            exact am_iret rfl (am_r2 h hΦ) ⟨Nat.le_of_ble_eq_true rfl, Nat.le_of_ble_eq_true rfl⟩ (am_dk tk_X5_give 28 rfl)
        · rw [if_pos hc32] at h
          refine am_ldc kc_X5_71 (am_dk tk_X5_give 18 rfl) ?_
          exact am_iret rfl (am_r2 h hΦ) ⟨Nat.le_of_ble_eq_true rfl, Nat.le_of_ble_eq_true rfl⟩ (am_dk tk_X5_give 19 rfl)
      · rw [if_pos hc18] at h
        refine am_ldc kc_X5_141 (am_dk tk_X5_give 11 rfl) ?_
        exact am_iret rfl (am_r2 h hΦ) ⟨Nat.le_of_ble_eq_true rfl, Nat.le_of_ble_eq_true rfl⟩ (am_dk tk_X5_give 12 rfl)
abbrev m_X5_change : am_D := (yX5_change, prog_1_method_15_code, 5, (some .int), { frames := 2, cells := 0, slots := 0, locals := 43 })
theorem ld_X5_change : am_LD m_X5_change 3 := ⟨(am_tb 79 (by decide +kernel) (by decide +kernel)), (am_tb 598 (by decide +kernel) (by decide +kernel)), by decide, by decide, by decide +kernel⟩
def tb_X5_change : List (Nat × Instr × Nat) := [(0, .aload_n 0, 1), (1, .iload_n 1, 1), (2, .invokevirtual 137, 3), (5, .ifCond .ne 6, 3), (8, .ldc 141, 2), (10, .ireturn, 1), (11, .iload_n 2, 1), (12, .iconst 0, 1), (13, .bipush 23, 2), (15, .invokestatic 67, 3), (18, .ifCond .eq 12, 3), (21, .iload_n 3, 1), (22, .iconst 0, 1), (23, .iconst 2, 1), (24, .invokestatic 67, 3), (27, .ifCond .ne 6, 3), (30, .ldc 71, 2), (32, .ireturn, 1), (33, .aload_n 0, 1), (34, .getfield 26, 3), (37, .getfield 154, 3), (40, .iload_n 1, 1), (41, .bipush 24, 2), (43, .imul, 1), (44, .iload_n 2, 1), (45, .iadd, 1), (46, .iaload, 1), (47, .istore 4, 2), (49, .aload_n 0, 1), (50, .getfield 26, 3), (53, .getfield 154, 3), (56, .iload_n 1, 1), (57, .bipush 24, 2), (59, .imul, 1), (60, .iload_n 2, 1), (61, .iadd, 1), (62, .iload_n 3, 1), (63, .iastore, 1), (64, .iload 4, 2), (66, .ireturn, 1)]
theorem tk_X5_change : am_tbl prog_1_method_15_code tb_X5_change = true := by decide +kernel
def f_X5_change (tw : Nat) (x1 : Int32) (x2 : Int32) (x3 : Int32) (D : am_M) : Option (Int32 × am_M) := if (f_X5_isPerson tw x1 D) = 0 then some ((-1000000001), D) else if (f_X5_isWithin x2 0 23) = 0 then some ((-1000000002), D) else if (f_X5_isWithin x3 0 2) = 0 then some ((-1000000002), D) else if am_in ((x1 * 24) + x2) 120 = true then some (D 29 ((x1 * 24) + x2).toNatClampNeg, am_up D 29 ((x1 * 24) + x2).toNatClampNeg x3) else none
theorem ct_X5_change {l : Launch} {tw : Nat} {tp : Bool} (htw : lyT tw) {x1 : Int32} {x2 : Int32} {x3 : Int32} {r : Int32} {D D' : am_M} (h : f_X5_change tw x1 x2 x3 D = some (r, D')) : am_CT l m_X5_change false [.ref 0, .int x1, .int x2, .int x3] (ly tw tp D) (am_is (some (.int r)) (ly tw tp D')) := by
  have hΦ : am_is (some (.int r)) (ly tw tp D') (some (.int r)) (ly tw tp D') := ⟨rfl, rfl⟩
  refine am_CT.of (by decide) (Nat.le_of_ble_eq_true rfl) ?_
  show am_Ex _ _ _ 0 [(0, .ref 0), (1, .int x1), (2, .int x2), (3, .int x3)] [] _
  rw [f_X5_change] at h
  refine am_aload_n (j := 0) (am_dk tk_X5_change 0 rfl) rfl rfl ?_
  refine am_iload_n (j := 1) (am_dk tk_X5_change 1 rfl) rfl rfl ?_
  refine ly_cV (M := m_X5_isPerson) (As := [.int x1]) (b := 0) (st := []) (ct_X5_isPerson htw _ _) rfl (by decide) rfl ml_X5_137 ld_X5_isPerson rfl ⟨Nat.le_of_ble_eq_true rfl, Nat.le_of_ble_eq_true rfl⟩ (Nat.le_of_ble_eq_true rfl) ⟨rfl, rfl⟩ ⟨Nat.le_of_ble_eq_true rfl, Nat.le_of_ble_eq_true rfl⟩ (am_dk tk_X5_change 2 rfl) (am_kki ?_)
  refine am_if_ne (tgt := 11) (am_dk tk_X5_change 3 rfl) (by decide) (fun hc5 => ?_) (fun hc5 => ?_)
  · rw [if_neg hc5] at h
    refine am_iload_n (j := 2) (am_dk tk_X5_change 6 rfl) rfl rfl ?_
    refine am_iconst (v := 0) (am_dk tk_X5_change 7 rfl) (by decide) ?_
    refine am_bipush (v := 23) (am_dk tk_X5_change 8 rfl) (by decide) ?_
    refine am_cS (M := m_X5_isWithin) (As := [.int x2, .int 0, .int 23]) (st := []) (ct_X5_isWithin _ _ _ _) ml_X5_67 ld_X5_isWithin rfl ⟨Nat.le_of_ble_eq_true rfl, Nat.le_of_ble_eq_true rfl⟩ (Nat.le_of_ble_eq_true rfl) ⟨rfl, rfl⟩ ⟨Nat.le_of_ble_eq_true rfl, Nat.le_of_ble_eq_true rfl⟩ (am_dk tk_X5_change 9 rfl) (am_kki ?_)
    refine am_if_eq (tgt := 30) (am_dk tk_X5_change 10 rfl) (by decide) (fun hc18 => ?_) (fun hc18 => ?_)
    · rw [if_pos hc18] at h
      refine am_ldc kc_X5_71 (am_dk tk_X5_change 16 rfl) ?_
      exact am_iret rfl (am_r2 h hΦ) ⟨Nat.le_of_ble_eq_true rfl, Nat.le_of_ble_eq_true rfl⟩ (am_dk tk_X5_change 17 rfl)
    · rw [if_neg hc18] at h
      refine am_iload_n (j := 3) (am_dk tk_X5_change 11 rfl) rfl rfl ?_
      refine am_iconst (v := 0) (am_dk tk_X5_change 12 rfl) (by decide) ?_
      refine am_iconst (v := 2) (am_dk tk_X5_change 13 rfl) (by decide) ?_
      refine am_cS (M := m_X5_isWithin) (As := [.int x3, .int 0, .int 2]) (st := []) (ct_X5_isWithin _ _ _ _) ml_X5_67 ld_X5_isWithin rfl ⟨Nat.le_of_ble_eq_true rfl, Nat.le_of_ble_eq_true rfl⟩ (Nat.le_of_ble_eq_true rfl) ⟨rfl, rfl⟩ ⟨Nat.le_of_ble_eq_true rfl, Nat.le_of_ble_eq_true rfl⟩ (am_dk tk_X5_change 14 rfl) (am_kki ?_)
      refine am_if_ne (tgt := 33) (am_dk tk_X5_change 15 rfl) (by decide) (fun hc27 => ?_) (fun hc27 => ?_)
      · rw [if_neg hc27] at h
        refine am_aload_n (j := 0) (am_dk tk_X5_change 18 rfl) rfl rfl ?_
        refine ly_getr (b := 25) rfl fl_X5_26 rfl rfl (am_dk tk_X5_change 19 rfl) ?_
        refine ly_getr (b := 29) rfl fl_X5_154 rfl rfl (am_dk tk_X5_change 20 rfl) ?_
        refine am_iload_n (j := 1) (am_dk tk_X5_change 21 rfl) rfl rfl ?_
        refine am_bipush (v := 24) (am_dk tk_X5_change 22 rfl) (by decide) ?_
        refine am_imul (am_dk tk_X5_change 23 rfl) ?_
        refine am_iload_n (j := 2) (am_dk tk_X5_change 24 rfl) rfl rfl ?_
        refine am_iadd (am_dk tk_X5_change 25 rfl) ?_
        obtain ⟨hi46, h⟩ := am_chk h
        refine ly_iald (k := ((x1 * 24) + x2).toNatClampNeg) rfl (am_in_vp hi46) rfl (am_dk tk_X5_change 26 rfl) ?_
        refine am_istore (L' := [(4, .int (D 29 ((x1 * 24) + x2).toNatClampNeg)), (0, .ref 0), (1, .int x1), (2, .int x2), (3, .int x3)]) (am_dk tk_X5_change 27 rfl) (Nat.le_of_ble_eq_true rfl) rfl ?_
        refine am_aload_n (j := 1) (am_dk tk_X5_change 28 rfl) rfl rfl ?_
        refine ly_getr (b := 25) rfl fl_X5_26 rfl rfl (am_dk tk_X5_change 29 rfl) ?_
        refine ly_getr (b := 29) rfl fl_X5_154 rfl rfl (am_dk tk_X5_change 30 rfl) ?_
        refine am_iload_n (j := 2) (am_dk tk_X5_change 31 rfl) rfl rfl ?_
        refine am_bipush (v := 24) (am_dk tk_X5_change 32 rfl) (by decide) ?_
        refine am_imul (am_dk tk_X5_change 33 rfl) ?_
        refine am_iload_n (j := 3) (am_dk tk_X5_change 34 rfl) rfl rfl ?_
        refine am_iadd (am_dk tk_X5_change 35 rfl) ?_
        refine am_iload_n (j := 4) (am_dk tk_X5_change 36 rfl) rfl rfl ?_
        refine ly_iast (k := ((x1 * 24) + x2).toNatClampNeg) rfl (am_in_vp hi46) rfl (am_dk tk_X5_change 37 rfl) ?_
        refine am_iload (j := 0) (am_dk tk_X5_change 38 rfl) rfl ?_
        exact am_iret rfl (am_r2 h hΦ) ⟨Nat.le_of_ble_eq_true rfl, Nat.le_of_ble_eq_true rfl⟩ (am_dk tk_X5_change 39 rfl)
      · rw [if_pos hc27] at h
        refine am_ldc kc_X5_71 (am_dk tk_X5_change 16 rfl) ?_
        exact am_iret rfl (am_r2 h hΦ) ⟨Nat.le_of_ble_eq_true rfl, Nat.le_of_ble_eq_true rfl⟩ (am_dk tk_X5_change 17 rfl)
  · rw [if_pos hc5] at h
    refine am_ldc kc_X5_141 (am_dk tk_X5_change 4 rfl) ?_
    exact am_iret rfl (am_r2 h hΦ) ⟨Nat.le_of_ble_eq_true rfl, Nat.le_of_ble_eq_true rfl⟩ (am_dk tk_X5_change 5 rfl)
abbrev m_X5_firstShort : am_D := (yX5_firstShort, prog_1_method_16_code, 5, (some .int), { frames := 3, cells := 0, slots := 0, locals := 63 })
theorem ld_X5_firstShort : am_LD m_X5_firstShort 1 := ⟨(am_tb 79 (by decide +kernel) (by decide +kernel)), (am_tb 602 (by decide +kernel) (by decide +kernel)), by decide, by decide, by decide +kernel⟩
def tb_X5_firstShort : List (Nat × Instr × Nat) := [(0, .iload_n 1, 1), (1, .iconst 0, 1), (2, .iconst 1, 1), (3, .invokestatic 67, 3), (6, .ifCond .ne 6, 3), (9, .ldc 71, 2), (11, .ireturn, 1), (12, .aload_n 0, 1), (13, .getfield 30, 3), (16, .aload_n 0, 1), (17, .getfield 26, 3), (20, .invokevirtual 96, 3), (23, .iconst 0, 1), (24, .istore_n 2, 1), (25, .iload_n 2, 1), (26, .bipush 80, 2), (28, .if_icmp .ge 80, 3), (31, .aload_n 0, 1), (32, .getfield 30, 3), (35, .getfield 125, 3), (38, .bipush 71, 2), (40, .if_icmp .gt 68, 3), (43, .aload_n 0, 1), (44, .getfield 30, 3), (47, .getfield 131, 3), (50, .istore_n 3, 1), (51, .aload_n 0, 1), (52, .getfield 30, 3), (55, .aload_n 0, 1), (56, .getfield 10, 3), (59, .invokevirtual 187, 3), (62, .aload_n 0, 1), (63, .getfield 30, 3), (66, .getfield 131, 3), (69, .iload_n 3, 1), (70, .iconst (-1), 1), (71, .ixor, 1), (72, .iand, 1), (73, .istore 4, 2), (75, .iload 4, 2), (77, .ifCond .eq 25, 3), (80, .iload_n 1, 1), (81, .ifCond .ne 11, 3), (84, .iload 4, 2), (86, .invokestatic 199, 3), (89, .goto 12, 3), (92, .aload_n 0, 1), (93, .getfield 30, 3), (96, .getfield 125, 3), (99, .iconst 1, 1), (100, .isub, 1), (101, .ireturn, 1), (102, .iinc 2 1, 3), (105, .goto (-80), 3), (108, .iconst (-1), 1), (109, .ireturn, 1)]
theorem tk_X5_firstShort : am_tbl prog_1_method_16_code tb_X5_firstShort = true := by decide +kernel
def b_X5_firstShort_25 (tw : Nat) : Nat → Int32 → Int32 → am_M → Option (Int32 × am_M)
  | 0, _, _, _ => none
  | n + 1, x1, x2, D => if 80 ≤ x2 then some ((-1), D) else if 71 < (D 30 6) then some ((-1), D) else (f_X2_passHour 30 tw D).bind fun q59 => if ((q59 30 5) &&& ((D 30 5) ^^^ (-1))) = 0 then b_X5_firstShort_25 tw n x1 (x2 + 1) q59 else if x1 = 0 then (f_X5_leastOf ((q59 30 5) &&& ((D 30 5) ^^^ (-1))) q59).bind fun q86 => some (q86.1, q86.2) else some ((q59 30 6) - 1, q59)
def f_X5_firstShort (tw : Nat) (x1 : Int32) (D : am_M) : Option (Int32 × am_M) := if (f_X5_isWithin x1 0 1) = 0 then some ((-1000000002), D) else (f_X2_copyFrom 30 25 D).bind fun q20 => b_X5_firstShort_25 tw am_N x1 0 q20
theorem bx_X5_firstShort_25 {l : Launch} {h0 : am_H} {Φ : am_Ph} {tw : Nat} {tp : Bool} (htw : lyT tw) {r : Int32} {D' : am_M} (hΦ : Φ (some (.int r)) (ly tw tp D')) : ∀ (n : Nat) (x1 : Int32) (x2 : Int32) (D : am_M), b_X5_firstShort_25 tw n x1 x2 D = some (r, D') → am_Ex (am_E l m_X5_firstShort false h0 Φ) prog_1_method_16_code (0, 0) 25 [(0, .ref 0), (1, .int x1), (2, .int x2)] [] (ly tw tp D) := by
  intro n
  induction n with
  | zero =>
    intro x1 x2 D h
    exact absurd h (by simp [b_X5_firstShort_25])
  | succ n ih =>
    intro x1 x2 D h
    rw [b_X5_firstShort_25] at h
    refine am_iload_n (j := 2) (am_dk tk_X5_firstShort 14 rfl) rfl rfl ?_
    refine am_bipush (v := 80) (am_dk tk_X5_firstShort 15 rfl) (by decide) ?_
    refine am_icmp_ge (tgt := 108) (am_dk tk_X5_firstShort 16 rfl) (by decide) (fun hc28 => ?_) (fun hc28 => ?_)
    · rw [if_pos hc28] at h
      refine am_iconst (v := (-1)) (am_dk tk_X5_firstShort 54 rfl) (by decide) ?_
      exact am_iret rfl (am_r2 h hΦ) ⟨Nat.le_of_ble_eq_true rfl, Nat.le_of_ble_eq_true rfl⟩ (am_dk tk_X5_firstShort 55 rfl)
    · rw [if_neg hc28] at h
      refine am_aload_n (j := 0) (am_dk tk_X5_firstShort 17 rfl) rfl rfl ?_
      refine ly_getr (b := 30) rfl fl_X5_30 rfl rfl (am_dk tk_X5_firstShort 18 rfl) ?_
      refine ly_geti rfl fl_X5_125 rfl (am_dk tk_X5_firstShort 19 rfl) ?_
      refine am_bipush (v := 71) (am_dk tk_X5_firstShort 20 rfl) (by decide) ?_
      refine am_icmp_gt (tgt := 108) (am_dk tk_X5_firstShort 21 rfl) (by decide) (fun hc40 => ?_) (fun hc40 => ?_)
      · rw [if_pos hc40] at h
        refine am_iconst (v := (-1)) (am_dk tk_X5_firstShort 54 rfl) (by decide) ?_
        exact am_iret rfl (am_r2 h hΦ) ⟨Nat.le_of_ble_eq_true rfl, Nat.le_of_ble_eq_true rfl⟩ (am_dk tk_X5_firstShort 55 rfl)
      · rw [if_neg hc40] at h
        refine am_aload_n (j := 0) (am_dk tk_X5_firstShort 22 rfl) rfl rfl ?_
        refine ly_getr (b := 30) rfl fl_X5_30 rfl rfl (am_dk tk_X5_firstShort 23 rfl) ?_
        refine ly_geti rfl fl_X5_131 rfl (am_dk tk_X5_firstShort 24 rfl) ?_
        refine am_istore_n (L' := [(3, .int (D 30 5)), (0, .ref 0), (1, .int x1), (2, .int x2)]) (am_dk tk_X5_firstShort 25 rfl) rfl (Nat.le_of_ble_eq_true rfl) rfl ?_
        refine am_aload_n (j := 1) (am_dk tk_X5_firstShort 26 rfl) rfl rfl ?_
        refine ly_getr (b := 30) rfl fl_X5_30 rfl rfl (am_dk tk_X5_firstShort 27 rfl) ?_
        refine am_aload_n (j := 1) (am_dk tk_X5_firstShort 28 rfl) rfl rfl ?_
        refine ly_getr (b := tw) rfl fl_X5_10 rfl rfl (am_dk tk_X5_firstShort 29 rfl) ?_
        obtain ⟨q59, hq59, h⟩ := am_bind h
        refine ly_cV (M := m_X2_passHour) (As := [.ref tw]) (b := 30) (st := []) (ct_X2_passHour lyM_30 htw hq59) rfl (by decide) rfl ml_X5_187 ld_X2_passHour rfl ⟨Nat.le_of_ble_eq_true rfl, Nat.le_of_ble_eq_true rfl⟩ (Nat.le_of_ble_eq_true rfl) ⟨rfl, rfl⟩ ⟨Nat.le_of_ble_eq_true rfl, Nat.le_of_ble_eq_true rfl⟩ (am_dk tk_X5_firstShort 30 rfl) (am_kkv ?_)
        refine am_aload_n (j := 1) (am_dk tk_X5_firstShort 31 rfl) rfl rfl ?_
        refine ly_getr (b := 30) rfl fl_X5_30 rfl rfl (am_dk tk_X5_firstShort 32 rfl) ?_
        refine ly_geti rfl fl_X5_131 rfl (am_dk tk_X5_firstShort 33 rfl) ?_
        refine am_iload_n (j := 0) (am_dk tk_X5_firstShort 34 rfl) rfl rfl ?_
        refine am_iconst (v := (-1)) (am_dk tk_X5_firstShort 35 rfl) (by decide) ?_
        refine am_ixor (am_dk tk_X5_firstShort 36 rfl) ?_
        refine am_iand (am_dk tk_X5_firstShort 37 rfl) ?_
        refine am_istore (L' := [(4, .int ((q59 30 5) &&& ((D 30 5) ^^^ (-1)))), (3, .int (D 30 5)), (0, .ref 0), (1, .int x1), (2, .int x2)]) (am_dk tk_X5_firstShort 38 rfl) (Nat.le_of_ble_eq_true rfl) rfl ?_
        refine am_iload (j := 0) (am_dk tk_X5_firstShort 39 rfl) rfl ?_
        refine am_if_eq (tgt := 102) (am_dk tk_X5_firstShort 40 rfl) (by decide) (fun hc77 => ?_) (fun hc77 => ?_)
        · rw [if_pos hc77] at h
          refine am_iinc (j := 4) (v := x2 + 1) (L' := [(2, .int (x2 + 1)), (4, .int ((q59 30 5) &&& ((D 30 5) ^^^ (-1)))), (3, .int (D 30 5)), (0, .ref 0), (1, .int x1)]) (am_dk tk_X5_firstShort 52 rfl) rfl rfl (Nat.le_of_ble_eq_true rfl) rfl ?_
          refine am_goto (tgt := 25) (am_dk tk_X5_firstShort 53 rfl) (by decide) ?_
          refine am_ls [3, 4, 0] rfl ?_
          exact ih _ _ _ h
        · rw [if_neg hc77] at h
          refine am_iload_n (j := 3) (am_dk tk_X5_firstShort 41 rfl) rfl rfl ?_
          refine am_if_ne (tgt := 92) (am_dk tk_X5_firstShort 42 rfl) (by decide) (fun hc81 => ?_) (fun hc81 => ?_)
          · rw [if_neg hc81] at h
            refine am_aload_n (j := 2) (am_dk tk_X5_firstShort 46 rfl) rfl rfl ?_
            refine ly_getr (b := 30) rfl fl_X5_30 rfl rfl (am_dk tk_X5_firstShort 47 rfl) ?_
            refine ly_geti rfl fl_X5_125 rfl (am_dk tk_X5_firstShort 48 rfl) ?_
            refine am_iconst (v := 1) (am_dk tk_X5_firstShort 49 rfl) (by decide) ?_
            refine am_isub (am_dk tk_X5_firstShort 50 rfl) ?_
            exact am_iret rfl (am_r2 h hΦ) ⟨Nat.le_of_ble_eq_true rfl, Nat.le_of_ble_eq_true rfl⟩ (am_dk tk_X5_firstShort 51 rfl)
          · rw [if_pos hc81] at h
            refine am_iload (j := 0) (am_dk tk_X5_firstShort 43 rfl) rfl ?_
            obtain ⟨q86, hq86, h⟩ := am_bind h
            refine am_cS (M := m_X5_leastOf) (As := [.int ((q59 30 5) &&& ((D 30 5) ^^^ (-1)))]) (st := []) (ct_X5_leastOf hq86) ml_X5_199 ld_X5_leastOf rfl ⟨Nat.le_of_ble_eq_true rfl, Nat.le_of_ble_eq_true rfl⟩ (Nat.le_of_ble_eq_true rfl) ⟨rfl, rfl⟩ ⟨Nat.le_of_ble_eq_true rfl, Nat.le_of_ble_eq_true rfl⟩ (am_dk tk_X5_firstShort 44 rfl) (am_kki ?_)
            refine am_goto (tgt := 101) (am_dk tk_X5_firstShort 45 rfl) (by decide) ?_
            exact am_iret rfl (am_r2 h hΦ) ⟨Nat.le_of_ble_eq_true rfl, Nat.le_of_ble_eq_true rfl⟩ (am_dk tk_X5_firstShort 51 rfl)
theorem ct_X5_firstShort {l : Launch} {tw : Nat} {tp : Bool} (htw : lyT tw) {x1 : Int32} {r : Int32} {D D' : am_M} (h : f_X5_firstShort tw x1 D = some (r, D')) : am_CT l m_X5_firstShort false [.ref 0, .int x1] (ly tw tp D) (am_is (some (.int r)) (ly tw tp D')) := by
  have hΦ : am_is (some (.int r)) (ly tw tp D') (some (.int r)) (ly tw tp D') := ⟨rfl, rfl⟩
  refine am_CT.of (by decide) (Nat.le_of_ble_eq_true rfl) ?_
  show am_Ex _ _ _ 0 [(0, .ref 0), (1, .int x1)] [] _
  rw [f_X5_firstShort] at h
  refine am_iload_n (j := 1) (am_dk tk_X5_firstShort 0 rfl) rfl rfl ?_
  refine am_iconst (v := 0) (am_dk tk_X5_firstShort 1 rfl) (by decide) ?_
  refine am_iconst (v := 1) (am_dk tk_X5_firstShort 2 rfl) (by decide) ?_
  refine am_cS (M := m_X5_isWithin) (As := [.int x1, .int 0, .int 1]) (st := []) (ct_X5_isWithin _ _ _ _) ml_X5_67 ld_X5_isWithin rfl ⟨Nat.le_of_ble_eq_true rfl, Nat.le_of_ble_eq_true rfl⟩ (Nat.le_of_ble_eq_true rfl) ⟨rfl, rfl⟩ ⟨Nat.le_of_ble_eq_true rfl, Nat.le_of_ble_eq_true rfl⟩ (am_dk tk_X5_firstShort 3 rfl) (am_kki ?_)
  refine am_if_ne (tgt := 12) (am_dk tk_X5_firstShort 4 rfl) (by decide) (fun hc6 => ?_) (fun hc6 => ?_)
  · rw [if_neg hc6] at h
    refine am_aload_n (j := 0) (am_dk tk_X5_firstShort 7 rfl) rfl rfl ?_
    refine ly_getr (b := 30) rfl fl_X5_30 rfl rfl (am_dk tk_X5_firstShort 8 rfl) ?_
    refine am_aload_n (j := 0) (am_dk tk_X5_firstShort 9 rfl) rfl rfl ?_
    refine ly_getr (b := 25) rfl fl_X5_26 rfl rfl (am_dk tk_X5_firstShort 10 rfl) ?_
    obtain ⟨q20, hq20, h⟩ := am_bind h
    refine ly_cV (M := m_X2_copyFrom) (As := [.ref 25]) (b := 30) (st := []) (ct_X2_copyFrom lyM_30 lyM_25 hq20) rfl (by decide) rfl ml_X5_96 ld_X2_copyFrom rfl ⟨Nat.le_of_ble_eq_true rfl, Nat.le_of_ble_eq_true rfl⟩ (Nat.le_of_ble_eq_true rfl) ⟨rfl, rfl⟩ ⟨Nat.le_of_ble_eq_true rfl, Nat.le_of_ble_eq_true rfl⟩ (am_dk tk_X5_firstShort 11 rfl) (am_kkv ?_)
    refine am_iconst (v := 0) (am_dk tk_X5_firstShort 12 rfl) (by decide) ?_
    refine am_istore_n (L' := [(2, .int 0), (0, .ref 0), (1, .int x1)]) (am_dk tk_X5_firstShort 13 rfl) rfl (Nat.le_of_ble_eq_true rfl) rfl ?_
    refine am_ls [1, 2, 0] rfl ?_
    exact bx_X5_firstShort_25 htw hΦ am_N _ _ _ h
  · rw [if_pos hc6] at h
    refine am_ldc kc_X5_71 (am_dk tk_X5_firstShort 5 rfl) ?_
    exact am_iret rfl (am_r2 h hΦ) ⟨Nat.le_of_ble_eq_true rfl, Nat.le_of_ble_eq_true rfl⟩ (am_dk tk_X5_firstShort 6 rfl)
abbrev m_X5_richest : am_D := (yX5_richest, prog_1_method_17_code, 5, (some .int), { frames := 4, cells := 0, slots := 0, locals := 86 })
theorem ld_X5_richest : am_LD m_X5_richest 2 := ⟨(am_tb 79 (by decide +kernel) (by decide +kernel)), (am_tb 609 (by decide +kernel) (by decide +kernel)), by decide, by decide, by decide +kernel⟩
def tb_X5_richest : List (Nat × Instr × Nat) := [(0, .iload_n 1, 1), (1, .iconst 0, 1), (2, .sipush 200, 3), (5, .invokestatic 67, 3), (8, .ifCond .eq 12, 3), (11, .iload_n 2, 1), (12, .iconst 0, 1), (13, .iconst 1, 1), (14, .invokestatic 67, 3), (17, .ifCond .ne 6, 3), (20, .ldc 71, 2), (22, .ireturn, 1), (23, .aload_n 0, 1), (24, .getfield 10, 3), (27, .getfield 104, 3), (30, .ifCond .ne 5, 3), (33, .iconst (-1), 1), (34, .ireturn, 1), (35, .aload_n 0, 1), (36, .getfield 30, 3), (39, .aload_n 0, 1), (40, .getfield 26, 3), (43, .invokevirtual 96, 3), (46, .aload_n 0, 1), (47, .getfield 30, 3), (50, .aload_n 0, 1), (51, .getfield 10, 3), (54, .iload_n 1, 1), (55, .invokevirtual 179, 3), (58, .iconst 0, 1), (59, .istore_n 3, 1), (60, .iconst 1, 1), (61, .istore 4, 2), (63, .iload 4, 2), (65, .aload_n 0, 1), (66, .getfield 10, 3), (69, .getfield 104, 3), (72, .if_icmp .ge 34, 3), (75, .aload_n 0, 1), (76, .getfield 30, 3), (79, .getfield 145, 3), (82, .iload 4, 2), (84, .iaload, 1), (85, .aload_n 0, 1), (86, .getfield 30, 3), (89, .getfield 145, 3), (92, .iload_n 3, 1), (93, .iaload, 1), (94, .if_icmp .le 6, 3), (97, .iload 4, 2), (99, .istore_n 3, 1), (100, .iinc 4 1, 3), (103, .goto (-40), 3), (106, .iload_n 2, 1), (107, .ifCond .ne 7, 3), (110, .iload_n 3, 1), (111, .goto 12, 3), (114, .aload_n 0, 1), (115, .getfield 30, 3), (118, .getfield 145, 3)]
theorem tk_X5_richest : am_tbl prog_1_method_17_code tb_X5_richest = true := by decide +kernel
def tb_X5_richest_1 : List (Nat × Instr × Nat) := [(121, .iload_n 3, 1), (122, .iaload, 1), (123, .ireturn, 1)]
theorem tk_X5_richest_1 : am_tbl prog_1_method_17_code tb_X5_richest_1 = true := by decide +kernel
def b_X5_richest_63 (tw : Nat) : Nat → Int32 → Int32 → Int32 → am_M → Option (Int32 × am_M)
  | 0, _, _, _, _ => none
  | n + 1, x2, x3, x4, D => if (D tw 3) ≤ x4 then if x2 = 0 then some (x3, D) else if am_in x3 5 = true then some (D 33 x3.toNatClampNeg, D) else none else if am_in x4 5 = true then if am_in x3 5 = true then b_X5_richest_63 tw n x2 (if (D 33 x4.toNatClampNeg) ≤ (D 33 x3.toNatClampNeg) then x3 else x4) (x4 + 1) D else none else none
def f_X5_richest (tw : Nat) (x1 : Int32) (x2 : Int32) (D : am_M) : Option (Int32 × am_M) := if (f_X5_isWithin x1 0 200) = 0 then some ((-1000000002), D) else if (f_X5_isWithin x2 0 1) = 0 then some ((-1000000002), D) else if (D tw 3) = 0 then some ((-1), D) else (f_X2_copyFrom 30 25 D).bind fun q43 => (f_X2_passHours 30 tw x1 q43).bind fun q55 => b_X5_richest_63 tw am_N x2 0 1 q55
theorem bx_X5_richest_63 {l : Launch} {h0 : am_H} {Φ : am_Ph} {tw : Nat} {tp : Bool} (htw : lyT tw) {r : Int32} {D' : am_M} (hΦ : Φ (some (.int r)) (ly tw tp D')) : ∀ (n : Nat) (x2 : Int32) (x3 : Int32) (x4 : Int32) (D : am_M), b_X5_richest_63 tw n x2 x3 x4 D = some (r, D') → am_Ex (am_E l m_X5_richest false h0 Φ) prog_1_method_17_code (0, 0) 63 [(0, .ref 0), (2, .int x2), (3, .int x3), (4, .int x4)] [] (ly tw tp D) := by
  intro n
  induction n with
  | zero =>
    intro x2 x3 x4 D h
    exact absurd h (by simp [b_X5_richest_63])
  | succ n ih =>
    intro x2 x3 x4 D h
    rw [b_X5_richest_63] at h
    refine am_iload (j := 3) (am_dk tk_X5_richest 33 rfl) rfl ?_
    refine am_aload_n (j := 0) (am_dk tk_X5_richest 34 rfl) rfl rfl ?_
    refine ly_getr (b := tw) rfl fl_X5_10 rfl rfl (am_dk tk_X5_richest 35 rfl) ?_
    refine ly_geti (lyT_s htw) fl_X5_104 rfl (am_dk tk_X5_richest 36 rfl) ?_
    refine am_icmp_ge (tgt := 106) (am_dk tk_X5_richest 37 rfl) (by decide) (fun hc72 => ?_) (fun hc72 => ?_)
    · rw [if_pos hc72] at h
      refine am_iload_n (j := 1) (am_dk tk_X5_richest 53 rfl) rfl rfl ?_
      refine am_if_ne (tgt := 114) (am_dk tk_X5_richest 54 rfl) (by decide) (fun hc107 => ?_) (fun hc107 => ?_)
      · rw [if_neg hc107] at h
        refine am_aload_n (j := 0) (am_dk tk_X5_richest 57 rfl) rfl rfl ?_
        refine ly_getr (b := 30) rfl fl_X5_30 rfl rfl (am_dk tk_X5_richest 58 rfl) ?_
        refine ly_getr (b := 33) rfl fl_X5_145 rfl rfl (am_dk tk_X5_richest 59 rfl) ?_
        refine am_iload_n (j := 2) (am_dk tk_X5_richest_1 0 rfl) rfl rfl ?_
        obtain ⟨hi122, h⟩ := am_chk h
        refine ly_iald (k := x3.toNatClampNeg) rfl (am_in_vp hi122) rfl (am_dk tk_X5_richest_1 1 rfl) ?_
        exact am_iret rfl (am_r2 h hΦ) ⟨Nat.le_of_ble_eq_true rfl, Nat.le_of_ble_eq_true rfl⟩ (am_dk tk_X5_richest_1 2 rfl)
      · rw [if_pos hc107] at h
        refine am_iload_n (j := 2) (am_dk tk_X5_richest 55 rfl) rfl rfl ?_
        refine am_goto (tgt := 123) (am_dk tk_X5_richest 56 rfl) (by decide) ?_
        exact am_iret rfl (am_r2 h hΦ) ⟨Nat.le_of_ble_eq_true rfl, Nat.le_of_ble_eq_true rfl⟩ (am_dk tk_X5_richest_1 2 rfl)
    · rw [if_neg hc72] at h
      refine am_aload_n (j := 0) (am_dk tk_X5_richest 38 rfl) rfl rfl ?_
      refine ly_getr (b := 30) rfl fl_X5_30 rfl rfl (am_dk tk_X5_richest 39 rfl) ?_
      refine ly_getr (b := 33) rfl fl_X5_145 rfl rfl (am_dk tk_X5_richest 40 rfl) ?_
      refine am_iload (j := 3) (am_dk tk_X5_richest 41 rfl) rfl ?_
      obtain ⟨hi84, h⟩ := am_chk h
      refine ly_iald (k := x4.toNatClampNeg) rfl (am_in_vp hi84) rfl (am_dk tk_X5_richest 42 rfl) ?_
      refine am_aload_n (j := 0) (am_dk tk_X5_richest 43 rfl) rfl rfl ?_
      refine ly_getr (b := 30) rfl fl_X5_30 rfl rfl (am_dk tk_X5_richest 44 rfl) ?_
      refine ly_getr (b := 33) rfl fl_X5_145 rfl rfl (am_dk tk_X5_richest 45 rfl) ?_
      refine am_iload_n (j := 2) (am_dk tk_X5_richest 46 rfl) rfl rfl ?_
      obtain ⟨hi93, h⟩ := am_chk h
      refine ly_iald (k := x3.toNatClampNeg) rfl (am_in_vp hi93) rfl (am_dk tk_X5_richest 47 rfl) ?_
      refine am_icmp_le (tgt := 100) (am_dk tk_X5_richest 48 rfl) (by decide) (fun hc94 => ?_) (fun hc94 => ?_)
      · simp only [if_pos hc94] at h
        refine am_iinc (j := 3) (v := x4 + 1) (L' := [(4, .int (x4 + 1)), (0, .ref 0), (2, .int x2), (3, .int x3)]) (am_dk tk_X5_richest 51 rfl) rfl rfl (Nat.le_of_ble_eq_true rfl) rfl ?_
        refine am_goto (tgt := 63) (am_dk tk_X5_richest 52 rfl) (by decide) ?_
        refine am_ls [1, 2, 3, 0] rfl ?_
        exact ih _ _ _ _ h
      · simp only [if_neg hc94] at h
        refine am_iload (j := 3) (am_dk tk_X5_richest 49 rfl) rfl ?_
        refine am_istore_n (L' := [(3, .int x4), (0, .ref 0), (2, .int x2), (4, .int x4)]) (am_dk tk_X5_richest 50 rfl) rfl (Nat.le_of_ble_eq_true rfl) rfl ?_
        refine am_iinc (j := 3) (v := x4 + 1) (L' := [(4, .int (x4 + 1)), (3, .int x4), (0, .ref 0), (2, .int x2)]) (am_dk tk_X5_richest 51 rfl) rfl rfl (Nat.le_of_ble_eq_true rfl) rfl ?_
        refine am_goto (tgt := 63) (am_dk tk_X5_richest 52 rfl) (by decide) ?_
        refine am_ls [2, 3, 1, 0] rfl ?_
        exact ih _ _ _ _ h
theorem ct_X5_richest {l : Launch} {tw : Nat} {tp : Bool} (htw : lyT tw) {x1 : Int32} {x2 : Int32} {r : Int32} {D D' : am_M} (h : f_X5_richest tw x1 x2 D = some (r, D')) : am_CT l m_X5_richest false [.ref 0, .int x1, .int x2] (ly tw tp D) (am_is (some (.int r)) (ly tw tp D')) := by
  have hΦ : am_is (some (.int r)) (ly tw tp D') (some (.int r)) (ly tw tp D') := ⟨rfl, rfl⟩
  refine am_CT.of (by decide) (Nat.le_of_ble_eq_true rfl) ?_
  show am_Ex _ _ _ 0 [(0, .ref 0), (1, .int x1), (2, .int x2)] [] _
  rw [f_X5_richest] at h
  refine am_iload_n (j := 1) (am_dk tk_X5_richest 0 rfl) rfl rfl ?_
  refine am_iconst (v := 0) (am_dk tk_X5_richest 1 rfl) (by decide) ?_
  refine am_sipush (v := 200) (am_dk tk_X5_richest 2 rfl) (by decide) ?_
  refine am_cS (M := m_X5_isWithin) (As := [.int x1, .int 0, .int 200]) (st := []) (ct_X5_isWithin _ _ _ _) ml_X5_67 ld_X5_isWithin rfl ⟨Nat.le_of_ble_eq_true rfl, Nat.le_of_ble_eq_true rfl⟩ (Nat.le_of_ble_eq_true rfl) ⟨rfl, rfl⟩ ⟨Nat.le_of_ble_eq_true rfl, Nat.le_of_ble_eq_true rfl⟩ (am_dk tk_X5_richest 3 rfl) (am_kki ?_)
  refine am_if_eq (tgt := 20) (am_dk tk_X5_richest 4 rfl) (by decide) (fun hc8 => ?_) (fun hc8 => ?_)
  · rw [if_pos hc8] at h
    refine am_ldc kc_X5_71 (am_dk tk_X5_richest 10 rfl) ?_
    exact am_iret rfl (am_r2 h hΦ) ⟨Nat.le_of_ble_eq_true rfl, Nat.le_of_ble_eq_true rfl⟩ (am_dk tk_X5_richest 11 rfl)
  · rw [if_neg hc8] at h
    refine am_iload_n (j := 2) (am_dk tk_X5_richest 5 rfl) rfl rfl ?_
    refine am_iconst (v := 0) (am_dk tk_X5_richest 6 rfl) (by decide) ?_
    refine am_iconst (v := 1) (am_dk tk_X5_richest 7 rfl) (by decide) ?_
    refine am_cS (M := m_X5_isWithin) (As := [.int x2, .int 0, .int 1]) (st := []) (ct_X5_isWithin _ _ _ _) ml_X5_67 ld_X5_isWithin rfl ⟨Nat.le_of_ble_eq_true rfl, Nat.le_of_ble_eq_true rfl⟩ (Nat.le_of_ble_eq_true rfl) ⟨rfl, rfl⟩ ⟨Nat.le_of_ble_eq_true rfl, Nat.le_of_ble_eq_true rfl⟩ (am_dk tk_X5_richest 8 rfl) (am_kki ?_)
    refine am_if_ne (tgt := 23) (am_dk tk_X5_richest 9 rfl) (by decide) (fun hc17 => ?_) (fun hc17 => ?_)
    · rw [if_neg hc17] at h
      refine am_aload_n (j := 0) (am_dk tk_X5_richest 12 rfl) rfl rfl ?_
      refine ly_getr (b := tw) rfl fl_X5_10 rfl rfl (am_dk tk_X5_richest 13 rfl) ?_
      refine ly_geti (lyT_s htw) fl_X5_104 rfl (am_dk tk_X5_richest 14 rfl) ?_
      refine am_if_ne (tgt := 35) (am_dk tk_X5_richest 15 rfl) (by decide) (fun hc30 => ?_) (fun hc30 => ?_)
      · rw [if_neg hc30] at h
        refine am_aload_n (j := 0) (am_dk tk_X5_richest 18 rfl) rfl rfl ?_
        refine ly_getr (b := 30) rfl fl_X5_30 rfl rfl (am_dk tk_X5_richest 19 rfl) ?_
        refine am_aload_n (j := 0) (am_dk tk_X5_richest 20 rfl) rfl rfl ?_
        refine ly_getr (b := 25) rfl fl_X5_26 rfl rfl (am_dk tk_X5_richest 21 rfl) ?_
        obtain ⟨q43, hq43, h⟩ := am_bind h
        refine ly_cV (M := m_X2_copyFrom) (As := [.ref 25]) (b := 30) (st := []) (ct_X2_copyFrom lyM_30 lyM_25 hq43) rfl (by decide) rfl ml_X5_96 ld_X2_copyFrom rfl ⟨Nat.le_of_ble_eq_true rfl, Nat.le_of_ble_eq_true rfl⟩ (Nat.le_of_ble_eq_true rfl) ⟨rfl, rfl⟩ ⟨Nat.le_of_ble_eq_true rfl, Nat.le_of_ble_eq_true rfl⟩ (am_dk tk_X5_richest 22 rfl) (am_kkv ?_)
        refine am_aload_n (j := 0) (am_dk tk_X5_richest 23 rfl) rfl rfl ?_
        refine ly_getr (b := 30) rfl fl_X5_30 rfl rfl (am_dk tk_X5_richest 24 rfl) ?_
        refine am_aload_n (j := 0) (am_dk tk_X5_richest 25 rfl) rfl rfl ?_
        refine ly_getr (b := tw) rfl fl_X5_10 rfl rfl (am_dk tk_X5_richest 26 rfl) ?_
        refine am_iload_n (j := 1) (am_dk tk_X5_richest 27 rfl) rfl rfl ?_
        obtain ⟨q55, hq55, h⟩ := am_bind h
        refine ly_cV (M := m_X2_passHours) (As := [.ref tw, .int x1]) (b := 30) (st := []) (ct_X2_passHours lyM_30 htw hq55) rfl (by decide) rfl ml_X5_179 ld_X2_passHours rfl ⟨Nat.le_of_ble_eq_true rfl, Nat.le_of_ble_eq_true rfl⟩ (Nat.le_of_ble_eq_true rfl) ⟨rfl, rfl⟩ ⟨Nat.le_of_ble_eq_true rfl, Nat.le_of_ble_eq_true rfl⟩ (am_dk tk_X5_richest 28 rfl) (am_kkv ?_)
        refine am_iconst (v := 0) (am_dk tk_X5_richest 29 rfl) (by decide) ?_
        refine am_istore_n (L' := [(3, .int 0), (0, .ref 0), (1, .int x1), (2, .int x2)]) (am_dk tk_X5_richest 30 rfl) rfl (Nat.le_of_ble_eq_true rfl) rfl ?_
        refine am_iconst (v := 1) (am_dk tk_X5_richest 31 rfl) (by decide) ?_
        refine am_istore (L' := [(4, .int 1), (3, .int 0), (0, .ref 0), (1, .int x1), (2, .int x2)]) (am_dk tk_X5_richest 32 rfl) (Nat.le_of_ble_eq_true rfl) rfl ?_
        refine am_ls [2, 4, 1, 0] rfl ?_
        exact bx_X5_richest_63 htw hΦ am_N _ _ _ _ h
      · rw [if_pos hc30] at h
        refine am_iconst (v := (-1)) (am_dk tk_X5_richest 16 rfl) (by decide) ?_
        exact am_iret rfl (am_r2 h hΦ) ⟨Nat.le_of_ble_eq_true rfl, Nat.le_of_ble_eq_true rfl⟩ (am_dk tk_X5_richest 17 rfl)
    · rw [if_pos hc17] at h
      refine am_ldc kc_X5_71 (am_dk tk_X5_richest 10 rfl) ?_
      exact am_iret rfl (am_r2 h hΦ) ⟨Nat.le_of_ble_eq_true rfl, Nat.le_of_ble_eq_true rfl⟩ (am_dk tk_X5_richest 11 rfl)
abbrev m_X5_shift : am_D := (yX5_shift, prog_1_method_19_code, 4, (some .int), { frames := 2, cells := 0, slots := 0, locals := 43 })
theorem ld_X5_shift : am_LD m_X5_shift 2 := ⟨(am_tb 79 (by decide +kernel) (by decide +kernel)), (am_tb 728 (by decide +kernel) (by decide +kernel)), by decide, by decide, by decide +kernel⟩
def tb_X5_shift : List (Nat × Instr × Nat) := [(0, .aload_n 0, 1), (1, .iload_n 2, 1), (2, .invokevirtual 137, 3), (5, .ifCond .ne 6, 3), (8, .ldc 141, 2), (10, .ireturn, 1), (11, .iload_n 1, 1), (12, .iconst 1, 1), (13, .bipush 12, 2), (15, .invokestatic 67, 3), (18, .ifCond .ne 6, 3), (21, .ldc 71, 2), (23, .ireturn, 1), (24, .aload_n 0, 1), (25, .getfield 10, 3), (28, .getfield 110, 3), (31, .iconst 1, 1), (32, .if_icmp .ge 5, 3), (35, .iconst (-1), 1), (36, .ireturn, 1), (37, .aload_n 0, 1), (38, .getfield 10, 3), (41, .getfield 104, 3), (44, .iconst 1, 1), (45, .isub, 1), (46, .aload_n 0, 1), (47, .getfield 10, 3), (50, .getfield 110, 3), (53, .idiv, 1), (54, .istore_n 3, 1), (55, .iload_n 3, 1), (56, .iconst 1, 1), (57, .iadd, 1), (58, .iload_n 1, 1), (59, .imul, 1), (60, .bipush 24, 2), (62, .if_icmp .le 5, 3), (65, .iconst (-1), 1), (66, .ireturn, 1), (67, .iload_n 2, 1), (68, .aload_n 0, 1), (69, .getfield 10, 3), (72, .getfield 110, 3), (75, .idiv, 1), (76, .iload_n 1, 1), (77, .imul, 1), (78, .ireturn, 1)]
theorem tk_X5_shift : am_tbl prog_1_method_19_code tb_X5_shift = true := by decide +kernel
def f_X5_shift (tw : Nat) (x1 : Int32) (x2 : Int32) (D : am_M) : Option (Int32 × am_M) := if (f_X5_isPerson tw x2 D) = 0 then some ((-1000000001), D) else if (f_X5_isWithin x1 1 12) = 0 then some ((-1000000002), D) else if 1 ≤ (D tw 0) then if (D tw 0) = 0 then none else if (((((D tw 3) - 1) / (D tw 0)) + 1) * x1) ≤ 24 then some ((x2 / (D tw 0)) * x1, D) else some ((-1), D) else some ((-1), D)
theorem ct_X5_shift {l : Launch} {tw : Nat} {tp : Bool} (htw : lyT tw) {x1 : Int32} {x2 : Int32} {r : Int32} {D D' : am_M} (h : f_X5_shift tw x1 x2 D = some (r, D')) : am_CT l m_X5_shift false [.ref 0, .int x1, .int x2] (ly tw tp D) (am_is (some (.int r)) (ly tw tp D')) := by
  have hΦ : am_is (some (.int r)) (ly tw tp D') (some (.int r)) (ly tw tp D') := ⟨rfl, rfl⟩
  refine am_CT.of (by decide) (Nat.le_of_ble_eq_true rfl) ?_
  show am_Ex _ _ _ 0 [(0, .ref 0), (1, .int x1), (2, .int x2)] [] _
  rw [f_X5_shift] at h
  refine am_aload_n (j := 0) (am_dk tk_X5_shift 0 rfl) rfl rfl ?_
  refine am_iload_n (j := 2) (am_dk tk_X5_shift 1 rfl) rfl rfl ?_
  refine ly_cV (M := m_X5_isPerson) (As := [.int x2]) (b := 0) (st := []) (ct_X5_isPerson htw _ _) rfl (by decide) rfl ml_X5_137 ld_X5_isPerson rfl ⟨Nat.le_of_ble_eq_true rfl, Nat.le_of_ble_eq_true rfl⟩ (Nat.le_of_ble_eq_true rfl) ⟨rfl, rfl⟩ ⟨Nat.le_of_ble_eq_true rfl, Nat.le_of_ble_eq_true rfl⟩ (am_dk tk_X5_shift 2 rfl) (am_kki ?_)
  refine am_if_ne (tgt := 11) (am_dk tk_X5_shift 3 rfl) (by decide) (fun hc5 => ?_) (fun hc5 => ?_)
  · rw [if_neg hc5] at h
    refine am_iload_n (j := 1) (am_dk tk_X5_shift 6 rfl) rfl rfl ?_
    refine am_iconst (v := 1) (am_dk tk_X5_shift 7 rfl) (by decide) ?_
    refine am_bipush (v := 12) (am_dk tk_X5_shift 8 rfl) (by decide) ?_
    refine am_cS (M := m_X5_isWithin) (As := [.int x1, .int 1, .int 12]) (st := []) (ct_X5_isWithin _ _ _ _) ml_X5_67 ld_X5_isWithin rfl ⟨Nat.le_of_ble_eq_true rfl, Nat.le_of_ble_eq_true rfl⟩ (Nat.le_of_ble_eq_true rfl) ⟨rfl, rfl⟩ ⟨Nat.le_of_ble_eq_true rfl, Nat.le_of_ble_eq_true rfl⟩ (am_dk tk_X5_shift 9 rfl) (am_kki ?_)
    refine am_if_ne (tgt := 24) (am_dk tk_X5_shift 10 rfl) (by decide) (fun hc18 => ?_) (fun hc18 => ?_)
    · rw [if_neg hc18] at h
      refine am_aload_n (j := 0) (am_dk tk_X5_shift 13 rfl) rfl rfl ?_
      refine ly_getr (b := tw) rfl fl_X5_10 rfl rfl (am_dk tk_X5_shift 14 rfl) ?_
      refine ly_geti (lyT_s htw) fl_X5_110 rfl (am_dk tk_X5_shift 15 rfl) ?_
      refine am_iconst (v := 1) (am_dk tk_X5_shift 16 rfl) (by decide) ?_
      refine am_icmp_ge (tgt := 37) (am_dk tk_X5_shift 17 rfl) (by decide) (fun hc32 => ?_) (fun hc32 => ?_)
      · rw [if_pos hc32] at h
        refine am_aload_n (j := 0) (am_dk tk_X5_shift 20 rfl) rfl rfl ?_
        refine ly_getr (b := tw) rfl fl_X5_10 rfl rfl (am_dk tk_X5_shift 21 rfl) ?_
        refine ly_geti (lyT_s htw) fl_X5_104 rfl (am_dk tk_X5_shift 22 rfl) ?_
        refine am_iconst (v := 1) (am_dk tk_X5_shift 23 rfl) (by decide) ?_
        refine am_isub (am_dk tk_X5_shift 24 rfl) ?_
        refine am_aload_n (j := 0) (am_dk tk_X5_shift 25 rfl) rfl rfl ?_
        refine ly_getr (b := tw) rfl fl_X5_10 rfl rfl (am_dk tk_X5_shift 26 rfl) ?_
        refine ly_geti (lyT_s htw) fl_X5_110 rfl (am_dk tk_X5_shift 27 rfl) ?_
        obtain ⟨hz53, h⟩ := am_chn h
        refine am_idiv (am_dk tk_X5_shift 28 rfl) hz53 ?_
        refine am_istore_n (L' := [(3, .int (((D tw 3) - 1) / (D tw 0))), (0, .ref 0), (1, .int x1), (2, .int x2)]) (am_dk tk_X5_shift 29 rfl) rfl (Nat.le_of_ble_eq_true rfl) rfl ?_
        refine am_iload_n (j := 0) (am_dk tk_X5_shift 30 rfl) rfl rfl ?_
        refine am_iconst (v := 1) (am_dk tk_X5_shift 31 rfl) (by decide) ?_
        refine am_iadd (am_dk tk_X5_shift 32 rfl) ?_
        refine am_iload_n (j := 2) (am_dk tk_X5_shift 33 rfl) rfl rfl ?_
        refine am_imul (am_dk tk_X5_shift 34 rfl) ?_
        refine am_bipush (v := 24) (am_dk tk_X5_shift 35 rfl) (by decide) ?_
        refine am_icmp_le (tgt := 67) (am_dk tk_X5_shift 36 rfl) (by decide) (fun hc62 => ?_) (fun hc62 => ?_)
        · rw [if_pos hc62] at h
          refine am_iload_n (j := 3) (am_dk tk_X5_shift 39 rfl) rfl rfl ?_
          refine am_aload_n (j := 1) (am_dk tk_X5_shift 40 rfl) rfl rfl ?_
          refine ly_getr (b := tw) rfl fl_X5_10 rfl rfl (am_dk tk_X5_shift 41 rfl) ?_
          refine ly_geti (lyT_s htw) fl_X5_110 rfl (am_dk tk_X5_shift 42 rfl) ?_
          refine am_idiv (am_dk tk_X5_shift 43 rfl) hz53 ?_
          refine am_iload_n (j := 2) (am_dk tk_X5_shift 44 rfl) rfl rfl ?_
          refine am_imul (am_dk tk_X5_shift 45 rfl) ?_
          exact am_iret rfl (am_r2 h hΦ) ⟨Nat.le_of_ble_eq_true rfl, Nat.le_of_ble_eq_true rfl⟩ (am_dk tk_X5_shift 46 rfl)
        · rw [if_neg hc62] at h
          refine am_iconst (v := (-1)) (am_dk tk_X5_shift 37 rfl) (by decide) ?_
          exact am_iret rfl (am_r2 h hΦ) ⟨Nat.le_of_ble_eq_true rfl, Nat.le_of_ble_eq_true rfl⟩ (am_dk tk_X5_shift 38 rfl)
      · rw [if_neg hc32] at h
        refine am_iconst (v := (-1)) (am_dk tk_X5_shift 18 rfl) (by decide) ?_
        exact am_iret rfl (am_r2 h hΦ) ⟨Nat.le_of_ble_eq_true rfl, Nat.le_of_ble_eq_true rfl⟩ (am_dk tk_X5_shift 19 rfl)
    · rw [if_pos hc18] at h
      refine am_ldc kc_X5_71 (am_dk tk_X5_shift 11 rfl) ?_
      exact am_iret rfl (am_r2 h hΦ) ⟨Nat.le_of_ble_eq_true rfl, Nat.le_of_ble_eq_true rfl⟩ (am_dk tk_X5_shift 12 rfl)
  · rw [if_pos hc5] at h
    refine am_ldc kc_X5_141 (am_dk tk_X5_shift 4 rfl) ?_
    exact am_iret rfl (am_r2 h hΦ) ⟨Nat.le_of_ble_eq_true rfl, Nat.le_of_ble_eq_true rfl⟩ (am_dk tk_X5_shift 5 rfl)
abbrev m_X5_coins : am_D := (yX5_coins, prog_1_method_20_code, 3, (some .int), { frames := 3, cells := 0, slots := 0, locals := 60 })
theorem ld_X5_coins : am_LD m_X5_coins 2 := ⟨(am_tb 79 (by decide +kernel) (by decide +kernel)), (am_tb 732 (by decide +kernel) (by decide +kernel)), by decide, by decide, by decide +kernel⟩
def tb_X5_coins : List (Nat × Instr × Nat) := [(0, .iload_n 1, 1), (1, .iconst 0, 1), (2, .sipush 200, 3), (5, .invokestatic 67, 3), (8, .ifCond .ne 6, 3), (11, .ldc 71, 2), (13, .ireturn, 1), (14, .iload_n 2, 1), (15, .iconst (-1), 1), (16, .if_icmp .eq 16, 3), (19, .iload_n 2, 1), (20, .iconst 1, 1), (21, .bipush 60, 2), (23, .invokestatic 67, 3), (26, .ifCond .ne 6, 3), (29, .ldc 71, 2), (31, .ireturn, 1), (32, .aload_n 0, 1), (33, .getfield 53, 3), (36, .aload_n 0, 1), (37, .getfield 10, 3), (40, .invokevirtual 212, 3), (43, .iload_n 2, 1), (44, .iconst (-1), 1), (45, .if_icmp .ne 15, 3), (48, .aload_n 0, 1), (49, .getfield 53, 3), (52, .getfield 215, 3), (55, .iload_n 1, 1), (56, .iaload, 1), (57, .goto 12, 3), (60, .aload_n 0, 1), (61, .getfield 53, 3), (64, .iload_n 2, 1), (65, .iload_n 1, 1), (66, .invokevirtual 218, 3), (69, .ireturn, 1)]
theorem tk_X5_coins : am_tbl prog_1_method_20_code tb_X5_coins = true := by decide +kernel
def b_X5_coins_32 (tw : Nat) (x1 : Int32) (x2 : Int32) (D : am_M) : Option (Int32 × am_M) := (f_X0_prepare tw D).bind fun q40 => if x2 = (-1) then if am_in x1 201 = true then some (q40 52 x1.toNatClampNeg, q40) else none else (f_X0_countOf x2 x1 q40).bind fun q66 => some (q66.1, q66.2)
def f_X5_coins (tw : Nat) (x1 : Int32) (x2 : Int32) (D : am_M) : Option (Int32 × am_M) := if (f_X5_isWithin x1 0 200) = 0 then some ((-1000000002), D) else if x2 = (-1) then b_X5_coins_32 tw x1 x2 D else if (f_X5_isWithin x2 1 60) = 0 then some ((-1000000002), D) else b_X5_coins_32 tw x1 x2 D
theorem bx_X5_coins_32 {l : Launch} {h0 : am_H} {Φ : am_Ph} {tw : Nat} {tp : Bool} (htw : lyT tw) {r : Int32} {D' : am_M} (hΦ : Φ (some (.int r)) (ly tw tp D')) : ∀ (x1 : Int32) (x2 : Int32) (D : am_M), b_X5_coins_32 tw x1 x2 D = some (r, D') → am_Ex (am_E l m_X5_coins false h0 Φ) prog_1_method_20_code (0, 0) 32 [(0, .ref 0), (1, .int x1), (2, .int x2)] [] (ly tw tp D) := by
  intro x1 x2 D h
  rw [b_X5_coins_32] at h
  refine am_aload_n (j := 0) (am_dk tk_X5_coins 17 rfl) rfl rfl ?_
  refine ly_getr (b := 50) rfl fl_X5_53 rfl rfl (am_dk tk_X5_coins 18 rfl) ?_
  refine am_aload_n (j := 0) (am_dk tk_X5_coins 19 rfl) rfl rfl ?_
  refine ly_getr (b := tw) rfl fl_X5_10 rfl rfl (am_dk tk_X5_coins 20 rfl) ?_
  obtain ⟨q40, hq40, h⟩ := am_bind h
  refine ly_cV (M := m_X0_prepare) (As := [.ref tw]) (b := 50) (st := []) (ct_X0_prepare htw hq40) rfl (by decide) rfl ml_X5_212 ld_X0_prepare rfl ⟨Nat.le_of_ble_eq_true rfl, Nat.le_of_ble_eq_true rfl⟩ (Nat.le_of_ble_eq_true rfl) ⟨rfl, rfl⟩ ⟨Nat.le_of_ble_eq_true rfl, Nat.le_of_ble_eq_true rfl⟩ (am_dk tk_X5_coins 21 rfl) (am_kkv ?_)
  refine am_iload_n (j := 2) (am_dk tk_X5_coins 22 rfl) rfl rfl ?_
  refine am_iconst (v := (-1)) (am_dk tk_X5_coins 23 rfl) (by decide) ?_
  refine am_icmp_ne (tgt := 60) (am_dk tk_X5_coins 24 rfl) (by decide) (fun hc45 => ?_) (fun hc45 => ?_)
  · rw [if_neg hc45] at h
    refine am_aload_n (j := 0) (am_dk tk_X5_coins 31 rfl) rfl rfl ?_
    refine ly_getr (b := 50) rfl fl_X5_53 rfl rfl (am_dk tk_X5_coins 32 rfl) ?_
    refine am_iload_n (j := 2) (am_dk tk_X5_coins 33 rfl) rfl rfl ?_
    refine am_iload_n (j := 1) (am_dk tk_X5_coins 34 rfl) rfl rfl ?_
    obtain ⟨q66, hq66, h⟩ := am_bind h
    refine ly_cV (M := m_X0_countOf) (As := [.int x2, .int x1]) (b := 50) (st := []) (ct_X0_countOf hq66) rfl (by decide) rfl ml_X5_218 ld_X0_countOf rfl ⟨Nat.le_of_ble_eq_true rfl, Nat.le_of_ble_eq_true rfl⟩ (Nat.le_of_ble_eq_true rfl) ⟨rfl, rfl⟩ ⟨Nat.le_of_ble_eq_true rfl, Nat.le_of_ble_eq_true rfl⟩ (am_dk tk_X5_coins 35 rfl) (am_kki ?_)
    exact am_iret rfl (am_r2 h hΦ) ⟨Nat.le_of_ble_eq_true rfl, Nat.le_of_ble_eq_true rfl⟩ (am_dk tk_X5_coins 36 rfl)
  · rw [if_pos hc45] at h
    refine am_aload_n (j := 0) (am_dk tk_X5_coins 25 rfl) rfl rfl ?_
    refine ly_getr (b := 50) rfl fl_X5_53 rfl rfl (am_dk tk_X5_coins 26 rfl) ?_
    refine ly_getr (b := 52) rfl fl_X5_215 rfl rfl (am_dk tk_X5_coins 27 rfl) ?_
    refine am_iload_n (j := 1) (am_dk tk_X5_coins 28 rfl) rfl rfl ?_
    obtain ⟨hi56, h⟩ := am_chk h
    refine ly_iald (k := x1.toNatClampNeg) rfl (am_in_vp hi56) rfl (am_dk tk_X5_coins 29 rfl) ?_
    refine am_goto (tgt := 69) (am_dk tk_X5_coins 30 rfl) (by decide) ?_
    exact am_iret rfl (am_r2 h hΦ) ⟨Nat.le_of_ble_eq_true rfl, Nat.le_of_ble_eq_true rfl⟩ (am_dk tk_X5_coins 36 rfl)
theorem ct_X5_coins {l : Launch} {tw : Nat} {tp : Bool} (htw : lyT tw) {x1 : Int32} {x2 : Int32} {r : Int32} {D D' : am_M} (h : f_X5_coins tw x1 x2 D = some (r, D')) : am_CT l m_X5_coins false [.ref 0, .int x1, .int x2] (ly tw tp D) (am_is (some (.int r)) (ly tw tp D')) := by
  have hΦ : am_is (some (.int r)) (ly tw tp D') (some (.int r)) (ly tw tp D') := ⟨rfl, rfl⟩
  refine am_CT.of (by decide) (Nat.le_of_ble_eq_true rfl) ?_
  show am_Ex _ _ _ 0 [(0, .ref 0), (1, .int x1), (2, .int x2)] [] _
  rw [f_X5_coins] at h
  refine am_iload_n (j := 1) (am_dk tk_X5_coins 0 rfl) rfl rfl ?_
  refine am_iconst (v := 0) (am_dk tk_X5_coins 1 rfl) (by decide) ?_
  refine am_sipush (v := 200) (am_dk tk_X5_coins 2 rfl) (by decide) ?_
  refine am_cS (M := m_X5_isWithin) (As := [.int x1, .int 0, .int 200]) (st := []) (ct_X5_isWithin _ _ _ _) ml_X5_67 ld_X5_isWithin rfl ⟨Nat.le_of_ble_eq_true rfl, Nat.le_of_ble_eq_true rfl⟩ (Nat.le_of_ble_eq_true rfl) ⟨rfl, rfl⟩ ⟨Nat.le_of_ble_eq_true rfl, Nat.le_of_ble_eq_true rfl⟩ (am_dk tk_X5_coins 3 rfl) (am_kki ?_)
  refine am_if_ne (tgt := 14) (am_dk tk_X5_coins 4 rfl) (by decide) (fun hc8 => ?_) (fun hc8 => ?_)
  · rw [if_neg hc8] at h
    refine am_iload_n (j := 2) (am_dk tk_X5_coins 7 rfl) rfl rfl ?_
    refine am_iconst (v := (-1)) (am_dk tk_X5_coins 8 rfl) (by decide) ?_
    refine am_icmp_eq (tgt := 32) (am_dk tk_X5_coins 9 rfl) (by decide) (fun hc16 => ?_) (fun hc16 => ?_)
    · rw [if_pos hc16] at h
      exact bx_X5_coins_32 htw hΦ _ _ _ h
    · rw [if_neg hc16] at h
      refine am_iload_n (j := 2) (am_dk tk_X5_coins 10 rfl) rfl rfl ?_
      refine am_iconst (v := 1) (am_dk tk_X5_coins 11 rfl) (by decide) ?_
      refine am_bipush (v := 60) (am_dk tk_X5_coins 12 rfl) (by decide) ?_
      refine am_cS (M := m_X5_isWithin) (As := [.int x2, .int 1, .int 60]) (st := []) (ct_X5_isWithin _ _ _ _) ml_X5_67 ld_X5_isWithin rfl ⟨Nat.le_of_ble_eq_true rfl, Nat.le_of_ble_eq_true rfl⟩ (Nat.le_of_ble_eq_true rfl) ⟨rfl, rfl⟩ ⟨Nat.le_of_ble_eq_true rfl, Nat.le_of_ble_eq_true rfl⟩ (am_dk tk_X5_coins 13 rfl) (am_kki ?_)
      refine am_if_ne (tgt := 32) (am_dk tk_X5_coins 14 rfl) (by decide) (fun hc26 => ?_) (fun hc26 => ?_)
      · rw [if_neg hc26] at h
        exact bx_X5_coins_32 htw hΦ _ _ _ h
      · rw [if_pos hc26] at h
        refine am_ldc kc_X5_71 (am_dk tk_X5_coins 15 rfl) ?_
        exact am_iret rfl (am_r2 h hΦ) ⟨Nat.le_of_ble_eq_true rfl, Nat.le_of_ble_eq_true rfl⟩ (am_dk tk_X5_coins 16 rfl)
  · rw [if_pos hc8] at h
    refine am_ldc kc_X5_71 (am_dk tk_X5_coins 5 rfl) ?_
    exact am_iret rfl (am_r2 h hΦ) ⟨Nat.le_of_ble_eq_true rfl, Nat.le_of_ble_eq_true rfl⟩ (am_dk tk_X5_coins 6 rfl)
abbrev m_X5_strike : am_D := (yX5_strike, prog_1_method_21_code, 2, (some .int), { frames := 3, cells := 0, slots := 0, locals := 60 })
theorem ld_X5_strike : am_LD m_X5_strike 1 := ⟨(am_tb 79 (by decide +kernel) (by decide +kernel)), (am_tb 754 (by decide +kernel) (by decide +kernel)), by decide, by decide, by decide +kernel⟩
def tb_X5_strike : List (Nat × Instr × Nat) := [(0, .iload_n 1, 1), (1, .iconst 0, 1), (2, .iconst 1, 1), (3, .invokestatic 67, 3), (6, .ifCond .ne 6, 3), (9, .ldc 71, 2), (11, .ireturn, 1), (12, .aload_n 0, 1), (13, .getfield 53, 3), (16, .aload_n 0, 1), (17, .getfield 10, 3), (20, .invokevirtual 212, 3), (23, .aload_n 0, 1), (24, .getfield 53, 3), (27, .invokevirtual 221, 3), (30, .iload_n 1, 1), (31, .ifCond .ne 13, 3), (34, .aload_n 0, 1), (35, .getfield 53, 3), (38, .getfield 224, 3), (41, .goto 10, 3), (44, .aload_n 0, 1), (45, .getfield 53, 3), (48, .getfield 227, 3), (51, .ireturn, 1)]
theorem tk_X5_strike : am_tbl prog_1_method_21_code tb_X5_strike = true := by decide +kernel
def f_X5_strike (tw : Nat) (x1 : Int32) (D : am_M) : Option (Int32 × am_M) := if (f_X5_isWithin x1 0 1) = 0 then some ((-1000000002), D) else (f_X0_prepare tw D).bind fun q20 => (f_X0_findStrike q20).bind fun q27 => if x1 = 0 then some (q27 50 5, q27) else some (q27 50 6, q27)
theorem ct_X5_strike {l : Launch} {tw : Nat} {tp : Bool} (htw : lyT tw) {x1 : Int32} {r : Int32} {D D' : am_M} (h : f_X5_strike tw x1 D = some (r, D')) : am_CT l m_X5_strike false [.ref 0, .int x1] (ly tw tp D) (am_is (some (.int r)) (ly tw tp D')) := by
  have hΦ : am_is (some (.int r)) (ly tw tp D') (some (.int r)) (ly tw tp D') := ⟨rfl, rfl⟩
  refine am_CT.of (by decide) (Nat.le_of_ble_eq_true rfl) ?_
  show am_Ex _ _ _ 0 [(0, .ref 0), (1, .int x1)] [] _
  rw [f_X5_strike] at h
  refine am_iload_n (j := 1) (am_dk tk_X5_strike 0 rfl) rfl rfl ?_
  refine am_iconst (v := 0) (am_dk tk_X5_strike 1 rfl) (by decide) ?_
  refine am_iconst (v := 1) (am_dk tk_X5_strike 2 rfl) (by decide) ?_
  refine am_cS (M := m_X5_isWithin) (As := [.int x1, .int 0, .int 1]) (st := []) (ct_X5_isWithin _ _ _ _) ml_X5_67 ld_X5_isWithin rfl ⟨Nat.le_of_ble_eq_true rfl, Nat.le_of_ble_eq_true rfl⟩ (Nat.le_of_ble_eq_true rfl) ⟨rfl, rfl⟩ ⟨Nat.le_of_ble_eq_true rfl, Nat.le_of_ble_eq_true rfl⟩ (am_dk tk_X5_strike 3 rfl) (am_kki ?_)
  refine am_if_ne (tgt := 12) (am_dk tk_X5_strike 4 rfl) (by decide) (fun hc6 => ?_) (fun hc6 => ?_)
  · rw [if_neg hc6] at h
    refine am_aload_n (j := 0) (am_dk tk_X5_strike 7 rfl) rfl rfl ?_
    refine ly_getr (b := 50) rfl fl_X5_53 rfl rfl (am_dk tk_X5_strike 8 rfl) ?_
    refine am_aload_n (j := 0) (am_dk tk_X5_strike 9 rfl) rfl rfl ?_
    refine ly_getr (b := tw) rfl fl_X5_10 rfl rfl (am_dk tk_X5_strike 10 rfl) ?_
    obtain ⟨q20, hq20, h⟩ := am_bind h
    refine ly_cV (M := m_X0_prepare) (As := [.ref tw]) (b := 50) (st := []) (ct_X0_prepare htw hq20) rfl (by decide) rfl ml_X5_212 ld_X0_prepare rfl ⟨Nat.le_of_ble_eq_true rfl, Nat.le_of_ble_eq_true rfl⟩ (Nat.le_of_ble_eq_true rfl) ⟨rfl, rfl⟩ ⟨Nat.le_of_ble_eq_true rfl, Nat.le_of_ble_eq_true rfl⟩ (am_dk tk_X5_strike 11 rfl) (am_kkv ?_)
    refine am_aload_n (j := 0) (am_dk tk_X5_strike 12 rfl) rfl rfl ?_
    refine ly_getr (b := 50) rfl fl_X5_53 rfl rfl (am_dk tk_X5_strike 13 rfl) ?_
    obtain ⟨q27, hq27, h⟩ := am_bind h
    refine ly_cV (M := m_X0_findStrike) (As := []) (b := 50) (st := []) (ct_X0_findStrike hq27) rfl (by decide) rfl ml_X5_221 ld_X0_findStrike rfl ⟨Nat.le_of_ble_eq_true rfl, Nat.le_of_ble_eq_true rfl⟩ (Nat.le_of_ble_eq_true rfl) ⟨rfl, rfl⟩ ⟨Nat.le_of_ble_eq_true rfl, Nat.le_of_ble_eq_true rfl⟩ (am_dk tk_X5_strike 14 rfl) (am_kkv ?_)
    refine am_iload_n (j := 1) (am_dk tk_X5_strike 15 rfl) rfl rfl ?_
    refine am_if_ne (tgt := 44) (am_dk tk_X5_strike 16 rfl) (by decide) (fun hc31 => ?_) (fun hc31 => ?_)
    · rw [if_neg hc31] at h
      refine am_aload_n (j := 0) (am_dk tk_X5_strike 21 rfl) rfl rfl ?_
      refine ly_getr (b := 50) rfl fl_X5_53 rfl rfl (am_dk tk_X5_strike 22 rfl) ?_
      refine ly_geti rfl fl_X5_227 rfl (am_dk tk_X5_strike 23 rfl) ?_
      exact am_iret rfl (am_r2 h hΦ) ⟨Nat.le_of_ble_eq_true rfl, Nat.le_of_ble_eq_true rfl⟩ (am_dk tk_X5_strike 24 rfl)
    · rw [if_pos hc31] at h
      refine am_aload_n (j := 0) (am_dk tk_X5_strike 17 rfl) rfl rfl ?_
      refine ly_getr (b := 50) rfl fl_X5_53 rfl rfl (am_dk tk_X5_strike 18 rfl) ?_
      refine ly_geti rfl fl_X5_224 rfl (am_dk tk_X5_strike 19 rfl) ?_
      refine am_goto (tgt := 51) (am_dk tk_X5_strike 20 rfl) (by decide) ?_
      exact am_iret rfl (am_r2 h hΦ) ⟨Nat.le_of_ble_eq_true rfl, Nat.le_of_ble_eq_true rfl⟩ (am_dk tk_X5_strike 24 rfl)
  · rw [if_pos hc6] at h
    refine am_ldc kc_X5_71 (am_dk tk_X5_strike 5 rfl) ?_
    exact am_iret rfl (am_r2 h hΦ) ⟨Nat.le_of_ble_eq_true rfl, Nat.le_of_ble_eq_true rfl⟩ (am_dk tk_X5_strike 6 rfl)
abbrev m_X5_partsOfBillion : am_D := (yX5_partsOfBillion, prog_1_method_23_code, 7, (some .long), { frames := 0, cells := 0, slots := 0, locals := 0 })
theorem ld_X5_partsOfBillion : am_LD m_X5_partsOfBillion 4 := ⟨(am_tb 79 (by decide +kernel) (by decide +kernel)), (am_tb 769 (by decide +kernel) (by decide +kernel)), by decide, by decide, by decide +kernel⟩
def tb_X5_partsOfBillion : List (Nat × Instr × Nat) := [(0, .ldc2_w 236, 3), (3, .iload_n 0, 1), (4, .i2l, 1), (5, .lmul, 1), (6, .ldc2_w 238, 3), (9, .ldiv, 1), (10, .lstore 4, 2), (12, .iconst 0, 1), (13, .istore 6, 2), (15, .iload 6, 2), (17, .iload_n 2, 1), (18, .if_icmp .ge 33, 3), (21, .lload 4, 2), (23, .iload 6, 2), (25, .iload_n 3, 1), (26, .if_icmp .ge 7, 3), (29, .iload_n 1, 1), (30, .goto 7, 3), (33, .bipush 100, 2), (35, .iload_n 1, 1), (36, .isub, 1), (37, .i2l, 1), (38, .lmul, 1), (39, .ldc2_w 238, 3), (42, .ldiv, 1), (43, .lstore 4, 2), (45, .iinc 6 1, 3), (48, .goto (-33), 3), (51, .lload 4, 2), (53, .lreturn, 1)]
theorem tk_X5_partsOfBillion : am_tbl prog_1_method_23_code tb_X5_partsOfBillion = true := by decide +kernel
def b_X5_partsOfBillion_37 (k15 : Int32 → Int32 → Int32 → Int64 → Int32 → am_M → Option (Int64 × am_M)) (x1 : Int32) (x2 : Int32) (x3 : Int32) (x6 : Int32) (s0 : Int32) (s1 : Int64) (D : am_M) : Option (Int64 × am_M) := k15 x1 x2 x3 ((s1 * s0.toInt64) / 100) (x6 + 1) D
def b_X5_partsOfBillion_15 : Nat → Int32 → Int32 → Int32 → Int64 → Int32 → am_M → Option (Int64 × am_M)
  | 0, _, _, _, _, _, _ => none
  | n + 1, x1, x2, x3, x4, x6, D => if x2 ≤ x6 then some (x4, D) else b_X5_partsOfBillion_37 (b_X5_partsOfBillion_15 n) x1 x2 x3 x6 (if x3 ≤ x6 then 100 - x1 else x1) x4 D
def f_X5_partsOfBillion (x0 : Int32) (x1 : Int32) (x2 : Int32) (x3 : Int32) (D : am_M) : Option (Int64 × am_M) := b_X5_partsOfBillion_15 am_N x1 x2 x3 ((1000000000 * x0.toInt64) / 100) 0 D
theorem bx_X5_partsOfBillion_37 {l : Launch} {h0 : am_H} {Φ : am_Ph} {tw : Nat} {tp : Bool}  {r : Int64} {D' : am_M} (hΦ : Φ (some (.long r)) (ly tw tp D')) {k15 : Int32 → Int32 → Int32 → Int64 → Int32 → am_M → Option (Int64 × am_M)} (hk15 : ∀ (x1 : Int32) (x2 : Int32) (x3 : Int32) (x4 : Int64) (x6 : Int32) (D : am_M), k15 x1 x2 x3 x4 x6 D = some (r, D') → am_Ex (am_E l m_X5_partsOfBillion false h0 Φ) prog_1_method_23_code (0, 0) 15 [(1, .int x1), (2, .int x2), (3, .int x3), (4, .long x4), (6, .int x6)] [] (ly tw tp D)) : ∀ (x1 : Int32) (x2 : Int32) (x3 : Int32) (x6 : Int32) (s0 : Int32) (s1 : Int64) (D : am_M), b_X5_partsOfBillion_37 k15 x1 x2 x3 x6 s0 s1 D = some (r, D') → am_Ex (am_E l m_X5_partsOfBillion false h0 Φ) prog_1_method_23_code (0, 0) 37 [(1, .int x1), (2, .int x2), (3, .int x3), (6, .int x6)] [.int s0, .long s1] (ly tw tp D) := by
  intro x1 x2 x3 x6 s0 s1 D h
  rw [b_X5_partsOfBillion_37] at h
  refine am_i2l (am_dk tk_X5_partsOfBillion 21 rfl) ?_
  refine am_lmul (am_dk tk_X5_partsOfBillion 22 rfl) ?_
  refine am_ldc2 kl_X5_238 (am_dk tk_X5_partsOfBillion 23 rfl) ?_
  refine am_ldiv (am_dk tk_X5_partsOfBillion 24 rfl) (by decide) ?_
  refine am_lstore (L' := [(4, .long ((s1 * s0.toInt64) / 100)), (1, .int x1), (2, .int x2), (3, .int x3), (6, .int x6)]) (am_dk tk_X5_partsOfBillion 25 rfl) (Nat.le_of_ble_eq_true rfl) rfl ?_
  refine am_iinc (j := 4) (v := x6 + 1) (L' := [(6, .int (x6 + 1)), (4, .long ((s1 * s0.toInt64) / 100)), (1, .int x1), (2, .int x2), (3, .int x3)]) (am_dk tk_X5_partsOfBillion 26 rfl) rfl rfl (Nat.le_of_ble_eq_true rfl) rfl ?_
  refine am_goto (tgt := 15) (am_dk tk_X5_partsOfBillion 27 rfl) (by decide) ?_
  refine am_ls [2, 3, 4, 1, 0] rfl ?_
  exact hk15 _ _ _ _ _ _ h
theorem bx_X5_partsOfBillion_15 {l : Launch} {h0 : am_H} {Φ : am_Ph} {tw : Nat} {tp : Bool}  {r : Int64} {D' : am_M} (hΦ : Φ (some (.long r)) (ly tw tp D')) : ∀ (n : Nat) (x1 : Int32) (x2 : Int32) (x3 : Int32) (x4 : Int64) (x6 : Int32) (D : am_M), b_X5_partsOfBillion_15 n x1 x2 x3 x4 x6 D = some (r, D') → am_Ex (am_E l m_X5_partsOfBillion false h0 Φ) prog_1_method_23_code (0, 0) 15 [(1, .int x1), (2, .int x2), (3, .int x3), (4, .long x4), (6, .int x6)] [] (ly tw tp D) := by
  intro n
  induction n with
  | zero =>
    intro x1 x2 x3 x4 x6 D h
    exact absurd h (by simp [b_X5_partsOfBillion_15])
  | succ n ih =>
    intro x1 x2 x3 x4 x6 D h
    rw [b_X5_partsOfBillion_15] at h
    refine am_iload (j := 4) (am_dk tk_X5_partsOfBillion 9 rfl) rfl ?_
    refine am_iload_n (j := 1) (am_dk tk_X5_partsOfBillion 10 rfl) rfl rfl ?_
    refine am_icmp_ge (tgt := 51) (am_dk tk_X5_partsOfBillion 11 rfl) (by decide) (fun hc18 => ?_) (fun hc18 => ?_)
    · rw [if_pos hc18] at h
      refine am_lload (j := 3) (am_dk tk_X5_partsOfBillion 28 rfl) rfl ?_
      exact am_lret rfl (am_r2l h hΦ) ⟨Nat.le_of_ble_eq_true rfl, Nat.le_of_ble_eq_true rfl⟩ (am_dk tk_X5_partsOfBillion 29 rfl)
    · rw [if_neg hc18] at h
      refine am_lload (j := 3) (am_dk tk_X5_partsOfBillion 12 rfl) rfl ?_
      refine am_iload (j := 4) (am_dk tk_X5_partsOfBillion 13 rfl) rfl ?_
      refine am_iload_n (j := 2) (am_dk tk_X5_partsOfBillion 14 rfl) rfl rfl ?_
      refine am_icmp_ge (tgt := 33) (am_dk tk_X5_partsOfBillion 15 rfl) (by decide) (fun hc26 => ?_) (fun hc26 => ?_)
      · simp only [if_pos hc26] at h
        refine am_bipush (v := 100) (am_dk tk_X5_partsOfBillion 18 rfl) (by decide) ?_
        refine am_iload_n (j := 0) (am_dk tk_X5_partsOfBillion 19 rfl) rfl rfl ?_
        refine am_isub (am_dk tk_X5_partsOfBillion 20 rfl) ?_
        refine am_ls [0, 1, 2, 4] rfl ?_
        exact bx_X5_partsOfBillion_37  hΦ (ih) _ _ _ _ _ _ _ h
      · simp only [if_neg hc26] at h
        refine am_iload_n (j := 0) (am_dk tk_X5_partsOfBillion 16 rfl) rfl rfl ?_
        refine am_goto (tgt := 37) (am_dk tk_X5_partsOfBillion 17 rfl) (by decide) ?_
        refine am_ls [0, 1, 2, 4] rfl ?_
        exact bx_X5_partsOfBillion_37  hΦ (ih) _ _ _ _ _ _ _ h
theorem ct_X5_partsOfBillion {l : Launch} {tw : Nat} {tp : Bool}  {x0 : Int32} {x1 : Int32} {x2 : Int32} {x3 : Int32} {r : Int64} {D D' : am_M} (h : f_X5_partsOfBillion x0 x1 x2 x3 D = some (r, D')) : am_CT l m_X5_partsOfBillion false [.int x0, .int x1, .int x2, .int x3] (ly tw tp D) (am_is (some (.long r)) (ly tw tp D')) := by
  have hΦ : am_is (some (.long r)) (ly tw tp D') (some (.long r)) (ly tw tp D') := ⟨rfl, rfl⟩
  refine am_CT.of (by decide) (Nat.le_of_ble_eq_true rfl) ?_
  show am_Ex _ _ _ 0 [(0, .int x0), (1, .int x1), (2, .int x2), (3, .int x3)] [] _
  rw [f_X5_partsOfBillion] at h
  refine am_ldc2 kl_X5_236 (am_dk tk_X5_partsOfBillion 0 rfl) ?_
  refine am_iload_n (j := 0) (am_dk tk_X5_partsOfBillion 1 rfl) rfl rfl ?_
  refine am_i2l (am_dk tk_X5_partsOfBillion 2 rfl) ?_
  refine am_lmul (am_dk tk_X5_partsOfBillion 3 rfl) ?_
  refine am_ldc2 kl_X5_238 (am_dk tk_X5_partsOfBillion 4 rfl) ?_
  refine am_ldiv (am_dk tk_X5_partsOfBillion 5 rfl) (by decide) ?_
  refine am_lstore (L' := [(4, .long ((1000000000 * x0.toInt64) / 100)), (0, .int x0), (1, .int x1), (2, .int x2), (3, .int x3)]) (am_dk tk_X5_partsOfBillion 6 rfl) (Nat.le_of_ble_eq_true rfl) rfl ?_
  refine am_iconst (v := 0) (am_dk tk_X5_partsOfBillion 7 rfl) (by decide) ?_
  refine am_istore (L' := [(6, .int 0), (4, .long ((1000000000 * x0.toInt64) / 100)), (0, .int x0), (1, .int x1), (2, .int x2), (3, .int x3)]) (am_dk tk_X5_partsOfBillion 8 rfl) (Nat.le_of_ble_eq_true rfl) rfl ?_
  refine am_ls [3, 4, 5, 1, 0] rfl ?_
  exact bx_X5_partsOfBillion_15  hΦ am_N _ _ _ _ _ _ h
abbrev m_X5_isFalse : am_D := (yX5_isFalse, prog_1_method_22_code, 10, (some .int), { frames := 1, cells := 0, slots := 0, locals := 26 })
theorem ld_X5_isFalse : am_LD m_X5_isFalse 5 := ⟨(am_tb 79 (by decide +kernel) (by decide +kernel)), (am_tb 766 (by decide +kernel) (by decide +kernel)), by decide, by decide, by decide +kernel⟩
def tb_X5_isFalse : List (Nat × Instr × Nat) := [(0, .iload_n 1, 1), (1, .iconst 0, 1), (2, .bipush 100, 2), (4, .invokestatic 67, 3), (7, .ifCond .eq 23, 3), (10, .iload_n 2, 1), (11, .iconst 0, 1), (12, .bipush 100, 2), (14, .invokestatic 67, 3), (17, .ifCond .eq 13, 3), (20, .iload_n 3, 1), (21, .iconst 0, 1), (22, .bipush 100, 2), (24, .invokestatic 67, 3), (27, .ifCond .ne 6, 3), (30, .ldc 71, 2), (32, .ireturn, 1), (33, .iload 4, 2), (35, .iconst 0, 1), (36, .bipush 9, 2), (38, .invokestatic 67, 3), (41, .ifCond .eq 14, 3), (44, .iload 5, 2), (46, .iconst 0, 1), (47, .iload 4, 2), (49, .invokestatic 67, 3), (52, .ifCond .ne 6, 3), (55, .ldc 71, 2), (57, .ireturn, 1), (58, .iload_n 1, 1), (59, .iload_n 2, 1), (60, .iload 4, 2), (62, .iload 5, 2), (64, .invokestatic 230, 3), (67, .lstore 6, 2), (69, .lload 6, 2), (71, .bipush 100, 2), (73, .iload_n 1, 1), (74, .isub, 1), (75, .iload_n 3, 1), (76, .iload 4, 2), (78, .iload 5, 2), (80, .invokestatic 230, 3), (83, .ladd, 1), (84, .lstore 8, 2), (86, .lload 8, 2), (88, .lconst 0, 1), (89, .lcmp, 1), (90, .ifCond .ne 7, 3), (93, .iconst 0, 1), (94, .goto 13, 3), (97, .lload 6, 2), (99, .ldc2_w 234, 3), (102, .lmul, 1), (103, .lload 8, 2), (105, .ldiv, 1), (106, .l2i, 1), (107, .ireturn, 1)]
theorem tk_X5_isFalse : am_tbl prog_1_method_22_code tb_X5_isFalse = true := by decide +kernel
def f_X5_isFalse (tw : Nat) (x1 : Int32) (x2 : Int32) (x3 : Int32) (x4 : Int32) (x5 : Int32) (D : am_M) : Option (Int32 × am_M) := if (f_X5_isWithin x1 0 100) = 0 then some ((-1000000002), D) else if (f_X5_isWithin x2 0 100) = 0 then some ((-1000000002), D) else if (f_X5_isWithin x3 0 100) = 0 then some ((-1000000002), D) else if (f_X5_isWithin x4 0 9) = 0 then some ((-1000000002), D) else if (f_X5_isWithin x5 0 x4) = 0 then some ((-1000000002), D) else (f_X5_partsOfBillion x1 x2 x4 x5 D).bind fun q64 => (f_X5_partsOfBillion (100 - x1) x3 x4 x5 q64.2).bind fun q80 => if (lg_cmp (q64.1 + q80.1) 0) = 0 then some (0, q80.2) else if (q64.1 + q80.1) = 0 then none else some (((q64.1 * 1000000) / (q64.1 + q80.1)).toInt32, q80.2)
theorem ct_X5_isFalse {l : Launch} {tw : Nat} {tp : Bool} (htw : lyT tw) {x1 : Int32} {x2 : Int32} {x3 : Int32} {x4 : Int32} {x5 : Int32} {r : Int32} {D D' : am_M} (h : f_X5_isFalse tw x1 x2 x3 x4 x5 D = some (r, D')) : am_CT l m_X5_isFalse false [.ref 0, .int x1, .int x2, .int x3, .int x4, .int x5] (ly tw tp D) (am_is (some (.int r)) (ly tw tp D')) := by
  have hΦ : am_is (some (.int r)) (ly tw tp D') (some (.int r)) (ly tw tp D') := ⟨rfl, rfl⟩
  refine am_CT.of (by decide) (Nat.le_of_ble_eq_true rfl) ?_
  show am_Ex _ _ _ 0 [(0, .ref 0), (1, .int x1), (2, .int x2), (3, .int x3), (4, .int x4), (5, .int x5)] [] _
  rw [f_X5_isFalse] at h
  refine am_iload_n (j := 1) (am_dk tk_X5_isFalse 0 rfl) rfl rfl ?_
  refine am_iconst (v := 0) (am_dk tk_X5_isFalse 1 rfl) (by decide) ?_
  refine am_bipush (v := 100) (am_dk tk_X5_isFalse 2 rfl) (by decide) ?_
  refine am_cS (M := m_X5_isWithin) (As := [.int x1, .int 0, .int 100]) (st := []) (ct_X5_isWithin _ _ _ _) ml_X5_67 ld_X5_isWithin rfl ⟨Nat.le_of_ble_eq_true rfl, Nat.le_of_ble_eq_true rfl⟩ (Nat.le_of_ble_eq_true rfl) ⟨rfl, rfl⟩ ⟨Nat.le_of_ble_eq_true rfl, Nat.le_of_ble_eq_true rfl⟩ (am_dk tk_X5_isFalse 3 rfl) (am_kki ?_)
  refine am_if_eq (tgt := 30) (am_dk tk_X5_isFalse 4 rfl) (by decide) (fun hc7 => ?_) (fun hc7 => ?_)
  · rw [if_pos hc7] at h
    refine am_ldc kc_X5_71 (am_dk tk_X5_isFalse 15 rfl) ?_
    exact am_iret rfl (am_r2 h hΦ) ⟨Nat.le_of_ble_eq_true rfl, Nat.le_of_ble_eq_true rfl⟩ (am_dk tk_X5_isFalse 16 rfl)
  · rw [if_neg hc7] at h
    refine am_iload_n (j := 2) (am_dk tk_X5_isFalse 5 rfl) rfl rfl ?_
    refine am_iconst (v := 0) (am_dk tk_X5_isFalse 6 rfl) (by decide) ?_
    refine am_bipush (v := 100) (am_dk tk_X5_isFalse 7 rfl) (by decide) ?_
    refine am_cS (M := m_X5_isWithin) (As := [.int x2, .int 0, .int 100]) (st := []) (ct_X5_isWithin _ _ _ _) ml_X5_67 ld_X5_isWithin rfl ⟨Nat.le_of_ble_eq_true rfl, Nat.le_of_ble_eq_true rfl⟩ (Nat.le_of_ble_eq_true rfl) ⟨rfl, rfl⟩ ⟨Nat.le_of_ble_eq_true rfl, Nat.le_of_ble_eq_true rfl⟩ (am_dk tk_X5_isFalse 8 rfl) (am_kki ?_)
    refine am_if_eq (tgt := 30) (am_dk tk_X5_isFalse 9 rfl) (by decide) (fun hc17 => ?_) (fun hc17 => ?_)
    · rw [if_pos hc17] at h
      refine am_ldc kc_X5_71 (am_dk tk_X5_isFalse 15 rfl) ?_
      exact am_iret rfl (am_r2 h hΦ) ⟨Nat.le_of_ble_eq_true rfl, Nat.le_of_ble_eq_true rfl⟩ (am_dk tk_X5_isFalse 16 rfl)
    · rw [if_neg hc17] at h
      refine am_iload_n (j := 3) (am_dk tk_X5_isFalse 10 rfl) rfl rfl ?_
      refine am_iconst (v := 0) (am_dk tk_X5_isFalse 11 rfl) (by decide) ?_
      refine am_bipush (v := 100) (am_dk tk_X5_isFalse 12 rfl) (by decide) ?_
      refine am_cS (M := m_X5_isWithin) (As := [.int x3, .int 0, .int 100]) (st := []) (ct_X5_isWithin _ _ _ _) ml_X5_67 ld_X5_isWithin rfl ⟨Nat.le_of_ble_eq_true rfl, Nat.le_of_ble_eq_true rfl⟩ (Nat.le_of_ble_eq_true rfl) ⟨rfl, rfl⟩ ⟨Nat.le_of_ble_eq_true rfl, Nat.le_of_ble_eq_true rfl⟩ (am_dk tk_X5_isFalse 13 rfl) (am_kki ?_)
      refine am_if_ne (tgt := 33) (am_dk tk_X5_isFalse 14 rfl) (by decide) (fun hc27 => ?_) (fun hc27 => ?_)
      · rw [if_neg hc27] at h
        refine am_iload (j := 4) (am_dk tk_X5_isFalse 17 rfl) rfl ?_
        refine am_iconst (v := 0) (am_dk tk_X5_isFalse 18 rfl) (by decide) ?_
        refine am_bipush (v := 9) (am_dk tk_X5_isFalse 19 rfl) (by decide) ?_
        refine am_cS (M := m_X5_isWithin) (As := [.int x4, .int 0, .int 9]) (st := []) (ct_X5_isWithin _ _ _ _) ml_X5_67 ld_X5_isWithin rfl ⟨Nat.le_of_ble_eq_true rfl, Nat.le_of_ble_eq_true rfl⟩ (Nat.le_of_ble_eq_true rfl) ⟨rfl, rfl⟩ ⟨Nat.le_of_ble_eq_true rfl, Nat.le_of_ble_eq_true rfl⟩ (am_dk tk_X5_isFalse 20 rfl) (am_kki ?_)
        refine am_if_eq (tgt := 55) (am_dk tk_X5_isFalse 21 rfl) (by decide) (fun hc41 => ?_) (fun hc41 => ?_)
        · rw [if_pos hc41] at h
          refine am_ldc kc_X5_71 (am_dk tk_X5_isFalse 27 rfl) ?_
          exact am_iret rfl (am_r2 h hΦ) ⟨Nat.le_of_ble_eq_true rfl, Nat.le_of_ble_eq_true rfl⟩ (am_dk tk_X5_isFalse 28 rfl)
        · rw [if_neg hc41] at h
          refine am_iload (j := 5) (am_dk tk_X5_isFalse 22 rfl) rfl ?_
          refine am_iconst (v := 0) (am_dk tk_X5_isFalse 23 rfl) (by decide) ?_
          refine am_iload (j := 4) (am_dk tk_X5_isFalse 24 rfl) rfl ?_
          refine am_cS (M := m_X5_isWithin) (As := [.int x5, .int 0, .int x4]) (st := []) (ct_X5_isWithin _ _ _ _) ml_X5_67 ld_X5_isWithin rfl ⟨Nat.le_of_ble_eq_true rfl, Nat.le_of_ble_eq_true rfl⟩ (Nat.le_of_ble_eq_true rfl) ⟨rfl, rfl⟩ ⟨Nat.le_of_ble_eq_true rfl, Nat.le_of_ble_eq_true rfl⟩ (am_dk tk_X5_isFalse 25 rfl) (am_kki ?_)
          refine am_if_ne (tgt := 58) (am_dk tk_X5_isFalse 26 rfl) (by decide) (fun hc52 => ?_) (fun hc52 => ?_)
          · rw [if_neg hc52] at h
            refine am_iload_n (j := 1) (am_dk tk_X5_isFalse 29 rfl) rfl rfl ?_
            refine am_iload_n (j := 2) (am_dk tk_X5_isFalse 30 rfl) rfl rfl ?_
            refine am_iload (j := 4) (am_dk tk_X5_isFalse 31 rfl) rfl ?_
            refine am_iload (j := 5) (am_dk tk_X5_isFalse 32 rfl) rfl ?_
            obtain ⟨q64, hq64, h⟩ := am_bind h
            refine am_cS (M := m_X5_partsOfBillion) (As := [.int x1, .int x2, .int x4, .int x5]) (st := []) (ct_X5_partsOfBillion hq64) ml_X5_230 ld_X5_partsOfBillion rfl ⟨Nat.le_of_ble_eq_true rfl, Nat.le_of_ble_eq_true rfl⟩ (Nat.le_of_ble_eq_true rfl) ⟨rfl, rfl⟩ ⟨Nat.le_of_ble_eq_true rfl, Nat.le_of_ble_eq_true rfl⟩ (am_dk tk_X5_isFalse 33 rfl) (am_kkl ?_)
            refine am_lstore (L' := [(6, .long q64.1), (0, .ref 0), (1, .int x1), (2, .int x2), (3, .int x3), (4, .int x4), (5, .int x5)]) (am_dk tk_X5_isFalse 34 rfl) (Nat.le_of_ble_eq_true rfl) rfl ?_
            refine am_lload (j := 0) (am_dk tk_X5_isFalse 35 rfl) rfl ?_
            refine am_bipush (v := 100) (am_dk tk_X5_isFalse 36 rfl) (by decide) ?_
            refine am_iload_n (j := 2) (am_dk tk_X5_isFalse 37 rfl) rfl rfl ?_
            refine am_isub (am_dk tk_X5_isFalse 38 rfl) ?_
            refine am_iload_n (j := 4) (am_dk tk_X5_isFalse 39 rfl) rfl rfl ?_
            refine am_iload (j := 5) (am_dk tk_X5_isFalse 40 rfl) rfl ?_
            refine am_iload (j := 6) (am_dk tk_X5_isFalse 41 rfl) rfl ?_
            obtain ⟨q80, hq80, h⟩ := am_bind h
            refine am_cS (M := m_X5_partsOfBillion) (As := [.int (100 - x1), .int x3, .int x4, .int x5]) (st := [.long q64.1]) (ct_X5_partsOfBillion hq80) ml_X5_230 ld_X5_partsOfBillion rfl ⟨Nat.le_of_ble_eq_true rfl, Nat.le_of_ble_eq_true rfl⟩ (Nat.le_of_ble_eq_true rfl) ⟨rfl, rfl⟩ ⟨Nat.le_of_ble_eq_true rfl, Nat.le_of_ble_eq_true rfl⟩ (am_dk tk_X5_isFalse 42 rfl) (am_kkl ?_)
            refine am_ladd (am_dk tk_X5_isFalse 43 rfl) ?_
            refine am_lstore (L' := [(8, .long (q64.1 + q80.1)), (6, .long q64.1), (0, .ref 0), (1, .int x1), (2, .int x2), (3, .int x3), (4, .int x4), (5, .int x5)]) (am_dk tk_X5_isFalse 44 rfl) (Nat.le_of_ble_eq_true rfl) rfl ?_
            refine am_lload (j := 0) (am_dk tk_X5_isFalse 45 rfl) rfl ?_
            refine am_lconst (v := 0) (am_dk tk_X5_isFalse 46 rfl) (by decide) ?_
            refine am_lcmp (am_dk tk_X5_isFalse 47 rfl) ?_
            refine am_if_ne (tgt := 97) (am_dk tk_X5_isFalse 48 rfl) (by decide) (fun hc90 => ?_) (fun hc90 => ?_)
            · rw [if_neg hc90] at h
              refine am_lload (j := 1) (am_dk tk_X5_isFalse 51 rfl) rfl ?_
              refine am_ldc2 kl_X5_234 (am_dk tk_X5_isFalse 52 rfl) ?_
              refine am_lmul (am_dk tk_X5_isFalse 53 rfl) ?_
              refine am_lload (j := 0) (am_dk tk_X5_isFalse 54 rfl) rfl ?_
              obtain ⟨hz105, h⟩ := am_chn h
              refine am_ldiv (am_dk tk_X5_isFalse 55 rfl) hz105 ?_
              refine am_l2i (am_dk tk_X5_isFalse 56 rfl) ?_
              exact am_iret rfl (am_r2 h hΦ) ⟨Nat.le_of_ble_eq_true rfl, Nat.le_of_ble_eq_true rfl⟩ (am_dk tk_X5_isFalse 57 rfl)
            · rw [if_pos hc90] at h
              refine am_iconst (v := 0) (am_dk tk_X5_isFalse 49 rfl) (by decide) ?_
              refine am_goto (tgt := 107) (am_dk tk_X5_isFalse 50 rfl) (by decide) ?_
              exact am_iret rfl (am_r2 h hΦ) ⟨Nat.le_of_ble_eq_true rfl, Nat.le_of_ble_eq_true rfl⟩ (am_dk tk_X5_isFalse 57 rfl)
          · rw [if_pos hc52] at h
            refine am_ldc kc_X5_71 (am_dk tk_X5_isFalse 27 rfl) ?_
            exact am_iret rfl (am_r2 h hΦ) ⟨Nat.le_of_ble_eq_true rfl, Nat.le_of_ble_eq_true rfl⟩ (am_dk tk_X5_isFalse 28 rfl)
      · rw [if_pos hc27] at h
        refine am_ldc kc_X5_71 (am_dk tk_X5_isFalse 15 rfl) ?_
        exact am_iret rfl (am_r2 h hΦ) ⟨Nat.le_of_ble_eq_true rfl, Nat.le_of_ble_eq_true rfl⟩ (am_dk tk_X5_isFalse 16 rfl)
abbrev m_X5_prices : am_D := (yX5_prices, prog_1_method_24_code, 8, (some .int), { frames := 1, cells := 0, slots := 0, locals := 22 })
theorem ld_X5_prices : am_LD m_X5_prices 4 := ⟨(am_tb 79 (by decide +kernel) (by decide +kernel)), (am_tb 776 (by decide +kernel) (by decide +kernel)), by decide, by decide, by decide +kernel⟩
def tb_X5_prices : List (Nat × Instr × Nat) := [(0, .iload_n 1, 1), (1, .iconst 0, 1), (2, .sipush 9999, 3), (5, .invokestatic 67, 3), (8, .ifCond .eq 14, 3), (11, .iload_n 2, 1), (12, .iconst 0, 1), (13, .sipush 300, 3), (16, .invokestatic 67, 3), (19, .ifCond .ne 6, 3), (22, .ldc 71, 2), (24, .ireturn, 1), (25, .iload_n 3, 1), (26, .iconst 0, 1), (27, .bipush 99, 2), (29, .invokestatic 67, 3), (32, .ifCond .eq 13, 3), (35, .iload 4, 2), (37, .iconst 0, 1), (38, .iconst 1, 1), (39, .invokestatic 67, 3), (42, .ifCond .ne 6, 3), (45, .ldc 71, 2), (47, .ireturn, 1), (48, .iload_n 1, 1), (49, .istore 5, 2), (51, .iconst 0, 1), (52, .istore 6, 2), (54, .iload 6, 2), (56, .sipush 500, 3), (59, .if_icmp .gt 53, 3), (62, .iload 5, 2), (64, .iload_n 2, 1), (65, .imul, 1), (66, .bipush 100, 2), (68, .idiv, 1), (69, .iload_n 3, 1), (70, .iadd, 1), (71, .istore 7, 2), (73, .iload 7, 2), (75, .iload 5, 2), (77, .if_icmp .ne 16, 3), (80, .iload 4, 2), (82, .ifCond .ne 8, 3), (85, .iload 6, 2), (87, .goto 5, 3), (90, .iload 5, 2), (92, .ireturn, 1), (93, .iload 7, 2), (95, .ldc 240, 2), (97, .if_icmp .le 5, 3), (100, .iconst (-1), 1), (101, .ireturn, 1), (102, .iload 7, 2), (104, .istore 5, 2), (106, .iinc 6 1, 3), (109, .goto (-55), 3), (112, .iconst (-1), 1), (113, .ireturn, 1)]
theorem tk_X5_prices : am_tbl prog_1_method_24_code tb_X5_prices = true := by decide +kernel
def b_X5_prices_54 (tw : Nat) : Nat → Int32 → Int32 → Int32 → Int32 → Int32 → am_M → Option (Int32 × am_M)
  | 0, _, _, _, _, _, _ => none
  | n + 1, x2, x3, x4, x5, x6, D => if 500 < x6 then some ((-1), D) else if (((x5 * x2) / 100) + x3) = x5 then if x4 = 0 then some (x6, D) else some (x5, D) else if (((x5 * x2) / 100) + x3) ≤ 99999 then b_X5_prices_54 tw n x2 x3 x4 (((x5 * x2) / 100) + x3) (x6 + 1) D else some ((-1), D)
def f_X5_prices (tw : Nat) (x1 : Int32) (x2 : Int32) (x3 : Int32) (x4 : Int32) (D : am_M) : Option (Int32 × am_M) := if (f_X5_isWithin x1 0 9999) = 0 then some ((-1000000002), D) else if (f_X5_isWithin x2 0 300) = 0 then some ((-1000000002), D) else if (f_X5_isWithin x3 0 99) = 0 then some ((-1000000002), D) else if (f_X5_isWithin x4 0 1) = 0 then some ((-1000000002), D) else b_X5_prices_54 tw am_N x2 x3 x4 x1 0 D
theorem bx_X5_prices_54 {l : Launch} {h0 : am_H} {Φ : am_Ph} {tw : Nat} {tp : Bool} (htw : lyT tw) {r : Int32} {D' : am_M} (hΦ : Φ (some (.int r)) (ly tw tp D')) : ∀ (n : Nat) (x2 : Int32) (x3 : Int32) (x4 : Int32) (x5 : Int32) (x6 : Int32) (D : am_M), b_X5_prices_54 tw n x2 x3 x4 x5 x6 D = some (r, D') → am_Ex (am_E l m_X5_prices false h0 Φ) prog_1_method_24_code (0, 0) 54 [(2, .int x2), (3, .int x3), (4, .int x4), (5, .int x5), (6, .int x6)] [] (ly tw tp D) := by
  intro n
  induction n with
  | zero =>
    intro x2 x3 x4 x5 x6 D h
    exact absurd h (by simp [b_X5_prices_54])
  | succ n ih =>
    intro x2 x3 x4 x5 x6 D h
    rw [b_X5_prices_54] at h
    refine am_iload (j := 4) (am_dk tk_X5_prices 28 rfl) rfl ?_
    refine am_sipush (v := 500) (am_dk tk_X5_prices 29 rfl) (by decide) ?_
    refine am_icmp_gt (tgt := 112) (am_dk tk_X5_prices 30 rfl) (by decide) (fun hc59 => ?_) (fun hc59 => ?_)
    · rw [if_pos hc59] at h
      refine am_iconst (v := (-1)) (am_dk tk_X5_prices 57 rfl) (by decide) ?_
      exact am_iret rfl (am_r2 h hΦ) ⟨Nat.le_of_ble_eq_true rfl, Nat.le_of_ble_eq_true rfl⟩ (am_dk tk_X5_prices 58 rfl)
    · rw [if_neg hc59] at h
      refine am_iload (j := 3) (am_dk tk_X5_prices 31 rfl) rfl ?_
      refine am_iload_n (j := 0) (am_dk tk_X5_prices 32 rfl) rfl rfl ?_
      refine am_imul (am_dk tk_X5_prices 33 rfl) ?_
      refine am_bipush (v := 100) (am_dk tk_X5_prices 34 rfl) (by decide) ?_
      refine am_idiv (am_dk tk_X5_prices 35 rfl) (by decide) ?_
      refine am_iload_n (j := 1) (am_dk tk_X5_prices 36 rfl) rfl rfl ?_
      refine am_iadd (am_dk tk_X5_prices 37 rfl) ?_
      refine am_istore (L' := [(7, .int (((x5 * x2) / 100) + x3)), (2, .int x2), (3, .int x3), (4, .int x4), (5, .int x5), (6, .int x6)]) (am_dk tk_X5_prices 38 rfl) (Nat.le_of_ble_eq_true rfl) rfl ?_
      refine am_iload (j := 0) (am_dk tk_X5_prices 39 rfl) rfl ?_
      refine am_iload (j := 4) (am_dk tk_X5_prices 40 rfl) rfl ?_
      refine am_icmp_ne (tgt := 93) (am_dk tk_X5_prices 41 rfl) (by decide) (fun hc77 => ?_) (fun hc77 => ?_)
      · rw [if_neg hc77] at h
        refine am_iload (j := 0) (am_dk tk_X5_prices 48 rfl) rfl ?_
        refine am_ldc kc_X5_240 (am_dk tk_X5_prices 49 rfl) ?_
        refine am_icmp_le (tgt := 102) (am_dk tk_X5_prices 50 rfl) (by decide) (fun hc97 => ?_) (fun hc97 => ?_)
        · rw [if_pos hc97] at h
          refine am_iload (j := 0) (am_dk tk_X5_prices 53 rfl) rfl ?_
          refine am_istore (L' := [(5, .int (((x5 * x2) / 100) + x3)), (7, .int (((x5 * x2) / 100) + x3)), (2, .int x2), (3, .int x3), (4, .int x4), (6, .int x6)]) (am_dk tk_X5_prices 54 rfl) (Nat.le_of_ble_eq_true rfl) rfl ?_
          refine am_iinc (j := 5) (v := x6 + 1) (L' := [(6, .int (x6 + 1)), (5, .int (((x5 * x2) / 100) + x3)), (7, .int (((x5 * x2) / 100) + x3)), (2, .int x2), (3, .int x3), (4, .int x4)]) (am_dk tk_X5_prices 55 rfl) rfl rfl (Nat.le_of_ble_eq_true rfl) rfl ?_
          refine am_goto (tgt := 54) (am_dk tk_X5_prices 56 rfl) (by decide) ?_
          refine am_ls [3, 4, 5, 1, 0] rfl ?_
          exact ih _ _ _ _ _ _ h
        · rw [if_neg hc97] at h
          refine am_iconst (v := (-1)) (am_dk tk_X5_prices 51 rfl) (by decide) ?_
          exact am_iret rfl (am_r2 h hΦ) ⟨Nat.le_of_ble_eq_true rfl, Nat.le_of_ble_eq_true rfl⟩ (am_dk tk_X5_prices 52 rfl)
      · rw [if_pos hc77] at h
        refine am_iload (j := 3) (am_dk tk_X5_prices 42 rfl) rfl ?_
        refine am_if_ne (tgt := 90) (am_dk tk_X5_prices 43 rfl) (by decide) (fun hc82 => ?_) (fun hc82 => ?_)
        · rw [if_neg hc82] at h
          refine am_iload (j := 4) (am_dk tk_X5_prices 46 rfl) rfl ?_
          exact am_iret rfl (am_r2 h hΦ) ⟨Nat.le_of_ble_eq_true rfl, Nat.le_of_ble_eq_true rfl⟩ (am_dk tk_X5_prices 47 rfl)
        · rw [if_pos hc82] at h
          refine am_iload (j := 5) (am_dk tk_X5_prices 44 rfl) rfl ?_
          refine am_goto (tgt := 92) (am_dk tk_X5_prices 45 rfl) (by decide) ?_
          exact am_iret rfl (am_r2 h hΦ) ⟨Nat.le_of_ble_eq_true rfl, Nat.le_of_ble_eq_true rfl⟩ (am_dk tk_X5_prices 47 rfl)
theorem ct_X5_prices {l : Launch} {tw : Nat} {tp : Bool} (htw : lyT tw) {x1 : Int32} {x2 : Int32} {x3 : Int32} {x4 : Int32} {r : Int32} {D D' : am_M} (h : f_X5_prices tw x1 x2 x3 x4 D = some (r, D')) : am_CT l m_X5_prices false [.ref 0, .int x1, .int x2, .int x3, .int x4] (ly tw tp D) (am_is (some (.int r)) (ly tw tp D')) := by
  have hΦ : am_is (some (.int r)) (ly tw tp D') (some (.int r)) (ly tw tp D') := ⟨rfl, rfl⟩
  refine am_CT.of (by decide) (Nat.le_of_ble_eq_true rfl) ?_
  show am_Ex _ _ _ 0 [(0, .ref 0), (1, .int x1), (2, .int x2), (3, .int x3), (4, .int x4)] [] _
  rw [f_X5_prices] at h
  refine am_iload_n (j := 1) (am_dk tk_X5_prices 0 rfl) rfl rfl ?_
  refine am_iconst (v := 0) (am_dk tk_X5_prices 1 rfl) (by decide) ?_
  refine am_sipush (v := 9999) (am_dk tk_X5_prices 2 rfl) (by decide) ?_
  refine am_cS (M := m_X5_isWithin) (As := [.int x1, .int 0, .int 9999]) (st := []) (ct_X5_isWithin _ _ _ _) ml_X5_67 ld_X5_isWithin rfl ⟨Nat.le_of_ble_eq_true rfl, Nat.le_of_ble_eq_true rfl⟩ (Nat.le_of_ble_eq_true rfl) ⟨rfl, rfl⟩ ⟨Nat.le_of_ble_eq_true rfl, Nat.le_of_ble_eq_true rfl⟩ (am_dk tk_X5_prices 3 rfl) (am_kki ?_)
  refine am_if_eq (tgt := 22) (am_dk tk_X5_prices 4 rfl) (by decide) (fun hc8 => ?_) (fun hc8 => ?_)
  · rw [if_pos hc8] at h
    refine am_ldc kc_X5_71 (am_dk tk_X5_prices 10 rfl) ?_
    exact am_iret rfl (am_r2 h hΦ) ⟨Nat.le_of_ble_eq_true rfl, Nat.le_of_ble_eq_true rfl⟩ (am_dk tk_X5_prices 11 rfl)
  · rw [if_neg hc8] at h
    refine am_iload_n (j := 2) (am_dk tk_X5_prices 5 rfl) rfl rfl ?_
    refine am_iconst (v := 0) (am_dk tk_X5_prices 6 rfl) (by decide) ?_
    refine am_sipush (v := 300) (am_dk tk_X5_prices 7 rfl) (by decide) ?_
    refine am_cS (M := m_X5_isWithin) (As := [.int x2, .int 0, .int 300]) (st := []) (ct_X5_isWithin _ _ _ _) ml_X5_67 ld_X5_isWithin rfl ⟨Nat.le_of_ble_eq_true rfl, Nat.le_of_ble_eq_true rfl⟩ (Nat.le_of_ble_eq_true rfl) ⟨rfl, rfl⟩ ⟨Nat.le_of_ble_eq_true rfl, Nat.le_of_ble_eq_true rfl⟩ (am_dk tk_X5_prices 8 rfl) (am_kki ?_)
    refine am_if_ne (tgt := 25) (am_dk tk_X5_prices 9 rfl) (by decide) (fun hc19 => ?_) (fun hc19 => ?_)
    · rw [if_neg hc19] at h
      refine am_iload_n (j := 3) (am_dk tk_X5_prices 12 rfl) rfl rfl ?_
      refine am_iconst (v := 0) (am_dk tk_X5_prices 13 rfl) (by decide) ?_
      refine am_bipush (v := 99) (am_dk tk_X5_prices 14 rfl) (by decide) ?_
      refine am_cS (M := m_X5_isWithin) (As := [.int x3, .int 0, .int 99]) (st := []) (ct_X5_isWithin _ _ _ _) ml_X5_67 ld_X5_isWithin rfl ⟨Nat.le_of_ble_eq_true rfl, Nat.le_of_ble_eq_true rfl⟩ (Nat.le_of_ble_eq_true rfl) ⟨rfl, rfl⟩ ⟨Nat.le_of_ble_eq_true rfl, Nat.le_of_ble_eq_true rfl⟩ (am_dk tk_X5_prices 15 rfl) (am_kki ?_)
      refine am_if_eq (tgt := 45) (am_dk tk_X5_prices 16 rfl) (by decide) (fun hc32 => ?_) (fun hc32 => ?_)
      · rw [if_pos hc32] at h
        refine am_ldc kc_X5_71 (am_dk tk_X5_prices 22 rfl) ?_
        exact am_iret rfl (am_r2 h hΦ) ⟨Nat.le_of_ble_eq_true rfl, Nat.le_of_ble_eq_true rfl⟩ (am_dk tk_X5_prices 23 rfl)
      · rw [if_neg hc32] at h
        refine am_iload (j := 4) (am_dk tk_X5_prices 17 rfl) rfl ?_
        refine am_iconst (v := 0) (am_dk tk_X5_prices 18 rfl) (by decide) ?_
        refine am_iconst (v := 1) (am_dk tk_X5_prices 19 rfl) (by decide) ?_
        refine am_cS (M := m_X5_isWithin) (As := [.int x4, .int 0, .int 1]) (st := []) (ct_X5_isWithin _ _ _ _) ml_X5_67 ld_X5_isWithin rfl ⟨Nat.le_of_ble_eq_true rfl, Nat.le_of_ble_eq_true rfl⟩ (Nat.le_of_ble_eq_true rfl) ⟨rfl, rfl⟩ ⟨Nat.le_of_ble_eq_true rfl, Nat.le_of_ble_eq_true rfl⟩ (am_dk tk_X5_prices 20 rfl) (am_kki ?_)
        refine am_if_ne (tgt := 48) (am_dk tk_X5_prices 21 rfl) (by decide) (fun hc42 => ?_) (fun hc42 => ?_)
        · rw [if_neg hc42] at h
          refine am_iload_n (j := 1) (am_dk tk_X5_prices 24 rfl) rfl rfl ?_
          refine am_istore (L' := [(5, .int x1), (0, .ref 0), (1, .int x1), (2, .int x2), (3, .int x3), (4, .int x4)]) (am_dk tk_X5_prices 25 rfl) (Nat.le_of_ble_eq_true rfl) rfl ?_
          refine am_iconst (v := 0) (am_dk tk_X5_prices 26 rfl) (by decide) ?_
          refine am_istore (L' := [(6, .int 0), (5, .int x1), (0, .ref 0), (1, .int x1), (2, .int x2), (3, .int x3), (4, .int x4)]) (am_dk tk_X5_prices 27 rfl) (Nat.le_of_ble_eq_true rfl) rfl ?_
          refine am_ls [4, 5, 6, 1, 0] rfl ?_
          exact bx_X5_prices_54 htw hΦ am_N _ _ _ _ _ _ h
        · rw [if_pos hc42] at h
          refine am_ldc kc_X5_71 (am_dk tk_X5_prices 22 rfl) ?_
          exact am_iret rfl (am_r2 h hΦ) ⟨Nat.le_of_ble_eq_true rfl, Nat.le_of_ble_eq_true rfl⟩ (am_dk tk_X5_prices 23 rfl)
    · rw [if_pos hc19] at h
      refine am_ldc kc_X5_71 (am_dk tk_X5_prices 10 rfl) ?_
      exact am_iret rfl (am_r2 h hΦ) ⟨Nat.le_of_ble_eq_true rfl, Nat.le_of_ble_eq_true rfl⟩ (am_dk tk_X5_prices 11 rfl)
abbrev m_X5_robbed : am_D := (yX5_robbed, prog_1_method_25_code, 9, (some .int), { frames := 2, cells := 0, slots := 0, locals := 44 })
theorem ld_X5_robbed : am_LD m_X5_robbed 3 := ⟨(am_tb 79 (by decide +kernel) (by decide +kernel)), (am_tb 781 (by decide +kernel) (by decide +kernel)), by decide, by decide, by decide +kernel⟩
def tb_X5_robbed : List (Nat × Instr × Nat) := [(0, .iconst 1, 1), (1, .aload_n 0, 1), (2, .getfield 10, 3), (5, .getfield 104, 3), (8, .ishl, 1), (9, .istore 4, 2), (11, .iload_n 1, 1), (12, .iconst 0, 1), (13, .iload 4, 2), (15, .iconst 1, 1), (16, .isub, 1), (17, .invokestatic 67, 3), (20, .ifCond .ne 6, 3), (23, .ldc 141, 2), (25, .ireturn, 1), (26, .iload_n 2, 1), (27, .iconst 0, 1), (28, .sipush 999, 3), (31, .invokestatic 67, 3), (34, .ifCond .eq 12, 3), (37, .iload_n 3, 1), (38, .iconst 0, 1), (39, .iconst 2, 1), (40, .invokestatic 67, 3), (43, .ifCond .ne 6, 3), (46, .ldc 71, 2), (48, .ireturn, 1), (49, .iconst 0, 1), (50, .istore 5, 2), (52, .iconst (-1), 1), (53, .istore 6, 2), (55, .iload 4, 2), (57, .iconst 1, 1), (58, .isub, 1), (59, .istore 7, 2), (61, .iconst 0, 1), (62, .istore 8, 2), (64, .iload 8, 2), (66, .iload 4, 2), (68, .if_icmp .ge 52, 3), (71, .iload 8, 2), (73, .iload_n 1, 1), (74, .iand, 1), (75, .iload_n 1, 1), (76, .if_icmp .ne 38, 3), (79, .aload_n 0, 1), (80, .getfield 10, 3), (83, .iload 8, 2), (85, .invokevirtual 241, 3), (88, .iload_n 2, 1), (89, .if_icmp .eq 6, 3), (92, .goto 22, 3), (95, .iload 5, 2), (97, .ifCond .ne 7, 3), (100, .iload 8, 2), (102, .istore 6, 2), (104, .iinc 5 1, 3), (107, .iload 7, 2), (109, .iload 8, 2), (111, .iand, 1)]
theorem tk_X5_robbed : am_tbl prog_1_method_25_code tb_X5_robbed = true := by decide +kernel
def tb_X5_robbed_1 : List (Nat × Instr × Nat) := [(112, .istore 7, 2), (114, .iinc 8 1, 3), (117, .goto (-53), 3), (120, .iload_n 3, 1), (121, .ifCond .ne 6, 3), (124, .iload 5, 2), (126, .ireturn, 1), (127, .iload_n 3, 1), (128, .iconst 1, 1), (129, .if_icmp .ne 6, 3), (132, .iload 6, 2), (134, .ireturn, 1), (135, .iload 5, 2), (137, .ifCond .ne 7, 3), (140, .iconst 0, 1), (141, .goto 5, 3), (144, .iload 7, 2), (146, .ireturn, 1)]
theorem tk_X5_robbed_1 : am_tbl prog_1_method_25_code tb_X5_robbed_1 = true := by decide +kernel
def b_X5_robbed_104 (tw : Nat) (k64 : Int32 → Int32 → Int32 → Int32 → Int32 → Int32 → Int32 → Int32 → am_M → Option (Int32 × am_M)) (x1 : Int32) (x2 : Int32) (x3 : Int32) (x4 : Int32) (x5 : Int32) (x6 : Int32) (x7 : Int32) (x8 : Int32) (D : am_M) : Option (Int32 × am_M) := k64 x1 x2 x3 x4 (x5 + 1) x6 (x7 &&& x8) (x8 + 1) D
def b_X5_robbed_64 (tw : Nat) : Nat → Int32 → Int32 → Int32 → Int32 → Int32 → Int32 → Int32 → Int32 → am_M → Option (Int32 × am_M)
  | 0, _, _, _, _, _, _, _, _, _ => none
  | n + 1, x1, x2, x3, x4, x5, x6, x7, x8, D => if x4 ≤ x8 then if x3 = 0 then some (x5, D) else if x3 = 1 then some (x6, D) else if x5 = 0 then some (0, D) else some (x7, D) else if (x8 &&& x1) = x1 then (f_X4_yawnsOf tw x8 D).bind fun q85 => if q85.1 = x2 then b_X5_robbed_104 tw (b_X5_robbed_64 tw n) x1 x2 x3 x4 x5 (if x5 = 0 then x8 else x6) x7 x8 q85.2 else b_X5_robbed_64 tw n x1 x2 x3 x4 x5 x6 x7 (x8 + 1) q85.2 else b_X5_robbed_64 tw n x1 x2 x3 x4 x5 x6 x7 (x8 + 1) D
def f_X5_robbed (tw : Nat) (x1 : Int32) (x2 : Int32) (x3 : Int32) (D : am_M) : Option (Int32 × am_M) := if (f_X5_isWithin x1 0 ((1 <<< ((D tw 3) &&& 31)) - 1)) = 0 then some ((-1000000001), D) else if (f_X5_isWithin x2 0 999) = 0 then some ((-1000000002), D) else if (f_X5_isWithin x3 0 2) = 0 then some ((-1000000002), D) else b_X5_robbed_64 tw am_N x1 x2 x3 (1 <<< ((D tw 3) &&& 31)) 0 (-1) ((1 <<< ((D tw 3) &&& 31)) - 1) 0 D
theorem bx_X5_robbed_104 {l : Launch} {h0 : am_H} {Φ : am_Ph} {tw : Nat} {tp : Bool} (htw : lyT tw) {r : Int32} {D' : am_M} (hΦ : Φ (some (.int r)) (ly tw tp D')) {k64 : Int32 → Int32 → Int32 → Int32 → Int32 → Int32 → Int32 → Int32 → am_M → Option (Int32 × am_M)} (hk64 : ∀ (x1 : Int32) (x2 : Int32) (x3 : Int32) (x4 : Int32) (x5 : Int32) (x6 : Int32) (x7 : Int32) (x8 : Int32) (D : am_M), k64 x1 x2 x3 x4 x5 x6 x7 x8 D = some (r, D') → am_Ex (am_E l m_X5_robbed false h0 Φ) prog_1_method_25_code (0, 0) 64 [(0, .ref 0), (1, .int x1), (2, .int x2), (3, .int x3), (4, .int x4), (5, .int x5), (6, .int x6), (7, .int x7), (8, .int x8)] [] (ly tw tp D)) : ∀ (x1 : Int32) (x2 : Int32) (x3 : Int32) (x4 : Int32) (x5 : Int32) (x6 : Int32) (x7 : Int32) (x8 : Int32) (D : am_M), b_X5_robbed_104 tw k64 x1 x2 x3 x4 x5 x6 x7 x8 D = some (r, D') → am_Ex (am_E l m_X5_robbed false h0 Φ) prog_1_method_25_code (0, 0) 104 [(0, .ref 0), (1, .int x1), (2, .int x2), (3, .int x3), (4, .int x4), (5, .int x5), (6, .int x6), (7, .int x7), (8, .int x8)] [] (ly tw tp D) := by
  intro x1 x2 x3 x4 x5 x6 x7 x8 D h
  rw [b_X5_robbed_104] at h
  refine am_iinc (j := 5) (v := x5 + 1) (L' := [(5, .int (x5 + 1)), (0, .ref 0), (1, .int x1), (2, .int x2), (3, .int x3), (4, .int x4), (6, .int x6), (7, .int x7), (8, .int x8)]) (am_dk tk_X5_robbed 56 rfl) rfl rfl (Nat.le_of_ble_eq_true rfl) rfl ?_
  refine am_iload (j := 7) (am_dk tk_X5_robbed 57 rfl) rfl ?_
  refine am_iload (j := 8) (am_dk tk_X5_robbed 58 rfl) rfl ?_
  refine am_iand (am_dk tk_X5_robbed 59 rfl) ?_
  refine am_istore (L' := [(7, .int (x7 &&& x8)), (5, .int (x5 + 1)), (0, .ref 0), (1, .int x1), (2, .int x2), (3, .int x3), (4, .int x4), (6, .int x6), (8, .int x8)]) (am_dk tk_X5_robbed_1 0 rfl) (Nat.le_of_ble_eq_true rfl) rfl ?_
  refine am_iinc (j := 8) (v := x8 + 1) (L' := [(8, .int (x8 + 1)), (7, .int (x7 &&& x8)), (5, .int (x5 + 1)), (0, .ref 0), (1, .int x1), (2, .int x2), (3, .int x3), (4, .int x4), (6, .int x6)]) (am_dk tk_X5_robbed_1 1 rfl) rfl rfl (Nat.le_of_ble_eq_true rfl) rfl ?_
  refine am_goto (tgt := 64) (am_dk tk_X5_robbed_1 2 rfl) (by decide) ?_
  refine am_ls [3, 4, 5, 6, 7, 2, 8, 1, 0] rfl ?_
  exact hk64 _ _ _ _ _ _ _ _ _ h
theorem bx_X5_robbed_64 {l : Launch} {h0 : am_H} {Φ : am_Ph} {tw : Nat} {tp : Bool} (htw : lyT tw) {r : Int32} {D' : am_M} (hΦ : Φ (some (.int r)) (ly tw tp D')) : ∀ (n : Nat) (x1 : Int32) (x2 : Int32) (x3 : Int32) (x4 : Int32) (x5 : Int32) (x6 : Int32) (x7 : Int32) (x8 : Int32) (D : am_M), b_X5_robbed_64 tw n x1 x2 x3 x4 x5 x6 x7 x8 D = some (r, D') → am_Ex (am_E l m_X5_robbed false h0 Φ) prog_1_method_25_code (0, 0) 64 [(0, .ref 0), (1, .int x1), (2, .int x2), (3, .int x3), (4, .int x4), (5, .int x5), (6, .int x6), (7, .int x7), (8, .int x8)] [] (ly tw tp D) := by
  intro n
  induction n with
  | zero =>
    intro x1 x2 x3 x4 x5 x6 x7 x8 D h
    exact absurd h (by simp [b_X5_robbed_64])
  | succ n ih =>
    intro x1 x2 x3 x4 x5 x6 x7 x8 D h
    rw [b_X5_robbed_64] at h
    refine am_iload (j := 8) (am_dk tk_X5_robbed 37 rfl) rfl ?_
    refine am_iload (j := 4) (am_dk tk_X5_robbed 38 rfl) rfl ?_
    refine am_icmp_ge (tgt := 120) (am_dk tk_X5_robbed 39 rfl) (by decide) (fun hc68 => ?_) (fun hc68 => ?_)
    · rw [if_pos hc68] at h
      refine am_iload_n (j := 3) (am_dk tk_X5_robbed_1 3 rfl) rfl rfl ?_
      refine am_if_ne (tgt := 127) (am_dk tk_X5_robbed_1 4 rfl) (by decide) (fun hc121 => ?_) (fun hc121 => ?_)
      · rw [if_neg hc121] at h
        refine am_iload_n (j := 3) (am_dk tk_X5_robbed_1 7 rfl) rfl rfl ?_
        refine am_iconst (v := 1) (am_dk tk_X5_robbed_1 8 rfl) (by decide) ?_
        refine am_icmp_ne (tgt := 135) (am_dk tk_X5_robbed_1 9 rfl) (by decide) (fun hc129 => ?_) (fun hc129 => ?_)
        · rw [if_neg hc129] at h
          refine am_iload (j := 5) (am_dk tk_X5_robbed_1 12 rfl) rfl ?_
          refine am_if_ne (tgt := 144) (am_dk tk_X5_robbed_1 13 rfl) (by decide) (fun hc137 => ?_) (fun hc137 => ?_)
          · rw [if_neg hc137] at h
            refine am_iload (j := 7) (am_dk tk_X5_robbed_1 16 rfl) rfl ?_
            exact am_iret rfl (am_r2 h hΦ) ⟨Nat.le_of_ble_eq_true rfl, Nat.le_of_ble_eq_true rfl⟩ (am_dk tk_X5_robbed_1 17 rfl)
          · rw [if_pos hc137] at h
            refine am_iconst (v := 0) (am_dk tk_X5_robbed_1 14 rfl) (by decide) ?_
            refine am_goto (tgt := 146) (am_dk tk_X5_robbed_1 15 rfl) (by decide) ?_
            exact am_iret rfl (am_r2 h hΦ) ⟨Nat.le_of_ble_eq_true rfl, Nat.le_of_ble_eq_true rfl⟩ (am_dk tk_X5_robbed_1 17 rfl)
        · rw [if_pos hc129] at h
          refine am_iload (j := 6) (am_dk tk_X5_robbed_1 10 rfl) rfl ?_
          exact am_iret rfl (am_r2 h hΦ) ⟨Nat.le_of_ble_eq_true rfl, Nat.le_of_ble_eq_true rfl⟩ (am_dk tk_X5_robbed_1 11 rfl)
      · rw [if_pos hc121] at h
        refine am_iload (j := 5) (am_dk tk_X5_robbed_1 5 rfl) rfl ?_
        exact am_iret rfl (am_r2 h hΦ) ⟨Nat.le_of_ble_eq_true rfl, Nat.le_of_ble_eq_true rfl⟩ (am_dk tk_X5_robbed_1 6 rfl)
    · rw [if_neg hc68] at h
      refine am_iload (j := 8) (am_dk tk_X5_robbed 40 rfl) rfl ?_
      refine am_iload_n (j := 1) (am_dk tk_X5_robbed 41 rfl) rfl rfl ?_
      refine am_iand (am_dk tk_X5_robbed 42 rfl) ?_
      refine am_iload_n (j := 1) (am_dk tk_X5_robbed 43 rfl) rfl rfl ?_
      refine am_icmp_ne (tgt := 114) (am_dk tk_X5_robbed 44 rfl) (by decide) (fun hc76 => ?_) (fun hc76 => ?_)
      · rw [if_neg hc76] at h
        refine am_iinc (j := 8) (v := x8 + 1) (L' := [(8, .int (x8 + 1)), (0, .ref 0), (1, .int x1), (2, .int x2), (3, .int x3), (4, .int x4), (5, .int x5), (6, .int x6), (7, .int x7)]) (am_dk tk_X5_robbed_1 1 rfl) rfl rfl (Nat.le_of_ble_eq_true rfl) rfl ?_
        refine am_goto (tgt := 64) (am_dk tk_X5_robbed_1 2 rfl) (by decide) ?_
        refine am_ls [1, 2, 3, 4, 5, 6, 7, 8, 0] rfl ?_
        exact ih _ _ _ _ _ _ _ _ _ h
      · rw [if_pos hc76] at h
        refine am_aload_n (j := 0) (am_dk tk_X5_robbed 45 rfl) rfl rfl ?_
        refine ly_getr (b := tw) rfl fl_X5_10 rfl rfl (am_dk tk_X5_robbed 46 rfl) ?_
        refine am_iload (j := 8) (am_dk tk_X5_robbed 47 rfl) rfl ?_
        obtain ⟨q85, hq85, h⟩ := am_bind h
        refine ly_cV (M := m_X4_yawnsOf) (As := [.int x8]) (b := tw) (st := []) (ct_X4_yawnsOf htw hq85) (lyT_s htw) (by decide) rfl ml_X5_241 ld_X4_yawnsOf rfl ⟨Nat.le_of_ble_eq_true rfl, Nat.le_of_ble_eq_true rfl⟩ (Nat.le_of_ble_eq_true rfl) ⟨rfl, rfl⟩ ⟨Nat.le_of_ble_eq_true rfl, Nat.le_of_ble_eq_true rfl⟩ (am_dk tk_X5_robbed 48 rfl) (am_kki ?_)
        refine am_iload_n (j := 2) (am_dk tk_X5_robbed 49 rfl) rfl rfl ?_
        refine am_icmp_eq (tgt := 95) (am_dk tk_X5_robbed 50 rfl) (by decide) (fun hc89 => ?_) (fun hc89 => ?_)
        · rw [if_pos hc89] at h
          refine am_iload (j := 5) (am_dk tk_X5_robbed 52 rfl) rfl ?_
          refine am_if_ne (tgt := 104) (am_dk tk_X5_robbed 53 rfl) (by decide) (fun hc97 => ?_) (fun hc97 => ?_)
          · simp only [if_neg hc97] at h
            exact bx_X5_robbed_104 htw hΦ (ih) _ _ _ _ _ _ _ _ _ h
          · simp only [if_pos hc97] at h
            refine am_iload (j := 8) (am_dk tk_X5_robbed 54 rfl) rfl ?_
            refine am_istore (L' := [(6, .int x8), (0, .ref 0), (1, .int x1), (2, .int x2), (3, .int x3), (4, .int x4), (5, .int x5), (7, .int x7), (8, .int x8)]) (am_dk tk_X5_robbed 55 rfl) (Nat.le_of_ble_eq_true rfl) rfl ?_
            refine am_ls [1, 2, 3, 4, 5, 6, 0, 7, 8] rfl ?_
            exact bx_X5_robbed_104 htw hΦ (ih) _ _ _ _ _ _ _ _ _ h
        · rw [if_neg hc89] at h
          refine am_goto (tgt := 114) (am_dk tk_X5_robbed 51 rfl) (by decide) ?_
          refine am_iinc (j := 8) (v := x8 + 1) (L' := [(8, .int (x8 + 1)), (0, .ref 0), (1, .int x1), (2, .int x2), (3, .int x3), (4, .int x4), (5, .int x5), (6, .int x6), (7, .int x7)]) (am_dk tk_X5_robbed_1 1 rfl) rfl rfl (Nat.le_of_ble_eq_true rfl) rfl ?_
          refine am_goto (tgt := 64) (am_dk tk_X5_robbed_1 2 rfl) (by decide) ?_
          refine am_ls [1, 2, 3, 4, 5, 6, 7, 8, 0] rfl ?_
          exact ih _ _ _ _ _ _ _ _ _ h
theorem ct_X5_robbed {l : Launch} {tw : Nat} {tp : Bool} (htw : lyT tw) {x1 : Int32} {x2 : Int32} {x3 : Int32} {r : Int32} {D D' : am_M} (h : f_X5_robbed tw x1 x2 x3 D = some (r, D')) : am_CT l m_X5_robbed false [.ref 0, .int x1, .int x2, .int x3] (ly tw tp D) (am_is (some (.int r)) (ly tw tp D')) := by
  have hΦ : am_is (some (.int r)) (ly tw tp D') (some (.int r)) (ly tw tp D') := ⟨rfl, rfl⟩
  refine am_CT.of (by decide) (Nat.le_of_ble_eq_true rfl) ?_
  show am_Ex _ _ _ 0 [(0, .ref 0), (1, .int x1), (2, .int x2), (3, .int x3)] [] _
  rw [f_X5_robbed] at h
  refine am_iconst (v := 1) (am_dk tk_X5_robbed 0 rfl) (by decide) ?_
  refine am_aload_n (j := 0) (am_dk tk_X5_robbed 1 rfl) rfl rfl ?_
  refine ly_getr (b := tw) rfl fl_X5_10 rfl rfl (am_dk tk_X5_robbed 2 rfl) ?_
  refine ly_geti (lyT_s htw) fl_X5_104 rfl (am_dk tk_X5_robbed 3 rfl) ?_
  refine am_ishl (am_dk tk_X5_robbed 4 rfl) ?_
  refine am_istore (L' := [(4, .int (1 <<< ((D tw 3) &&& 31))), (0, .ref 0), (1, .int x1), (2, .int x2), (3, .int x3)]) (am_dk tk_X5_robbed 5 rfl) (Nat.le_of_ble_eq_true rfl) rfl ?_
  refine am_iload_n (j := 2) (am_dk tk_X5_robbed 6 rfl) rfl rfl ?_
  refine am_iconst (v := 0) (am_dk tk_X5_robbed 7 rfl) (by decide) ?_
  refine am_iload (j := 0) (am_dk tk_X5_robbed 8 rfl) rfl ?_
  refine am_iconst (v := 1) (am_dk tk_X5_robbed 9 rfl) (by decide) ?_
  refine am_isub (am_dk tk_X5_robbed 10 rfl) ?_
  refine am_cS (M := m_X5_isWithin) (As := [.int x1, .int 0, .int ((1 <<< ((D tw 3) &&& 31)) - 1)]) (st := []) (ct_X5_isWithin _ _ _ _) ml_X5_67 ld_X5_isWithin rfl ⟨Nat.le_of_ble_eq_true rfl, Nat.le_of_ble_eq_true rfl⟩ (Nat.le_of_ble_eq_true rfl) ⟨rfl, rfl⟩ ⟨Nat.le_of_ble_eq_true rfl, Nat.le_of_ble_eq_true rfl⟩ (am_dk tk_X5_robbed 11 rfl) (am_kki ?_)
  refine am_if_ne (tgt := 26) (am_dk tk_X5_robbed 12 rfl) (by decide) (fun hc20 => ?_) (fun hc20 => ?_)
  · rw [if_neg hc20] at h
    refine am_iload_n (j := 3) (am_dk tk_X5_robbed 15 rfl) rfl rfl ?_
    refine am_iconst (v := 0) (am_dk tk_X5_robbed 16 rfl) (by decide) ?_
    refine am_sipush (v := 999) (am_dk tk_X5_robbed 17 rfl) (by decide) ?_
    refine am_cS (M := m_X5_isWithin) (As := [.int x2, .int 0, .int 999]) (st := []) (ct_X5_isWithin _ _ _ _) ml_X5_67 ld_X5_isWithin rfl ⟨Nat.le_of_ble_eq_true rfl, Nat.le_of_ble_eq_true rfl⟩ (Nat.le_of_ble_eq_true rfl) ⟨rfl, rfl⟩ ⟨Nat.le_of_ble_eq_true rfl, Nat.le_of_ble_eq_true rfl⟩ (am_dk tk_X5_robbed 18 rfl) (am_kki ?_)
    refine am_if_eq (tgt := 46) (am_dk tk_X5_robbed 19 rfl) (by decide) (fun hc34 => ?_) (fun hc34 => ?_)
    · rw [if_pos hc34] at h
      refine am_ldc kc_X5_71 (am_dk tk_X5_robbed 25 rfl) ?_
      exact am_iret rfl (am_r2 h hΦ) ⟨Nat.le_of_ble_eq_true rfl, Nat.le_of_ble_eq_true rfl⟩ (am_dk tk_X5_robbed 26 rfl)
    · rw [if_neg hc34] at h
      refine am_iload_n (j := 4) (am_dk tk_X5_robbed 20 rfl) rfl rfl ?_
      refine am_iconst (v := 0) (am_dk tk_X5_robbed 21 rfl) (by decide) ?_
      refine am_iconst (v := 2) (am_dk tk_X5_robbed 22 rfl) (by decide) ?_
      refine am_cS (M := m_X5_isWithin) (As := [.int x3, .int 0, .int 2]) (st := []) (ct_X5_isWithin _ _ _ _) ml_X5_67 ld_X5_isWithin rfl ⟨Nat.le_of_ble_eq_true rfl, Nat.le_of_ble_eq_true rfl⟩ (Nat.le_of_ble_eq_true rfl) ⟨rfl, rfl⟩ ⟨Nat.le_of_ble_eq_true rfl, Nat.le_of_ble_eq_true rfl⟩ (am_dk tk_X5_robbed 23 rfl) (am_kki ?_)
      refine am_if_ne (tgt := 49) (am_dk tk_X5_robbed 24 rfl) (by decide) (fun hc43 => ?_) (fun hc43 => ?_)
      · rw [if_neg hc43] at h
        refine am_iconst (v := 0) (am_dk tk_X5_robbed 27 rfl) (by decide) ?_
        refine am_istore (L' := [(5, .int 0), (4, .int (1 <<< ((D tw 3) &&& 31))), (0, .ref 0), (1, .int x1), (2, .int x2), (3, .int x3)]) (am_dk tk_X5_robbed 28 rfl) (Nat.le_of_ble_eq_true rfl) rfl ?_
        refine am_iconst (v := (-1)) (am_dk tk_X5_robbed 29 rfl) (by decide) ?_
        refine am_istore (L' := [(6, .int (-1)), (5, .int 0), (4, .int (1 <<< ((D tw 3) &&& 31))), (0, .ref 0), (1, .int x1), (2, .int x2), (3, .int x3)]) (am_dk tk_X5_robbed 30 rfl) (Nat.le_of_ble_eq_true rfl) rfl ?_
        refine am_iload (j := 2) (am_dk tk_X5_robbed 31 rfl) rfl ?_
        refine am_iconst (v := 1) (am_dk tk_X5_robbed 32 rfl) (by decide) ?_
        refine am_isub (am_dk tk_X5_robbed 33 rfl) ?_
        refine am_istore (L' := [(7, .int ((1 <<< ((D tw 3) &&& 31)) - 1)), (6, .int (-1)), (5, .int 0), (4, .int (1 <<< ((D tw 3) &&& 31))), (0, .ref 0), (1, .int x1), (2, .int x2), (3, .int x3)]) (am_dk tk_X5_robbed 34 rfl) (Nat.le_of_ble_eq_true rfl) rfl ?_
        refine am_iconst (v := 0) (am_dk tk_X5_robbed 35 rfl) (by decide) ?_
        refine am_istore (L' := [(8, .int 0), (7, .int ((1 <<< ((D tw 3) &&& 31)) - 1)), (6, .int (-1)), (5, .int 0), (4, .int (1 <<< ((D tw 3) &&& 31))), (0, .ref 0), (1, .int x1), (2, .int x2), (3, .int x3)]) (am_dk tk_X5_robbed 36 rfl) (Nat.le_of_ble_eq_true rfl) rfl ?_
        refine am_ls [5, 6, 7, 8, 4, 3, 2, 1, 0] rfl ?_
        exact bx_X5_robbed_64 htw hΦ am_N _ _ _ _ _ _ _ _ _ h
      · rw [if_pos hc43] at h
        refine am_ldc kc_X5_71 (am_dk tk_X5_robbed 25 rfl) ?_
        exact am_iret rfl (am_r2 h hΦ) ⟨Nat.le_of_ble_eq_true rfl, Nat.le_of_ble_eq_true rfl⟩ (am_dk tk_X5_robbed 26 rfl)
  · rw [if_pos hc20] at h
    refine am_ldc kc_X5_141 (am_dk tk_X5_robbed 13 rfl) ?_
    exact am_iret rfl (am_r2 h hΦ) ⟨Nat.le_of_ble_eq_true rfl, Nat.le_of_ble_eq_true rfl⟩ (am_dk tk_X5_robbed 14 rfl)
abbrev m_X5_nextToRun : am_D := (yX5_nextToRun, prog_1_method_27_code, 4, (some .int), { frames := 1, cells := 0, slots := 0, locals := 21 })
theorem ld_X5_nextToRun : am_LD m_X5_nextToRun 2 := ⟨(am_tb 79 (by decide +kernel) (by decide +kernel)), (am_tb 794 (by decide +kernel) (by decide +kernel)), by decide, by decide, by decide +kernel⟩
def tb_X5_nextToRun : List (Nat × Instr × Nat) := [(0, .iconst 0, 1), (1, .istore_n 3, 1), (2, .iload_n 3, 1), (3, .aload_n 0, 1), (4, .getfield 10, 3), (7, .getfield 104, 3), (10, .if_icmp .ge 35, 3), (13, .iload_n 1, 1), (14, .iload_n 3, 1), (15, .invokestatic 172, 3), (18, .ifCond .ne 21, 3), (21, .iload_n 2, 1), (22, .aload_n 0, 1), (23, .getfield 26, 3), (26, .getfield 142, 3), (29, .iload_n 3, 1), (30, .iaload, 1), (31, .bipush 10, 2), (33, .idiv, 1), (34, .if_icmp .lt 5, 3), (37, .iload_n 3, 1), (38, .ireturn, 1), (39, .iinc 3 1, 3), (42, .goto (-40), 3), (45, .iconst (-1), 1), (46, .ireturn, 1)]
theorem tk_X5_nextToRun : am_tbl prog_1_method_27_code tb_X5_nextToRun = true := by decide +kernel
def b_X5_nextToRun_2 (tw : Nat) : Nat → Int32 → Int32 → Int32 → am_M → Option (Int32 × am_M)
  | 0, _, _, _, _ => none
  | n + 1, x1, x2, x3, D => if (D tw 3) ≤ x3 then some ((-1), D) else if (f_X5_isIn x1 x3) = 0 then if am_in x3 5 = true then if x2 < ((D 26 x3.toNatClampNeg) / 10) then b_X5_nextToRun_2 tw n x1 x2 (x3 + 1) D else some (x3, D) else none else b_X5_nextToRun_2 tw n x1 x2 (x3 + 1) D
def f_X5_nextToRun (tw : Nat) (x1 : Int32) (x2 : Int32) (D : am_M) : Option (Int32 × am_M) := b_X5_nextToRun_2 tw am_N x1 x2 0 D
theorem bx_X5_nextToRun_2 {l : Launch} {h0 : am_H} {Φ : am_Ph} {tw : Nat} {tp : Bool} (htw : lyT tw) {r : Int32} {D' : am_M} (hΦ : Φ (some (.int r)) (ly tw tp D')) : ∀ (n : Nat) (x1 : Int32) (x2 : Int32) (x3 : Int32) (D : am_M), b_X5_nextToRun_2 tw n x1 x2 x3 D = some (r, D') → am_Ex (am_E l m_X5_nextToRun false h0 Φ) prog_1_method_27_code (0, 0) 2 [(0, .ref 0), (1, .int x1), (2, .int x2), (3, .int x3)] [] (ly tw tp D) := by
  intro n
  induction n with
  | zero =>
    intro x1 x2 x3 D h
    exact absurd h (by simp [b_X5_nextToRun_2])
  | succ n ih =>
    intro x1 x2 x3 D h
    rw [b_X5_nextToRun_2] at h
    refine am_iload_n (j := 3) (am_dk tk_X5_nextToRun 2 rfl) rfl rfl ?_
    refine am_aload_n (j := 0) (am_dk tk_X5_nextToRun 3 rfl) rfl rfl ?_
    refine ly_getr (b := tw) rfl fl_X5_10 rfl rfl (am_dk tk_X5_nextToRun 4 rfl) ?_
    refine ly_geti (lyT_s htw) fl_X5_104 rfl (am_dk tk_X5_nextToRun 5 rfl) ?_
    refine am_icmp_ge (tgt := 45) (am_dk tk_X5_nextToRun 6 rfl) (by decide) (fun hc10 => ?_) (fun hc10 => ?_)
    · rw [if_pos hc10] at h
      refine am_iconst (v := (-1)) (am_dk tk_X5_nextToRun 24 rfl) (by decide) ?_
      exact am_iret rfl (am_r2 h hΦ) ⟨Nat.le_of_ble_eq_true rfl, Nat.le_of_ble_eq_true rfl⟩ (am_dk tk_X5_nextToRun 25 rfl)
    · rw [if_neg hc10] at h
      refine am_iload_n (j := 1) (am_dk tk_X5_nextToRun 7 rfl) rfl rfl ?_
      refine am_iload_n (j := 3) (am_dk tk_X5_nextToRun 8 rfl) rfl rfl ?_
      refine am_cS (M := m_X5_isIn) (As := [.int x1, .int x3]) (st := []) (ct_X5_isIn _ _ _) ml_X5_172 ld_X5_isIn rfl ⟨Nat.le_of_ble_eq_true rfl, Nat.le_of_ble_eq_true rfl⟩ (Nat.le_of_ble_eq_true rfl) ⟨rfl, rfl⟩ ⟨Nat.le_of_ble_eq_true rfl, Nat.le_of_ble_eq_true rfl⟩ (am_dk tk_X5_nextToRun 9 rfl) (am_kki ?_)
      refine am_if_ne (tgt := 39) (am_dk tk_X5_nextToRun 10 rfl) (by decide) (fun hc18 => ?_) (fun hc18 => ?_)
      · rw [if_neg hc18] at h
        refine am_iinc (j := 3) (v := x3 + 1) (L' := [(3, .int (x3 + 1)), (0, .ref 0), (1, .int x1), (2, .int x2)]) (am_dk tk_X5_nextToRun 22 rfl) rfl rfl (Nat.le_of_ble_eq_true rfl) rfl ?_
        refine am_goto (tgt := 2) (am_dk tk_X5_nextToRun 23 rfl) (by decide) ?_
        refine am_ls [1, 2, 3, 0] rfl ?_
        exact ih _ _ _ _ h
      · rw [if_pos hc18] at h
        refine am_iload_n (j := 2) (am_dk tk_X5_nextToRun 11 rfl) rfl rfl ?_
        refine am_aload_n (j := 0) (am_dk tk_X5_nextToRun 12 rfl) rfl rfl ?_
        refine ly_getr (b := 25) rfl fl_X5_26 rfl rfl (am_dk tk_X5_nextToRun 13 rfl) ?_
        refine ly_getr (b := 26) rfl fl_X5_142 rfl rfl (am_dk tk_X5_nextToRun 14 rfl) ?_
        refine am_iload_n (j := 3) (am_dk tk_X5_nextToRun 15 rfl) rfl rfl ?_
        obtain ⟨hi30, h⟩ := am_chk h
        refine ly_iald (k := x3.toNatClampNeg) rfl (am_in_vp hi30) rfl (am_dk tk_X5_nextToRun 16 rfl) ?_
        refine am_bipush (v := 10) (am_dk tk_X5_nextToRun 17 rfl) (by decide) ?_
        refine am_idiv (am_dk tk_X5_nextToRun 18 rfl) (by decide) ?_
        refine am_icmp_lt (tgt := 39) (am_dk tk_X5_nextToRun 19 rfl) (by decide) (fun hc34 => ?_) (fun hc34 => ?_)
        · rw [if_pos hc34] at h
          refine am_iinc (j := 3) (v := x3 + 1) (L' := [(3, .int (x3 + 1)), (0, .ref 0), (1, .int x1), (2, .int x2)]) (am_dk tk_X5_nextToRun 22 rfl) rfl rfl (Nat.le_of_ble_eq_true rfl) rfl ?_
          refine am_goto (tgt := 2) (am_dk tk_X5_nextToRun 23 rfl) (by decide) ?_
          refine am_ls [1, 2, 3, 0] rfl ?_
          exact ih _ _ _ _ h
        · rw [if_neg hc34] at h
          refine am_iload_n (j := 3) (am_dk tk_X5_nextToRun 20 rfl) rfl rfl ?_
          exact am_iret rfl (am_r2 h hΦ) ⟨Nat.le_of_ble_eq_true rfl, Nat.le_of_ble_eq_true rfl⟩ (am_dk tk_X5_nextToRun 21 rfl)
theorem ct_X5_nextToRun {l : Launch} {tw : Nat} {tp : Bool} (htw : lyT tw) {x1 : Int32} {x2 : Int32} {r : Int32} {D D' : am_M} (h : f_X5_nextToRun tw x1 x2 D = some (r, D')) : am_CT l m_X5_nextToRun false [.ref 0, .int x1, .int x2] (ly tw tp D) (am_is (some (.int r)) (ly tw tp D')) := by
  have hΦ : am_is (some (.int r)) (ly tw tp D') (some (.int r)) (ly tw tp D') := ⟨rfl, rfl⟩
  refine am_CT.of (by decide) (Nat.le_of_ble_eq_true rfl) ?_
  show am_Ex _ _ _ 0 [(0, .ref 0), (1, .int x1), (2, .int x2)] [] _
  rw [f_X5_nextToRun] at h
  refine am_iconst (v := 0) (am_dk tk_X5_nextToRun 0 rfl) (by decide) ?_
  refine am_istore_n (L' := [(3, .int 0), (0, .ref 0), (1, .int x1), (2, .int x2)]) (am_dk tk_X5_nextToRun 1 rfl) rfl (Nat.le_of_ble_eq_true rfl) rfl ?_
  refine am_ls [1, 2, 3, 0] rfl ?_
  exact bx_X5_nextToRun_2 htw hΦ am_N _ _ _ _ h
abbrev m_X5_run : am_D := (yX5_run, prog_1_method_26_code, 8, (some .int), { frames := 2, cells := 0, slots := 0, locals := 44 })
theorem ld_X5_run : am_LD m_X5_run 2 := ⟨(am_tb 79 (by decide +kernel) (by decide +kernel)), (am_tb 790 (by decide +kernel) (by decide +kernel)), by decide, by decide, by decide +kernel⟩
def tb_X5_run : List (Nat × Instr × Nat) := [(0, .iload_n 1, 1), (1, .iconst 0, 1), (2, .sipush 999, 3), (5, .invokestatic 67, 3), (8, .ifCond .eq 12, 3), (11, .iload_n 2, 1), (12, .iconst 0, 1), (13, .iconst 1, 1), (14, .invokestatic 67, 3), (17, .ifCond .ne 6, 3), (20, .ldc 71, 2), (22, .ireturn, 1), (23, .iload_n 1, 1), (24, .istore_n 3, 1), (25, .iconst 0, 1), (26, .istore 4, 2), (28, .iconst 0, 1), (29, .istore 5, 2), (31, .iconst 0, 1), (32, .istore 6, 2), (34, .iload 6, 2), (36, .aload_n 0, 1), (37, .getfield 10, 3), (40, .getfield 104, 3), (43, .if_icmp .ge 77, 3), (46, .aload_n 0, 1), (47, .iload 4, 2), (49, .iload 6, 2), (51, .invokevirtual 244, 3), (54, .istore 7, 2), (56, .iload 7, 2), (58, .iconst (-1), 1), (59, .if_icmp .ne 6, 3), (62, .goto 58, 3), (65, .iload 4, 2), (67, .iconst 1, 1), (68, .iload 7, 2), (70, .ishl, 1), (71, .ior, 1), (72, .istore 4, 2), (74, .aload_n 0, 1), (75, .getfield 26, 3), (78, .getfield 145, 3), (81, .iload 7, 2), (83, .iaload, 1), (84, .iload_n 3, 1), (85, .if_icmp .le 12, 3), (88, .iload 5, 2), (90, .iconst 1, 1), (91, .iload 7, 2), (93, .ishl, 1), (94, .ior, 1), (95, .istore 5, 2), (97, .iload_n 3, 1), (98, .aload_n 0, 1), (99, .getfield 26, 3), (102, .getfield 145, 3), (105, .iload 7, 2), (107, .iaload, 1), (108, .iload_n 3, 1)]
theorem tk_X5_run : am_tbl prog_1_method_26_code tb_X5_run = true := by decide +kernel
def tb_X5_run_1 : List (Nat × Instr × Nat) := [(109, .invokestatic 193, 3), (112, .isub, 1), (113, .istore_n 3, 1), (114, .iinc 6 1, 3), (117, .goto (-83), 3), (120, .iload_n 2, 1), (121, .ifCond .ne 8, 3), (124, .iload 4, 2), (126, .goto 5, 3), (129, .iload 5, 2), (131, .ireturn, 1)]
theorem tk_X5_run_1 : am_tbl prog_1_method_26_code tb_X5_run_1 = true := by decide +kernel
def b_X5_run_120 (tw : Nat) (x2 : Int32) (x4 : Int32) (x5 : Int32) (D : am_M) : Option (Int32 × am_M) := if x2 = 0 then some (x4, D) else some (x5, D)
def b_X5_run_97 (tw : Nat) (k34 : Int32 → Int32 → Int32 → Int32 → Int32 → am_M → Option (Int32 × am_M)) (x2 : Int32) (x3 : Int32) (x4 : Int32) (x5 : Int32) (x6 : Int32) (x7 : Int32) (D : am_M) : Option (Int32 × am_M) := if am_in x7 5 = true then k34 x2 (x3 - (am_min (D 28 x7.toNatClampNeg) x3)) x4 x5 (x6 + 1) D else none
def b_X5_run_34 (tw : Nat) : Nat → Int32 → Int32 → Int32 → Int32 → Int32 → am_M → Option (Int32 × am_M)
  | 0, _, _, _, _, _, _ => none
  | n + 1, x2, x3, x4, x5, x6, D => if (D tw 3) ≤ x6 then b_X5_run_120 tw x2 x4 x5 D else (f_X5_nextToRun tw x4 x6 D).bind fun q51 => if q51.1 = (-1) then b_X5_run_120 tw x2 x4 x5 q51.2 else if am_in q51.1 5 = true then b_X5_run_97 tw (b_X5_run_34 tw n) x2 x3 (x4 ||| (1 <<< (q51.1 &&& 31))) (if (q51.2 28 q51.1.toNatClampNeg) ≤ x3 then x5 else x5 ||| (1 <<< (q51.1 &&& 31))) x6 q51.1 q51.2 else none
def f_X5_run (tw : Nat) (x1 : Int32) (x2 : Int32) (D : am_M) : Option (Int32 × am_M) := if (f_X5_isWithin x1 0 999) = 0 then some ((-1000000002), D) else if (f_X5_isWithin x2 0 1) = 0 then some ((-1000000002), D) else b_X5_run_34 tw am_N x2 x1 0 0 0 D
theorem bx_X5_run_120 {l : Launch} {h0 : am_H} {Φ : am_Ph} {tw : Nat} {tp : Bool} (htw : lyT tw) {r : Int32} {D' : am_M} (hΦ : Φ (some (.int r)) (ly tw tp D')) : ∀ (x2 : Int32) (x4 : Int32) (x5 : Int32) (D : am_M), b_X5_run_120 tw x2 x4 x5 D = some (r, D') → am_Ex (am_E l m_X5_run false h0 Φ) prog_1_method_26_code (0, 0) 120 [(2, .int x2), (4, .int x4), (5, .int x5)] [] (ly tw tp D) := by
  intro x2 x4 x5 D h
  rw [b_X5_run_120] at h
  refine am_iload_n (j := 0) (am_dk tk_X5_run_1 5 rfl) rfl rfl ?_
  refine am_if_ne (tgt := 129) (am_dk tk_X5_run_1 6 rfl) (by decide) (fun hc121 => ?_) (fun hc121 => ?_)
  · rw [if_neg hc121] at h
    refine am_iload (j := 2) (am_dk tk_X5_run_1 9 rfl) rfl ?_
    exact am_iret rfl (am_r2 h hΦ) ⟨Nat.le_of_ble_eq_true rfl, Nat.le_of_ble_eq_true rfl⟩ (am_dk tk_X5_run_1 10 rfl)
  · rw [if_pos hc121] at h
    refine am_iload (j := 1) (am_dk tk_X5_run_1 7 rfl) rfl ?_
    refine am_goto (tgt := 131) (am_dk tk_X5_run_1 8 rfl) (by decide) ?_
    exact am_iret rfl (am_r2 h hΦ) ⟨Nat.le_of_ble_eq_true rfl, Nat.le_of_ble_eq_true rfl⟩ (am_dk tk_X5_run_1 10 rfl)
theorem bx_X5_run_97 {l : Launch} {h0 : am_H} {Φ : am_Ph} {tw : Nat} {tp : Bool} (htw : lyT tw) {r : Int32} {D' : am_M} (hΦ : Φ (some (.int r)) (ly tw tp D')) {k34 : Int32 → Int32 → Int32 → Int32 → Int32 → am_M → Option (Int32 × am_M)} (hk34 : ∀ (x2 : Int32) (x3 : Int32) (x4 : Int32) (x5 : Int32) (x6 : Int32) (D : am_M), k34 x2 x3 x4 x5 x6 D = some (r, D') → am_Ex (am_E l m_X5_run false h0 Φ) prog_1_method_26_code (0, 0) 34 [(0, .ref 0), (2, .int x2), (3, .int x3), (4, .int x4), (5, .int x5), (6, .int x6)] [] (ly tw tp D)) : ∀ (x2 : Int32) (x3 : Int32) (x4 : Int32) (x5 : Int32) (x6 : Int32) (x7 : Int32) (D : am_M), b_X5_run_97 tw k34 x2 x3 x4 x5 x6 x7 D = some (r, D') → am_Ex (am_E l m_X5_run false h0 Φ) prog_1_method_26_code (0, 0) 97 [(0, .ref 0), (2, .int x2), (3, .int x3), (4, .int x4), (5, .int x5), (6, .int x6), (7, .int x7)] [] (ly tw tp D) := by
  intro x2 x3 x4 x5 x6 x7 D h
  rw [b_X5_run_97] at h
  refine am_iload_n (j := 2) (am_dk tk_X5_run 53 rfl) rfl rfl ?_
  refine am_aload_n (j := 0) (am_dk tk_X5_run 54 rfl) rfl rfl ?_
  refine ly_getr (b := 25) rfl fl_X5_26 rfl rfl (am_dk tk_X5_run 55 rfl) ?_
  refine ly_getr (b := 28) rfl fl_X5_145 rfl rfl (am_dk tk_X5_run 56 rfl) ?_
  refine am_iload (j := 6) (am_dk tk_X5_run 57 rfl) rfl ?_
  obtain ⟨hi107, h⟩ := am_chk h
  refine ly_iald (k := x7.toNatClampNeg) rfl (am_in_vp hi107) rfl (am_dk tk_X5_run 58 rfl) ?_
  refine am_iload_n (j := 2) (am_dk tk_X5_run 59 rfl) rfl rfl ?_
  refine am_mmin lm_X5_193 (Nat.le_of_ble_eq_true rfl) (Nat.le_of_ble_eq_true rfl) ⟨Nat.le_of_ble_eq_true rfl, Nat.le_of_ble_eq_true rfl⟩ (am_dk tk_X5_run_1 0 rfl) ?_
  refine am_isub (am_dk tk_X5_run_1 1 rfl) ?_
  refine am_istore_n (L' := [(3, .int (x3 - (am_min (D 28 x7.toNatClampNeg) x3))), (0, .ref 0), (2, .int x2), (4, .int x4), (5, .int x5), (6, .int x6), (7, .int x7)]) (am_dk tk_X5_run_1 2 rfl) rfl (Nat.le_of_ble_eq_true rfl) rfl ?_
  refine am_iinc (j := 5) (v := x6 + 1) (L' := [(6, .int (x6 + 1)), (3, .int (x3 - (am_min (D 28 x7.toNatClampNeg) x3))), (0, .ref 0), (2, .int x2), (4, .int x4), (5, .int x5), (7, .int x7)]) (am_dk tk_X5_run_1 3 rfl) rfl rfl (Nat.le_of_ble_eq_true rfl) rfl ?_
  refine am_goto (tgt := 34) (am_dk tk_X5_run_1 4 rfl) (by decide) ?_
  refine am_ls [2, 3, 1, 4, 5, 0] rfl ?_
  exact hk34 _ _ _ _ _ _ h
theorem bx_X5_run_34 {l : Launch} {h0 : am_H} {Φ : am_Ph} {tw : Nat} {tp : Bool} (htw : lyT tw) {r : Int32} {D' : am_M} (hΦ : Φ (some (.int r)) (ly tw tp D')) : ∀ (n : Nat) (x2 : Int32) (x3 : Int32) (x4 : Int32) (x5 : Int32) (x6 : Int32) (D : am_M), b_X5_run_34 tw n x2 x3 x4 x5 x6 D = some (r, D') → am_Ex (am_E l m_X5_run false h0 Φ) prog_1_method_26_code (0, 0) 34 [(0, .ref 0), (2, .int x2), (3, .int x3), (4, .int x4), (5, .int x5), (6, .int x6)] [] (ly tw tp D) := by
  intro n
  induction n with
  | zero =>
    intro x2 x3 x4 x5 x6 D h
    exact absurd h (by simp [b_X5_run_34])
  | succ n ih =>
    intro x2 x3 x4 x5 x6 D h
    rw [b_X5_run_34] at h
    refine am_iload (j := 5) (am_dk tk_X5_run 20 rfl) rfl ?_
    refine am_aload_n (j := 0) (am_dk tk_X5_run 21 rfl) rfl rfl ?_
    refine ly_getr (b := tw) rfl fl_X5_10 rfl rfl (am_dk tk_X5_run 22 rfl) ?_
    refine ly_geti (lyT_s htw) fl_X5_104 rfl (am_dk tk_X5_run 23 rfl) ?_
    refine am_icmp_ge (tgt := 120) (am_dk tk_X5_run 24 rfl) (by decide) (fun hc43 => ?_) (fun hc43 => ?_)
    · rw [if_pos hc43] at h
      refine am_ls [1, 3, 4] rfl ?_
      exact bx_X5_run_120 htw hΦ _ _ _ _ h
    · rw [if_neg hc43] at h
      refine am_aload_n (j := 0) (am_dk tk_X5_run 25 rfl) rfl rfl ?_
      refine am_iload (j := 3) (am_dk tk_X5_run 26 rfl) rfl ?_
      refine am_iload (j := 5) (am_dk tk_X5_run 27 rfl) rfl ?_
      obtain ⟨q51, hq51, h⟩ := am_bind h
      refine ly_cV (M := m_X5_nextToRun) (As := [.int x4, .int x6]) (b := 0) (st := []) (ct_X5_nextToRun htw hq51) rfl (by decide) rfl ml_X5_244 ld_X5_nextToRun rfl ⟨Nat.le_of_ble_eq_true rfl, Nat.le_of_ble_eq_true rfl⟩ (Nat.le_of_ble_eq_true rfl) ⟨rfl, rfl⟩ ⟨Nat.le_of_ble_eq_true rfl, Nat.le_of_ble_eq_true rfl⟩ (am_dk tk_X5_run 28 rfl) (am_kki ?_)
      refine am_istore (L' := [(7, .int q51.1), (0, .ref 0), (2, .int x2), (3, .int x3), (4, .int x4), (5, .int x5), (6, .int x6)]) (am_dk tk_X5_run 29 rfl) (Nat.le_of_ble_eq_true rfl) rfl ?_
      refine am_iload (j := 0) (am_dk tk_X5_run 30 rfl) rfl ?_
      refine am_iconst (v := (-1)) (am_dk tk_X5_run 31 rfl) (by decide) ?_
      refine am_icmp_ne (tgt := 65) (am_dk tk_X5_run 32 rfl) (by decide) (fun hc59 => ?_) (fun hc59 => ?_)
      · rw [if_neg hc59] at h
        refine am_iload (j := 4) (am_dk tk_X5_run 34 rfl) rfl ?_
        refine am_iconst (v := 1) (am_dk tk_X5_run 35 rfl) (by decide) ?_
        refine am_iload (j := 0) (am_dk tk_X5_run 36 rfl) rfl ?_
        refine am_ishl (am_dk tk_X5_run 37 rfl) ?_
        refine am_ior (am_dk tk_X5_run 38 rfl) ?_
        refine am_istore (L' := [(4, .int (x4 ||| (1 <<< (q51.1 &&& 31)))), (7, .int q51.1), (0, .ref 0), (2, .int x2), (3, .int x3), (5, .int x5), (6, .int x6)]) (am_dk tk_X5_run 39 rfl) (Nat.le_of_ble_eq_true rfl) rfl ?_
        refine am_aload_n (j := 2) (am_dk tk_X5_run 40 rfl) rfl rfl ?_
        refine ly_getr (b := 25) rfl fl_X5_26 rfl rfl (am_dk tk_X5_run 41 rfl) ?_
        refine ly_getr (b := 28) rfl fl_X5_145 rfl rfl (am_dk tk_X5_run 42 rfl) ?_
        refine am_iload (j := 1) (am_dk tk_X5_run 43 rfl) rfl ?_
        obtain ⟨hi83, h⟩ := am_chk h
        refine ly_iald (k := q51.1.toNatClampNeg) rfl (am_in_vp hi83) rfl (am_dk tk_X5_run 44 rfl) ?_
        refine am_iload_n (j := 4) (am_dk tk_X5_run 45 rfl) rfl rfl ?_
        refine am_icmp_le (tgt := 97) (am_dk tk_X5_run 46 rfl) (by decide) (fun hc85 => ?_) (fun hc85 => ?_)
        · simp only [if_pos hc85] at h
          refine am_ls [2, 3, 4, 0, 5, 6, 1] rfl ?_
          exact bx_X5_run_97 htw hΦ (ih) _ _ _ _ _ _ _ h
        · simp only [if_neg hc85] at h
          refine am_iload (j := 5) (am_dk tk_X5_run 47 rfl) rfl ?_
          refine am_iconst (v := 1) (am_dk tk_X5_run 48 rfl) (by decide) ?_
          refine am_iload (j := 1) (am_dk tk_X5_run 49 rfl) rfl ?_
          refine am_ishl (am_dk tk_X5_run 50 rfl) ?_
          refine am_ior (am_dk tk_X5_run 51 rfl) ?_
          refine am_istore (L' := [(5, .int (x5 ||| (1 <<< (q51.1 &&& 31)))), (4, .int (x4 ||| (1 <<< (q51.1 &&& 31)))), (7, .int q51.1), (0, .ref 0), (2, .int x2), (3, .int x3), (6, .int x6)]) (am_dk tk_X5_run 52 rfl) (Nat.le_of_ble_eq_true rfl) rfl ?_
          refine am_ls [3, 4, 5, 1, 0, 6, 2] rfl ?_
          exact bx_X5_run_97 htw hΦ (ih) _ _ _ _ _ _ _ h
      · rw [if_pos hc59] at h
        refine am_goto (tgt := 120) (am_dk tk_X5_run 33 rfl) (by decide) ?_
        refine am_ls [2, 4, 5] rfl ?_
        exact bx_X5_run_120 htw hΦ _ _ _ _ h
theorem ct_X5_run {l : Launch} {tw : Nat} {tp : Bool} (htw : lyT tw) {x1 : Int32} {x2 : Int32} {r : Int32} {D D' : am_M} (h : f_X5_run tw x1 x2 D = some (r, D')) : am_CT l m_X5_run false [.ref 0, .int x1, .int x2] (ly tw tp D) (am_is (some (.int r)) (ly tw tp D')) := by
  have hΦ : am_is (some (.int r)) (ly tw tp D') (some (.int r)) (ly tw tp D') := ⟨rfl, rfl⟩
  refine am_CT.of (by decide) (Nat.le_of_ble_eq_true rfl) ?_
  show am_Ex _ _ _ 0 [(0, .ref 0), (1, .int x1), (2, .int x2)] [] _
  rw [f_X5_run] at h
  refine am_iload_n (j := 1) (am_dk tk_X5_run 0 rfl) rfl rfl ?_
  refine am_iconst (v := 0) (am_dk tk_X5_run 1 rfl) (by decide) ?_
  refine am_sipush (v := 999) (am_dk tk_X5_run 2 rfl) (by decide) ?_
  refine am_cS (M := m_X5_isWithin) (As := [.int x1, .int 0, .int 999]) (st := []) (ct_X5_isWithin _ _ _ _) ml_X5_67 ld_X5_isWithin rfl ⟨Nat.le_of_ble_eq_true rfl, Nat.le_of_ble_eq_true rfl⟩ (Nat.le_of_ble_eq_true rfl) ⟨rfl, rfl⟩ ⟨Nat.le_of_ble_eq_true rfl, Nat.le_of_ble_eq_true rfl⟩ (am_dk tk_X5_run 3 rfl) (am_kki ?_)
  refine am_if_eq (tgt := 20) (am_dk tk_X5_run 4 rfl) (by decide) (fun hc8 => ?_) (fun hc8 => ?_)
  · rw [if_pos hc8] at h
    refine am_ldc kc_X5_71 (am_dk tk_X5_run 10 rfl) ?_
    exact am_iret rfl (am_r2 h hΦ) ⟨Nat.le_of_ble_eq_true rfl, Nat.le_of_ble_eq_true rfl⟩ (am_dk tk_X5_run 11 rfl)
  · rw [if_neg hc8] at h
    refine am_iload_n (j := 2) (am_dk tk_X5_run 5 rfl) rfl rfl ?_
    refine am_iconst (v := 0) (am_dk tk_X5_run 6 rfl) (by decide) ?_
    refine am_iconst (v := 1) (am_dk tk_X5_run 7 rfl) (by decide) ?_
    refine am_cS (M := m_X5_isWithin) (As := [.int x2, .int 0, .int 1]) (st := []) (ct_X5_isWithin _ _ _ _) ml_X5_67 ld_X5_isWithin rfl ⟨Nat.le_of_ble_eq_true rfl, Nat.le_of_ble_eq_true rfl⟩ (Nat.le_of_ble_eq_true rfl) ⟨rfl, rfl⟩ ⟨Nat.le_of_ble_eq_true rfl, Nat.le_of_ble_eq_true rfl⟩ (am_dk tk_X5_run 8 rfl) (am_kki ?_)
    refine am_if_ne (tgt := 23) (am_dk tk_X5_run 9 rfl) (by decide) (fun hc17 => ?_) (fun hc17 => ?_)
    · rw [if_neg hc17] at h
      refine am_iload_n (j := 1) (am_dk tk_X5_run 12 rfl) rfl rfl ?_
      refine am_istore_n (L' := [(3, .int x1), (0, .ref 0), (1, .int x1), (2, .int x2)]) (am_dk tk_X5_run 13 rfl) rfl (Nat.le_of_ble_eq_true rfl) rfl ?_
      refine am_iconst (v := 0) (am_dk tk_X5_run 14 rfl) (by decide) ?_
      refine am_istore (L' := [(4, .int 0), (3, .int x1), (0, .ref 0), (1, .int x1), (2, .int x2)]) (am_dk tk_X5_run 15 rfl) (Nat.le_of_ble_eq_true rfl) rfl ?_
      refine am_iconst (v := 0) (am_dk tk_X5_run 16 rfl) (by decide) ?_
      refine am_istore (L' := [(5, .int 0), (4, .int 0), (3, .int x1), (0, .ref 0), (1, .int x1), (2, .int x2)]) (am_dk tk_X5_run 17 rfl) (Nat.le_of_ble_eq_true rfl) rfl ?_
      refine am_iconst (v := 0) (am_dk tk_X5_run 18 rfl) (by decide) ?_
      refine am_istore (L' := [(6, .int 0), (5, .int 0), (4, .int 0), (3, .int x1), (0, .ref 0), (1, .int x1), (2, .int x2)]) (am_dk tk_X5_run 19 rfl) (Nat.le_of_ble_eq_true rfl) rfl ?_
      refine am_ls [4, 6, 3, 2, 1, 0] rfl ?_
      exact bx_X5_run_34 htw hΦ am_N _ _ _ _ _ _ h
    · rw [if_pos hc17] at h
      refine am_ldc kc_X5_71 (am_dk tk_X5_run 10 rfl) ?_
      exact am_iret rfl (am_r2 h hΦ) ⟨Nat.le_of_ble_eq_true rfl, Nat.le_of_ble_eq_true rfl⟩ (am_dk tk_X5_run 11 rfl)
abbrev m_X5_write : am_D := (yX5_write, prog_1_method_28_code, 3, (some .int), { frames := 2, cells := 0, slots := 0, locals := 43 })
theorem ld_X5_write : am_LD m_X5_write 2 := ⟨(am_tb 79 (by decide +kernel) (by decide +kernel)), (am_tb 798 (by decide +kernel) (by decide +kernel)), by decide, by decide, by decide +kernel⟩
def tb_X5_write : List (Nat × Instr × Nat) := [(0, .aload_n 0, 1), (1, .iload_n 1, 1), (2, .invokevirtual 137, 3), (5, .ifCond .ne 6, 3), (8, .ldc 141, 2), (10, .ireturn, 1), (11, .iload_n 2, 1), (12, .iconst 0, 1), (13, .sipush 9999, 3), (16, .invokestatic 67, 3), (19, .ifCond .ne 6, 3), (22, .ldc 71, 2), (24, .ireturn, 1), (25, .aload_n 0, 1), (26, .getfield 64, 3), (29, .bipush 15, 2), (31, .if_icmp .lt 6, 3), (34, .ldc 75, 2), (36, .ireturn, 1), (37, .aload_n 0, 1), (38, .getfield 57, 3), (41, .aload_n 0, 1), (42, .getfield 64, 3), (45, .iload_n 1, 1), (46, .iastore, 1), (47, .aload_n 0, 1), (48, .getfield 61, 3), (51, .aload_n 0, 1), (52, .getfield 64, 3), (55, .iload_n 2, 1), (56, .iastore, 1), (57, .aload_n 0, 1), (58, .dup, 1), (59, .getfield 64, 3), (62, .iconst 1, 1), (63, .iadd, 1), (64, .putfield 64, 3), (67, .aload_n 0, 1), (68, .getfield 64, 3), (71, .ireturn, 1)]
theorem tk_X5_write : am_tbl prog_1_method_28_code tb_X5_write = true := by decide +kernel
def f_X5_write (tw : Nat) (x1 : Int32) (x2 : Int32) (D : am_M) : Option (Int32 × am_M) := if (f_X5_isPerson tw x1 D) = 0 then some ((-1000000001), D) else if (f_X5_isWithin x2 0 9999) = 0 then some ((-1000000002), D) else if (D 0 11) < 15 then if am_in (D 0 11) 15 = true then if am_in ((am_up D 54 (D 0 11).toNatClampNeg x1) 0 11) 15 = true then some ((am_up (am_up (am_up D 54 (D 0 11).toNatClampNeg x1) 55 ((am_up D 54 (D 0 11).toNatClampNeg x1) 0 11).toNatClampNeg x2) 0 11 (((am_up (am_up D 54 (D 0 11).toNatClampNeg x1) 55 ((am_up D 54 (D 0 11).toNatClampNeg x1) 0 11).toNatClampNeg x2) 0 11) + 1)) 0 11, am_up (am_up (am_up D 54 (D 0 11).toNatClampNeg x1) 55 ((am_up D 54 (D 0 11).toNatClampNeg x1) 0 11).toNatClampNeg x2) 0 11 (((am_up (am_up D 54 (D 0 11).toNatClampNeg x1) 55 ((am_up D 54 (D 0 11).toNatClampNeg x1) 0 11).toNatClampNeg x2) 0 11) + 1)) else none else none else some ((-1000000004), D)
theorem ct_X5_write {l : Launch} {tw : Nat} {tp : Bool} (htw : lyT tw) {x1 : Int32} {x2 : Int32} {r : Int32} {D D' : am_M} (h : f_X5_write tw x1 x2 D = some (r, D')) : am_CT l m_X5_write false [.ref 0, .int x1, .int x2] (ly tw tp D) (am_is (some (.int r)) (ly tw tp D')) := by
  have hΦ : am_is (some (.int r)) (ly tw tp D') (some (.int r)) (ly tw tp D') := ⟨rfl, rfl⟩
  refine am_CT.of (by decide) (Nat.le_of_ble_eq_true rfl) ?_
  show am_Ex _ _ _ 0 [(0, .ref 0), (1, .int x1), (2, .int x2)] [] _
  rw [f_X5_write] at h
  refine am_aload_n (j := 0) (am_dk tk_X5_write 0 rfl) rfl rfl ?_
  refine am_iload_n (j := 1) (am_dk tk_X5_write 1 rfl) rfl rfl ?_
  refine ly_cV (M := m_X5_isPerson) (As := [.int x1]) (b := 0) (st := []) (ct_X5_isPerson htw _ _) rfl (by decide) rfl ml_X5_137 ld_X5_isPerson rfl ⟨Nat.le_of_ble_eq_true rfl, Nat.le_of_ble_eq_true rfl⟩ (Nat.le_of_ble_eq_true rfl) ⟨rfl, rfl⟩ ⟨Nat.le_of_ble_eq_true rfl, Nat.le_of_ble_eq_true rfl⟩ (am_dk tk_X5_write 2 rfl) (am_kki ?_)
  refine am_if_ne (tgt := 11) (am_dk tk_X5_write 3 rfl) (by decide) (fun hc5 => ?_) (fun hc5 => ?_)
  · rw [if_neg hc5] at h
    refine am_iload_n (j := 2) (am_dk tk_X5_write 6 rfl) rfl rfl ?_
    refine am_iconst (v := 0) (am_dk tk_X5_write 7 rfl) (by decide) ?_
    refine am_sipush (v := 9999) (am_dk tk_X5_write 8 rfl) (by decide) ?_
    refine am_cS (M := m_X5_isWithin) (As := [.int x2, .int 0, .int 9999]) (st := []) (ct_X5_isWithin _ _ _ _) ml_X5_67 ld_X5_isWithin rfl ⟨Nat.le_of_ble_eq_true rfl, Nat.le_of_ble_eq_true rfl⟩ (Nat.le_of_ble_eq_true rfl) ⟨rfl, rfl⟩ ⟨Nat.le_of_ble_eq_true rfl, Nat.le_of_ble_eq_true rfl⟩ (am_dk tk_X5_write 9 rfl) (am_kki ?_)
    refine am_if_ne (tgt := 25) (am_dk tk_X5_write 10 rfl) (by decide) (fun hc19 => ?_) (fun hc19 => ?_)
    · rw [if_neg hc19] at h
      refine am_aload_n (j := 0) (am_dk tk_X5_write 13 rfl) rfl rfl ?_
      refine ly_geti rfl fl_X5_64 rfl (am_dk tk_X5_write 14 rfl) ?_
      refine am_bipush (v := 15) (am_dk tk_X5_write 15 rfl) (by decide) ?_
      refine am_icmp_lt (tgt := 37) (am_dk tk_X5_write 16 rfl) (by decide) (fun hc31 => ?_) (fun hc31 => ?_)
      · rw [if_pos hc31] at h
        refine am_aload_n (j := 0) (am_dk tk_X5_write 19 rfl) rfl rfl ?_
        refine ly_getr (b := 54) rfl fl_X5_57 rfl rfl (am_dk tk_X5_write 20 rfl) ?_
        refine am_aload_n (j := 0) (am_dk tk_X5_write 21 rfl) rfl rfl ?_
        refine ly_geti rfl fl_X5_64 rfl (am_dk tk_X5_write 22 rfl) ?_
        refine am_iload_n (j := 1) (am_dk tk_X5_write 23 rfl) rfl rfl ?_
        obtain ⟨hi46, h⟩ := am_chk h
        refine ly_iast (k := (D 0 11).toNatClampNeg) rfl (am_in_vp hi46) rfl (am_dk tk_X5_write 24 rfl) ?_
        refine am_aload_n (j := 0) (am_dk tk_X5_write 25 rfl) rfl rfl ?_
        refine ly_getr (b := 55) rfl fl_X5_61 rfl rfl (am_dk tk_X5_write 26 rfl) ?_
        refine am_aload_n (j := 0) (am_dk tk_X5_write 27 rfl) rfl rfl ?_
        refine ly_geti rfl fl_X5_64 rfl (am_dk tk_X5_write 28 rfl) ?_
        refine am_iload_n (j := 2) (am_dk tk_X5_write 29 rfl) rfl rfl ?_
        obtain ⟨hi56, h⟩ := am_chk h
        refine ly_iast (k := ((am_up D 54 (D 0 11).toNatClampNeg x1) 0 11).toNatClampNeg) rfl (am_in_vp hi56) rfl (am_dk tk_X5_write 30 rfl) ?_
        refine am_aload_n (j := 0) (am_dk tk_X5_write 31 rfl) rfl rfl ?_
        refine am_dup (am_dk tk_X5_write 32 rfl) rfl ?_
        refine ly_geti rfl fl_X5_64 rfl (am_dk tk_X5_write 33 rfl) ?_
        refine am_iconst (v := 1) (am_dk tk_X5_write 34 rfl) (by decide) ?_
        refine am_iadd (am_dk tk_X5_write 35 rfl) ?_
        refine ly_puti rfl fl_X5_64 rfl rfl (am_dk tk_X5_write 36 rfl) ?_
        refine am_aload_n (j := 0) (am_dk tk_X5_write 37 rfl) rfl rfl ?_
        refine ly_geti rfl fl_X5_64 rfl (am_dk tk_X5_write 38 rfl) ?_
        exact am_iret rfl (am_r2 h hΦ) ⟨Nat.le_of_ble_eq_true rfl, Nat.le_of_ble_eq_true rfl⟩ (am_dk tk_X5_write 39 rfl)
      · rw [if_neg hc31] at h
        refine am_ldc kc_X5_75 (am_dk tk_X5_write 17 rfl) ?_
        exact am_iret rfl (am_r2 h hΦ) ⟨Nat.le_of_ble_eq_true rfl, Nat.le_of_ble_eq_true rfl⟩ (am_dk tk_X5_write 18 rfl)
    · rw [if_pos hc19] at h
      refine am_ldc kc_X5_71 (am_dk tk_X5_write 11 rfl) ?_
      exact am_iret rfl (am_r2 h hΦ) ⟨Nat.le_of_ble_eq_true rfl, Nat.le_of_ble_eq_true rfl⟩ (am_dk tk_X5_write 12 rfl)
  · rw [if_pos hc5] at h
    refine am_ldc kc_X5_141 (am_dk tk_X5_write 4 rfl) ?_
    exact am_iret rfl (am_r2 h hΦ) ⟨Nat.le_of_ble_eq_true rfl, Nat.le_of_ble_eq_true rfl⟩ (am_dk tk_X5_write 5 rfl)
abbrev m_X5_tear : am_D := (yX5_tear, prog_1_method_29_code, 2, (some .int), { frames := 0, cells := 0, slots := 0, locals := 0 })
theorem ld_X5_tear : am_LD m_X5_tear 0 := ⟨(am_tb 79 (by decide +kernel) (by decide +kernel)), (am_tb 802 (by decide +kernel) (by decide +kernel)), by decide, by decide, by decide +kernel⟩
def tb_X5_tear : List (Nat × Instr × Nat) := [(0, .aload_n 0, 1), (1, .getfield 64, 3), (4, .istore_n 1, 1), (5, .aload_n 0, 1), (6, .iconst 0, 1), (7, .putfield 64, 3), (10, .iload_n 1, 1), (11, .ireturn, 1)]
theorem tk_X5_tear : am_tbl prog_1_method_29_code tb_X5_tear = true := by decide +kernel
def f_X5_tear (tw : Nat) (D : am_M) : Option (Int32 × am_M) := some (D 0 11, am_up D 0 11 0)
theorem ct_X5_tear {l : Launch} {tw : Nat} {tp : Bool} (htw : lyT tw) {r : Int32} {D D' : am_M} (h : f_X5_tear tw D = some (r, D')) : am_CT l m_X5_tear false [.ref 0] (ly tw tp D) (am_is (some (.int r)) (ly tw tp D')) := by
  have hΦ : am_is (some (.int r)) (ly tw tp D') (some (.int r)) (ly tw tp D') := ⟨rfl, rfl⟩
  refine am_CT.of (by decide) (Nat.le_of_ble_eq_true rfl) ?_
  show am_Ex _ _ _ 0 [(0, .ref 0)] [] _
  rw [f_X5_tear] at h
  refine am_aload_n (j := 0) (am_dk tk_X5_tear 0 rfl) rfl rfl ?_
  refine ly_geti rfl fl_X5_64 rfl (am_dk tk_X5_tear 1 rfl) ?_
  refine am_istore_n (L' := [(1, .int (D 0 11)), (0, .ref 0)]) (am_dk tk_X5_tear 2 rfl) rfl (Nat.le_of_ble_eq_true rfl) rfl ?_
  refine am_aload_n (j := 1) (am_dk tk_X5_tear 3 rfl) rfl rfl ?_
  refine am_iconst (v := 0) (am_dk tk_X5_tear 4 rfl) (by decide) ?_
  refine ly_puti rfl fl_X5_64 rfl rfl (am_dk tk_X5_tear 5 rfl) ?_
  refine am_iload_n (j := 0) (am_dk tk_X5_tear 6 rfl) rfl rfl ?_
  exact am_iret rfl (am_r2 h hΦ) ⟨Nat.le_of_ble_eq_true rfl, Nat.le_of_ble_eq_true rfl⟩ (am_dk tk_X5_tear 7 rfl)
abbrev m_X5_judge : am_D := (yX5_judge, prog_1_method_30_code, 2, (some .int), { frames := 0, cells := 0, slots := 0, locals := 0 })
theorem ld_X5_judge : am_LD m_X5_judge 0 := ⟨(am_tb 79 (by decide +kernel) (by decide +kernel)), (am_tb 806 (by decide +kernel) (by decide +kernel)), by decide, by decide, by decide +kernel⟩
def tb_X5_judge : List (Nat × Instr × Nat) := [(0, .iconst 0, 1), (1, .istore_n 1, 1), (2, .iload_n 1, 1), (3, .aload_n 0, 1), (4, .getfield 64, 3), (7, .if_icmp .ge 34, 3), (10, .aload_n 0, 1), (11, .getfield 26, 3), (14, .getfield 145, 3), (17, .aload_n 0, 1), (18, .getfield 57, 3), (21, .iload_n 1, 1), (22, .iaload, 1), (23, .iaload, 1), (24, .aload_n 0, 1), (25, .getfield 61, 3), (28, .iload_n 1, 1), (29, .iaload, 1), (30, .if_icmp .eq 5, 3), (33, .iload_n 1, 1), (34, .ireturn, 1), (35, .iinc 1 1, 3), (38, .goto (-36), 3), (41, .iconst (-1), 1), (42, .ireturn, 1)]
theorem tk_X5_judge : am_tbl prog_1_method_30_code tb_X5_judge = true := by decide +kernel
def b_X5_judge_2 (tw : Nat) : Nat → Int32 → am_M → Option (Int32 × am_M)
  | 0, _, _ => none
  | n + 1, x1, D => if (D 0 11) ≤ x1 then some ((-1), D) else if am_in x1 15 = true then if am_in (D 54 x1.toNatClampNeg) 5 = true then if (D 28 (D 54 x1.toNatClampNeg).toNatClampNeg) = (D 55 x1.toNatClampNeg) then b_X5_judge_2 tw n (x1 + 1) D else some (x1, D) else none else none
def f_X5_judge (tw : Nat) (D : am_M) : Option (Int32 × am_M) := b_X5_judge_2 tw am_N 0 D
theorem bx_X5_judge_2 {l : Launch} {h0 : am_H} {Φ : am_Ph} {tw : Nat} {tp : Bool} (htw : lyT tw) {r : Int32} {D' : am_M} (hΦ : Φ (some (.int r)) (ly tw tp D')) : ∀ (n : Nat) (x1 : Int32) (D : am_M), b_X5_judge_2 tw n x1 D = some (r, D') → am_Ex (am_E l m_X5_judge false h0 Φ) prog_1_method_30_code (0, 0) 2 [(0, .ref 0), (1, .int x1)] [] (ly tw tp D) := by
  intro n
  induction n with
  | zero =>
    intro x1 D h
    exact absurd h (by simp [b_X5_judge_2])
  | succ n ih =>
    intro x1 D h
    rw [b_X5_judge_2] at h
    refine am_iload_n (j := 1) (am_dk tk_X5_judge 2 rfl) rfl rfl ?_
    refine am_aload_n (j := 0) (am_dk tk_X5_judge 3 rfl) rfl rfl ?_
    refine ly_geti rfl fl_X5_64 rfl (am_dk tk_X5_judge 4 rfl) ?_
    refine am_icmp_ge (tgt := 41) (am_dk tk_X5_judge 5 rfl) (by decide) (fun hc7 => ?_) (fun hc7 => ?_)
    · rw [if_pos hc7] at h
      refine am_iconst (v := (-1)) (am_dk tk_X5_judge 23 rfl) (by decide) ?_
      exact am_iret rfl (am_r2 h hΦ) ⟨Nat.le_of_ble_eq_true rfl, Nat.le_of_ble_eq_true rfl⟩ (am_dk tk_X5_judge 24 rfl)
    · rw [if_neg hc7] at h
      refine am_aload_n (j := 0) (am_dk tk_X5_judge 6 rfl) rfl rfl ?_
      refine ly_getr (b := 25) rfl fl_X5_26 rfl rfl (am_dk tk_X5_judge 7 rfl) ?_
      refine ly_getr (b := 28) rfl fl_X5_145 rfl rfl (am_dk tk_X5_judge 8 rfl) ?_
      refine am_aload_n (j := 0) (am_dk tk_X5_judge 9 rfl) rfl rfl ?_
      refine ly_getr (b := 54) rfl fl_X5_57 rfl rfl (am_dk tk_X5_judge 10 rfl) ?_
      refine am_iload_n (j := 1) (am_dk tk_X5_judge 11 rfl) rfl rfl ?_
      obtain ⟨hi22, h⟩ := am_chk h
      refine ly_iald (k := x1.toNatClampNeg) rfl (am_in_vp hi22) rfl (am_dk tk_X5_judge 12 rfl) ?_
      obtain ⟨hi23, h⟩ := am_chk h
      refine ly_iald (k := (D 54 x1.toNatClampNeg).toNatClampNeg) rfl (am_in_vp hi23) rfl (am_dk tk_X5_judge 13 rfl) ?_
      refine am_aload_n (j := 0) (am_dk tk_X5_judge 14 rfl) rfl rfl ?_
      refine ly_getr (b := 55) rfl fl_X5_61 rfl rfl (am_dk tk_X5_judge 15 rfl) ?_
      refine am_iload_n (j := 1) (am_dk tk_X5_judge 16 rfl) rfl rfl ?_
      refine ly_iald (k := x1.toNatClampNeg) rfl (am_in_vp hi22) rfl (am_dk tk_X5_judge 17 rfl) ?_
      refine am_icmp_eq (tgt := 35) (am_dk tk_X5_judge 18 rfl) (by decide) (fun hc30 => ?_) (fun hc30 => ?_)
      · rw [if_pos hc30] at h
        refine am_iinc (j := 1) (v := x1 + 1) (L' := [(1, .int (x1 + 1)), (0, .ref 0)]) (am_dk tk_X5_judge 21 rfl) rfl rfl (Nat.le_of_ble_eq_true rfl) rfl ?_
        refine am_goto (tgt := 2) (am_dk tk_X5_judge 22 rfl) (by decide) ?_
        refine am_ls [1, 0] rfl ?_
        exact ih _ _ h
      · rw [if_neg hc30] at h
        refine am_iload_n (j := 1) (am_dk tk_X5_judge 19 rfl) rfl rfl ?_
        exact am_iret rfl (am_r2 h hΦ) ⟨Nat.le_of_ble_eq_true rfl, Nat.le_of_ble_eq_true rfl⟩ (am_dk tk_X5_judge 20 rfl)
theorem ct_X5_judge {l : Launch} {tw : Nat} {tp : Bool} (htw : lyT tw) {r : Int32} {D D' : am_M} (h : f_X5_judge tw D = some (r, D')) : am_CT l m_X5_judge false [.ref 0] (ly tw tp D) (am_is (some (.int r)) (ly tw tp D')) := by
  have hΦ : am_is (some (.int r)) (ly tw tp D') (some (.int r)) (ly tw tp D') := ⟨rfl, rfl⟩
  refine am_CT.of (by decide) (Nat.le_of_ble_eq_true rfl) ?_
  show am_Ex _ _ _ 0 [(0, .ref 0)] [] _
  rw [f_X5_judge] at h
  refine am_iconst (v := 0) (am_dk tk_X5_judge 0 rfl) (by decide) ?_
  refine am_istore_n (L' := [(1, .int 0), (0, .ref 0)]) (am_dk tk_X5_judge 1 rfl) rfl (Nat.le_of_ble_eq_true rfl) rfl ?_
  refine am_ls [1, 0] rfl ?_
  exact bx_X5_judge_2 htw hΦ am_N _ _ h
abbrev m_X5_seed : am_D := (yX5_seed, prog_1_method_31_code, 3, (some .int), { frames := 0, cells := 0, slots := 0, locals := 0 })
theorem ld_X5_seed : am_LD m_X5_seed 1 := ⟨(am_tb 79 (by decide +kernel) (by decide +kernel)), (am_tb 810 (by decide +kernel) (by decide +kernel)), by decide, by decide, by decide +kernel⟩
def tb_X5_seed : List (Nat × Instr × Nat) := [(0, .iload_n 1, 1), (1, .ifCond .ge 6, 3), (4, .ldc 71, 2), (6, .ireturn, 1), (7, .aload_n 0, 1), (8, .getfield 26, 3), (11, .getfield 90, 3), (14, .istore_n 2, 1), (15, .aload_n 0, 1), (16, .getfield 26, 3), (19, .iload_n 1, 1), (20, .putfield 90, 3), (23, .iload_n 2, 1), (24, .ireturn, 1)]
theorem tk_X5_seed : am_tbl prog_1_method_31_code tb_X5_seed = true := by decide +kernel
def f_X5_seed (tw : Nat) (x1 : Int32) (D : am_M) : Option (Int32 × am_M) := if 0 ≤ x1 then some (D 25 7, am_up D 25 7 x1) else some ((-1000000002), D)
theorem ct_X5_seed {l : Launch} {tw : Nat} {tp : Bool} (htw : lyT tw) {x1 : Int32} {r : Int32} {D D' : am_M} (h : f_X5_seed tw x1 D = some (r, D')) : am_CT l m_X5_seed false [.ref 0, .int x1] (ly tw tp D) (am_is (some (.int r)) (ly tw tp D')) := by
  have hΦ : am_is (some (.int r)) (ly tw tp D') (some (.int r)) (ly tw tp D') := ⟨rfl, rfl⟩
  refine am_CT.of (by decide) (Nat.le_of_ble_eq_true rfl) ?_
  show am_Ex _ _ _ 0 [(0, .ref 0), (1, .int x1)] [] _
  rw [f_X5_seed] at h
  refine am_iload_n (j := 1) (am_dk tk_X5_seed 0 rfl) rfl rfl ?_
  refine am_if_ge (tgt := 7) (am_dk tk_X5_seed 1 rfl) (by decide) (fun hc1 => ?_) (fun hc1 => ?_)
  · rw [if_pos hc1] at h
    refine am_aload_n (j := 0) (am_dk tk_X5_seed 4 rfl) rfl rfl ?_
    refine ly_getr (b := 25) rfl fl_X5_26 rfl rfl (am_dk tk_X5_seed 5 rfl) ?_
    refine ly_geti rfl fl_X5_90 rfl (am_dk tk_X5_seed 6 rfl) ?_
    refine am_istore_n (L' := [(2, .int (D 25 7)), (0, .ref 0), (1, .int x1)]) (am_dk tk_X5_seed 7 rfl) rfl (Nat.le_of_ble_eq_true rfl) rfl ?_
    refine am_aload_n (j := 1) (am_dk tk_X5_seed 8 rfl) rfl rfl ?_
    refine ly_getr (b := 25) rfl fl_X5_26 rfl rfl (am_dk tk_X5_seed 9 rfl) ?_
    refine am_iload_n (j := 2) (am_dk tk_X5_seed 10 rfl) rfl rfl ?_
    refine ly_puti rfl fl_X5_90 rfl rfl (am_dk tk_X5_seed 11 rfl) ?_
    refine am_iload_n (j := 0) (am_dk tk_X5_seed 12 rfl) rfl rfl ?_
    exact am_iret rfl (am_r2 h hΦ) ⟨Nat.le_of_ble_eq_true rfl, Nat.le_of_ble_eq_true rfl⟩ (am_dk tk_X5_seed 13 rfl)
  · rw [if_neg hc1] at h
    refine am_ldc kc_X5_71 (am_dk tk_X5_seed 2 rfl) ?_
    exact am_iret rfl (am_r2 h hΦ) ⟨Nat.le_of_ble_eq_true rfl, Nat.le_of_ble_eq_true rfl⟩ (am_dk tk_X5_seed 3 rfl)
abbrev m_X5_imageOf : am_D := (yX5_imageOf, prog_1_method_34_code, 2, (some (.object "SleepMint$Moment")), { frames := 0, cells := 0, slots := 0, locals := 0 })
theorem ld_X5_imageOf : am_LD m_X5_imageOf 1 := ⟨(am_tb 79 (by decide +kernel) (by decide +kernel)), (am_tb 818 (by decide +kernel) (by decide +kernel)), by decide, by decide, by decide +kernel⟩
def tb_X5_imageOf : List (Nat × Instr × Nat) := [(0, .iload_n 1, 1), (1, .ifCond .ne 10, 3), (4, .aload_n 0, 1), (5, .getfield 33, 3), (8, .goto 7, 3), (11, .aload_n 0, 1), (12, .getfield 36, 3), (15, .areturn, 1)]
theorem tk_X5_imageOf : am_tbl prog_1_method_34_code tb_X5_imageOf = true := by decide +kernel
def f_X5_imageOf (tw : Nat) (x1 : Int32) : Nat := if x1 = 0 then 35 else 40
theorem ct_X5_imageOf {l : Launch} {tw : Nat} {tp : Bool} (htw : lyT tw) (x1 : Int32) (D : am_M) : am_CT l m_X5_imageOf false [.ref 0, .int x1] (ly tw tp D) (am_is (some (.ref (f_X5_imageOf tw x1))) (ly tw tp D)) := by
  refine am_CT.of (by decide) (Nat.le_of_ble_eq_true rfl) ?_
  show am_Ex _ _ _ 0 [(0, .ref 0), (1, .int x1)] [] _
  refine am_iload_n (j := 1) (am_dk tk_X5_imageOf 0 rfl) rfl rfl ?_
  refine am_if_ne (tgt := 11) (am_dk tk_X5_imageOf 1 rfl) (by decide) (fun hc1 => ?_) (fun hc1 => ?_)
  · skip
    refine am_aload_n (j := 0) (am_dk tk_X5_imageOf 5 rfl) rfl rfl ?_
    refine ly_getr (b := 40) rfl fl_X5_36 rfl rfl (am_dk tk_X5_imageOf 6 rfl) ?_
    exact am_aret rfl (Or.inl ⟨_, rfl⟩) ⟨by simp only [f_X5_imageOf, if_neg hc1], rfl⟩ ⟨Nat.le_of_ble_eq_true rfl, Nat.le_of_ble_eq_true rfl⟩ (am_dk tk_X5_imageOf 7 rfl)
  · skip
    refine am_aload_n (j := 0) (am_dk tk_X5_imageOf 2 rfl) rfl rfl ?_
    refine ly_getr (b := 35) rfl fl_X5_33 rfl rfl (am_dk tk_X5_imageOf 3 rfl) ?_
    refine am_goto (tgt := 15) (am_dk tk_X5_imageOf 4 rfl) (by decide) ?_
    exact am_aret rfl (Or.inl ⟨_, rfl⟩) ⟨by simp only [f_X5_imageOf, if_pos hc1], rfl⟩ ⟨Nat.le_of_ble_eq_true rfl, Nat.le_of_ble_eq_true rfl⟩ (am_dk tk_X5_imageOf 7 rfl)
theorem lyM_im (tw : Nat) (x1 : Int32) : lyM (f_X5_imageOf tw x1) := by
  unfold f_X5_imageOf
  exact lyM_ite
abbrev m_X5_keep : am_D := (yX5_keep, prog_1_method_32_code, 2, (some .int), { frames := 2, cells := 0, slots := 0, locals := 51 })
theorem ld_X5_keep : am_LD m_X5_keep 1 := ⟨(am_tb 79 (by decide +kernel) (by decide +kernel)), (am_tb 814 (by decide +kernel) (by decide +kernel)), by decide, by decide, by decide +kernel⟩
def tb_X5_keep : List (Nat × Instr × Nat) := [(0, .iload_n 1, 1), (1, .iconst 0, 1), (2, .iconst 1, 1), (3, .invokestatic 67, 3), (6, .ifCond .ne 6, 3), (9, .ldc 141, 2), (11, .ireturn, 1), (12, .aload_n 0, 1), (13, .iload_n 1, 1), (14, .invokevirtual 247, 3), (17, .aload_n 0, 1), (18, .getfield 26, 3), (21, .invokevirtual 96, 3), (24, .aload_n 0, 1), (25, .dup, 1), (26, .getfield 39, 3), (29, .iconst 1, 1), (30, .iload_n 1, 1), (31, .ishl, 1), (32, .ior, 1), (33, .putfield 39, 3), (36, .iconst 1, 1), (37, .ireturn, 1)]
theorem tk_X5_keep : am_tbl prog_1_method_32_code tb_X5_keep = true := by decide +kernel
def f_X5_keep (tw : Nat) (x1 : Int32) (D : am_M) : Option (Int32 × am_M) := if (f_X5_isWithin x1 0 1) = 0 then some ((-1000000001), D) else (f_X2_copyFrom (f_X5_imageOf tw x1) 25 D).bind fun q21 => some (1, am_up q21 0 6 ((q21 0 6) ||| (1 <<< (x1 &&& 31))))
theorem ct_X5_keep {l : Launch} {tw : Nat} {tp : Bool} (htw : lyT tw) {x1 : Int32} {r : Int32} {D D' : am_M} (h : f_X5_keep tw x1 D = some (r, D')) : am_CT l m_X5_keep false [.ref 0, .int x1] (ly tw tp D) (am_is (some (.int r)) (ly tw tp D')) := by
  have hΦ : am_is (some (.int r)) (ly tw tp D') (some (.int r)) (ly tw tp D') := ⟨rfl, rfl⟩
  refine am_CT.of (by decide) (Nat.le_of_ble_eq_true rfl) ?_
  show am_Ex _ _ _ 0 [(0, .ref 0), (1, .int x1)] [] _
  rw [f_X5_keep] at h
  refine am_iload_n (j := 1) (am_dk tk_X5_keep 0 rfl) rfl rfl ?_
  refine am_iconst (v := 0) (am_dk tk_X5_keep 1 rfl) (by decide) ?_
  refine am_iconst (v := 1) (am_dk tk_X5_keep 2 rfl) (by decide) ?_
  refine am_cS (M := m_X5_isWithin) (As := [.int x1, .int 0, .int 1]) (st := []) (ct_X5_isWithin _ _ _ _) ml_X5_67 ld_X5_isWithin rfl ⟨Nat.le_of_ble_eq_true rfl, Nat.le_of_ble_eq_true rfl⟩ (Nat.le_of_ble_eq_true rfl) ⟨rfl, rfl⟩ ⟨Nat.le_of_ble_eq_true rfl, Nat.le_of_ble_eq_true rfl⟩ (am_dk tk_X5_keep 3 rfl) (am_kki ?_)
  refine am_if_ne (tgt := 12) (am_dk tk_X5_keep 4 rfl) (by decide) (fun hc6 => ?_) (fun hc6 => ?_)
  · rw [if_neg hc6] at h
    refine am_aload_n (j := 0) (am_dk tk_X5_keep 7 rfl) rfl rfl ?_
    refine am_iload_n (j := 1) (am_dk tk_X5_keep 8 rfl) rfl rfl ?_
    refine ly_cV (M := m_X5_imageOf) (As := [.int x1]) (b := 0) (st := []) (ct_X5_imageOf htw _ _) rfl (by decide) rfl ml_X5_247 ld_X5_imageOf rfl ⟨Nat.le_of_ble_eq_true rfl, Nat.le_of_ble_eq_true rfl⟩ (Nat.le_of_ble_eq_true rfl) ⟨rfl, rfl⟩ ⟨Nat.le_of_ble_eq_true rfl, Nat.le_of_ble_eq_true rfl⟩ (am_dk tk_X5_keep 9 rfl) (am_kkr ?_)
    refine am_aload_n (j := 0) (am_dk tk_X5_keep 10 rfl) rfl rfl ?_
    refine ly_getr (b := 25) rfl fl_X5_26 rfl rfl (am_dk tk_X5_keep 11 rfl) ?_
    obtain ⟨q21, hq21, h⟩ := am_bind h
    refine ly_cV (M := m_X2_copyFrom) (As := [.ref 25]) (b := (f_X5_imageOf tw x1)) (st := []) (ct_X2_copyFrom (lyM_im _ _) lyM_25 hq21) (lyM_s (lyM_im _ _)) (by decide) rfl ml_X5_96 ld_X2_copyFrom rfl ⟨Nat.le_of_ble_eq_true rfl, Nat.le_of_ble_eq_true rfl⟩ (Nat.le_of_ble_eq_true rfl) ⟨rfl, rfl⟩ ⟨Nat.le_of_ble_eq_true rfl, Nat.le_of_ble_eq_true rfl⟩ (am_dk tk_X5_keep 12 rfl) (am_kkv ?_)
    refine am_aload_n (j := 0) (am_dk tk_X5_keep 13 rfl) rfl rfl ?_
    refine am_dup (am_dk tk_X5_keep 14 rfl) rfl ?_
    refine ly_geti rfl fl_X5_39 rfl (am_dk tk_X5_keep 15 rfl) ?_
    refine am_iconst (v := 1) (am_dk tk_X5_keep 16 rfl) (by decide) ?_
    refine am_iload_n (j := 1) (am_dk tk_X5_keep 17 rfl) rfl rfl ?_
    refine am_ishl (am_dk tk_X5_keep 18 rfl) ?_
    refine am_ior (am_dk tk_X5_keep 19 rfl) ?_
    refine ly_puti rfl fl_X5_39 rfl rfl (am_dk tk_X5_keep 20 rfl) ?_
    refine am_iconst (v := 1) (am_dk tk_X5_keep 21 rfl) (by decide) ?_
    exact am_iret rfl (am_r2 h hΦ) ⟨Nat.le_of_ble_eq_true rfl, Nat.le_of_ble_eq_true rfl⟩ (am_dk tk_X5_keep 22 rfl)
  · rw [if_pos hc6] at h
    refine am_ldc kc_X5_141 (am_dk tk_X5_keep 5 rfl) ?_
    exact am_iret rfl (am_r2 h hΦ) ⟨Nat.le_of_ble_eq_true rfl, Nat.le_of_ble_eq_true rfl⟩ (am_dk tk_X5_keep 6 rfl)
abbrev m_X5_goBack : am_D := (yX5_goBack, prog_1_method_33_code, 2, (some .int), { frames := 2, cells := 0, slots := 0, locals := 51 })
theorem ld_X5_goBack : am_LD m_X5_goBack 1 := ⟨(am_tb 79 (by decide +kernel) (by decide +kernel)), (am_tb 822 (by decide +kernel) (by decide +kernel)), by decide, by decide, by decide +kernel⟩
def tb_X5_goBack : List (Nat × Instr × Nat) := [(0, .iload_n 1, 1), (1, .iconst 0, 1), (2, .iconst 1, 1), (3, .invokestatic 67, 3), (6, .ifCond .ne 6, 3), (9, .ldc 141, 2), (11, .ireturn, 1), (12, .aload_n 0, 1), (13, .getfield 39, 3), (16, .iload_n 1, 1), (17, .invokestatic 172, 3), (20, .ifCond .ne 6, 3), (23, .ldc 191, 2), (25, .ireturn, 1), (26, .aload_n 0, 1), (27, .getfield 26, 3), (30, .aload_n 0, 1), (31, .iload_n 1, 1), (32, .invokevirtual 247, 3), (35, .invokevirtual 96, 3), (38, .iconst 1, 1), (39, .ireturn, 1)]
theorem tk_X5_goBack : am_tbl prog_1_method_33_code tb_X5_goBack = true := by decide +kernel
def f_X5_goBack (tw : Nat) (x1 : Int32) (D : am_M) : Option (Int32 × am_M) := if (f_X5_isWithin x1 0 1) = 0 then some ((-1000000001), D) else if (f_X5_isIn (D 0 6) x1) = 0 then some ((-1000000003), D) else (f_X2_copyFrom 25 (f_X5_imageOf tw x1) D).bind fun q35 => some (1, q35)
theorem ct_X5_goBack {l : Launch} {tw : Nat} {tp : Bool} (htw : lyT tw) {x1 : Int32} {r : Int32} {D D' : am_M} (h : f_X5_goBack tw x1 D = some (r, D')) : am_CT l m_X5_goBack false [.ref 0, .int x1] (ly tw tp D) (am_is (some (.int r)) (ly tw tp D')) := by
  have hΦ : am_is (some (.int r)) (ly tw tp D') (some (.int r)) (ly tw tp D') := ⟨rfl, rfl⟩
  refine am_CT.of (by decide) (Nat.le_of_ble_eq_true rfl) ?_
  show am_Ex _ _ _ 0 [(0, .ref 0), (1, .int x1)] [] _
  rw [f_X5_goBack] at h
  refine am_iload_n (j := 1) (am_dk tk_X5_goBack 0 rfl) rfl rfl ?_
  refine am_iconst (v := 0) (am_dk tk_X5_goBack 1 rfl) (by decide) ?_
  refine am_iconst (v := 1) (am_dk tk_X5_goBack 2 rfl) (by decide) ?_
  refine am_cS (M := m_X5_isWithin) (As := [.int x1, .int 0, .int 1]) (st := []) (ct_X5_isWithin _ _ _ _) ml_X5_67 ld_X5_isWithin rfl ⟨Nat.le_of_ble_eq_true rfl, Nat.le_of_ble_eq_true rfl⟩ (Nat.le_of_ble_eq_true rfl) ⟨rfl, rfl⟩ ⟨Nat.le_of_ble_eq_true rfl, Nat.le_of_ble_eq_true rfl⟩ (am_dk tk_X5_goBack 3 rfl) (am_kki ?_)
  refine am_if_ne (tgt := 12) (am_dk tk_X5_goBack 4 rfl) (by decide) (fun hc6 => ?_) (fun hc6 => ?_)
  · rw [if_neg hc6] at h
    refine am_aload_n (j := 0) (am_dk tk_X5_goBack 7 rfl) rfl rfl ?_
    refine ly_geti rfl fl_X5_39 rfl (am_dk tk_X5_goBack 8 rfl) ?_
    refine am_iload_n (j := 1) (am_dk tk_X5_goBack 9 rfl) rfl rfl ?_
    refine am_cS (M := m_X5_isIn) (As := [.int (D 0 6), .int x1]) (st := []) (ct_X5_isIn _ _ _) ml_X5_172 ld_X5_isIn rfl ⟨Nat.le_of_ble_eq_true rfl, Nat.le_of_ble_eq_true rfl⟩ (Nat.le_of_ble_eq_true rfl) ⟨rfl, rfl⟩ ⟨Nat.le_of_ble_eq_true rfl, Nat.le_of_ble_eq_true rfl⟩ (am_dk tk_X5_goBack 10 rfl) (am_kki ?_)
    refine am_if_ne (tgt := 26) (am_dk tk_X5_goBack 11 rfl) (by decide) (fun hc20 => ?_) (fun hc20 => ?_)
    · rw [if_neg hc20] at h
      refine am_aload_n (j := 0) (am_dk tk_X5_goBack 14 rfl) rfl rfl ?_
      refine ly_getr (b := 25) rfl fl_X5_26 rfl rfl (am_dk tk_X5_goBack 15 rfl) ?_
      refine am_aload_n (j := 0) (am_dk tk_X5_goBack 16 rfl) rfl rfl ?_
      refine am_iload_n (j := 1) (am_dk tk_X5_goBack 17 rfl) rfl rfl ?_
      refine ly_cV (M := m_X5_imageOf) (As := [.int x1]) (b := 0) (st := [.ref 25]) (ct_X5_imageOf htw _ _) rfl (by decide) rfl ml_X5_247 ld_X5_imageOf rfl ⟨Nat.le_of_ble_eq_true rfl, Nat.le_of_ble_eq_true rfl⟩ (Nat.le_of_ble_eq_true rfl) ⟨rfl, rfl⟩ ⟨Nat.le_of_ble_eq_true rfl, Nat.le_of_ble_eq_true rfl⟩ (am_dk tk_X5_goBack 18 rfl) (am_kkr ?_)
      obtain ⟨q35, hq35, h⟩ := am_bind h
      refine ly_cV (M := m_X2_copyFrom) (As := [.ref (f_X5_imageOf tw x1)]) (b := 25) (st := []) (ct_X2_copyFrom lyM_25 (lyM_im _ _) hq35) rfl (by decide) rfl ml_X5_96 ld_X2_copyFrom rfl ⟨Nat.le_of_ble_eq_true rfl, Nat.le_of_ble_eq_true rfl⟩ (Nat.le_of_ble_eq_true rfl) ⟨rfl, rfl⟩ ⟨Nat.le_of_ble_eq_true rfl, Nat.le_of_ble_eq_true rfl⟩ (am_dk tk_X5_goBack 19 rfl) (am_kkv ?_)
      refine am_iconst (v := 1) (am_dk tk_X5_goBack 20 rfl) (by decide) ?_
      exact am_iret rfl (am_r2 h hΦ) ⟨Nat.le_of_ble_eq_true rfl, Nat.le_of_ble_eq_true rfl⟩ (am_dk tk_X5_goBack 21 rfl)
    · rw [if_pos hc20] at h
      refine am_ldc kc_X5_191 (am_dk tk_X5_goBack 12 rfl) ?_
      exact am_iret rfl (am_r2 h hΦ) ⟨Nat.le_of_ble_eq_true rfl, Nat.le_of_ble_eq_true rfl⟩ (am_dk tk_X5_goBack 13 rfl)
  · rw [if_pos hc6] at h
    refine am_ldc kc_X5_141 (am_dk tk_X5_goBack 5 rfl) ?_
    exact am_iret rfl (am_r2 h hΦ) ⟨Nat.le_of_ble_eq_true rfl, Nat.le_of_ble_eq_true rfl⟩ (am_dk tk_X5_goBack 6 rfl)
abbrev m_X5_capital : am_D := (yX5_capital, prog_1_method_3_code, 3, (some .int), { frames := 6, cells := 0, slots := 0, locals := 131 })
theorem ld_X5_capital : am_LD m_X5_capital 0 := ⟨(am_tb 79 (by decide +kernel) (by decide +kernel)), (am_tb 409 (by decide +kernel) (by decide +kernel)), by decide, by decide, by decide +kernel⟩
def tb_X5_capital : List (Nat × Instr × Nat) := [(0, .aload_n 0, 1), (1, .getfield 19, 3), (4, .invokevirtual 80, 3), (7, .ifCond .ne 14, 3), (10, .bipush (-10), 2), (12, .aload_n 0, 1), (13, .getfield 19, 3), (16, .getfield 84, 3), (19, .isub, 1), (20, .ireturn, 1), (21, .aload_n 0, 1), (22, .getfield 10, 3), (25, .astore_n 1, 1), (26, .aload_n 0, 1), (27, .aload_n 0, 1), (28, .getfield 19, 3), (31, .getfield 87, 3), (34, .putfield 10, 3), (37, .aload_n 0, 1), (38, .getfield 19, 3), (41, .aload_n 1, 1), (42, .putfield 87, 3), (45, .aload_n 0, 1), (46, .getfield 26, 3), (49, .getfield 90, 3), (52, .istore_n 2, 1), (53, .aload_n 0, 1), (54, .getfield 26, 3), (57, .aload_n 0, 1), (58, .getfield 10, 3), (61, .getfield 93, 3), (64, .invokevirtual 96, 3), (67, .aload_n 0, 1), (68, .getfield 26, 3), (71, .iload_n 2, 1), (72, .putfield 90, 3), (75, .aload_n 0, 1), (76, .iconst 0, 1), (77, .putfield 64, 3), (80, .aload_n 0, 1), (81, .iconst 0, 1), (82, .putfield 39, 3), (85, .aload_n 0, 1), (86, .getfield 46, 3), (89, .invokevirtual 100, 3), (92, .aload_n 0, 1), (93, .getfield 53, 3), (96, .invokevirtual 103, 3), (99, .aload_n 0, 1), (100, .getfield 10, 3), (103, .getfield 104, 3), (106, .ireturn, 1)]
theorem tk_X5_capital : am_tbl prog_1_method_3_code tb_X5_capital = true := by decide +kernel
def f_X5_capital (tw : Nat) (D : am_M) : Option (Int32 × Nat × am_M) := (f_X3_read tw D).bind fun q4 => if q4.1 = 0 then some ((-10) - (q4.2 12 5), tw, q4.2) else (f_X2_copyFrom 25 ((15 - tw) + 6) q4.2).bind fun q64 => (f_X1_forget (am_up (am_up (am_up q64 25 7 (q4.2 25 7)) 0 11 0) 0 6 0)).bind fun q89 => (f_X0_forget q89).bind fun q96 => some (q96 (15 - tw) 3, (15 - tw), q96)
theorem sw_X5_capital {l : Launch} {h0 : am_H} {Φ : am_Ph} {tw : Nat} {tp : Bool} {D : am_M} (htw : lyT tw) (k : am_Ex (am_E l m_X5_capital false h0 Φ) prog_1_method_3_code (0, 0) 45 [(0, .ref 0)] [] (ly (15 - tw) tp D)) : am_Ex (am_E l m_X5_capital false h0 Φ) prog_1_method_3_code (0, 0) 34 [(1, .ref tw), (0, .ref 0)] [.ref (15 - tw), .ref 0] (ly tw tp D) := by
  refine am_putr (b := 15 - tw) (c := 5) (z := 0) (k := 0) (lyT_lt (lyT_o htw)) rfl fl_X5_10 rfl rfl rfl (am_dk tk_X5_capital 17 rfl) ?_
  refine am_aload_n (j := 1) (am_dk tk_X5_capital 18 rfl) rfl rfl ?_
  refine am_getr (b := 12) (c := 5) (z := 0) (k := 1) rfl fl_X5_19 rfl rfl (am_dk tk_X5_capital 19 rfl) ?_
  refine am_aload_n (j := 0) (am_dk tk_X5_capital 20 rfl) rfl rfl ?_
  refine am_putr (b := tw) (c := 3) (z := 0) (k := 3) (lyT_lt htw) rfl fl_X5_87 rfl rfl rfl (am_dk tk_X5_capital 21 rfl) ?_
  refine am_ls [1] rfl ?_
  refine am_h (h' := ly (15 - tw) tp D) ?_ k
  refine Prod.ext rfl (Prod.ext ?_ rfl)
  funext a j
  show am_upR (am_upR (lyR tw tp) 0 0 (some (15 - tw))) 12 3 (some tw) a j = lyR (15 - tw) tp a j
  by_cases h1 : a = 0 ∧ j = 0
  · obtain ⟨rfl, rfl⟩ := h1
    simp [am_upR, lyR]
  · by_cases h2 : a = 12 ∧ j = 3
    · obtain ⟨rfl, rfl⟩ := h2
      have e1 : 15 - (15 - tw) = tw := by unfold lyT at htw; omega
      simp [am_upR, lyR, e1]
    · simp [am_upR, lyR, h1, h2]
theorem ct_X5_capital {l : Launch} {tw : Nat} {tp : Bool} (htw : lyT tw) {D : am_M} {q : Int32 × Nat × am_M} (h : f_X5_capital tw D = some q) : am_CT l m_X5_capital false [.ref 0] (ly tw tp D) (am_is (some (.int q.1)) (ly q.2.1 tp q.2.2)) := by
  have hΦ : am_is (some (.int q.1)) (ly q.2.1 tp q.2.2) (some (.int q.1)) (ly q.2.1 tp q.2.2) := ⟨rfl, rfl⟩
  refine am_CT.of (by decide) (Nat.le_of_ble_eq_true rfl) ?_
  show am_Ex _ _ _ 0 [(0, .ref 0)] [] _
  rw [f_X5_capital] at h
  refine am_aload_n (j := 0) (am_dk tk_X5_capital 0 rfl) rfl rfl ?_
  refine ly_getr (b := 12) rfl fl_X5_19 rfl rfl (am_dk tk_X5_capital 1 rfl) ?_
  obtain ⟨q4, hq4, h⟩ := am_bind h
  refine ly_cV (M := m_X3_read) (As := []) (b := 12) (st := []) (ct_X3_read htw hq4) rfl (by decide) rfl ml_X5_80 ld_X3_read rfl ⟨Nat.le_of_ble_eq_true rfl, Nat.le_of_ble_eq_true rfl⟩ (Nat.le_of_ble_eq_true rfl) ⟨rfl, rfl⟩ ⟨Nat.le_of_ble_eq_true rfl, Nat.le_of_ble_eq_true rfl⟩ (am_dk tk_X5_capital 2 rfl) (am_kki ?_)
  refine am_if_ne (tgt := 21) (am_dk tk_X5_capital 3 rfl) (by decide) (fun hc7 => ?_) (fun hc7 => ?_)
  · rw [if_neg hc7] at h
    refine am_aload_n (j := 0) (am_dk tk_X5_capital 10 rfl) rfl rfl ?_
    refine ly_getr (b := tw) rfl fl_X5_10 rfl rfl (am_dk tk_X5_capital 11 rfl) ?_
    refine am_astore_n (L' := [(1, .ref tw), (0, .ref 0)]) (am_dk tk_X5_capital 12 rfl) rfl (Nat.le_of_ble_eq_true rfl) rfl ?_
    refine am_aload_n (j := 1) (am_dk tk_X5_capital 13 rfl) rfl rfl ?_
    refine am_aload_n (j := 1) (am_dk tk_X5_capital 14 rfl) rfl rfl ?_
    refine ly_getr (b := 12) rfl fl_X5_19 rfl rfl (am_dk tk_X5_capital 15 rfl) ?_
    refine ly_getr (b := (15 - tw)) rfl fl_X5_87 rfl rfl (am_dk tk_X5_capital 16 rfl) ?_
    refine sw_X5_capital htw ?_
    refine am_aload_n (j := 0) (am_dk tk_X5_capital 22 rfl) rfl rfl ?_
    refine ly_getr (b := 25) rfl fl_X5_26 rfl rfl (am_dk tk_X5_capital 23 rfl) ?_
    refine ly_geti rfl fl_X5_90 rfl (am_dk tk_X5_capital 24 rfl) ?_
    refine am_istore_n (L' := [(2, .int (q4.2 25 7)), (0, .ref 0)]) (am_dk tk_X5_capital 25 rfl) rfl (Nat.le_of_ble_eq_true rfl) rfl ?_
    refine am_aload_n (j := 1) (am_dk tk_X5_capital 26 rfl) rfl rfl ?_
    refine ly_getr (b := 25) rfl fl_X5_26 rfl rfl (am_dk tk_X5_capital 27 rfl) ?_
    refine am_aload_n (j := 1) (am_dk tk_X5_capital 28 rfl) rfl rfl ?_
    refine ly_getr (b := (15 - tw)) rfl fl_X5_10 rfl rfl (am_dk tk_X5_capital 29 rfl) ?_
    refine ly_getr (b := ((15 - tw) + 6)) (lyT_s (lyT_o htw)) fl_X5_93 rfl (lyT_r12 (lyT_o htw)) (am_dk tk_X5_capital 30 rfl) ?_
    obtain ⟨q64, hq64, h⟩ := am_bind h
    refine ly_cV (M := m_X2_copyFrom) (As := [.ref ((15 - tw) + 6)]) (b := 25) (st := []) (ct_X2_copyFrom lyM_25 (lyT_m (lyT_o htw)) hq64) rfl (by decide) rfl ml_X5_96 ld_X2_copyFrom rfl ⟨Nat.le_of_ble_eq_true rfl, Nat.le_of_ble_eq_true rfl⟩ (Nat.le_of_ble_eq_true rfl) ⟨rfl, rfl⟩ ⟨Nat.le_of_ble_eq_true rfl, Nat.le_of_ble_eq_true rfl⟩ (am_dk tk_X5_capital 31 rfl) (am_kkv ?_)
    refine am_aload_n (j := 1) (am_dk tk_X5_capital 32 rfl) rfl rfl ?_
    refine ly_getr (b := 25) rfl fl_X5_26 rfl rfl (am_dk tk_X5_capital 33 rfl) ?_
    refine am_iload_n (j := 0) (am_dk tk_X5_capital 34 rfl) rfl rfl ?_
    refine ly_puti rfl fl_X5_90 rfl rfl (am_dk tk_X5_capital 35 rfl) ?_
    refine am_aload_n (j := 1) (am_dk tk_X5_capital 36 rfl) rfl rfl ?_
    refine am_iconst (v := 0) (am_dk tk_X5_capital 37 rfl) (by decide) ?_
    refine ly_puti rfl fl_X5_64 rfl rfl (am_dk tk_X5_capital 38 rfl) ?_
    refine am_aload_n (j := 1) (am_dk tk_X5_capital 39 rfl) rfl rfl ?_
    refine am_iconst (v := 0) (am_dk tk_X5_capital 40 rfl) (by decide) ?_
    refine ly_puti rfl fl_X5_39 rfl rfl (am_dk tk_X5_capital 41 rfl) ?_
    refine am_aload_n (j := 1) (am_dk tk_X5_capital 42 rfl) rfl rfl ?_
    refine ly_getr (b := 45) rfl fl_X5_46 rfl rfl (am_dk tk_X5_capital 43 rfl) ?_
    obtain ⟨q89, hq89, h⟩ := am_bind h
    refine ly_cV (M := m_X1_forget) (As := []) (b := 45) (st := []) (ct_X1_forget hq89) rfl (by decide) rfl ml_X5_100 ld_X1_forget rfl ⟨Nat.le_of_ble_eq_true rfl, Nat.le_of_ble_eq_true rfl⟩ (Nat.le_of_ble_eq_true rfl) ⟨rfl, rfl⟩ ⟨Nat.le_of_ble_eq_true rfl, Nat.le_of_ble_eq_true rfl⟩ (am_dk tk_X5_capital 44 rfl) (am_kkv ?_)
    refine am_aload_n (j := 1) (am_dk tk_X5_capital 45 rfl) rfl rfl ?_
    refine ly_getr (b := 50) rfl fl_X5_53 rfl rfl (am_dk tk_X5_capital 46 rfl) ?_
    obtain ⟨q96, hq96, h⟩ := am_bind h
    refine ly_cV (M := m_X0_forget) (As := []) (b := 50) (st := []) (ct_X0_forget hq96) rfl (by decide) rfl ml_X5_103 ld_X0_forget rfl ⟨Nat.le_of_ble_eq_true rfl, Nat.le_of_ble_eq_true rfl⟩ (Nat.le_of_ble_eq_true rfl) ⟨rfl, rfl⟩ ⟨Nat.le_of_ble_eq_true rfl, Nat.le_of_ble_eq_true rfl⟩ (am_dk tk_X5_capital 47 rfl) (am_kkv ?_)
    refine am_aload_n (j := 1) (am_dk tk_X5_capital 48 rfl) rfl rfl ?_
    refine ly_getr (b := (15 - tw)) rfl fl_X5_10 rfl rfl (am_dk tk_X5_capital 49 rfl) ?_
    refine ly_geti (lyT_s (lyT_o htw)) fl_X5_104 rfl (am_dk tk_X5_capital 50 rfl) ?_
    exact am_iret rfl (am_rm3 h hΦ) ⟨Nat.le_of_ble_eq_true rfl, Nat.le_of_ble_eq_true rfl⟩ (am_dk tk_X5_capital 51 rfl)
  · rw [if_pos hc7] at h
    refine am_bipush (v := (-10)) (am_dk tk_X5_capital 4 rfl) (by decide) ?_
    refine am_aload_n (j := 0) (am_dk tk_X5_capital 5 rfl) rfl rfl ?_
    refine ly_getr (b := 12) rfl fl_X5_19 rfl rfl (am_dk tk_X5_capital 6 rfl) ?_
    refine ly_geti rfl fl_X5_84 rfl (am_dk tk_X5_capital 7 rfl) ?_
    refine am_isub (am_dk tk_X5_capital 8 rfl) ?_
    exact am_iret rfl (am_rm3 h hΦ) ⟨Nat.le_of_ble_eq_true rfl, Nat.le_of_ble_eq_true rfl⟩ (am_dk tk_X5_capital 9 rfl)
abbrev m_X5_life : am_D := (yX5_life, prog_1_method_18_code, 4, (some .int), { frames := 6, cells := 2, slots := 88200, locals := 141 })
theorem ld_X5_life : am_LD m_X5_life 3 := ⟨(am_tb 79 (by decide +kernel) (by decide +kernel)), (am_tb 613 (by decide +kernel) (by decide +kernel)), by decide, by decide, by decide +kernel⟩
def tb_X5_life : List (Nat × Instr × Nat) := [(0, .aload_n 0, 1), (1, .iload_n 1, 1), (2, .invokevirtual 137, 3), (5, .ifCond .ne 6, 3), (8, .ldc 141, 2), (10, .ireturn, 1), (11, .iload_n 2, 1), (12, .iconst 1, 1), (13, .bipush 48, 2), (15, .invokestatic 67, 3), (18, .ifCond .eq 14, 3), (21, .iload_n 3, 1), (22, .iconst (-1), 1), (23, .iload_n 2, 1), (24, .iconst 1, 1), (25, .isub, 1), (26, .invokestatic 67, 3), (29, .ifCond .ne 6, 3), (32, .ldc 71, 2), (34, .ireturn, 1), (35, .aload_n 0, 1), (36, .getfield 46, 3), (39, .aload_n 0, 1), (40, .getfield 10, 3), (43, .aload_n 0, 1), (44, .getfield 26, 3), (47, .iload_n 1, 1), (48, .iload_n 2, 1), (49, .invokevirtual 202, 3), (52, .aload_n 0, 1), (53, .getfield 46, 3), (56, .getfield 206, 3), (59, .iconst (-1), 1), (60, .if_icmp .eq 8, 3), (63, .iload_n 3, 1), (64, .iconst (-1), 1), (65, .if_icmp .ne 11, 3), (68, .aload_n 0, 1), (69, .getfield 46, 3), (72, .getfield 206, 3), (75, .ireturn, 1), (76, .aload_n 0, 1), (77, .getfield 46, 3), (80, .getfield 209, 3), (83, .iload_n 3, 1), (84, .iaload, 1), (85, .ireturn, 1)]
theorem tk_X5_life : am_tbl prog_1_method_18_code tb_X5_life = true := by decide +kernel
def f_X5_life (tw : Nat) (tp : Bool) (x1 x2 x3 : Int32) (D : am_M) : Option (Int32 × Bool × am_M) := if (f_X5_isPerson tw x1 D) = 0 then some ((-1000000001), tp, D) else if (f_X5_isWithin x2 1 48) = 0 then some ((-1000000002), tp, D) else if (f_X5_isWithin x3 (-1) (x2 - 1)) = 0 then some ((-1000000002), tp, D) else (f_X1_make tw 25 tp x1 x2 D).bind fun q49 => if (q49.2 45 5) = (-1) then some (q49.2 45 5, q49.1, q49.2) else if x3 = (-1) then some (q49.2 45 5, q49.1, q49.2) else if am_in x3 48 = true then some (q49.2 49 x3.toNatClampNeg, q49.1, q49.2) else none
theorem ct_X5_life {l : Launch} {tw : Nat} {tp : Bool} (htw : lyT tw) {x1 x2 x3 : Int32} {D : am_M} {q : Int32 × Bool × am_M} (h : f_X5_life tw tp x1 x2 x3 D = some q) : am_CT l m_X5_life true [.ref 0, .int x1, .int x2, .int x3] (ly tw tp D) (am_is (some (.int q.1)) (ly tw q.2.1 q.2.2)) := by
  have hΦ : am_is (some (.int q.1)) (ly tw q.2.1 q.2.2) (some (.int q.1)) (ly tw q.2.1 q.2.2) := ⟨rfl, rfl⟩
  refine am_CT.of (by decide) (Nat.le_of_ble_eq_true rfl) ?_
  show am_Ex _ _ _ 0 [(0, .ref 0), (1, .int x1), (2, .int x2), (3, .int x3)] [] _
  rw [f_X5_life] at h
  refine am_aload_n (j := 0) (am_dk tk_X5_life 0 rfl) rfl rfl ?_
  refine am_iload_n (j := 1) (am_dk tk_X5_life 1 rfl) rfl rfl ?_
  refine ly_cV (M := m_X5_isPerson) (As := [.int x1]) (b := 0) (st := []) (ct_X5_isPerson htw _ _) rfl (by decide) rfl ml_X5_137 ld_X5_isPerson rfl ⟨Nat.le_of_ble_eq_true rfl, Nat.le_of_ble_eq_true rfl⟩ (Nat.le_of_ble_eq_true rfl) ⟨rfl, rfl⟩ ⟨Nat.le_of_ble_eq_true rfl, Nat.le_of_ble_eq_true rfl⟩ (am_dk tk_X5_life 2 rfl) (am_kki ?_)
  refine am_if_ne (tgt := 11) (am_dk tk_X5_life 3 rfl) (by decide) (fun hc5 => ?_) (fun hc5 => ?_)
  · rw [if_neg hc5] at h
    refine am_iload_n (j := 2) (am_dk tk_X5_life 6 rfl) rfl rfl ?_
    refine am_iconst (v := 1) (am_dk tk_X5_life 7 rfl) (by decide) ?_
    refine am_bipush (v := 48) (am_dk tk_X5_life 8 rfl) (by decide) ?_
    refine am_cS (M := m_X5_isWithin) (As := [.int x2, .int 1, .int 48]) (st := []) (ct_X5_isWithin _ _ _ _) ml_X5_67 ld_X5_isWithin rfl ⟨Nat.le_of_ble_eq_true rfl, Nat.le_of_ble_eq_true rfl⟩ (Nat.le_of_ble_eq_true rfl) ⟨rfl, rfl⟩ ⟨Nat.le_of_ble_eq_true rfl, Nat.le_of_ble_eq_true rfl⟩ (am_dk tk_X5_life 9 rfl) (am_kki ?_)
    refine am_if_eq (tgt := 32) (am_dk tk_X5_life 10 rfl) (by decide) (fun hc18 => ?_) (fun hc18 => ?_)
    · rw [if_pos hc18] at h
      refine am_ldc kc_X5_71 (am_dk tk_X5_life 18 rfl) ?_
      exact am_iret rfl (am_rm2 h hΦ) ⟨Nat.le_of_ble_eq_true rfl, Nat.le_of_ble_eq_true rfl⟩ (am_dk tk_X5_life 19 rfl)
    · rw [if_neg hc18] at h
      refine am_iload_n (j := 3) (am_dk tk_X5_life 11 rfl) rfl rfl ?_
      refine am_iconst (v := (-1)) (am_dk tk_X5_life 12 rfl) (by decide) ?_
      refine am_iload_n (j := 2) (am_dk tk_X5_life 13 rfl) rfl rfl ?_
      refine am_iconst (v := 1) (am_dk tk_X5_life 14 rfl) (by decide) ?_
      refine am_isub (am_dk tk_X5_life 15 rfl) ?_
      refine am_cS (M := m_X5_isWithin) (As := [.int x3, .int (-1), .int (x2 - 1)]) (st := []) (ct_X5_isWithin _ _ _ _) ml_X5_67 ld_X5_isWithin rfl ⟨Nat.le_of_ble_eq_true rfl, Nat.le_of_ble_eq_true rfl⟩ (Nat.le_of_ble_eq_true rfl) ⟨rfl, rfl⟩ ⟨Nat.le_of_ble_eq_true rfl, Nat.le_of_ble_eq_true rfl⟩ (am_dk tk_X5_life 16 rfl) (am_kki ?_)
      refine am_if_ne (tgt := 35) (am_dk tk_X5_life 17 rfl) (by decide) (fun hc29 => ?_) (fun hc29 => ?_)
      · rw [if_neg hc29] at h
        refine am_aload_n (j := 0) (am_dk tk_X5_life 20 rfl) rfl rfl ?_
        refine ly_getr (b := 45) rfl fl_X5_46 rfl rfl (am_dk tk_X5_life 21 rfl) ?_
        refine am_aload_n (j := 0) (am_dk tk_X5_life 22 rfl) rfl rfl ?_
        refine ly_getr (b := tw) rfl fl_X5_10 rfl rfl (am_dk tk_X5_life 23 rfl) ?_
        refine am_aload_n (j := 0) (am_dk tk_X5_life 24 rfl) rfl rfl ?_
        refine ly_getr (b := 25) rfl fl_X5_26 rfl rfl (am_dk tk_X5_life 25 rfl) ?_
        refine am_iload_n (j := 1) (am_dk tk_X5_life 26 rfl) rfl rfl ?_
        refine am_iload_n (j := 2) (am_dk tk_X5_life 27 rfl) rfl rfl ?_
        refine am_ls [0, 3] rfl ?_
        obtain ⟨q49, hq49, h⟩ := am_bind h
        refine am_callVA (M := m_X1_make) (As := [.ref tw, .ref 25, .int x1, .int x2]) (b := 45) (st := []) rfl (Nat.le_refl _) (by cases tp <;> rfl) rfl (ct_X1_make htw lyM_25 hq49) rfl (by decide) rfl ml_X5_202 ld_X1_make rfl ⟨Nat.le_of_ble_eq_true rfl, Nat.le_of_ble_eq_true rfl⟩ (Nat.le_of_ble_eq_true rfl) ⟨Nat.le_of_ble_eq_true rfl, Nat.le_of_ble_eq_true rfl⟩ (am_dk tk_X5_life 28 rfl) (am_kkv ?_)
        refine am_aload_n (j := 0) (am_dk tk_X5_life 29 rfl) rfl rfl ?_
        refine ly_getr (b := 45) rfl fl_X5_46 rfl rfl (am_dk tk_X5_life 30 rfl) ?_
        refine ly_geti rfl fl_X5_206 rfl (am_dk tk_X5_life 31 rfl) ?_
        refine am_iconst (v := (-1)) (am_dk tk_X5_life 32 rfl) (by decide) ?_
        refine am_icmp_eq (tgt := 68) (am_dk tk_X5_life 33 rfl) (by decide) (fun hc60 => ?_) (fun hc60 => ?_)
        · rw [if_pos hc60] at h
          refine am_aload_n (j := 0) (am_dk tk_X5_life 37 rfl) rfl rfl ?_
          refine ly_getr (b := 45) rfl fl_X5_46 rfl rfl (am_dk tk_X5_life 38 rfl) ?_
          refine ly_geti rfl fl_X5_206 rfl (am_dk tk_X5_life 39 rfl) ?_
          exact am_iret rfl (am_rm2 h hΦ) ⟨Nat.le_of_ble_eq_true rfl, Nat.le_of_ble_eq_true rfl⟩ (am_dk tk_X5_life 40 rfl)
        · rw [if_neg hc60] at h
          refine am_iload_n (j := 1) (am_dk tk_X5_life 34 rfl) rfl rfl ?_
          refine am_iconst (v := (-1)) (am_dk tk_X5_life 35 rfl) (by decide) ?_
          refine am_icmp_ne (tgt := 76) (am_dk tk_X5_life 36 rfl) (by decide) (fun hc65 => ?_) (fun hc65 => ?_)
          · rw [if_neg hc65] at h
            refine am_aload_n (j := 0) (am_dk tk_X5_life 41 rfl) rfl rfl ?_
            refine ly_getr (b := 45) rfl fl_X5_46 rfl rfl (am_dk tk_X5_life 42 rfl) ?_
            refine ly_getr (b := 49) rfl fl_X5_209 rfl rfl (am_dk tk_X5_life 43 rfl) ?_
            refine am_iload_n (j := 1) (am_dk tk_X5_life 44 rfl) rfl rfl ?_
            obtain ⟨hi84, h⟩ := am_chk h
            refine ly_iald (k := x3.toNatClampNeg) rfl (am_in_vp hi84) rfl (am_dk tk_X5_life 45 rfl) ?_
            exact am_iret rfl (am_rm2 h hΦ) ⟨Nat.le_of_ble_eq_true rfl, Nat.le_of_ble_eq_true rfl⟩ (am_dk tk_X5_life 46 rfl)
          · rw [if_pos hc65] at h
            refine am_aload_n (j := 0) (am_dk tk_X5_life 37 rfl) rfl rfl ?_
            refine ly_getr (b := 45) rfl fl_X5_46 rfl rfl (am_dk tk_X5_life 38 rfl) ?_
            refine ly_geti rfl fl_X5_206 rfl (am_dk tk_X5_life 39 rfl) ?_
            exact am_iret rfl (am_rm2 h hΦ) ⟨Nat.le_of_ble_eq_true rfl, Nat.le_of_ble_eq_true rfl⟩ (am_dk tk_X5_life 40 rfl)
      · rw [if_pos hc29] at h
        refine am_ldc kc_X5_71 (am_dk tk_X5_life 18 rfl) ?_
        exact am_iret rfl (am_rm2 h hΦ) ⟨Nat.le_of_ble_eq_true rfl, Nat.le_of_ble_eq_true rfl⟩ (am_dk tk_X5_life 19 rfl)
  · rw [if_pos hc5] at h
    refine am_ldc kc_X5_141 (am_dk tk_X5_life 4 rfl) ?_
    exact am_iret rfl (am_rm2 h hΦ) ⟨Nat.le_of_ble_eq_true rfl, Nat.le_of_ble_eq_true rfl⟩ (am_dk tk_X5_life 5 rfl)
