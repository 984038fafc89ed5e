abbrev m_X1_forget : am_D := (yX1_forget, prog_3_method_2_code, 1, none, { frames := 0, cells := 0, slots := 0, locals := 0 })
theorem ld_X1_forget : am_LD m_X1_forget 0 := ⟨(am_tb 83 (by decide +kernel) (by decide +kernel)), (am_tb 494 (by decide +kernel) (by decide +kernel)), by decide, by decide, by decide +kernel⟩
def tb_X1_forget : List (Nat × Instr × Nat) := [(0, .aload_n 0, 1), (1, .iconst (-1), 1), (2, .putfield 31, 3), (5, .aload_n 0, 1), (6, .iconst 0, 1), (7, .putfield 18, 3), (10, .return_, 1)]
theorem tk_X1_forget : am_tbl prog_3_method_2_code tb_X1_forget = true := by decide +kernel
def f_X1_forget (D : am_M) : Option am_M := some (am_up (am_up D 45 6 (-1)) 45 2 0)
theorem ct_X1_forget {l : Launch} {tw : Nat} {tp : Bool}  {D D' : am_M} (h : f_X1_forget D = some D') : am_CT l m_X1_forget false [.ref 45] (ly tw tp D) (am_is none (ly tw tp D')) := by
  have hΦ : am_is none (ly tw tp D') none (ly tw tp D') := ⟨rfl, rfl⟩
  refine am_CT.of (by decide) (Nat.le_of_ble_eq_true rfl) ?_
  show am_Ex _ _ _ 0 [(0, .ref 45)] [] _
  rw [f_X1_forget] at h
  refine am_aload_n (j := 0) (am_dk tk_X1_forget 0 rfl) rfl rfl ?_
  refine am_iconst (v := (-1)) (am_dk tk_X1_forget 1 rfl) (by decide) ?_
  refine ly_puti rfl fl_X1_31 rfl rfl (am_dk tk_X1_forget 2 rfl) ?_
  refine am_aload_n (j := 0) (am_dk tk_X1_forget 3 rfl) rfl rfl ?_
  refine am_iconst (v := 0) (am_dk tk_X1_forget 4 rfl) (by decide) ?_
  refine ly_puti rfl fl_X1_18 rfl rfl (am_dk tk_X1_forget 5 rfl) ?_
  exact am_vret rfl (am_r0 h hΦ) ⟨Nat.le_of_ble_eq_true rfl, Nat.le_of_ble_eq_true rfl⟩ (am_dk tk_X1_forget 6 rfl)
abbrev m_X1_isMade : am_D := (yX1_isMade, prog_3_method_4_code, 4, (some .boolean), { frames := 0, cells := 0, slots := 0, locals := 0 })
theorem ld_X1_isMade : am_LD m_X1_isMade 3 := ⟨(am_tb 83 (by decide +kernel) (by decide +kernel)), (am_tb 621 (by decide +kernel) (by decide +kernel)), by decide, by decide, by decide +kernel⟩
def tb_X1_isMade : List (Nat × Instr × Nat) := [(0, .aload_n 0, 1), (1, .getfield 31, 3), (4, .iload_n 2, 1), (5, .if_icmp .ne 65, 3), (8, .aload_n 0, 1), (9, .getfield 38, 3), (12, .iload_n 3, 1), (13, .if_icmp .ne 57, 3), (16, .aload_n 0, 1), (17, .getfield 46, 3), (20, .aload_n 1, 1), (21, .getfield 41, 3), (24, .if_icmp .ne 46, 3), (27, .aload_n 0, 1), (28, .getfield 50, 3), (31, .aload_n 1, 1), (32, .getfield 47, 3), (35, .iload_n 2, 1), (36, .iaload, 1), (37, .if_icmp .ne 33, 3), (40, .aload_n 0, 1), (41, .getfield 55, 3), (44, .aload_n 1, 1), (45, .getfield 52, 3), (48, .iload_n 2, 1), (49, .iaload, 1), (50, .if_icmp .ne 20, 3), (53, .aload_n 0, 1), (54, .getfield 60, 3), (57, .aload_n 1, 1), (58, .getfield 57, 3), (61, .iload_n 2, 1), (62, .iaload, 1), (63, .if_icmp .ne 7, 3), (66, .iconst 1, 1), (67, .goto 4, 3), (70, .iconst 0, 1), (71, .ireturn, 1)]
theorem tk_X1_isMade : am_tbl prog_3_method_4_code tb_X1_isMade = true := by decide +kernel
def f_X1_isMade (M : Nat) (x2 : Int32) (x3 : Int32) (D : am_M) : Option (Int32 × am_M) := if (D 45 6) = x2 then if (D 45 7) = x3 then if (D 45 8) = (D M 6) then if am_in x2 5 = true then if (D 45 9) = (D (M + 1) x2.toNatClampNeg) then if (D 45 10) = (D (M + 2) x2.toNatClampNeg) then if (D 45 11) = (D (M + 3) x2.toNatClampNeg) then some (1, D) else some (0, D) else some (0, D) else some (0, D) else none else some (0, D) else some (0, D) else some (0, D)
theorem ct_X1_isMade {l : Launch} {tw : Nat} {tp : Bool} {M : Nat} (hM : lyM M) {x2 : Int32} {x3 : Int32} {r : Int32} {D D' : am_M} (h : f_X1_isMade M x2 x3 D = some (r, D')) : am_CT l m_X1_isMade false [.ref 45, .ref M, .int x2, .int x3] (ly tw tp D) (am_is (some (.int r)) (ly tw tp D')) := by
  have hΦ : am_is (some (.int r)) (ly tw tp D') (some (.int r)) (ly tw tp D') := ⟨rfl, rfl⟩
  refine am_CT.of (by decide) (Nat.le_of_ble_eq_true rfl) ?_
  show am_Ex _ _ _ 0 [(0, .ref 45), (1, .ref M), (2, .int x2), (3, .int x3)] [] _
  rw [f_X1_isMade] at h
  refine am_aload_n (j := 0) (am_dk tk_X1_isMade 0 rfl) rfl rfl ?_
  refine ly_geti rfl fl_X1_31 rfl (am_dk tk_X1_isMade 1 rfl) ?_
  refine am_iload_n (j := 2) (am_dk tk_X1_isMade 2 rfl) rfl rfl ?_
  refine am_icmp_ne (tgt := 70) (am_dk tk_X1_isMade 3 rfl) (by decide) (fun hc5 => ?_) (fun hc5 => ?_)
  · rw [if_neg hc5] at h
    refine am_iconst (v := 0) (am_dk tk_X1_isMade 36 rfl) (by decide) ?_
    exact am_zret (Or.inl rfl) rfl (am_r2 h hΦ) ⟨Nat.le_of_ble_eq_true rfl, Nat.le_of_ble_eq_true rfl⟩ (am_dk tk_X1_isMade 37 rfl)
  · rw [if_pos hc5] at h
    refine am_aload_n (j := 0) (am_dk tk_X1_isMade 4 rfl) rfl rfl ?_
    refine ly_geti rfl fl_X1_38 rfl (am_dk tk_X1_isMade 5 rfl) ?_
    refine am_iload_n (j := 3) (am_dk tk_X1_isMade 6 rfl) rfl rfl ?_
    refine am_icmp_ne (tgt := 70) (am_dk tk_X1_isMade 7 rfl) (by decide) (fun hc13 => ?_) (fun hc13 => ?_)
    · rw [if_neg hc13] at h
      refine am_iconst (v := 0) (am_dk tk_X1_isMade 36 rfl) (by decide) ?_
      exact am_zret (Or.inl rfl) rfl (am_r2 h hΦ) ⟨Nat.le_of_ble_eq_true rfl, Nat.le_of_ble_eq_true rfl⟩ (am_dk tk_X1_isMade 37 rfl)
    · rw [if_pos hc13] at h
      refine am_aload_n (j := 0) (am_dk tk_X1_isMade 8 rfl) rfl rfl ?_
      refine ly_geti rfl fl_X1_46 rfl (am_dk tk_X1_isMade 9 rfl) ?_
      refine am_aload_n (j := 1) (am_dk tk_X1_isMade 10 rfl) rfl rfl ?_
      refine ly_geti (lyM_s hM) fl_X1_41 rfl (am_dk tk_X1_isMade 11 rfl) ?_
      refine am_icmp_ne (tgt := 70) (am_dk tk_X1_isMade 12 rfl) (by decide) (fun hc24 => ?_) (fun hc24 => ?_)
      · rw [if_neg hc24] at h
        refine am_iconst (v := 0) (am_dk tk_X1_isMade 36 rfl) (by decide) ?_
        exact am_zret (Or.inl rfl) rfl (am_r2 h hΦ) ⟨Nat.le_of_ble_eq_true rfl, Nat.le_of_ble_eq_true rfl⟩ (am_dk tk_X1_isMade 37 rfl)
      · rw [if_pos hc24] at h
        refine am_aload_n (j := 0) (am_dk tk_X1_isMade 13 rfl) rfl rfl ?_
        refine ly_geti rfl fl_X1_50 rfl (am_dk tk_X1_isMade 14 rfl) ?_
        refine am_aload_n (j := 1) (am_dk tk_X1_isMade 15 rfl) rfl rfl ?_
        refine ly_getr (b := (M + 1)) (lyM_s hM) fl_X1_47 rfl (lyM_r0 hM) (am_dk tk_X1_isMade 16 rfl) ?_
        refine am_iload_n (j := 2) (am_dk tk_X1_isMade 17 rfl) rfl rfl ?_
        obtain ⟨hi36, h⟩ := am_chk h
        refine ly_iald (k := x2.toNatClampNeg) (lyM_a0 hM) (am_in_vp hi36) rfl (am_dk tk_X1_isMade 18 rfl) ?_
        refine am_icmp_ne (tgt := 70) (am_dk tk_X1_isMade 19 rfl) (by decide) (fun hc37 => ?_) (fun hc37 => ?_)
        · rw [if_neg hc37] at h
          refine am_iconst (v := 0) (am_dk tk_X1_isMade 36 rfl) (by decide) ?_
          exact am_zret (Or.inl rfl) rfl (am_r2 h hΦ) ⟨Nat.le_of_ble_eq_true rfl, Nat.le_of_ble_eq_true rfl⟩ (am_dk tk_X1_isMade 37 rfl)
        · rw [if_pos hc37] at h
          refine am_aload_n (j := 0) (am_dk tk_X1_isMade 20 rfl) rfl rfl ?_
          refine ly_geti rfl fl_X1_55 rfl (am_dk tk_X1_isMade 21 rfl) ?_
          refine am_aload_n (j := 1) (am_dk tk_X1_isMade 22 rfl) rfl rfl ?_
          refine ly_getr (b := (M + 2)) (lyM_s hM) fl_X1_52 rfl (lyM_r1 hM) (am_dk tk_X1_isMade 23 rfl) ?_
          refine am_iload_n (j := 2) (am_dk tk_X1_isMade 24 rfl) rfl rfl ?_
          refine ly_iald (k := x2.toNatClampNeg) (lyM_a1 hM) (am_in_vp hi36) rfl (am_dk tk_X1_isMade 25 rfl) ?_
          refine am_icmp_ne (tgt := 70) (am_dk tk_X1_isMade 26 rfl) (by decide) (fun hc50 => ?_) (fun hc50 => ?_)
          · rw [if_neg hc50] at h
            refine am_iconst (v := 0) (am_dk tk_X1_isMade 36 rfl) (by decide) ?_
            exact am_zret (Or.inl rfl) rfl (am_r2 h hΦ) ⟨Nat.le_of_ble_eq_true rfl, Nat.le_of_ble_eq_true rfl⟩ (am_dk tk_X1_isMade 37 rfl)
          · rw [if_pos hc50] at h
            refine am_aload_n (j := 0) (am_dk tk_X1_isMade 27 rfl) rfl rfl ?_
            refine ly_geti rfl fl_X1_60 rfl (am_dk tk_X1_isMade 28 rfl) ?_
            refine am_aload_n (j := 1) (am_dk tk_X1_isMade 29 rfl) rfl rfl ?_
            refine ly_getr (b := (M + 3)) (lyM_s hM) fl_X1_57 rfl (lyM_r2 hM) (am_dk tk_X1_isMade 30 rfl) ?_
            refine am_iload_n (j := 2) (am_dk tk_X1_isMade 31 rfl) rfl rfl ?_
            refine ly_iald (k := x2.toNatClampNeg) (lyM_a2 hM) (am_in_vp hi36) rfl (am_dk tk_X1_isMade 32 rfl) ?_
            refine am_icmp_ne (tgt := 70) (am_dk tk_X1_isMade 33 rfl) (by decide) (fun hc63 => ?_) (fun hc63 => ?_)
            · rw [if_neg hc63] at h
              refine am_iconst (v := 0) (am_dk tk_X1_isMade 36 rfl) (by decide) ?_
              exact am_zret (Or.inl rfl) rfl (am_r2 h hΦ) ⟨Nat.le_of_ble_eq_true rfl, Nat.le_of_ble_eq_true rfl⟩ (am_dk tk_X1_isMade 37 rfl)
            · rw [if_pos hc63] at h
              refine am_iconst (v := 1) (am_dk tk_X1_isMade 34 rfl) (by decide) ?_
              refine am_goto (tgt := 71) (am_dk tk_X1_isMade 35 rfl) (by decide) ?_
              exact am_zret (Or.inr rfl) rfl (am_r2 h hΦ) ⟨Nat.le_of_ble_eq_true rfl, Nat.le_of_ble_eq_true rfl⟩ (am_dk tk_X1_isMade 37 rfl)
abbrev m_X1_clearLastEarnings : am_D := (yX1_clearLastEarnings, prog_3_method_6_code, 2, none, { frames := 0, cells := 0, slots := 0, locals := 0 })
theorem ld_X1_clearLastEarnings : am_LD m_X1_clearLastEarnings 0 := ⟨(am_tb 83 (by decide +kernel) (by decide +kernel)), (am_tb 630 (by decide +kernel) (by decide +kernel)), by decide, by decide, by decide +kernel⟩
def tb_X1_clearLastEarnings : List (Nat × Instr × Nat) := [(0, .iconst 0, 1), (1, .istore_n 1, 1), (2, .iload_n 1, 1), (3, .aload_n 0, 1), (4, .getfield 92, 3), (7, .if_icmp .ge 16, 3), (10, .aload_n 0, 1), (11, .getfield 15, 3), (14, .iload_n 1, 1), (15, .iconst 0, 1), (16, .iastore, 1), (17, .iinc 1 1, 3), (20, .goto (-18), 3), (23, .return_, 1)]
theorem tk_X1_clearLastEarnings : am_tbl prog_3_method_6_code tb_X1_clearLastEarnings = true := by decide +kernel
def b_X1_clearLastEarnings_2 : Nat → Int32 → am_M → Option am_M
  | 0, _, _ => none
  | n + 1, x1, D => if (D 45 14) ≤ x1 then some D else if am_in x1 44100 = true then b_X1_clearLastEarnings_2 n (x1 + 1) (am_up D 84 x1.toNatClampNeg 0) else none
def f_X1_clearLastEarnings (D : am_M) : Option am_M := b_X1_clearLastEarnings_2 am_N 0 D
theorem bx_X1_clearLastEarnings_2 {l : Launch} {h0 : am_H} {Φ : am_Ph} {tw : Nat}  {D' : am_M} (hΦ : Φ none (ly tw true D')) : ∀ (n : Nat) (x1 : Int32) (D : am_M), b_X1_clearLastEarnings_2 n x1 D = some D' → am_Ex (am_E l m_X1_clearLastEarnings false h0 Φ) prog_3_method_6_code (0, 0) 2 [(0, .ref 45), (1, .int x1)] [] (ly tw true D) := by
  intro n
  induction n with
  | zero =>
    intro x1 D h
    exact absurd h (by simp [b_X1_clearLastEarnings_2])
  | succ n ih =>
    intro x1 D h
    rw [b_X1_clearLastEarnings_2] at h
    refine am_iload_n (j := 1) (am_dk tk_X1_clearLastEarnings 2 rfl) rfl rfl ?_
    refine am_aload_n (j := 0) (am_dk tk_X1_clearLastEarnings 3 rfl) rfl rfl ?_
    refine ly_geti rfl fl_X1_92 rfl (am_dk tk_X1_clearLastEarnings 4 rfl) ?_
    refine am_icmp_ge (tgt := 23) (am_dk tk_X1_clearLastEarnings 5 rfl) (by decide) (fun hc7 => ?_) (fun hc7 => ?_)
    · rw [if_pos hc7] at h
      exact am_vret rfl (am_r0 h hΦ) ⟨Nat.le_of_ble_eq_true rfl, Nat.le_of_ble_eq_true rfl⟩ (am_dk tk_X1_clearLastEarnings 13 rfl)
    · rw [if_neg hc7] at h
      refine am_aload_n (j := 0) (am_dk tk_X1_clearLastEarnings 6 rfl) rfl rfl ?_
      refine ly_getr (b := 84) rfl fl_X1_15 rfl rfl (am_dk tk_X1_clearLastEarnings 7 rfl) ?_
      refine am_iload_n (j := 1) (am_dk tk_X1_clearLastEarnings 8 rfl) rfl rfl ?_
      refine am_iconst (v := 0) (am_dk tk_X1_clearLastEarnings 9 rfl) (by decide) ?_
      obtain ⟨hi16, h⟩ := am_chk h
      refine ly_iast (k := x1.toNatClampNeg) rfl (am_in_vp hi16) rfl (am_dk tk_X1_clearLastEarnings 10 rfl) ?_
      refine am_iinc (j := 1) (v := x1 + 1) (L' := [(1, .int (x1 + 1)), (0, .ref 45)]) (am_dk tk_X1_clearLastEarnings 11 rfl) rfl rfl (Nat.le_of_ble_eq_true rfl) rfl ?_
      refine am_goto (tgt := 2) (am_dk tk_X1_clearLastEarnings 12 rfl) (by decide) ?_
      refine am_ls [1, 0] rfl ?_
      exact ih _ _ h
theorem ct_X1_clearLastEarnings {l : Launch} {tw : Nat}  {D D' : am_M} (h : f_X1_clearLastEarnings D = some D') : am_CT l m_X1_clearLastEarnings false [.ref 45] (ly tw true D) (am_is none (ly tw true D')) := by
  have hΦ : am_is none (ly tw true D') none (ly tw true D') := ⟨rfl, rfl⟩
  refine am_CT.of (by decide) (Nat.le_of_ble_eq_true rfl) ?_
  show am_Ex _ _ _ 0 [(0, .ref 45)] [] _
  rw [f_X1_clearLastEarnings] at h
  refine am_iconst (v := 0) (am_dk tk_X1_clearLastEarnings 0 rfl) (by decide) ?_
  refine am_istore_n (L' := [(1, .int 0), (0, .ref 45)]) (am_dk tk_X1_clearLastEarnings 1 rfl) rfl (Nat.le_of_ble_eq_true rfl) rfl ?_
  refine am_ls [1, 0] rfl ?_
  exact bx_X1_clearLastEarnings_2  hΦ am_N _ _ h
abbrev m_X1_place : am_D := (yX1_place, prog_3_method_9_code, 4, (some .int), { frames := 0, cells := 0, slots := 0, locals := 0 })
theorem ld_X1_place : am_LD m_X1_place 3 := ⟨(am_tb 83 (by decide +kernel) (by decide +kernel)), (am_tb 646 (by decide +kernel) (by decide +kernel)), by decide, by decide, by decide +kernel⟩
def tb_X1_place : List (Nat × Instr × Nat) := [(0, .iload_n 1, 1), (1, .aload_n 0, 1), (2, .getfield 92, 3), (5, .imul, 1), (6, .iload_n 2, 1), (7, .aload_n 0, 1), (8, .getfield 87, 3), (11, .imul, 1), (12, .iadd, 1), (13, .iload_n 3, 1), (14, .iadd, 1), (15, .ireturn, 1)]
theorem tk_X1_place : am_tbl prog_3_method_9_code tb_X1_place = true := by decide +kernel
def f_X1_place (x1 : Int32) (x2 : Int32) (x3 : Int32) (D : am_M) : Int32 := ((x1 * (D 45 14)) + (x2 * (D 45 12))) + x3
theorem ct_X1_place {l : Launch} {tw : Nat} {tp : Bool} (x1 : Int32) (x2 : Int32) (x3 : Int32) (D : am_M) : am_CT l m_X1_place false [.ref 45, .int x1, .int x2, .int x3] (ly tw tp D) (am_is (some (.int (f_X1_place x1 x2 x3 D))) (ly tw tp D)) := by
  refine am_CT.of (by decide) (Nat.le_of_ble_eq_true rfl) ?_
  show am_Ex _ _ _ 0 [(0, .ref 45), (1, .int x1), (2, .int x2), (3, .int x3)] [] _
  refine am_iload_n (j := 1) (am_dk tk_X1_place 0 rfl) rfl rfl ?_
  refine am_aload_n (j := 0) (am_dk tk_X1_place 1 rfl) rfl rfl ?_
  refine ly_geti rfl fl_X1_92 rfl (am_dk tk_X1_place 2 rfl) ?_
  refine am_imul (am_dk tk_X1_place 3 rfl) ?_
  refine am_iload_n (j := 2) (am_dk tk_X1_place 4 rfl) rfl rfl ?_
  refine am_aload_n (j := 0) (am_dk tk_X1_place 5 rfl) rfl rfl ?_
  refine ly_geti rfl fl_X1_87 rfl (am_dk tk_X1_place 6 rfl) ?_
  refine am_imul (am_dk tk_X1_place 7 rfl) ?_
  refine am_iadd (am_dk tk_X1_place 8 rfl) ?_
  refine am_iload_n (j := 3) (am_dk tk_X1_place 9 rfl) rfl rfl ?_
  refine am_iadd (am_dk tk_X1_place 10 rfl) ?_
  exact am_iret rfl ⟨rfl, rfl⟩ ⟨Nat.le_of_ble_eq_true rfl, Nat.le_of_ble_eq_true rfl⟩ (am_dk tk_X1_place 11 rfl)
abbrev m_X1_easedBySleep : am_D := (yX1_easedBySleep, prog_3_method_12_code, 1, (some .int), { frames := 1, cells := 0, slots := 0, locals := 13 })
theorem ld_X1_easedBySleep : am_LD m_X1_easedBySleep 1 := ⟨(am_tb 83 (by decide +kernel) (by decide +kernel)), (am_tb 657 (by decide +kernel) (by decide +kernel)), by decide, by decide, by decide +kernel⟩
def tb_X1_easedBySleep : List (Nat × Instr × Nat) := [(0, .iload_n 0, 1), (1, .iconst 4, 1), (2, .isub, 1), (3, .iconst 0, 1), (4, .invokestatic 118, 3), (7, .ireturn, 1)]
theorem tk_X1_easedBySleep : am_tbl prog_3_method_12_code tb_X1_easedBySleep = true := by decide +kernel
def f_X1_easedBySleep (x0 : Int32) : Int32 := am_max (x0 - 4) 0
theorem ct_X1_easedBySleep {l : Launch} (x0 : Int32) (h : am_H) : am_CT l m_X1_easedBySleep false [.int x0] h (am_is (some (.int (f_X1_easedBySleep x0))) h) := by
  refine am_CT.of (by decide) (Nat.le_of_ble_eq_true rfl) ?_
  show am_Ex _ _ _ 0 [(0, .int x0)] [] _
  refine am_iload_n (j := 0) (am_dk tk_X1_easedBySleep 0 rfl) rfl rfl ?_
  refine am_iconst (v := 4) (am_dk tk_X1_easedBySleep 1 rfl) (by decide) ?_
  refine am_isub (am_dk tk_X1_easedBySleep 2 rfl) ?_
  refine am_iconst (v := 0) (am_dk tk_X1_easedBySleep 3 rfl) (by decide) ?_
  refine am_mmax lm_X1_118 (Nat.le_of_ble_eq_true rfl) (Nat.le_of_ble_eq_true rfl) ⟨Nat.le_of_ble_eq_true rfl, Nat.le_of_ble_eq_true rfl⟩ (am_dk tk_X1_easedBySleep 4 rfl) ?_
  exact am_iret rfl ⟨rfl, rfl⟩ ⟨Nat.le_of_ble_eq_true rfl, Nat.le_of_ble_eq_true rfl⟩ (am_dk tk_X1_easedBySleep 5 rfl)
abbrev m_X1_tiredByWork : am_D := (yX1_tiredByWork, prog_3_method_13_code, 1, (some .int), { frames := 1, cells := 0, slots := 0, locals := 13 })
theorem ld_X1_tiredByWork : am_LD m_X1_tiredByWork 1 := ⟨(am_tb 83 (by decide +kernel) (by decide +kernel)), (am_tb 641 (by decide +kernel) (by decide +kernel)), by decide, by decide, by decide +kernel⟩
def tb_X1_tiredByWork : List (Nat × Instr × Nat) := [(0, .iload_n 0, 1), (1, .iconst 3, 1), (2, .iadd, 1), (3, .bipush 99, 2), (5, .invokestatic 157, 3), (8, .ireturn, 1)]
theorem tk_X1_tiredByWork : am_tbl prog_3_method_13_code tb_X1_tiredByWork = true := by decide +kernel
def f_X1_tiredByWork (x0 : Int32) : Int32 := am_min (x0 + 3) 99
theorem ct_X1_tiredByWork {l : Launch} (x0 : Int32) (h : am_H) : am_CT l m_X1_tiredByWork false [.int x0] h (am_is (some (.int (f_X1_tiredByWork x0))) h) := by
  refine am_CT.of (by decide) (Nat.le_of_ble_eq_true rfl) ?_
  show am_Ex _ _ _ 0 [(0, .int x0)] [] _
  refine am_iload_n (j := 0) (am_dk tk_X1_tiredByWork 0 rfl) rfl rfl ?_
  refine am_iconst (v := 3) (am_dk tk_X1_tiredByWork 1 rfl) (by decide) ?_
  refine am_iadd (am_dk tk_X1_tiredByWork 2 rfl) ?_
  refine am_bipush (v := 99) (am_dk tk_X1_tiredByWork 3 rfl) (by decide) ?_
  refine am_mmin lm_X1_157 (Nat.le_of_ble_eq_true rfl) (Nat.le_of_ble_eq_true rfl) ⟨Nat.le_of_ble_eq_true rfl, Nat.le_of_ble_eq_true rfl⟩ (am_dk tk_X1_tiredByWork 4 rfl) ?_
  exact am_iret rfl ⟨rfl, rfl⟩ ⟨Nat.le_of_ble_eq_true rfl, Nat.le_of_ble_eq_true rfl⟩ (am_dk tk_X1_tiredByWork 5 rfl)
abbrev m_X1_longerSleep : am_D := (yX1_longerSleep, prog_3_method_14_code, 2, (some .int), { frames := 1, cells := 0, slots := 0, locals := 13 })
theorem ld_X1_longerSleep : am_LD m_X1_longerSleep 1 := ⟨(am_tb 83 (by decide +kernel) (by decide +kernel)), (am_tb 662 (by decide +kernel) (by decide +kernel)), by decide, by decide, by decide +kernel⟩
def tb_X1_longerSleep : List (Nat × Instr × Nat) := [(0, .iload_n 1, 1), (1, .iconst 1, 1), (2, .iadd, 1), (3, .aload_n 0, 1), (4, .getfield 87, 3), (7, .iconst 1, 1), (8, .isub, 1), (9, .invokestatic 157, 3), (12, .ireturn, 1)]
theorem tk_X1_longerSleep : am_tbl prog_3_method_14_code tb_X1_longerSleep = true := by decide +kernel
def f_X1_longerSleep (x1 : Int32) (D : am_M) : Int32 := am_min (x1 + 1) ((D 45 12) - 1)
theorem ct_X1_longerSleep {l : Launch} {tw : Nat} {tp : Bool} (x1 : Int32) (D : am_M) : am_CT l m_X1_longerSleep false [.ref 45, .int x1] (ly tw tp D) (am_is (some (.int (f_X1_longerSleep x1 D))) (ly tw tp D)) := by
  refine am_CT.of (by decide) (Nat.le_of_ble_eq_true rfl) ?_
  show am_Ex _ _ _ 0 [(0, .ref 45), (1, .int x1)] [] _
  refine am_iload_n (j := 1) (am_dk tk_X1_longerSleep 0 rfl) rfl rfl ?_
  refine am_iconst (v := 1) (am_dk tk_X1_longerSleep 1 rfl) (by decide) ?_
  refine am_iadd (am_dk tk_X1_longerSleep 2 rfl) ?_
  refine am_aload_n (j := 0) (am_dk tk_X1_longerSleep 3 rfl) rfl rfl ?_
  refine ly_geti rfl fl_X1_87 rfl (am_dk tk_X1_longerSleep 4 rfl) ?_
  refine am_iconst (v := 1) (am_dk tk_X1_longerSleep 5 rfl) (by decide) ?_
  refine am_isub (am_dk tk_X1_longerSleep 6 rfl) ?_
  refine am_mmin lm_X1_157 (Nat.le_of_ble_eq_true rfl) (Nat.le_of_ble_eq_true rfl) ⟨Nat.le_of_ble_eq_true rfl, Nat.le_of_ble_eq_true rfl⟩ (am_dk tk_X1_longerSleep 7 rfl) ?_
  exact am_iret rfl ⟨rfl, rfl⟩ ⟨Nat.le_of_ble_eq_true rfl, Nat.le_of_ble_eq_true rfl⟩ (am_dk tk_X1_longerSleep 8 rfl)
abbrev m_X1_earned : am_D := (yX1_earned, prog_3_method_15_code, 2, (some .int), { frames := 0, cells := 0, slots := 0, locals := 0 })
theorem ld_X1_earned : am_LD m_X1_earned 1 := ⟨(am_tb 83 (by decide +kernel) (by decide +kernel)), (am_tb 650 (by decide +kernel) (by decide +kernel)), by decide, by decide, by decide +kernel⟩
def tb_X1_earned : List (Nat × Instr × Nat) := [(0, .iload_n 1, 1), (1, .iconst 1, 1), (2, .iadd, 1), (3, .aload_n 0, 1), (4, .getfield 87, 3), (7, .if_icmp .lt 10, 3), (10, .aload_n 0, 1), (11, .getfield 91, 3), (14, .goto 4, 3), (17, .iconst 1, 1), (18, .ireturn, 1)]
theorem tk_X1_earned : am_tbl prog_3_method_15_code tb_X1_earned = true := by decide +kernel
def f_X1_earned (x1 : Int32) (D : am_M) : Int32 := if (x1 + 1) < (D 45 12) then 1 else D 45 13
theorem ct_X1_earned {l : Launch} {tw : Nat} {tp : Bool} (x1 : Int32) (D : am_M) : am_CT l m_X1_earned false [.ref 45, .int x1] (ly tw tp D) (am_is (some (.int (f_X1_earned x1 D))) (ly tw tp D)) := by
  refine am_CT.of (by decide) (Nat.le_of_ble_eq_true rfl) ?_
  show am_Ex _ _ _ 0 [(0, .ref 45), (1, .int x1)] [] _
  refine am_iload_n (j := 1) (am_dk tk_X1_earned 0 rfl) rfl rfl ?_
  refine am_iconst (v := 1) (am_dk tk_X1_earned 1 rfl) (by decide) ?_
  refine am_iadd (am_dk tk_X1_earned 2 rfl) ?_
  refine am_aload_n (j := 0) (am_dk tk_X1_earned 3 rfl) rfl rfl ?_
  refine ly_geti rfl fl_X1_87 rfl (am_dk tk_X1_earned 4 rfl) ?_
  refine am_icmp_lt (tgt := 17) (am_dk tk_X1_earned 5 rfl) (by decide) (fun hc7 => ?_) (fun hc7 => ?_)
  · skip
    refine am_iconst (v := 1) (am_dk tk_X1_earned 9 rfl) (by decide) ?_
    exact am_iret rfl ⟨by simp only [f_X1_earned, if_pos hc7], rfl⟩ ⟨Nat.le_of_ble_eq_true rfl, Nat.le_of_ble_eq_true rfl⟩ (am_dk tk_X1_earned 10 rfl)
  · skip
    refine am_aload_n (j := 0) (am_dk tk_X1_earned 6 rfl) rfl rfl ?_
    refine ly_geti rfl fl_X1_91 rfl (am_dk tk_X1_earned 7 rfl) ?_
    refine am_goto (tgt := 18) (am_dk tk_X1_earned 8 rfl) (by decide) ?_
    exact am_iret rfl ⟨by simp only [f_X1_earned, if_neg hc7], rfl⟩ ⟨Nat.le_of_ble_eq_true rfl, Nat.le_of_ble_eq_true rfl⟩ (am_dk tk_X1_earned 10 rfl)
abbrev m_X1_placeAsleep : am_D := (yX1_placeAsleep, prog_3_method_10_code, 4, (some .int), { frames := 2, cells := 0, slots := 0, locals := 34 })
theorem ld_X1_placeAsleep : am_LD m_X1_placeAsleep 3 := ⟨(am_tb 83 (by decide +kernel) (by decide +kernel)), (am_tb 654 (by decide +kernel) (by decide +kernel)), by decide, by decide, by decide +kernel⟩
def tb_X1_placeAsleep : List (Nat × Instr × Nat) := [(0, .aload_n 0, 1), (1, .iload_n 1, 1), (2, .iload_n 2, 1), (3, .invokestatic 148, 3), (6, .aload_n 0, 1), (7, .iload_n 3, 1), (8, .invokevirtual 151, 3), (11, .invokevirtual 115, 3), (14, .ireturn, 1)]
theorem tk_X1_placeAsleep : am_tbl prog_3_method_10_code tb_X1_placeAsleep = true := by decide +kernel
def f_X1_placeAsleep (x1 : Int32) (x2 : Int32) (x3 : Int32) (D : am_M) : Int32 := f_X1_place x1 (f_X1_easedBySleep x2) (f_X1_longerSleep x3 D) D
theorem ct_X1_placeAsleep {l : Launch} {tw : Nat} {tp : Bool} (x1 : Int32) (x2 : Int32) (x3 : Int32) (D : am_M) : am_CT l m_X1_placeAsleep false [.ref 45, .int x1, .int x2, .int x3] (ly tw tp D) (am_is (some (.int (f_X1_placeAsleep x1 x2 x3 D))) (ly tw tp D)) := by
  refine am_CT.of (by decide) (Nat.le_of_ble_eq_true rfl) ?_
  show am_Ex _ _ _ 0 [(0, .ref 45), (1, .int x1), (2, .int x2), (3, .int x3)] [] _
  refine am_aload_n (j := 0) (am_dk tk_X1_placeAsleep 0 rfl) rfl rfl ?_
  refine am_iload_n (j := 1) (am_dk tk_X1_placeAsleep 1 rfl) rfl rfl ?_
  refine am_iload_n (j := 2) (am_dk tk_X1_placeAsleep 2 rfl) rfl rfl ?_
  refine am_cS (M := m_X1_easedBySleep) (As := [.int x2]) (st := [.int x1, .ref 45]) (ct_X1_easedBySleep _ _) ml_X1_148 ld_X1_easedBySleep rfl ⟨Nat.le_of_ble_eq_true rfl, Nat.le_of_ble_eq_true rfl⟩ (Nat.le_of_ble_eq_true rfl) ⟨rfl, rfl⟩ ⟨Nat.le_of_ble_eq_true rfl, Nat.le_of_ble_eq_true rfl⟩ (am_dk tk_X1_placeAsleep 3 rfl) (am_kki ?_)
  refine am_aload_n (j := 0) (am_dk tk_X1_placeAsleep 4 rfl) rfl rfl ?_
  refine am_iload_n (j := 3) (am_dk tk_X1_placeAsleep 5 rfl) rfl rfl ?_
  refine ly_cV (M := m_X1_longerSleep) (As := [.int x3]) (b := 45) (st := [.int (f_X1_easedBySleep x2), .int x1, .ref 45]) (ct_X1_longerSleep _ _) rfl (by decide) rfl ml_X1_151 ld_X1_longerSleep rfl ⟨Nat.le_of_ble_eq_true rfl, Nat.le_of_ble_eq_true rfl⟩ (Nat.le_of_ble_eq_true rfl) ⟨rfl, rfl⟩ ⟨Nat.le_of_ble_eq_true rfl, Nat.le_of_ble_eq_true rfl⟩ (am_dk tk_X1_placeAsleep 6 rfl) (am_kki ?_)
  refine ly_cV (M := m_X1_place) (As := [.int x1, .int (f_X1_easedBySleep x2), .int (f_X1_longerSleep x3 D)]) (b := 45) (st := []) (ct_X1_place _ _ _ _) rfl (by decide) rfl ml_X1_115 ld_X1_place rfl ⟨Nat.le_of_ble_eq_true rfl, Nat.le_of_ble_eq_true rfl⟩ (Nat.le_of_ble_eq_true rfl) ⟨rfl, rfl⟩ ⟨Nat.le_of_ble_eq_true rfl, Nat.le_of_ble_eq_true rfl⟩ (am_dk tk_X1_placeAsleep 7 rfl) (am_kki ?_)
  exact am_iret rfl ⟨rfl, rfl⟩ ⟨Nat.le_of_ble_eq_true rfl, Nat.le_of_ble_eq_true rfl⟩ (am_dk tk_X1_placeAsleep 8 rfl)
abbrev m_X1_placeAtWork : am_D := (yX1_placeAtWork, prog_3_method_11_code, 3, (some .int), { frames := 2, cells := 0, slots := 0, locals := 33 })
theorem ld_X1_placeAtWork : am_LD m_X1_placeAtWork 2 := ⟨(am_tb 83 (by decide +kernel) (by decide +kernel)), (am_tb 638 (by decide +kernel) (by decide +kernel)), by decide, by decide, by decide +kernel⟩
def tb_X1_placeAtWork : List (Nat × Instr × Nat) := [(0, .aload_n 0, 1), (1, .iload_n 1, 1), (2, .iload_n 2, 1), (3, .invokestatic 154, 3), (6, .iconst 0, 1), (7, .invokevirtual 115, 3), (10, .ireturn, 1)]
theorem tk_X1_placeAtWork : am_tbl prog_3_method_11_code tb_X1_placeAtWork = true := by decide +kernel
def f_X1_placeAtWork (x1 : Int32) (x2 : Int32) (D : am_M) : Int32 := f_X1_place x1 (f_X1_tiredByWork x2) 0 D
theorem ct_X1_placeAtWork {l : Launch} {tw : Nat} {tp : Bool} (x1 : Int32) (x2 : Int32) (D : am_M) : am_CT l m_X1_placeAtWork false [.ref 45, .int x1, .int x2] (ly tw tp D) (am_is (some (.int (f_X1_placeAtWork x1 x2 D))) (ly tw tp D)) := by
  refine am_CT.of (by decide) (Nat.le_of_ble_eq_true rfl) ?_
  show am_Ex _ _ _ 0 [(0, .ref 45), (1, .int x1), (2, .int x2)] [] _
  refine am_aload_n (j := 0) (am_dk tk_X1_placeAtWork 0 rfl) rfl rfl ?_
  refine am_iload_n (j := 1) (am_dk tk_X1_placeAtWork 1 rfl) rfl rfl ?_
  refine am_iload_n (j := 2) (am_dk tk_X1_placeAtWork 2 rfl) rfl rfl ?_
  refine am_cS (M := m_X1_tiredByWork) (As := [.int x2]) (st := [.int x1, .ref 45]) (ct_X1_tiredByWork _ _) ml_X1_154 ld_X1_tiredByWork rfl ⟨Nat.le_of_ble_eq_true rfl, Nat.le_of_ble_eq_true rfl⟩ (Nat.le_of_ble_eq_true rfl) ⟨rfl, rfl⟩ ⟨Nat.le_of_ble_eq_true rfl, Nat.le_of_ble_eq_true rfl⟩ (am_dk tk_X1_placeAtWork 3 rfl) (am_kki ?_)
  refine am_iconst (v := 0) (am_dk tk_X1_placeAtWork 4 rfl) (by decide) ?_
  refine ly_cV (M := m_X1_place) (As := [.int x1, .int (f_X1_tiredByWork x2), .int 0]) (b := 45) (st := []) (ct_X1_place _ _ _ _) rfl (by decide) rfl ml_X1_115 ld_X1_place rfl ⟨Nat.le_of_ble_eq_true rfl, Nat.le_of_ble_eq_true rfl⟩ (Nat.le_of_ble_eq_true rfl) ⟨rfl, rfl⟩ ⟨Nat.le_of_ble_eq_true rfl, Nat.le_of_ble_eq_true rfl⟩ (am_dk tk_X1_placeAtWork 5 rfl) (am_kki ?_)
  exact am_iret rfl ⟨rfl, rfl⟩ ⟨Nat.le_of_ble_eq_true rfl, Nat.le_of_ble_eq_true rfl⟩ (am_dk tk_X1_placeAtWork 6 rfl)
abbrev m_X1_learnEarnings : am_D := (yX1_learnEarnings, prog_3_method_7_code, 6, none, { frames := 3, cells := 0, slots := 0, locals := 57 })
theorem ld_X1_learnEarnings : am_LD m_X1_learnEarnings 1 := ⟨(am_tb 83 (by decide +kernel) (by decide +kernel)), (am_tb 634 (by decide +kernel) (by decide +kernel)), by decide, by decide, by decide +kernel⟩
def tb_X1_learnEarnings : List (Nat × Instr × Nat) := [(0, .iconst 0, 1), (1, .istore_n 2, 1), (2, .iload_n 2, 1), (3, .bipush 99, 2), (5, .if_icmp .gt 92, 3), (8, .aload_n 0, 1), (9, .getfield 15, 3), (12, .aload_n 0, 1), (13, .iload_n 1, 1), (14, .iconst 1, 1), (15, .isub, 1), (16, .iload_n 2, 1), (17, .invokevirtual 103, 3), (20, .iaload, 1), (21, .istore_n 3, 1), (22, .iconst 0, 1), (23, .istore 4, 2), (25, .iload 4, 2), (27, .aload_n 0, 1), (28, .getfield 87, 3), (31, .if_icmp .ge 60, 3), (34, .iload_n 2, 1), (35, .ifCond .le 28, 3), (38, .aload_n 0, 1), (39, .iload 4, 2), (41, .invokevirtual 107, 3), (44, .aload_n 0, 1), (45, .getfield 15, 3), (48, .aload_n 0, 1), (49, .iload_n 1, 1), (50, .iconst 1, 1), (51, .isub, 1), (52, .iload_n 2, 1), (53, .iload 4, 2), (55, .invokevirtual 111, 3), (58, .iaload, 1), (59, .iadd, 1), (60, .goto 4, 3), (63, .iconst 0, 1), (64, .istore 5, 2), (66, .aload_n 0, 1), (67, .getfield 15, 3), (70, .aload_n 0, 1), (71, .iload_n 1, 1), (72, .iload_n 2, 1), (73, .iload 4, 2), (75, .invokevirtual 115, 3), (78, .iload_n 3, 1), (79, .iload 5, 2), (81, .invokestatic 118, 3), (84, .iastore, 1), (85, .iinc 4 1, 3), (88, .goto (-63), 3), (91, .iinc 2 1, 3), (94, .goto (-92), 3), (97, .return_, 1)]
theorem tk_X1_learnEarnings : am_tbl prog_3_method_7_code tb_X1_learnEarnings = true := by decide +kernel
def b_X1_learnEarnings_64 (k2 : Int32 → Int32 → am_M → Option am_M) (k25 : Int32 → Int32 → Int32 → Int32 → am_M → Option am_M) (x1 : Int32) (x2 : Int32) (x3 : Int32) (x4 : Int32) (s0 : Int32) (D : am_M) : Option am_M := if am_in (f_X1_place x1 x2 x4 D) 44100 = true then k25 x1 x2 x3 (x4 + 1) (am_up D 84 (f_X1_place x1 x2 x4 D).toNatClampNeg (am_max x3 s0)) else none
def b_X1_learnEarnings_25 (k2 : Int32 → Int32 → am_M → Option am_M) : Nat → Int32 → Int32 → Int32 → Int32 → am_M → Option am_M
  | 0, _, _, _, _, _ => none
  | n + 1, x1, x2, x3, x4, D => if (D 45 12) ≤ x4 then k2 x1 (x2 + 1) D else if x2 ≤ 0 then b_X1_learnEarnings_64 k2 (b_X1_learnEarnings_25 k2 n) x1 x2 x3 x4 0 D else if am_in (f_X1_placeAsleep (x1 - 1) x2 x4 D) 44100 = true then b_X1_learnEarnings_64 k2 (b_X1_learnEarnings_25 k2 n) x1 x2 x3 x4 ((f_X1_earned x4 D) + (D 84 (f_X1_placeAsleep (x1 - 1) x2 x4 D).toNatClampNeg)) D else none
def b_X1_learnEarnings_2 : Nat → Int32 → Int32 → am_M → Option am_M
  | 0, _, _, _ => none
  | n + 1, x1, x2, D => if 99 < x2 then some D else if am_in (f_X1_placeAtWork (x1 - 1) x2 D) 44100 = true then b_X1_learnEarnings_25 (b_X1_learnEarnings_2 n) am_N x1 x2 (D 84 (f_X1_placeAtWork (x1 - 1) x2 D).toNatClampNeg) 0 D else none
def f_X1_learnEarnings (x1 : Int32) (D : am_M) : Option am_M := b_X1_learnEarnings_2 am_N x1 0 D
theorem bx_X1_learnEarnings_64 {l : Launch} {h0 : am_H} {Φ : am_Ph} {tw : Nat}  {D' : am_M} (hΦ : Φ none (ly tw true D')) {k2 : Int32 → Int32 → am_M → Option am_M} (hk2 : ∀ (x1 : Int32) (x2 : Int32) (D : am_M), k2 x1 x2 D = some D' → am_Ex (am_E l m_X1_learnEarnings false h0 Φ) prog_3_method_7_code (0, 0) 2 [(0, .ref 45), (1, .int x1), (2, .int x2)] [] (ly tw true D)) {k25 : Int32 → Int32 → Int32 → Int32 → am_M → Option am_M} (hk25 : ∀ (x1 : Int32) (x2 : Int32) (x3 : Int32) (x4 : Int32) (D : am_M), k25 x1 x2 x3 x4 D = some D' → am_Ex (am_E l m_X1_learnEarnings false h0 Φ) prog_3_method_7_code (0, 0) 25 [(0, .ref 45), (1, .int x1), (2, .int x2), (3, .int x3), (4, .int x4)] [] (ly tw true D)) : ∀ (x1 : Int32) (x2 : Int32) (x3 : Int32) (x4 : Int32) (s0 : Int32) (D : am_M), b_X1_learnEarnings_64 k2 k25 x1 x2 x3 x4 s0 D = some D' → am_Ex (am_E l m_X1_learnEarnings false h0 Φ) prog_3_method_7_code (0, 0) 64 [(0, .ref 45), (1, .int x1), (2, .int x2), (3, .int x3), (4, .int x4)] [.int s0] (ly tw true D) := by
  intro x1 x2 x3 x4 s0 D h
  rw [b_X1_learnEarnings_64] at h
  refine am_istore (L' := [(5, .int s0), (0, .ref 45), (1, .int x1), (2, .int x2), (3, .int x3), (4, .int x4)]) (am_dk tk_X1_learnEarnings 39 rfl) (Nat.le_of_ble_eq_true rfl) rfl ?_
  refine am_aload_n (j := 1) (am_dk tk_X1_learnEarnings 40 rfl) rfl rfl ?_
  refine ly_getr (b := 84) rfl fl_X1_15 rfl rfl (am_dk tk_X1_learnEarnings 41 rfl) ?_
  refine am_aload_n (j := 1) (am_dk tk_X1_learnEarnings 42 rfl) rfl rfl ?_
  refine am_iload_n (j := 2) (am_dk tk_X1_learnEarnings 43 rfl) rfl rfl ?_
  refine am_iload_n (j := 3) (am_dk tk_X1_learnEarnings 44 rfl) rfl rfl ?_
  refine am_iload (j := 5) (am_dk tk_X1_learnEarnings 45 rfl) rfl ?_
  refine ly_cV (M := m_X1_place) (As := [.int x1, .int x2, .int x4]) (b := 45) (st := [.ref 84]) (ct_X1_place _ _ _ _) rfl (by decide) rfl ml_X1_115 ld_X1_place rfl ⟨Nat.le_of_ble_eq_true rfl, Nat.le_of_ble_eq_true rfl⟩ (Nat.le_of_ble_eq_true rfl) ⟨rfl, rfl⟩ ⟨Nat.le_of_ble_eq_true rfl, Nat.le_of_ble_eq_true rfl⟩ (am_dk tk_X1_learnEarnings 46 rfl) (am_kki ?_)
  refine am_iload_n (j := 4) (am_dk tk_X1_learnEarnings 47 rfl) rfl rfl ?_
  refine am_iload (j := 0) (am_dk tk_X1_learnEarnings 48 rfl) rfl ?_
  refine am_mmax lm_X1_118 (Nat.le_of_ble_eq_true rfl) (Nat.le_of_ble_eq_true rfl) ⟨Nat.le_of_ble_eq_true rfl, Nat.le_of_ble_eq_true rfl⟩ (am_dk tk_X1_learnEarnings 49 rfl) ?_
  obtain ⟨hi84, h⟩ := am_chk h
  refine ly_iast (k := (f_X1_place x1 x2 x4 D).toNatClampNeg) rfl (am_in_vp hi84) rfl (am_dk tk_X1_learnEarnings 50 rfl) ?_
  refine am_iinc (j := 5) (v := x4 + 1) (L' := [(4, .int (x4 + 1)), (5, .int s0), (0, .ref 45), (1, .int x1), (2, .int x2), (3, .int x3)]) (am_dk tk_X1_learnEarnings 51 rfl) rfl rfl (Nat.le_of_ble_eq_true rfl) rfl ?_
  refine am_goto (tgt := 25) (am_dk tk_X1_learnEarnings 52 rfl) (by decide) ?_
  refine am_ls [2, 3, 4, 5, 0] rfl ?_
  exact hk25 _ _ _ _ _ h
theorem bx_X1_learnEarnings_25 {l : Launch} {h0 : am_H} {Φ : am_Ph} {tw : Nat}  {D' : am_M} (hΦ : Φ none (ly tw true D')) {k2 : Int32 → Int32 → am_M → Option am_M} (hk2 : ∀ (x1 : Int32) (x2 : Int32) (D : am_M), k2 x1 x2 D = some D' → am_Ex (am_E l m_X1_learnEarnings false h0 Φ) prog_3_method_7_code (0, 0) 2 [(0, .ref 45), (1, .int x1), (2, .int x2)] [] (ly tw true D)) : ∀ (n : Nat) (x1 : Int32) (x2 : Int32) (x3 : Int32) (x4 : Int32) (D : am_M), b_X1_learnEarnings_25 k2 n x1 x2 x3 x4 D = some D' → am_Ex (am_E l m_X1_learnEarnings false h0 Φ) prog_3_method_7_code (0, 0) 25 [(0, .ref 45), (1, .int x1), (2, .int x2), (3, .int x3), (4, .int x4)] [] (ly tw true D) := by
  intro n
  induction n with
  | zero =>
    intro x1 x2 x3 x4 D h
    exact absurd h (by simp [b_X1_learnEarnings_25])
  | succ n ih =>
    intro x1 x2 x3 x4 D h
    rw [b_X1_learnEarnings_25] at h
    refine am_iload (j := 4) (am_dk tk_X1_learnEarnings 17 rfl) rfl ?_
    refine am_aload_n (j := 0) (am_dk tk_X1_learnEarnings 18 rfl) rfl rfl ?_
    refine ly_geti rfl fl_X1_87 rfl (am_dk tk_X1_learnEarnings 19 rfl) ?_
    refine am_icmp_ge (tgt := 91) (am_dk tk_X1_learnEarnings 20 rfl) (by decide) (fun hc31 => ?_) (fun hc31 => ?_)
    · rw [if_pos hc31] at h
      refine am_iinc (j := 2) (v := x2 + 1) (L' := [(2, .int (x2 + 1)), (0, .ref 45), (1, .int x1), (3, .int x3), (4, .int x4)]) (am_dk tk_X1_learnEarnings 53 rfl) rfl rfl (Nat.le_of_ble_eq_true rfl) rfl ?_
      refine am_goto (tgt := 2) (am_dk tk_X1_learnEarnings 54 rfl) (by decide) ?_
      refine am_ls [1, 2, 0] rfl ?_
      exact hk2 _ _ _ h
    · rw [if_neg hc31] at h
      refine am_iload_n (j := 2) (am_dk tk_X1_learnEarnings 21 rfl) rfl rfl ?_
      refine am_if_le (tgt := 63) (am_dk tk_X1_learnEarnings 22 rfl) (by decide) (fun hc35 => ?_) (fun hc35 => ?_)
      · rw [if_pos hc35] at h
        refine am_iconst (v := 0) (am_dk tk_X1_learnEarnings 38 rfl) (by decide) ?_
        exact bx_X1_learnEarnings_64  hΦ hk2 (ih) _ _ _ _ _ _ h
      · rw [if_neg hc35] at h
        refine am_aload_n (j := 0) (am_dk tk_X1_learnEarnings 23 rfl) rfl rfl ?_
        refine am_iload (j := 4) (am_dk tk_X1_learnEarnings 24 rfl) rfl ?_
        refine ly_cV (M := m_X1_earned) (As := [.int x4]) (b := 45) (st := []) (ct_X1_earned _ _) rfl (by decide) rfl ml_X1_107 ld_X1_earned rfl ⟨Nat.le_of_ble_eq_true rfl, Nat.le_of_ble_eq_true rfl⟩ (Nat.le_of_ble_eq_true rfl) ⟨rfl, rfl⟩ ⟨Nat.le_of_ble_eq_true rfl, Nat.le_of_ble_eq_true rfl⟩ (am_dk tk_X1_learnEarnings 25 rfl) (am_kki ?_)
        refine am_aload_n (j := 0) (am_dk tk_X1_learnEarnings 26 rfl) rfl rfl ?_
        refine ly_getr (b := 84) rfl fl_X1_15 rfl rfl (am_dk tk_X1_learnEarnings 27 rfl) ?_
        refine am_aload_n (j := 0) (am_dk tk_X1_learnEarnings 28 rfl) rfl rfl ?_
        refine am_iload_n (j := 1) (am_dk tk_X1_learnEarnings 29 rfl) rfl rfl ?_
        refine am_iconst (v := 1) (am_dk tk_X1_learnEarnings 30 rfl) (by decide) ?_
        refine am_isub (am_dk tk_X1_learnEarnings 31 rfl) ?_
        refine am_iload_n (j := 2) (am_dk tk_X1_learnEarnings 32 rfl) rfl rfl ?_
        refine am_iload (j := 4) (am_dk tk_X1_learnEarnings 33 rfl) rfl ?_
        refine ly_cV (M := m_X1_placeAsleep) (As := [.int (x1 - 1), .int x2, .int x4]) (b := 45) (st := [.ref 84, .int (f_X1_earned x4 D)]) (ct_X1_placeAsleep _ _ _ _) rfl (by decide) rfl ml_X1_111 ld_X1_placeAsleep rfl ⟨Nat.le_of_ble_eq_true rfl, Nat.le_of_ble_eq_true rfl⟩ (Nat.le_of_ble_eq_true rfl) ⟨rfl, rfl⟩ ⟨Nat.le_of_ble_eq_true rfl, Nat.le_of_ble_eq_true rfl⟩ (am_dk tk_X1_learnEarnings 34 rfl) (am_kki ?_)
        obtain ⟨hi58, h⟩ := am_chk h
        refine ly_iald (k := (f_X1_placeAsleep (x1 - 1) x2 x4 D).toNatClampNeg) rfl (am_in_vp hi58) rfl (am_dk tk_X1_learnEarnings 35 rfl) ?_
        refine am_iadd (am_dk tk_X1_learnEarnings 36 rfl) ?_
        refine am_goto (tgt := 64) (am_dk tk_X1_learnEarnings 37 rfl) (by decide) ?_
        exact bx_X1_learnEarnings_64  hΦ hk2 (ih) _ _ _ _ _ _ h
theorem bx_X1_learnEarnings_2 {l : Launch} {h0 : am_H} {Φ : am_Ph} {tw : Nat}  {D' : am_M} (hΦ : Φ none (ly tw true D')) : ∀ (n : Nat) (x1 : Int32) (x2 : Int32) (D : am_M), b_X1_learnEarnings_2 n x1 x2 D = some D' → am_Ex (am_E l m_X1_learnEarnings false h0 Φ) prog_3_method_7_code (0, 0) 2 [(0, .ref 45), (1, .int x1), (2, .int x2)] [] (ly tw true D) := by
  intro n
  induction n with
  | zero =>
    intro x1 x2 D h
    exact absurd h (by simp [b_X1_learnEarnings_2])
  | succ n ih =>
    intro x1 x2 D h
    rw [b_X1_learnEarnings_2] at h
    refine am_iload_n (j := 2) (am_dk tk_X1_learnEarnings 2 rfl) rfl rfl ?_
    refine am_bipush (v := 99) (am_dk tk_X1_learnEarnings 3 rfl) (by decide) ?_
    refine am_icmp_gt (tgt := 97) (am_dk tk_X1_learnEarnings 4 rfl) (by decide) (fun hc5 => ?_) (fun hc5 => ?_)
    · rw [if_pos hc5] at h
      exact am_vret rfl (am_r0 h hΦ) ⟨Nat.le_of_ble_eq_true rfl, Nat.le_of_ble_eq_true rfl⟩ (am_dk tk_X1_learnEarnings 55 rfl)
    · rw [if_neg hc5] at h
      refine am_aload_n (j := 0) (am_dk tk_X1_learnEarnings 5 rfl) rfl rfl ?_
      refine ly_getr (b := 84) rfl fl_X1_15 rfl rfl (am_dk tk_X1_learnEarnings 6 rfl) ?_
      refine am_aload_n (j := 0) (am_dk tk_X1_learnEarnings 7 rfl) rfl rfl ?_
      refine am_iload_n (j := 1) (am_dk tk_X1_learnEarnings 8 rfl) rfl rfl ?_
      refine am_iconst (v := 1) (am_dk tk_X1_learnEarnings 9 rfl) (by decide) ?_
      refine am_isub (am_dk tk_X1_learnEarnings 10 rfl) ?_
      refine am_iload_n (j := 2) (am_dk tk_X1_learnEarnings 11 rfl) rfl rfl ?_
      refine ly_cV (M := m_X1_placeAtWork) (As := [.int (x1 - 1), .int x2]) (b := 45) (st := [.ref 84]) (ct_X1_placeAtWork _ _ _) rfl (by decide) rfl ml_X1_103 ld_X1_placeAtWork rfl ⟨Nat.le_of_ble_eq_true rfl, Nat.le_of_ble_eq_true rfl⟩ (Nat.le_of_ble_eq_true rfl) ⟨rfl, rfl⟩ ⟨Nat.le_of_ble_eq_true rfl, Nat.le_of_ble_eq_true rfl⟩ (am_dk tk_X1_learnEarnings 12 rfl) (am_kki ?_)
      obtain ⟨hi20, h⟩ := am_chk h
      refine ly_iald (k := (f_X1_placeAtWork (x1 - 1) x2 D).toNatClampNeg) rfl (am_in_vp hi20) rfl (am_dk tk_X1_learnEarnings 13 rfl) ?_
      refine am_istore_n (L' := [(3, .int (D 84 (f_X1_placeAtWork (x1 - 1) x2 D).toNatClampNeg)), (0, .ref 45), (1, .int x1), (2, .int x2)]) (am_dk tk_X1_learnEarnings 14 rfl) rfl (Nat.le_of_ble_eq_true rfl) rfl ?_
      refine am_iconst (v := 0) (am_dk tk_X1_learnEarnings 15 rfl) (by decide) ?_
      refine am_istore (L' := [(4, .int 0), (3, .int (D 84 (f_X1_placeAtWork (x1 - 1) x2 D).toNatClampNeg)), (0, .ref 45), (1, .int x1), (2, .int x2)]) (am_dk tk_X1_learnEarnings 16 rfl) (Nat.le_of_ble_eq_true rfl) rfl ?_
      refine am_ls [2, 3, 4, 1, 0] rfl ?_
      exact bx_X1_learnEarnings_25  hΦ (ih) am_N _ _ _ _ _ h
theorem ct_X1_learnEarnings {l : Launch} {tw : Nat}  {x1 : Int32} {D D' : am_M} (h : f_X1_learnEarnings x1 D = some D') : am_CT l m_X1_learnEarnings false [.ref 45, .int x1] (ly tw true D) (am_is none (ly tw true D')) := by
  have hΦ : am_is none (ly tw true D') none (ly tw true D') := ⟨rfl, rfl⟩
  refine am_CT.of (by decide) (Nat.le_of_ble_eq_true rfl) ?_
  show am_Ex _ _ _ 0 [(0, .ref 45), (1, .int x1)] [] _
  rw [f_X1_learnEarnings] at h
  refine am_iconst (v := 0) (am_dk tk_X1_learnEarnings 0 rfl) (by decide) ?_
  refine am_istore_n (L' := [(2, .int 0), (0, .ref 45), (1, .int x1)]) (am_dk tk_X1_learnEarnings 1 rfl) rfl (Nat.le_of_ble_eq_true rfl) rfl ?_
  refine am_ls [1, 2, 0] rfl ?_
  exact bx_X1_learnEarnings_2  hΦ am_N _ _ _ h
abbrev m_X1_countOwed : am_D := (yX1_countOwed, prog_3_method_8_code, 4, none, { frames := 1, cells := 0, slots := 0, locals := 23 })
theorem ld_X1_countOwed : am_LD m_X1_countOwed 1 := ⟨(am_tb 83 (by decide +kernel) (by decide +kernel)), (am_tb 666 (by decide +kernel) (by decide +kernel)), by decide, by decide, by decide +kernel⟩
def tb_X1_countOwed : List (Nat × Instr × Nat) := [(0, .aload_n 0, 1), (1, .getfield 22, 3), (4, .iconst 0, 1), (5, .invokestatic 123, 3), (8, .aload_n 0, 1), (9, .iconst 0, 1), (10, .putfield 129, 3), (13, .iconst 0, 1), (14, .istore_n 2, 1), (15, .iload_n 2, 1), (16, .aload_n 1, 1), (17, .getfield 132, 3), (20, .if_icmp .ge 80, 3), (23, .aload_n 1, 1), (24, .getfield 135, 3), (27, .iload_n 2, 1), (28, .iaload, 1), (29, .aload_n 0, 1), (30, .getfield 46, 3), (33, .isub, 1), (34, .istore_n 3, 1), (35, .aload_n 1, 1), (36, .getfield 138, 3), (39, .iload_n 2, 1), (40, .iaload, 1), (41, .aload_n 0, 1), (42, .getfield 31, 3), (45, .if_icmp .ne 49, 3), (48, .iload_n 3, 1), (49, .iconst 0, 1), (50, .aload_n 0, 1), (51, .getfield 38, 3), (54, .iconst 1, 1), (55, .isub, 1), (56, .invokestatic 141, 3), (59, .ifCond .ne 6, 3), (62, .goto 32, 3), (65, .aload_n 0, 1), (66, .getfield 22, 3), (69, .iload_n 3, 1), (70, .dup2, 1), (71, .iaload, 1), (72, .aload_n 1, 1), (73, .getfield 145, 3), (76, .iload_n 2, 1), (77, .iaload, 1), (78, .iadd, 1), (79, .iastore, 1), (80, .aload_n 0, 1), (81, .aload_n 0, 1), (82, .getfield 129, 3), (85, .iload_n 3, 1), (86, .iconst 1, 1), (87, .iadd, 1), (88, .invokestatic 118, 3), (91, .putfield 129, 3), (94, .iinc 2 1, 3), (97, .goto (-82), 3), (100, .return_, 1)]
theorem tk_X1_countOwed : am_tbl prog_3_method_8_code tb_X1_countOwed = true := by decide +kernel
def b_X1_countOwed_94 (T : Nat) (k15 : Int32 → am_M → Option am_M) (x2 : Int32) (D : am_M) : Option am_M := k15 (x2 + 1) D
def b_X1_countOwed_15 (T : Nat) : Nat → Int32 → am_M → Option am_M
  | 0, _, _ => none
  | n + 1, x2, D => if (D T 5) ≤ x2 then some D else if am_in x2 8 = true then if (D (T + 2) x2.toNatClampNeg) = (D 45 6) then if (f_X5_isWithin ((D (T + 3) x2.toNatClampNeg) - (D 45 8)) 0 ((D 45 7) - 1)) = 0 then b_X1_countOwed_94 T (b_X1_countOwed_15 T n) x2 D else if am_in ((D (T + 3) x2.toNatClampNeg) - (D 45 8)) 48 = true then b_X1_countOwed_94 T (b_X1_countOwed_15 T n) x2 (am_up (am_up D 48 ((D (T + 3) x2.toNatClampNeg) - (D 45 8)).toNatClampNeg ((D 48 ((D (T + 3) x2.toNatClampNeg) - (D 45 8)).toNatClampNeg) + (D (T + 4) x2.toNatClampNeg))) 45 15 (am_max ((am_up D 48 ((D (T + 3) x2.toNatClampNeg) - (D 45 8)).toNatClampNeg ((D 48 ((D (T + 3) x2.toNatClampNeg) - (D 45 8)).toNatClampNeg) + (D (T + 4) x2.toNatClampNeg))) 45 15) (((D (T + 3) x2.toNatClampNeg) - (D 45 8)) + 1))) else none else b_X1_countOwed_15 T n (x2 + 1) D else none
def f_X1_countOwed (T : Nat) (D : am_M) : Option am_M := (f_J7_fill 48 48 0 D).bind fun q5 => b_X1_countOwed_15 T am_N 0 (am_up q5 45 15 0)
theorem bx_X1_countOwed_94 {l : Launch} {h0 : am_H} {Φ : am_Ph} {tw : Nat} {tp : Bool} {T : Nat} (hT : lyT T) {D' : am_M} (hΦ : Φ none (ly tw tp D')) {k15 : Int32 → am_M → Option am_M} (hk15 : ∀ (x2 : Int32) (D : am_M), k15 x2 D = some D' → am_Ex (am_E l m_X1_countOwed false h0 Φ) prog_3_method_8_code (0, 0) 15 [(0, .ref 45), (1, .ref T), (2, .int x2)] [] (ly tw tp D)) : ∀ (x2 : Int32) (D : am_M), b_X1_countOwed_94 T k15 x2 D = some D' → am_Ex (am_E l m_X1_countOwed false h0 Φ) prog_3_method_8_code (0, 0) 94 [(0, .ref 45), (1, .ref T), (2, .int x2)] [] (ly tw tp D) := by
  intro x2 D h
  rw [b_X1_countOwed_94] at h
  refine am_iinc (j := 2) (v := x2 + 1) (L' := [(2, .int (x2 + 1)), (0, .ref 45), (1, .ref T)]) (am_dk tk_X1_countOwed 56 rfl) rfl rfl (Nat.le_of_ble_eq_true rfl) rfl ?_
  refine am_goto (tgt := 15) (am_dk tk_X1_countOwed 57 rfl) (by decide) ?_
  refine am_ls [1, 2, 0] rfl ?_
  exact hk15 _ _ h
theorem bx_X1_countOwed_15 {l : Launch} {h0 : am_H} {Φ : am_Ph} {tw : Nat} {tp : Bool} {T : Nat} (hT : lyT T) {D' : am_M} (hΦ : Φ none (ly tw tp D')) : ∀ (n : Nat) (x2 : Int32) (D : am_M), b_X1_countOwed_15 T n x2 D = some D' → am_Ex (am_E l m_X1_countOwed false h0 Φ) prog_3_method_8_code (0, 0) 15 [(0, .ref 45), (1, .ref T), (2, .int x2)] [] (ly tw tp D) := by
  intro n
  induction n with
  | zero =>
    intro x2 D h
    exact absurd h (by simp [b_X1_countOwed_15])
  | succ n ih =>
    intro x2 D h
    rw [b_X1_countOwed_15] at h
    refine am_iload_n (j := 2) (am_dk tk_X1_countOwed 9 rfl) rfl rfl ?_
    refine am_aload_n (j := 1) (am_dk tk_X1_countOwed 10 rfl) rfl rfl ?_
    refine ly_geti (lyT_s hT) fl_X1_132 rfl (am_dk tk_X1_countOwed 11 rfl) ?_
    refine am_icmp_ge (tgt := 100) (am_dk tk_X1_countOwed 12 rfl) (by decide) (fun hc20 => ?_) (fun hc20 => ?_)
    · rw [if_pos hc20] at h
      exact am_vret rfl (am_r0 h hΦ) ⟨Nat.le_of_ble_eq_true rfl, Nat.le_of_ble_eq_true rfl⟩ (am_dk tk_X1_countOwed 58 rfl)
    · rw [if_neg hc20] at h
      refine am_aload_n (j := 1) (am_dk tk_X1_countOwed 13 rfl) rfl rfl ?_
      refine ly_getr (b := (T + 3)) (lyT_s hT) fl_X1_135 rfl (lyT_r9 hT) (am_dk tk_X1_countOwed 14 rfl) ?_
      refine am_iload_n (j := 2) (am_dk tk_X1_countOwed 15 rfl) rfl rfl ?_
      obtain ⟨hi28, h⟩ := am_chk h
      refine ly_iald (k := x2.toNatClampNeg) (lyT_a9 hT) (am_in_vp hi28) rfl (am_dk tk_X1_countOwed 16 rfl) ?_
      refine am_aload_n (j := 0) (am_dk tk_X1_countOwed 17 rfl) rfl rfl ?_
      refine ly_geti rfl fl_X1_46 rfl (am_dk tk_X1_countOwed 18 rfl) ?_
      refine am_isub (am_dk tk_X1_countOwed 19 rfl) ?_
      refine am_istore_n (L' := [(3, .int ((D (T + 3) x2.toNatClampNeg) - (D 45 8))), (0, .ref 45), (1, .ref T), (2, .int x2)]) (am_dk tk_X1_countOwed 20 rfl) rfl (Nat.le_of_ble_eq_true rfl) rfl ?_
      refine am_aload_n (j := 2) (am_dk tk_X1_countOwed 21 rfl) rfl rfl ?_
      refine ly_getr (b := (T + 2)) (lyT_s hT) fl_X1_138 rfl (lyT_r8 hT) (am_dk tk_X1_countOwed 22 rfl) ?_
      refine am_iload_n (j := 3) (am_dk tk_X1_countOwed 23 rfl) rfl rfl ?_
      refine ly_iald (k := x2.toNatClampNeg) (lyT_a8 hT) (am_in_vp hi28) rfl (am_dk tk_X1_countOwed 24 rfl) ?_
      refine am_aload_n (j := 1) (am_dk tk_X1_countOwed 25 rfl) rfl rfl ?_
      refine ly_geti rfl fl_X1_31 rfl (am_dk tk_X1_countOwed 26 rfl) ?_
      refine am_icmp_ne (tgt := 94) (am_dk tk_X1_countOwed 27 rfl) (by decide) (fun hc45 => ?_) (fun hc45 => ?_)
      · rw [if_neg hc45] at h
        refine am_iinc (j := 3) (v := x2 + 1) (L' := [(2, .int (x2 + 1)), (3, .int ((D (T + 3) x2.toNatClampNeg) - (D 45 8))), (0, .ref 45), (1, .ref T)]) (am_dk tk_X1_countOwed 56 rfl) rfl rfl (Nat.le_of_ble_eq_true rfl) rfl ?_
        refine am_goto (tgt := 15) (am_dk tk_X1_countOwed 57 rfl) (by decide) ?_
        refine am_ls [2, 3, 0] rfl ?_
        exact ih _ _ h
      · rw [if_pos hc45] at h
        refine am_iload_n (j := 0) (am_dk tk_X1_countOwed 28 rfl) rfl rfl ?_
        refine am_iconst (v := 0) (am_dk tk_X1_countOwed 29 rfl) (by decide) ?_
        refine am_aload_n (j := 1) (am_dk tk_X1_countOwed 30 rfl) rfl rfl ?_
        refine ly_geti rfl fl_X1_38 rfl (am_dk tk_X1_countOwed 31 rfl) ?_
        refine am_iconst (v := 1) (am_dk tk_X1_countOwed 32 rfl) (by decide) ?_
        refine am_isub (am_dk tk_X1_countOwed 33 rfl) ?_
        refine am_cSN (M := m_X5_isWithin) (As := [.int ((D (T + 3) x2.toNatClampNeg) - (D 45 8)), .int 0, .int ((D 45 7) - 1)]) (st := []) (ct_X5_isWithin _ _ _ _) ml_X1_141 ld_X5_isWithin rfl ⟨Nat.le_of_ble_eq_true rfl, Nat.le_of_ble_eq_true rfl⟩ (Nat.le_of_ble_eq_true rfl) ⟨rfl, rfl⟩ ⟨Nat.le_of_ble_eq_true rfl, Nat.le_of_ble_eq_true rfl⟩ (am_dk tk_X1_countOwed 34 rfl) (am_kki ?_)
        refine am_if_ne (tgt := 65) (am_dk tk_X1_countOwed 35 rfl) (by decide) (fun hc59 => ?_) (fun hc59 => ?_)
        · rw [if_neg hc59] at h
          refine am_aload_n (j := 1) (am_dk tk_X1_countOwed 37 rfl) rfl rfl ?_
          refine ly_getr (b := 48) rfl fl_X1_22 rfl rfl (am_dk tk_X1_countOwed 38 rfl) ?_
          refine am_iload_n (j := 0) (am_dk tk_X1_countOwed 39 rfl) rfl rfl ?_
          refine am_dup2 (am_dk tk_X1_countOwed 40 rfl) rfl rfl ?_
          obtain ⟨hi71, h⟩ := am_chk h
          refine ly_iald (k := ((D (T + 3) x2.toNatClampNeg) - (D 45 8)).toNatClampNeg) rfl (am_in_vp hi71) rfl (am_dk tk_X1_countOwed 41 rfl) ?_
          refine am_aload_n (j := 2) (am_dk tk_X1_countOwed 42 rfl) rfl rfl ?_
          refine ly_getr (b := (T + 4)) (lyT_s hT) fl_X1_145 rfl (lyT_r10 hT) (am_dk tk_X1_countOwed 43 rfl) ?_
          refine am_iload_n (j := 3) (am_dk tk_X1_countOwed 44 rfl) rfl rfl ?_
          refine ly_iald (k := x2.toNatClampNeg) (lyT_a10 hT) (am_in_vp hi28) rfl (am_dk tk_X1_countOwed 45 rfl) ?_
          refine am_iadd (am_dk tk_X1_countOwed 46 rfl) ?_
          refine ly_iast (k := ((D (T + 3) x2.toNatClampNeg) - (D 45 8)).toNatClampNeg) rfl (am_in_vp hi71) rfl (am_dk tk_X1_countOwed 47 rfl) ?_
          refine am_aload_n (j := 1) (am_dk tk_X1_countOwed 48 rfl) rfl rfl ?_
          refine am_aload_n (j := 1) (am_dk tk_X1_countOwed 49 rfl) rfl rfl ?_
          refine ly_geti rfl fl_X1_129 rfl (am_dk tk_X1_countOwed 50 rfl) ?_
          refine am_iload_n (j := 0) (am_dk tk_X1_countOwed 51 rfl) rfl rfl ?_
          refine am_iconst (v := 1) (am_dk tk_X1_countOwed 52 rfl) (by decide) ?_
          refine am_iadd (am_dk tk_X1_countOwed 53 rfl) ?_
          refine am_mmax lm_X1_118 (Nat.le_of_ble_eq_true rfl) (Nat.le_of_ble_eq_true rfl) ⟨Nat.le_of_ble_eq_true rfl, Nat.le_of_ble_eq_true rfl⟩ (am_dk tk_X1_countOwed 54 rfl) ?_
          refine ly_puti rfl fl_X1_129 rfl rfl (am_dk tk_X1_countOwed 55 rfl) ?_
          refine am_ls [1, 2, 3] rfl ?_
          exact bx_X1_countOwed_94 hT hΦ (ih) _ _ h
        · rw [if_pos hc59] at h
          refine am_goto (tgt := 94) (am_dk tk_X1_countOwed 36 rfl) (by decide) ?_
          refine am_ls [1, 2, 3] rfl ?_
          exact bx_X1_countOwed_94 hT hΦ (ih) _ _ h
theorem ct_X1_countOwed {l : Launch} {tw : Nat} {tp : Bool} {T : Nat} (hT : lyT T) {D D' : am_M} (h : f_X1_countOwed T D = some D') : am_CT l m_X1_countOwed false [.ref 45, .ref T] (ly tw tp D) (am_is none (ly tw tp D')) := by
  have hΦ : am_is none (ly tw tp D') none (ly tw tp D') := ⟨rfl, rfl⟩
  refine am_CT.of (by decide) (Nat.le_of_ble_eq_true rfl) ?_
  show am_Ex _ _ _ 0 [(0, .ref 45), (1, .ref T)] [] _
  rw [f_X1_countOwed] at h
  refine am_aload_n (j := 0) (am_dk tk_X1_countOwed 0 rfl) rfl rfl ?_
  refine ly_getr (b := 48) rfl fl_X1_22 rfl rfl (am_dk tk_X1_countOwed 1 rfl) ?_
  refine am_iconst (v := 0) (am_dk tk_X1_countOwed 2 rfl) (by decide) ?_
  obtain ⟨q5, hq5, h⟩ := am_bind h
  refine am_cS (M := m_J7_fill) (As := [.ref 48, .int 0]) (st := []) (ct_J7_fill rfl hq5) ml_X1_123 ld_J7_fill rfl ⟨Nat.le_of_ble_eq_true rfl, Nat.le_of_ble_eq_true rfl⟩ (Nat.le_of_ble_eq_true rfl) ⟨rfl, rfl⟩ ⟨Nat.le_of_ble_eq_true rfl, Nat.le_of_ble_eq_true rfl⟩ (am_dk tk_X1_countOwed 3 rfl) (am_kkv ?_)
  refine am_aload_n (j := 0) (am_dk tk_X1_countOwed 4 rfl) rfl rfl ?_
  refine am_iconst (v := 0) (am_dk tk_X1_countOwed 5 rfl) (by decide) ?_
  refine ly_puti rfl fl_X1_129 rfl rfl (am_dk tk_X1_countOwed 6 rfl) ?_
  refine am_iconst (v := 0) (am_dk tk_X1_countOwed 7 rfl) (by decide) ?_
  refine am_istore_n (L' := [(2, .int 0), (0, .ref 45), (1, .ref T)]) (am_dk tk_X1_countOwed 8 rfl) rfl (Nat.le_of_ble_eq_true rfl) rfl ?_
  refine am_ls [1, 2, 0] rfl ?_
  exact bx_X1_countOwed_15 hT hΦ am_N _ _ h
abbrev m_X1_purseAsleep : am_D := (yX1_purseAsleep, prog_3_method_16_code, 4, (some .int), { frames := 1, cells := 0, slots := 0, locals := 21 })
theorem ld_X1_purseAsleep : am_LD m_X1_purseAsleep 3 := ⟨(am_tb 83 (by decide +kernel) (by decide +kernel)), (am_tb 692 (by decide +kernel) (by decide +kernel)), by decide, by decide, by decide +kernel⟩
def tb_X1_purseAsleep : List (Nat × Instr × Nat) := [(0, .iload_n 3, 1), (1, .aload_n 0, 1), (2, .iload_n 2, 1), (3, .invokevirtual 107, 3), (6, .iadd, 1), (7, .sipush 9999, 3), (10, .invokestatic 157, 3), (13, .aload_n 0, 1), (14, .getfield 22, 3), (17, .iload_n 1, 1), (18, .iaload, 1), (19, .isub, 1), (20, .ireturn, 1)]
theorem tk_X1_purseAsleep : am_tbl prog_3_method_16_code tb_X1_purseAsleep = true := by decide +kernel
def f_X1_purseAsleep (x1 : Int32) (x2 : Int32) (x3 : Int32) (D : am_M) : Option (Int32 × am_M) := if am_in x1 48 = true then some ((am_min (x3 + (f_X1_earned x2 D)) 9999) - (D 48 x1.toNatClampNeg), D) else none
theorem ct_X1_purseAsleep {l : Launch} {tw : Nat} {tp : Bool}  {x1 : Int32} {x2 : Int32} {x3 : Int32} {r : Int32} {D D' : am_M} (h : f_X1_purseAsleep x1 x2 x3 D = some (r, D')) : am_CT l m_X1_purseAsleep false [.ref 45, .int x1, .int x2, .int x3] (ly tw tp D) (am_is (some (.int r)) (ly tw tp D')) := by
  have hΦ : am_is (some (.int r)) (ly tw tp D') (some (.int r)) (ly tw tp D') := ⟨rfl, rfl⟩
  refine am_CT.of (by decide) (Nat.le_of_ble_eq_true rfl) ?_
  show am_Ex _ _ _ 0 [(0, .ref 45), (1, .int x1), (2, .int x2), (3, .int x3)] [] _
  rw [f_X1_purseAsleep] at h
  refine am_iload_n (j := 3) (am_dk tk_X1_purseAsleep 0 rfl) rfl rfl ?_
  refine am_aload_n (j := 0) (am_dk tk_X1_purseAsleep 1 rfl) rfl rfl ?_
  refine am_iload_n (j := 2) (am_dk tk_X1_purseAsleep 2 rfl) rfl rfl ?_
  refine ly_cV (M := m_X1_earned) (As := [.int x2]) (b := 45) (st := [.int x3]) (ct_X1_earned _ _) rfl (by decide) rfl ml_X1_107 ld_X1_earned rfl ⟨Nat.le_of_ble_eq_true rfl, Nat.le_of_ble_eq_true rfl⟩ (Nat.le_of_ble_eq_true rfl) ⟨rfl, rfl⟩ ⟨Nat.le_of_ble_eq_true rfl, Nat.le_of_ble_eq_true rfl⟩ (am_dk tk_X1_purseAsleep 3 rfl) (am_kki ?_)
  refine am_iadd (am_dk tk_X1_purseAsleep 4 rfl) ?_
  refine am_sipush (v := 9999) (am_dk tk_X1_purseAsleep 5 rfl) (by decide) ?_
  refine am_mmin lm_X1_157 (Nat.le_of_ble_eq_true rfl) (Nat.le_of_ble_eq_true rfl) ⟨Nat.le_of_ble_eq_true rfl, Nat.le_of_ble_eq_true rfl⟩ (am_dk tk_X1_purseAsleep 6 rfl) ?_
  refine am_aload_n (j := 0) (am_dk tk_X1_purseAsleep 7 rfl) rfl rfl ?_
  refine ly_getr (b := 48) rfl fl_X1_22 rfl rfl (am_dk tk_X1_purseAsleep 8 rfl) ?_
  refine am_iload_n (j := 1) (am_dk tk_X1_purseAsleep 9 rfl) rfl rfl ?_
  obtain ⟨hi18, h⟩ := am_chk h
  refine ly_iald (k := x1.toNatClampNeg) rfl (am_in_vp hi18) rfl (am_dk tk_X1_purseAsleep 10 rfl) ?_
  refine am_isub (am_dk tk_X1_purseAsleep 11 rfl) ?_
  exact am_iret rfl (am_r2 h hΦ) ⟨Nat.le_of_ble_eq_true rfl, Nat.le_of_ble_eq_true rfl⟩ (am_dk tk_X1_purseAsleep 12 rfl)
abbrev m_X1_leastTired : am_D := (yX1_leastTired, prog_3_method_17_code, 2, (some .int), { frames := 1, cells := 0, slots := 0, locals := 13 })
theorem ld_X1_leastTired : am_LD m_X1_leastTired 1 := ⟨(am_tb 83 (by decide +kernel) (by decide +kernel)), (am_tb 684 (by decide +kernel) (by decide +kernel)), by decide, by decide, by decide +kernel⟩
def tb_X1_leastTired : List (Nat × Instr × Nat) := [(0, .aload_n 0, 1), (1, .getfield 50, 3), (4, .iconst 4, 1), (5, .iload_n 1, 1), (6, .imul, 1), (7, .isub, 1), (8, .iconst 0, 1), (9, .invokestatic 118, 3), (12, .ireturn, 1)]
theorem tk_X1_leastTired : am_tbl prog_3_method_17_code tb_X1_leastTired = true := by decide +kernel
def f_X1_leastTired (x1 : Int32) (D : am_M) : Int32 := am_max ((D 45 9) - (4 * x1)) 0
theorem ct_X1_leastTired {l : Launch} {tw : Nat} {tp : Bool} (x1 : Int32) (D : am_M) : am_CT l m_X1_leastTired false [.ref 45, .int x1] (ly tw tp D) (am_is (some (.int (f_X1_leastTired x1 D))) (ly tw tp D)) := by
  refine am_CT.of (by decide) (Nat.le_of_ble_eq_true rfl) ?_
  show am_Ex _ _ _ 0 [(0, .ref 45), (1, .int x1)] [] _
  refine am_aload_n (j := 0) (am_dk tk_X1_leastTired 0 rfl) rfl rfl ?_
  refine ly_geti rfl fl_X1_50 rfl (am_dk tk_X1_leastTired 1 rfl) ?_
  refine am_iconst (v := 4) (am_dk tk_X1_leastTired 2 rfl) (by decide) ?_
  refine am_iload_n (j := 1) (am_dk tk_X1_leastTired 3 rfl) rfl rfl ?_
  refine am_imul (am_dk tk_X1_leastTired 4 rfl) ?_
  refine am_isub (am_dk tk_X1_leastTired 5 rfl) ?_
  refine am_iconst (v := 0) (am_dk tk_X1_leastTired 6 rfl) (by decide) ?_
  refine am_mmax lm_X1_118 (Nat.le_of_ble_eq_true rfl) (Nat.le_of_ble_eq_true rfl) ⟨Nat.le_of_ble_eq_true rfl, Nat.le_of_ble_eq_true rfl⟩ (am_dk tk_X1_leastTired 7 rfl) ?_
  exact am_iret rfl ⟨rfl, rfl⟩ ⟨Nat.le_of_ble_eq_true rfl, Nat.le_of_ble_eq_true rfl⟩ (am_dk tk_X1_leastTired 8 rfl)
abbrev m_X1_mostTired : am_D := (yX1_mostTired, prog_3_method_18_code, 2, (some .int), { frames := 1, cells := 0, slots := 0, locals := 13 })
theorem ld_X1_mostTired : am_LD m_X1_mostTired 1 := ⟨(am_tb 83 (by decide +kernel) (by decide +kernel)), (am_tb 680 (by decide +kernel) (by decide +kernel)), by decide, by decide, by decide +kernel⟩
def tb_X1_mostTired : List (Nat × Instr × Nat) := [(0, .aload_n 0, 1), (1, .getfield 50, 3), (4, .iconst 3, 1), (5, .iload_n 1, 1), (6, .imul, 1), (7, .iadd, 1), (8, .bipush 99, 2), (10, .invokestatic 157, 3), (13, .ireturn, 1)]
theorem tk_X1_mostTired : am_tbl prog_3_method_18_code tb_X1_mostTired = true := by decide +kernel
def f_X1_mostTired (x1 : Int32) (D : am_M) : Int32 := am_min ((D 45 9) + (3 * x1)) 99
theorem ct_X1_mostTired {l : Launch} {tw : Nat} {tp : Bool} (x1 : Int32) (D : am_M) : am_CT l m_X1_mostTired false [.ref 45, .int x1] (ly tw tp D) (am_is (some (.int (f_X1_mostTired x1 D))) (ly tw tp D)) := by
  refine am_CT.of (by decide) (Nat.le_of_ble_eq_true rfl) ?_
  show am_Ex _ _ _ 0 [(0, .ref 45), (1, .int x1)] [] _
  refine am_aload_n (j := 0) (am_dk tk_X1_mostTired 0 rfl) rfl rfl ?_
  refine ly_geti rfl fl_X1_50 rfl (am_dk tk_X1_mostTired 1 rfl) ?_
  refine am_iconst (v := 3) (am_dk tk_X1_mostTired 2 rfl) (by decide) ?_
  refine am_iload_n (j := 1) (am_dk tk_X1_mostTired 3 rfl) rfl rfl ?_
  refine am_imul (am_dk tk_X1_mostTired 4 rfl) ?_
  refine am_iadd (am_dk tk_X1_mostTired 5 rfl) ?_
  refine am_bipush (v := 99) (am_dk tk_X1_mostTired 6 rfl) (by decide) ?_
  refine am_mmin lm_X1_157 (Nat.le_of_ble_eq_true rfl) (Nat.le_of_ble_eq_true rfl) ⟨Nat.le_of_ble_eq_true rfl, Nat.le_of_ble_eq_true rfl⟩ (am_dk tk_X1_mostTired 7 rfl) ?_
  exact am_iret rfl ⟨rfl, rfl⟩ ⟨Nat.le_of_ble_eq_true rfl, Nat.le_of_ble_eq_true rfl⟩ (am_dk tk_X1_mostTired 8 rfl)
abbrev m_X1_clearHour : am_D := (yX1_clearHour, prog_3_method_20_code, 4, none, { frames := 2, cells := 0, slots := 0, locals := 34 })
theorem ld_X1_clearHour : am_LD m_X1_clearHour 1 := ⟨(am_tb 83 (by decide +kernel) (by decide +kernel)), (am_tb 676 (by decide +kernel) (by decide +kernel)), by decide, by decide, by decide +kernel⟩
def tb_X1_clearHour : List (Nat × Instr × Nat) := [(0, .aload_n 0, 1), (1, .iload_n 1, 1), (2, .aload_n 0, 1), (3, .iload_n 1, 1), (4, .invokevirtual 163, 3), (7, .aload_n 0, 1), (8, .getfield 87, 3), (11, .iconst 1, 1), (12, .isub, 1), (13, .invokevirtual 115, 3), (16, .istore_n 2, 1), (17, .aload_n 0, 1), (18, .iload_n 1, 1), (19, .aload_n 0, 1), (20, .iload_n 1, 1), (21, .invokevirtual 170, 3), (24, .iconst 0, 1), (25, .invokevirtual 115, 3), (28, .istore_n 3, 1), (29, .iload_n 3, 1), (30, .iload_n 2, 1), (31, .if_icmp .gt 16, 3), (34, .aload_n 0, 1), (35, .getfield 9, 3), (38, .iload_n 3, 1), (39, .iconst (-1), 1), (40, .iastore, 1), (41, .iinc 3 1, 3), (44, .goto (-15), 3), (47, .return_, 1)]
theorem tk_X1_clearHour : am_tbl prog_3_method_20_code tb_X1_clearHour = true := by decide +kernel
def b_X1_clearHour_29 : Nat → Int32 → Int32 → am_M → Option am_M
  | 0, _, _, _ => none
  | n + 1, x2, x3, D => if x2 < x3 then some D else if am_in x3 44100 = true then b_X1_clearHour_29 n x2 (x3 + 1) (am_up D 83 x3.toNatClampNeg (-1)) else none
def f_X1_clearHour (x1 : Int32) (D : am_M) : Option am_M := b_X1_clearHour_29 am_N (f_X1_place x1 (f_X1_mostTired x1 D) ((D 45 12) - 1) D) (f_X1_place x1 (f_X1_leastTired x1 D) 0 D) D
theorem bx_X1_clearHour_29 {l : Launch} {h0 : am_H} {Φ : am_Ph} {tw : Nat}  {D' : am_M} (hΦ : Φ none (ly tw true D')) : ∀ (n : Nat) (x2 : Int32) (x3 : Int32) (D : am_M), b_X1_clearHour_29 n x2 x3 D = some D' → am_Ex (am_E l m_X1_clearHour false h0 Φ) prog_3_method_20_code (0, 0) 29 [(0, .ref 45), (2, .int x2), (3, .int x3)] [] (ly tw true D) := by
  intro n
  induction n with
  | zero =>
    intro x2 x3 D h
    exact absurd h (by simp [b_X1_clearHour_29])
  | succ n ih =>
    intro x2 x3 D h
    rw [b_X1_clearHour_29] at h
    refine am_iload_n (j := 2) (am_dk tk_X1_clearHour 19 rfl) rfl rfl ?_
    refine am_iload_n (j := 1) (am_dk tk_X1_clearHour 20 rfl) rfl rfl ?_
    refine am_icmp_gt (tgt := 47) (am_dk tk_X1_clearHour 21 rfl) (by decide) (fun hc31 => ?_) (fun hc31 => ?_)
    · rw [if_pos hc31] at h
      exact am_vret rfl (am_r0 h hΦ) ⟨Nat.le_of_ble_eq_true rfl, Nat.le_of_ble_eq_true rfl⟩ (am_dk tk_X1_clearHour 29 rfl)
    · rw [if_neg hc31] at h
      refine am_aload_n (j := 0) (am_dk tk_X1_clearHour 22 rfl) rfl rfl ?_
      refine ly_getr (b := 83) rfl fl_X1_9 rfl rfl (am_dk tk_X1_clearHour 23 rfl) ?_
      refine am_iload_n (j := 2) (am_dk tk_X1_clearHour 24 rfl) rfl rfl ?_
      refine am_iconst (v := (-1)) (am_dk tk_X1_clearHour 25 rfl) (by decide) ?_
      obtain ⟨hi40, h⟩ := am_chk h
      refine ly_iast (k := x3.toNatClampNeg) rfl (am_in_vp hi40) rfl (am_dk tk_X1_clearHour 26 rfl) ?_
      refine am_iinc (j := 2) (v := x3 + 1) (L' := [(3, .int (x3 + 1)), (0, .ref 45), (2, .int x2)]) (am_dk tk_X1_clearHour 27 rfl) rfl rfl (Nat.le_of_ble_eq_true rfl) rfl ?_
      refine am_goto (tgt := 29) (am_dk tk_X1_clearHour 28 rfl) (by decide) ?_
      refine am_ls [1, 2, 0] rfl ?_
      exact ih _ _ _ h
theorem ct_X1_clearHour {l : Launch} {tw : Nat}  {x1 : Int32} {D D' : am_M} (h : f_X1_clearHour x1 D = some D') : am_CT l m_X1_clearHour false [.ref 45, .int x1] (ly tw true D) (am_is none (ly tw true D')) := by
  have hΦ : am_is none (ly tw true D') none (ly tw true D') := ⟨rfl, rfl⟩
  refine am_CT.of (by decide) (Nat.le_of_ble_eq_true rfl) ?_
  show am_Ex _ _ _ 0 [(0, .ref 45), (1, .int x1)] [] _
  rw [f_X1_clearHour] at h
  refine am_aload_n (j := 0) (am_dk tk_X1_clearHour 0 rfl) rfl rfl ?_
  refine am_iload_n (j := 1) (am_dk tk_X1_clearHour 1 rfl) rfl rfl ?_
  refine am_aload_n (j := 0) (am_dk tk_X1_clearHour 2 rfl) rfl rfl ?_
  refine am_iload_n (j := 1) (am_dk tk_X1_clearHour 3 rfl) rfl rfl ?_
  refine ly_cV (M := m_X1_mostTired) (As := [.int x1]) (b := 45) (st := [.int x1, .ref 45]) (ct_X1_mostTired _ _) rfl (by decide) rfl ml_X1_163 ld_X1_mostTired rfl ⟨Nat.le_of_ble_eq_true rfl, Nat.le_of_ble_eq_true rfl⟩ (Nat.le_of_ble_eq_true rfl) ⟨rfl, rfl⟩ ⟨Nat.le_of_ble_eq_true rfl, Nat.le_of_ble_eq_true rfl⟩ (am_dk tk_X1_clearHour 4 rfl) (am_kki ?_)
  refine am_aload_n (j := 0) (am_dk tk_X1_clearHour 5 rfl) rfl rfl ?_
  refine ly_geti rfl fl_X1_87 rfl (am_dk tk_X1_clearHour 6 rfl) ?_
  refine am_iconst (v := 1) (am_dk tk_X1_clearHour 7 rfl) (by decide) ?_
  refine am_isub (am_dk tk_X1_clearHour 8 rfl) ?_
  refine ly_cV (M := m_X1_place) (As := [.int x1, .int (f_X1_mostTired x1 D), .int ((D 45 12) - 1)]) (b := 45) (st := []) (ct_X1_place _ _ _ _) rfl (by decide) rfl ml_X1_115 ld_X1_place rfl ⟨Nat.le_of_ble_eq_true rfl, Nat.le_of_ble_eq_true rfl⟩ (Nat.le_of_ble_eq_true rfl) ⟨rfl, rfl⟩ ⟨Nat.le_of_ble_eq_true rfl, Nat.le_of_ble_eq_true rfl⟩ (am_dk tk_X1_clearHour 9 rfl) (am_kki ?_)
  refine am_istore_n (L' := [(2, .int (f_X1_place x1 (f_X1_mostTired x1 D) ((D 45 12) - 1) D)), (0, .ref 45), (1, .int x1)]) (am_dk tk_X1_clearHour 10 rfl) rfl (Nat.le_of_ble_eq_true rfl) rfl ?_
  refine am_aload_n (j := 1) (am_dk tk_X1_clearHour 11 rfl) rfl rfl ?_
  refine am_iload_n (j := 2) (am_dk tk_X1_clearHour 12 rfl) rfl rfl ?_
  refine am_aload_n (j := 1) (am_dk tk_X1_clearHour 13 rfl) rfl rfl ?_
  refine am_iload_n (j := 2) (am_dk tk_X1_clearHour 14 rfl) rfl rfl ?_
  refine ly_cV (M := m_X1_leastTired) (As := [.int x1]) (b := 45) (st := [.int x1, .ref 45]) (ct_X1_leastTired _ _) rfl (by decide) rfl ml_X1_170 ld_X1_leastTired rfl ⟨Nat.le_of_ble_eq_true rfl, Nat.le_of_ble_eq_true rfl⟩ (Nat.le_of_ble_eq_true rfl) ⟨rfl, rfl⟩ ⟨Nat.le_of_ble_eq_true rfl, Nat.le_of_ble_eq_true rfl⟩ (am_dk tk_X1_clearHour 15 rfl) (am_kki ?_)
  refine am_iconst (v := 0) (am_dk tk_X1_clearHour 16 rfl) (by decide) ?_
  refine ly_cV (M := m_X1_place) (As := [.int x1, .int (f_X1_leastTired x1 D), .int 0]) (b := 45) (st := []) (ct_X1_place _ _ _ _) rfl (by decide) rfl ml_X1_115 ld_X1_place rfl ⟨Nat.le_of_ble_eq_true rfl, Nat.le_of_ble_eq_true rfl⟩ (Nat.le_of_ble_eq_true rfl) ⟨rfl, rfl⟩ ⟨Nat.le_of_ble_eq_true rfl, Nat.le_of_ble_eq_true rfl⟩ (am_dk tk_X1_clearHour 17 rfl) (am_kki ?_)
  refine am_istore_n (L' := [(3, .int (f_X1_place x1 (f_X1_leastTired x1 D) 0 D)), (2, .int (f_X1_place x1 (f_X1_mostTired x1 D) ((D 45 12) - 1) D)), (0, .ref 45), (1, .int x1)]) (am_dk tk_X1_clearHour 18 rfl) rfl (Nat.le_of_ble_eq_true rfl) rfl ?_
  refine am_ls [2, 1, 0] rfl ?_
  exact bx_X1_clearHour_29  hΦ am_N _ _ _ h
abbrev m_X1_offer : am_D := (yX1_offer, prog_3_method_22_code, 3, none, { frames := 0, cells := 0, slots := 0, locals := 0 })
theorem ld_X1_offer : am_LD m_X1_offer 2 := ⟨(am_tb 83 (by decide +kernel) (by decide +kernel)), (am_tb 696 (by decide +kernel) (by decide +kernel)), by decide, by decide, by decide +kernel⟩
def tb_X1_offer : List (Nat × Instr × Nat) := [(0, .iload_n 2, 1), (1, .aload_n 0, 1), (2, .getfield 9, 3), (5, .iload_n 1, 1), (6, .iaload, 1), (7, .if_icmp .le 10, 3), (10, .aload_n 0, 1), (11, .getfield 9, 3), (14, .iload_n 1, 1), (15, .iload_n 2, 1), (16, .iastore, 1), (17, .return_, 1)]
theorem tk_X1_offer : am_tbl prog_3_method_22_code tb_X1_offer = true := by decide +kernel
def f_X1_offer (x1 : Int32) (x2 : Int32) (D : am_M) : Option am_M := if am_in x1 44100 = true then if x2 ≤ (D 83 x1.toNatClampNeg) then some D else some (am_up D 83 x1.toNatClampNeg x2) else none
theorem ct_X1_offer {l : Launch} {tw : Nat}  {x1 : Int32} {x2 : Int32} {D D' : am_M} (h : f_X1_offer x1 x2 D = some D') : am_CT l m_X1_offer false [.ref 45, .int x1, .int x2] (ly tw true D) (am_is none (ly tw true D')) := by
  have hΦ : am_is none (ly tw true D') none (ly tw true D') := ⟨rfl, rfl⟩
  refine am_CT.of (by decide) (Nat.le_of_ble_eq_true rfl) ?_
  show am_Ex _ _ _ 0 [(0, .ref 45), (1, .int x1), (2, .int x2)] [] _
  rw [f_X1_offer] at h
  refine am_iload_n (j := 2) (am_dk tk_X1_offer 0 rfl) rfl rfl ?_
  refine am_aload_n (j := 0) (am_dk tk_X1_offer 1 rfl) rfl rfl ?_
  refine ly_getr (b := 83) rfl fl_X1_9 rfl rfl (am_dk tk_X1_offer 2 rfl) ?_
  refine am_iload_n (j := 1) (am_dk tk_X1_offer 3 rfl) rfl rfl ?_
  obtain ⟨hi6, h⟩ := am_chk h
  refine ly_iald (k := x1.toNatClampNeg) rfl (am_in_vp hi6) rfl (am_dk tk_X1_offer 4 rfl) ?_
  refine am_icmp_le (tgt := 17) (am_dk tk_X1_offer 5 rfl) (by decide) (fun hc7 => ?_) (fun hc7 => ?_)
  · rw [if_pos hc7] at h
    exact am_vret rfl (am_r0 h hΦ) ⟨Nat.le_of_ble_eq_true rfl, Nat.le_of_ble_eq_true rfl⟩ (am_dk tk_X1_offer 11 rfl)
  · rw [if_neg hc7] at h
    refine am_aload_n (j := 0) (am_dk tk_X1_offer 6 rfl) rfl rfl ?_
    refine ly_getr (b := 83) rfl fl_X1_9 rfl rfl (am_dk tk_X1_offer 7 rfl) ?_
    refine am_iload_n (j := 1) (am_dk tk_X1_offer 8 rfl) rfl rfl ?_
    refine am_iload_n (j := 2) (am_dk tk_X1_offer 9 rfl) rfl rfl ?_
    refine ly_iast (k := x1.toNatClampNeg) rfl (am_in_vp hi6) rfl (am_dk tk_X1_offer 10 rfl) ?_
    exact am_vret rfl (am_r0 h hΦ) ⟨Nat.le_of_ble_eq_true rfl, Nat.le_of_ble_eq_true rfl⟩ (am_dk tk_X1_offer 11 rfl)
abbrev m_X1_spreadHour : am_D := (yX1_spreadHour, prog_3_method_21_code, 7, none, { frames := 3, cells := 0, slots := 0, locals := 57 })
theorem ld_X1_spreadHour : am_LD m_X1_spreadHour 2 := ⟨(am_tb 83 (by decide +kernel) (by decide +kernel)), (am_tb 688 (by decide +kernel) (by decide +kernel)), by decide, by decide, by decide +kernel⟩
def tb_X1_spreadHour : List (Nat × Instr × Nat) := [(0, .aload_n 0, 1), (1, .iload_n 1, 1), (2, .invokevirtual 170, 3), (5, .istore_n 3, 1), (6, .iload_n 3, 1), (7, .iload_n 2, 1), (8, .if_icmp .gt 105, 3), (11, .aload_n 0, 1), (12, .iload_n 1, 1), (13, .iload_n 3, 1), (14, .iconst 0, 1), (15, .invokevirtual 115, 3), (18, .istore 4, 2), (20, .iconst 0, 1), (21, .istore 5, 2), (23, .iload 5, 2), (25, .aload_n 0, 1), (26, .getfield 87, 3), (29, .if_icmp .ge 78, 3), (32, .aload_n 0, 1), (33, .getfield 9, 3), (36, .iload 4, 2), (38, .iload 5, 2), (40, .iadd, 1), (41, .iaload, 1), (42, .istore 6, 2), (44, .iload 6, 2), (46, .iconst (-1), 1), (47, .if_icmp .ne 6, 3), (50, .goto 51, 3), (53, .iload_n 3, 1), (54, .ifCond .le 26, 3), (57, .aload_n 0, 1), (58, .aload_n 0, 1), (59, .iload_n 1, 1), (60, .iconst 1, 1), (61, .iadd, 1), (62, .iload_n 3, 1), (63, .iload 5, 2), (65, .invokevirtual 111, 3), (68, .aload_n 0, 1), (69, .iload_n 1, 1), (70, .iload 5, 2), (72, .iload 6, 2), (74, .invokevirtual 173, 3), (77, .invokevirtual 176, 3), (80, .aload_n 0, 1), (81, .aload_n 0, 1), (82, .iload_n 1, 1), (83, .iconst 1, 1), (84, .iadd, 1), (85, .iload_n 3, 1), (86, .invokevirtual 103, 3), (89, .iload 6, 2), (91, .aload_n 0, 1), (92, .getfield 22, 3), (95, .iload_n 1, 1), (96, .iaload, 1), (97, .isub, 1), (98, .invokevirtual 176, 3)]
theorem tk_X1_spreadHour : am_tbl prog_3_method_21_code tb_X1_spreadHour = true := by decide +kernel
def tb_X1_spreadHour_1 : List (Nat × Instr × Nat) := [(101, .iinc 5 1, 3), (104, .goto (-81), 3), (107, .iinc 3 1, 3), (110, .goto (-104), 3), (113, .return_, 1)]
theorem tk_X1_spreadHour_1 : am_tbl prog_3_method_21_code tb_X1_spreadHour_1 = true := by decide +kernel
def b_X1_spreadHour_80 (k6 : Int32 → Int32 → Int32 → am_M → Option am_M) (k23 : Int32 → Int32 → Int32 → Int32 → Int32 → am_M → Option am_M) (x1 : Int32) (x2 : Int32) (x3 : Int32) (x4 : Int32) (x5 : Int32) (x6 : Int32) (D : am_M) : Option am_M := if am_in x1 48 = true then (f_X1_offer (f_X1_placeAtWork (x1 + 1) x3 D) (x6 - (D 48 x1.toNatClampNeg)) D).bind fun q98 => k23 x1 x2 x3 x4 (x5 + 1) q98 else none
def b_X1_spreadHour_23 (k6 : Int32 → Int32 → Int32 → am_M → Option am_M) : Nat → Int32 → Int32 → Int32 → Int32 → Int32 → am_M → Option am_M
  | 0, _, _, _, _, _, _ => none
  | n + 1, x1, x2, x3, x4, x5, D => if (D 45 12) ≤ x5 then k6 x1 x2 (x3 + 1) D else if am_in (x4 + x5) 44100 = true then if (D 83 (x4 + x5).toNatClampNeg) = (-1) then b_X1_spreadHour_23 k6 n x1 x2 x3 x4 (x5 + 1) D else if x3 ≤ 0 then b_X1_spreadHour_80 k6 (b_X1_spreadHour_23 k6 n) x1 x2 x3 x4 x5 (D 83 (x4 + x5).toNatClampNeg) D else (f_X1_purseAsleep x1 x5 (D 83 (x4 + x5).toNatClampNeg) D).bind fun q74 => (f_X1_offer (f_X1_placeAsleep (x1 + 1) x3 x5 D) q74.1 q74.2).bind fun q77 => b_X1_spreadHour_80 k6 (b_X1_spreadHour_23 k6 n) x1 x2 x3 x4 x5 (D 83 (x4 + x5).toNatClampNeg) q77 else none
def b_X1_spreadHour_6 : Nat → Int32 → Int32 → Int32 → am_M → Option am_M
  | 0, _, _, _, _ => none
  | n + 1, x1, x2, x3, D => if x2 < x3 then some D else b_X1_spreadHour_23 (b_X1_spreadHour_6 n) am_N x1 x2 x3 (f_X1_place x1 x3 0 D) 0 D
def f_X1_spreadHour (x1 : Int32) (x2 : Int32) (D : am_M) : Option am_M := b_X1_spreadHour_6 am_N x1 x2 (f_X1_leastTired x1 D) D
theorem bx_X1_spreadHour_80 {l : Launch} {h0 : am_H} {Φ : am_Ph} {tw : Nat}  {D' : am_M} (hΦ : Φ none (ly tw true D')) {k6 : Int32 → Int32 → Int32 → am_M → Option am_M} (hk6 : ∀ (x1 : Int32) (x2 : Int32) (x3 : Int32) (D : am_M), k6 x1 x2 x3 D = some D' → am_Ex (am_E l m_X1_spreadHour false h0 Φ) prog_3_method_21_code (0, 0) 6 [(0, .ref 45), (1, .int x1), (2, .int x2), (3, .int x3)] [] (ly tw true D)) {k23 : Int32 → Int32 → Int32 → Int32 → Int32 → am_M → Option am_M} (hk23 : ∀ (x1 : Int32) (x2 : Int32) (x3 : Int32) (x4 : Int32) (x5 : Int32) (D : am_M), k23 x1 x2 x3 x4 x5 D = some D' → am_Ex (am_E l m_X1_spreadHour false h0 Φ) prog_3_method_21_code (0, 0) 23 [(0, .ref 45), (1, .int x1), (2, .int x2), (3, .int x3), (4, .int x4), (5, .int x5)] [] (ly tw true D)) : ∀ (x1 : Int32) (x2 : Int32) (x3 : Int32) (x4 : Int32) (x5 : Int32) (x6 : Int32) (D : am_M), b_X1_spreadHour_80 k6 k23 x1 x2 x3 x4 x5 x6 D = some D' → am_Ex (am_E l m_X1_spreadHour false h0 Φ) prog_3_method_21_code (0, 0) 80 [(0, .ref 45), (1, .int x1), (2, .int x2), (3, .int x3), (4, .int x4), (5, .int x5), (6, .int x6)] [] (ly tw true D) := by
  intro x1 x2 x3 x4 x5 x6 D h
  rw [b_X1_spreadHour_80] at h
  refine am_aload_n (j := 0) (am_dk tk_X1_spreadHour 46 rfl) rfl rfl ?_
  refine am_aload_n (j := 0) (am_dk tk_X1_spreadHour 47 rfl) rfl rfl ?_
  refine am_iload_n (j := 1) (am_dk tk_X1_spreadHour 48 rfl) rfl rfl ?_
  refine am_iconst (v := 1) (am_dk tk_X1_spreadHour 49 rfl) (by decide) ?_
  refine am_iadd (am_dk tk_X1_spreadHour 50 rfl) ?_
  refine am_iload_n (j := 3) (am_dk tk_X1_spreadHour 51 rfl) rfl rfl ?_
  refine ly_cV (M := m_X1_placeAtWork) (As := [.int (x1 + 1), .int x3]) (b := 45) (st := [.ref 45]) (ct_X1_placeAtWork _ _ _) rfl (by decide) rfl ml_X1_103 ld_X1_placeAtWork rfl ⟨Nat.le_of_ble_eq_true rfl, Nat.le_of_ble_eq_true rfl⟩ (Nat.le_of_ble_eq_true rfl) ⟨rfl, rfl⟩ ⟨Nat.le_of_ble_eq_true rfl, Nat.le_of_ble_eq_true rfl⟩ (am_dk tk_X1_spreadHour 52 rfl) (am_kki ?_)
  refine am_iload (j := 6) (am_dk tk_X1_spreadHour 53 rfl) rfl ?_
  refine am_aload_n (j := 0) (am_dk tk_X1_spreadHour 54 rfl) rfl rfl ?_
  refine ly_getr (b := 48) rfl fl_X1_22 rfl rfl (am_dk tk_X1_spreadHour 55 rfl) ?_
  refine am_iload_n (j := 1) (am_dk tk_X1_spreadHour 56 rfl) rfl rfl ?_
  obtain ⟨hi96, h⟩ := am_chk h
  refine ly_iald (k := x1.toNatClampNeg) rfl (am_in_vp hi96) rfl (am_dk tk_X1_spreadHour 57 rfl) ?_
  refine am_isub (am_dk tk_X1_spreadHour 58 rfl) ?_
  obtain ⟨q98, hq98, h⟩ := am_bind h
  refine ly_cV (M := m_X1_offer) (As := [.int (f_X1_placeAtWork (x1 + 1) x3 D), .int (x6 - (D 48 x1.toNatClampNeg))]) (b := 45) (st := []) (ct_X1_offer hq98) rfl (by decide) rfl ml_X1_176 ld_X1_offer rfl ⟨Nat.le_of_ble_eq_true rfl, Nat.le_of_ble_eq_true rfl⟩ (Nat.le_of_ble_eq_true rfl) ⟨rfl, rfl⟩ ⟨Nat.le_of_ble_eq_true rfl, Nat.le_of_ble_eq_true rfl⟩ (am_dk tk_X1_spreadHour 59 rfl) (am_kkv ?_)
  refine am_iinc (j := 5) (v := x5 + 1) (L' := [(5, .int (x5 + 1)), (0, .ref 45), (1, .int x1), (2, .int x2), (3, .int x3), (4, .int x4), (6, .int x6)]) (am_dk tk_X1_spreadHour_1 0 rfl) rfl rfl (Nat.le_of_ble_eq_true rfl) rfl ?_
  refine am_goto (tgt := 23) (am_dk tk_X1_spreadHour_1 1 rfl) (by decide) ?_
  refine am_ls [1, 2, 3, 4, 5, 0] rfl ?_
  exact hk23 _ _ _ _ _ _ h
theorem bx_X1_spreadHour_23 {l : Launch} {h0 : am_H} {Φ : am_Ph} {tw : Nat}  {D' : am_M} (hΦ : Φ none (ly tw true D')) {k6 : Int32 → Int32 → Int32 → am_M → Option am_M} (hk6 : ∀ (x1 : Int32) (x2 : Int32) (x3 : Int32) (D : am_M), k6 x1 x2 x3 D = some D' → am_Ex (am_E l m_X1_spreadHour false h0 Φ) prog_3_method_21_code (0, 0) 6 [(0, .ref 45), (1, .int x1), (2, .int x2), (3, .int x3)] [] (ly tw true D)) : ∀ (n : Nat) (x1 : Int32) (x2 : Int32) (x3 : Int32) (x4 : Int32) (x5 : Int32) (D : am_M), b_X1_spreadHour_23 k6 n x1 x2 x3 x4 x5 D = some D' → am_Ex (am_E l m_X1_spreadHour false h0 Φ) prog_3_method_21_code (0, 0) 23 [(0, .ref 45), (1, .int x1), (2, .int x2), (3, .int x3), (4, .int x4), (5, .int x5)] [] (ly tw true D) := by
  intro n
  induction n with
  | zero =>
    intro x1 x2 x3 x4 x5 D h
    exact absurd h (by simp [b_X1_spreadHour_23])
  | succ n ih =>
    intro x1 x2 x3 x4 x5 D h
    rw [b_X1_spreadHour_23] at h
    refine am_iload (j := 5) (am_dk tk_X1_spreadHour 15 rfl) rfl ?_
    refine am_aload_n (j := 0) (am_dk tk_X1_spreadHour 16 rfl) rfl rfl ?_
    refine ly_geti rfl fl_X1_87 rfl (am_dk tk_X1_spreadHour 17 rfl) ?_
    refine am_icmp_ge (tgt := 107) (am_dk tk_X1_spreadHour 18 rfl) (by decide) (fun hc29 => ?_) (fun hc29 => ?_)
    · rw [if_pos hc29] at h
      refine am_iinc (j := 3) (v := x3 + 1) (L' := [(3, .int (x3 + 1)), (0, .ref 45), (1, .int x1), (2, .int x2), (4, .int x4), (5, .int x5)]) (am_dk tk_X1_spreadHour_1 2 rfl) rfl rfl (Nat.le_of_ble_eq_true rfl) rfl ?_
      refine am_goto (tgt := 6) (am_dk tk_X1_spreadHour_1 3 rfl) (by decide) ?_
      refine am_ls [1, 2, 3, 0] rfl ?_
      exact hk6 _ _ _ _ h
    · rw [if_neg hc29] at h
      refine am_aload_n (j := 0) (am_dk tk_X1_spreadHour 19 rfl) rfl rfl ?_
      refine ly_getr (b := 83) rfl fl_X1_9 rfl rfl (am_dk tk_X1_spreadHour 20 rfl) ?_
      refine am_iload (j := 4) (am_dk tk_X1_spreadHour 21 rfl) rfl ?_
      refine am_iload (j := 5) (am_dk tk_X1_spreadHour 22 rfl) rfl ?_
      refine am_iadd (am_dk tk_X1_spreadHour 23 rfl) ?_
      obtain ⟨hi41, h⟩ := am_chk h
      refine ly_iald (k := (x4 + x5).toNatClampNeg) rfl (am_in_vp hi41) rfl (am_dk tk_X1_spreadHour 24 rfl) ?_
      refine am_istore (L' := [(6, .int (D 83 (x4 + x5).toNatClampNeg)), (0, .ref 45), (1, .int x1), (2, .int x2), (3, .int x3), (4, .int x4), (5, .int x5)]) (am_dk tk_X1_spreadHour 25 rfl) (Nat.le_of_ble_eq_true rfl) rfl ?_
      refine am_iload (j := 0) (am_dk tk_X1_spreadHour 26 rfl) rfl ?_
      refine am_iconst (v := (-1)) (am_dk tk_X1_spreadHour 27 rfl) (by decide) ?_
      refine am_icmp_ne (tgt := 53) (am_dk tk_X1_spreadHour 28 rfl) (by decide) (fun hc47 => ?_) (fun hc47 => ?_)
      · rw [if_neg hc47] at h
        refine am_iload_n (j := 4) (am_dk tk_X1_spreadHour 30 rfl) rfl rfl ?_
        refine am_if_le (tgt := 80) (am_dk tk_X1_spreadHour 31 rfl) (by decide) (fun hc54 => ?_) (fun hc54 => ?_)
        · rw [if_pos hc54] at h
          refine am_ls [1, 2, 3, 4, 5, 6, 0] rfl ?_
          exact bx_X1_spreadHour_80  hΦ hk6 (ih) _ _ _ _ _ _ _ h
        · rw [if_neg hc54] at h
          refine am_aload_n (j := 1) (am_dk tk_X1_spreadHour 32 rfl) rfl rfl ?_
          refine am_aload_n (j := 1) (am_dk tk_X1_spreadHour 33 rfl) rfl rfl ?_
          refine am_iload_n (j := 2) (am_dk tk_X1_spreadHour 34 rfl) rfl rfl ?_
          refine am_iconst (v := 1) (am_dk tk_X1_spreadHour 35 rfl) (by decide) ?_
          refine am_iadd (am_dk tk_X1_spreadHour 36 rfl) ?_
          refine am_iload_n (j := 4) (am_dk tk_X1_spreadHour 37 rfl) rfl rfl ?_
          refine am_iload (j := 6) (am_dk tk_X1_spreadHour 38 rfl) rfl ?_
          refine ly_cV (M := m_X1_placeAsleep) (As := [.int (x1 + 1), .int x3, .int x5]) (b := 45) (st := [.ref 45]) (ct_X1_placeAsleep _ _ _ _) rfl (by decide) rfl ml_X1_111 ld_X1_placeAsleep rfl ⟨Nat.le_of_ble_eq_true rfl, Nat.le_of_ble_eq_true rfl⟩ (Nat.le_of_ble_eq_true rfl) ⟨rfl, rfl⟩ ⟨Nat.le_of_ble_eq_true rfl, Nat.le_of_ble_eq_true rfl⟩ (am_dk tk_X1_spreadHour 39 rfl) (am_kki ?_)
          refine am_aload_n (j := 1) (am_dk tk_X1_spreadHour 40 rfl) rfl rfl ?_
          refine am_iload_n (j := 2) (am_dk tk_X1_spreadHour 41 rfl) rfl rfl ?_
          refine am_iload (j := 6) (am_dk tk_X1_spreadHour 42 rfl) rfl ?_
          refine am_iload (j := 0) (am_dk tk_X1_spreadHour 43 rfl) rfl ?_
          obtain ⟨q74, hq74, h⟩ := am_bind h
          refine ly_cV (M := m_X1_purseAsleep) (As := [.int x1, .int x5, .int (D 83 (x4 + x5).toNatClampNeg)]) (b := 45) (st := [.int (f_X1_placeAsleep (x1 + 1) x3 x5 D), .ref 45]) (ct_X1_purseAsleep hq74) rfl (by decide) rfl ml_X1_173 ld_X1_purseAsleep rfl ⟨Nat.le_of_ble_eq_true rfl, Nat.le_of_ble_eq_true rfl⟩ (Nat.le_of_ble_eq_true rfl) ⟨rfl, rfl⟩ ⟨Nat.le_of_ble_eq_true rfl, Nat.le_of_ble_eq_true rfl⟩ (am_dk tk_X1_spreadHour 44 rfl) (am_kki ?_)
          obtain ⟨q77, hq77, h⟩ := am_bind h
          refine ly_cV (M := m_X1_offer) (As := [.int (f_X1_placeAsleep (x1 + 1) x3 x5 D), .int q74.1]) (b := 45) (st := []) (ct_X1_offer hq77) rfl (by decide) rfl ml_X1_176 ld_X1_offer rfl ⟨Nat.le_of_ble_eq_true rfl, Nat.le_of_ble_eq_true rfl⟩ (Nat.le_of_ble_eq_true rfl) ⟨rfl, rfl⟩ ⟨Nat.le_of_ble_eq_true rfl, Nat.le_of_ble_eq_true rfl⟩ (am_dk tk_X1_spreadHour 45 rfl) (am_kkv ?_)
          refine am_ls [1, 2, 3, 4, 5, 6, 0] rfl ?_
          exact bx_X1_spreadHour_80  hΦ hk6 (ih) _ _ _ _ _ _ _ h
      · rw [if_pos hc47] at h
        refine am_goto (tgt := 101) (am_dk tk_X1_spreadHour 29 rfl) (by decide) ?_
        refine am_iinc (j := 6) (v := x5 + 1) (L' := [(5, .int (x5 + 1)), (6, .int (D 83 (x4 + x5).toNatClampNeg)), (0, .ref 45), (1, .int x1), (2, .int x2), (3, .int x3), (4, .int x4)]) (am_dk tk_X1_spreadHour_1 0 rfl) rfl rfl (Nat.le_of_ble_eq_true rfl) rfl ?_
        refine am_goto (tgt := 23) (am_dk tk_X1_spreadHour_1 1 rfl) (by decide) ?_
        refine am_ls [2, 3, 4, 5, 6, 0] rfl ?_
        exact ih _ _ _ _ _ _ h
theorem bx_X1_spreadHour_6 {l : Launch} {h0 : am_H} {Φ : am_Ph} {tw : Nat}  {D' : am_M} (hΦ : Φ none (ly tw true D')) : ∀ (n : Nat) (x1 : Int32) (x2 : Int32) (x3 : Int32) (D : am_M), b_X1_spreadHour_6 n x1 x2 x3 D = some D' → am_Ex (am_E l m_X1_spreadHour false h0 Φ) prog_3_method_21_code (0, 0) 6 [(0, .ref 45), (1, .int x1), (2, .int x2), (3, .int x3)] [] (ly tw true D) := by
  intro n
  induction n with
  | zero =>
    intro x1 x2 x3 D h
    exact absurd h (by simp [b_X1_spreadHour_6])
  | succ n ih =>
    intro x1 x2 x3 D h
    rw [b_X1_spreadHour_6] at h
    refine am_iload_n (j := 3) (am_dk tk_X1_spreadHour 4 rfl) rfl rfl ?_
    refine am_iload_n (j := 2) (am_dk tk_X1_spreadHour 5 rfl) rfl rfl ?_
    refine am_icmp_gt (tgt := 113) (am_dk tk_X1_spreadHour 6 rfl) (by decide) (fun hc8 => ?_) (fun hc8 => ?_)
    · rw [if_pos hc8] at h
      exact am_vret rfl (am_r0 h hΦ) ⟨Nat.le_of_ble_eq_true rfl, Nat.le_of_ble_eq_true rfl⟩ (am_dk tk_X1_spreadHour_1 4 rfl)
    · rw [if_neg hc8] at h
      refine am_aload_n (j := 0) (am_dk tk_X1_spreadHour 7 rfl) rfl rfl ?_
      refine am_iload_n (j := 1) (am_dk tk_X1_spreadHour 8 rfl) rfl rfl ?_
      refine am_iload_n (j := 3) (am_dk tk_X1_spreadHour 9 rfl) rfl rfl ?_
      refine am_iconst (v := 0) (am_dk tk_X1_spreadHour 10 rfl) (by decide) ?_
      refine ly_cV (M := m_X1_place) (As := [.int x1, .int x3, .int 0]) (b := 45) (st := []) (ct_X1_place _ _ _ _) rfl (by decide) rfl ml_X1_115 ld_X1_place rfl ⟨Nat.le_of_ble_eq_true rfl, Nat.le_of_ble_eq_true rfl⟩ (Nat.le_of_ble_eq_true rfl) ⟨rfl, rfl⟩ ⟨Nat.le_of_ble_eq_true rfl, Nat.le_of_ble_eq_true rfl⟩ (am_dk tk_X1_spreadHour 11 rfl) (am_kki ?_)
      refine am_istore (L' := [(4, .int (f_X1_place x1 x3 0 D)), (0, .ref 45), (1, .int x1), (2, .int x2), (3, .int x3)]) (am_dk tk_X1_spreadHour 12 rfl) (Nat.le_of_ble_eq_true rfl) rfl ?_
      refine am_iconst (v := 0) (am_dk tk_X1_spreadHour 13 rfl) (by decide) ?_
      refine am_istore (L' := [(5, .int 0), (4, .int (f_X1_place x1 x3 0 D)), (0, .ref 45), (1, .int x1), (2, .int x2), (3, .int x3)]) (am_dk tk_X1_spreadHour 14 rfl) (Nat.le_of_ble_eq_true rfl) rfl ?_
      refine am_ls [2, 3, 4, 5, 1, 0] rfl ?_
      exact bx_X1_spreadHour_23  hΦ (ih) am_N _ _ _ _ _ _ h
theorem ct_X1_spreadHour {l : Launch} {tw : Nat}  {x1 : Int32} {x2 : Int32} {D D' : am_M} (h : f_X1_spreadHour x1 x2 D = some D') : am_CT l m_X1_spreadHour false [.ref 45, .int x1, .int x2] (ly tw true D) (am_is none (ly tw true D')) := by
  have hΦ : am_is none (ly tw true D') none (ly tw true D') := ⟨rfl, rfl⟩
  refine am_CT.of (by decide) (Nat.le_of_ble_eq_true rfl) ?_
  show am_Ex _ _ _ 0 [(0, .ref 45), (1, .int x1), (2, .int x2)] [] _
  rw [f_X1_spreadHour] at h
  refine am_aload_n (j := 0) (am_dk tk_X1_spreadHour 0 rfl) rfl rfl ?_
  refine am_iload_n (j := 1) (am_dk tk_X1_spreadHour 1 rfl) rfl rfl ?_
  refine ly_cV (M := m_X1_leastTired) (As := [.int x1]) (b := 45) (st := []) (ct_X1_leastTired _ _) rfl (by decide) rfl ml_X1_170 ld_X1_leastTired rfl ⟨Nat.le_of_ble_eq_true rfl, Nat.le_of_ble_eq_true rfl⟩ (Nat.le_of_ble_eq_true rfl) ⟨rfl, rfl⟩ ⟨Nat.le_of_ble_eq_true rfl, Nat.le_of_ble_eq_true rfl⟩ (am_dk tk_X1_spreadHour 2 rfl) (am_kki ?_)
  refine am_istore_n (L' := [(3, .int (f_X1_leastTired x1 D)), (0, .ref 45), (1, .int x1), (2, .int x2)]) (am_dk tk_X1_spreadHour 3 rfl) rfl (Nat.le_of_ble_eq_true rfl) rfl ?_
  refine am_ls [1, 2, 3, 0] rfl ?_
  exact bx_X1_spreadHour_6  hΦ am_N _ _ _ _ h
abbrev m_X1_spread : am_D := (yX1_spread, prog_3_method_19_code, 2, none, { frames := 4, cells := 0, slots := 0, locals := 83 })
theorem ld_X1_spread : am_LD m_X1_spread 0 := ⟨(am_tb 83 (by decide +kernel) (by decide +kernel)), (am_tb 672 (by decide +kernel) (by decide +kernel)), by decide, by decide, by decide +kernel⟩
def tb_X1_spread : List (Nat × Instr × Nat) := [(0, .iconst 0, 1), (1, .istore_n 1, 1), (2, .iload_n 1, 1), (3, .aload_n 0, 1), (4, .getfield 129, 3), (7, .if_icmp .gt 14, 3), (10, .aload_n 0, 1), (11, .iload_n 1, 1), (12, .invokevirtual 160, 3), (15, .iinc 1 1, 3), (18, .goto (-16), 3), (21, .aload_n 0, 1), (22, .getfield 9, 3), (25, .aload_n 0, 1), (26, .iconst 0, 1), (27, .aload_n 0, 1), (28, .getfield 50, 3), (31, .aload_n 0, 1), (32, .getfield 55, 3), (35, .aload_n 0, 1), (36, .getfield 87, 3), (39, .iconst 1, 1), (40, .isub, 1), (41, .invokestatic 157, 3), (44, .invokevirtual 115, 3), (47, .aload_n 0, 1), (48, .getfield 60, 3), (51, .iastore, 1), (52, .iconst 0, 1), (53, .istore_n 1, 1), (54, .iload_n 1, 1), (55, .aload_n 0, 1), (56, .getfield 129, 3), (59, .if_icmp .ge 19, 3), (62, .aload_n 0, 1), (63, .iload_n 1, 1), (64, .aload_n 0, 1), (65, .iload_n 1, 1), (66, .invokevirtual 163, 3), (69, .invokevirtual 166, 3), (72, .iinc 1 1, 3), (75, .goto (-21), 3), (78, .return_, 1)]
theorem tk_X1_spread : am_tbl prog_3_method_19_code tb_X1_spread = true := by decide +kernel
def b_X1_spread_54 : Nat → Int32 → am_M → Option am_M
  | 0, _, _ => none
  | n + 1, x1, D => if (D 45 15) ≤ x1 then some D else (f_X1_spreadHour x1 (f_X1_mostTired x1 D) D).bind fun q69 => b_X1_spread_54 n (x1 + 1) q69
def b_X1_spread_2 : Nat → Int32 → am_M → Option am_M
  | 0, _, _ => none
  | n + 1, x1, D => if (D 45 15) < x1 then if am_in (f_X1_place 0 (D 45 9) (am_min (D 45 10) ((D 45 12) - 1)) D) 44100 = true then b_X1_spread_54 am_N 0 (am_up D 83 (f_X1_place 0 (D 45 9) (am_min (D 45 10) ((D 45 12) - 1)) D).toNatClampNeg (D 45 11)) else none else (f_X1_clearHour x1 D).bind fun q12 => b_X1_spread_2 n (x1 + 1) q12
def f_X1_spread (D : am_M) : Option am_M := b_X1_spread_2 am_N 0 D
theorem bx_X1_spread_54 {l : Launch} {h0 : am_H} {Φ : am_Ph} {tw : Nat}  {D' : am_M} (hΦ : Φ none (ly tw true D')) : ∀ (n : Nat) (x1 : Int32) (D : am_M), b_X1_spread_54 n x1 D = some D' → am_Ex (am_E l m_X1_spread false h0 Φ) prog_3_method_19_code (0, 0) 54 [(0, .ref 45), (1, .int x1)] [] (ly tw true D) := by
  intro n
  induction n with
  | zero =>
    intro x1 D h
    exact absurd h (by simp [b_X1_spread_54])
  | succ n ih =>
    intro x1 D h
    rw [b_X1_spread_54] at h
    refine am_iload_n (j := 1) (am_dk tk_X1_spread 30 rfl) rfl rfl ?_
    refine am_aload_n (j := 0) (am_dk tk_X1_spread 31 rfl) rfl rfl ?_
    refine ly_geti rfl fl_X1_129 rfl (am_dk tk_X1_spread 32 rfl) ?_
    refine am_icmp_ge (tgt := 78) (am_dk tk_X1_spread 33 rfl) (by decide) (fun hc59 => ?_) (fun hc59 => ?_)
    · rw [if_pos hc59] at h
      exact am_vret rfl (am_r0 h hΦ) ⟨Nat.le_of_ble_eq_true rfl, Nat.le_of_ble_eq_true rfl⟩ (am_dk tk_X1_spread 42 rfl)
    · rw [if_neg hc59] at h
      refine am_aload_n (j := 0) (am_dk tk_X1_spread 34 rfl) rfl rfl ?_
      refine am_iload_n (j := 1) (am_dk tk_X1_spread 35 rfl) rfl rfl ?_
      refine am_aload_n (j := 0) (am_dk tk_X1_spread 36 rfl) rfl rfl ?_
      refine am_iload_n (j := 1) (am_dk tk_X1_spread 37 rfl) rfl rfl ?_
      refine ly_cV (M := m_X1_mostTired) (As := [.int x1]) (b := 45) (st := [.int x1, .ref 45]) (ct_X1_mostTired _ _) rfl (by decide) rfl ml_X1_163 ld_X1_mostTired rfl ⟨Nat.le_of_ble_eq_true rfl, Nat.le_of_ble_eq_true rfl⟩ (Nat.le_of_ble_eq_true rfl) ⟨rfl, rfl⟩ ⟨Nat.le_of_ble_eq_true rfl, Nat.le_of_ble_eq_true rfl⟩ (am_dk tk_X1_spread 38 rfl) (am_kki ?_)
      obtain ⟨q69, hq69, h⟩ := am_bind h
      refine ly_cV (M := m_X1_spreadHour) (As := [.int x1, .int (f_X1_mostTired x1 D)]) (b := 45) (st := []) (ct_X1_spreadHour hq69) rfl (by decide) rfl ml_X1_166 ld_X1_spreadHour rfl ⟨Nat.le_of_ble_eq_true rfl, Nat.le_of_ble_eq_true rfl⟩ (Nat.le_of_ble_eq_true rfl) ⟨rfl, rfl⟩ ⟨Nat.le_of_ble_eq_true rfl, Nat.le_of_ble_eq_true rfl⟩ (am_dk tk_X1_spread 39 rfl) (am_kkv ?_)
      refine am_iinc (j := 1) (v := x1 + 1) (L' := [(1, .int (x1 + 1)), (0, .ref 45)]) (am_dk tk_X1_spread 40 rfl) rfl rfl (Nat.le_of_ble_eq_true rfl) rfl ?_
      refine am_goto (tgt := 54) (am_dk tk_X1_spread 41 rfl) (by decide) ?_
      refine am_ls [1, 0] rfl ?_
      exact ih _ _ h
theorem bx_X1_spread_2 {l : Launch} {h0 : am_H} {Φ : am_Ph} {tw : Nat}  {D' : am_M} (hΦ : Φ none (ly tw true D')) : ∀ (n : Nat) (x1 : Int32) (D : am_M), b_X1_spread_2 n x1 D = some D' → am_Ex (am_E l m_X1_spread false h0 Φ) prog_3_method_19_code (0, 0) 2 [(0, .ref 45), (1, .int x1)] [] (ly tw true D) := by
  intro n
  induction n with
  | zero =>
    intro x1 D h
    exact absurd h (by simp [b_X1_spread_2])
  | succ n ih =>
    intro x1 D h
    rw [b_X1_spread_2] at h
    refine am_iload_n (j := 1) (am_dk tk_X1_spread 2 rfl) rfl rfl ?_
    refine am_aload_n (j := 0) (am_dk tk_X1_spread 3 rfl) rfl rfl ?_
    refine ly_geti rfl fl_X1_129 rfl (am_dk tk_X1_spread 4 rfl) ?_
    refine am_icmp_gt (tgt := 21) (am_dk tk_X1_spread 5 rfl) (by decide) (fun hc7 => ?_) (fun hc7 => ?_)
    · rw [if_pos hc7] at h
      refine am_aload_n (j := 0) (am_dk tk_X1_spread 11 rfl) rfl rfl ?_
      refine ly_getr (b := 83) rfl fl_X1_9 rfl rfl (am_dk tk_X1_spread 12 rfl) ?_
      refine am_aload_n (j := 0) (am_dk tk_X1_spread 13 rfl) rfl rfl ?_
      refine am_iconst (v := 0) (am_dk tk_X1_spread 14 rfl) (by decide) ?_
      refine am_aload_n (j := 0) (am_dk tk_X1_spread 15 rfl) rfl rfl ?_
      refine ly_geti rfl fl_X1_50 rfl (am_dk tk_X1_spread 16 rfl) ?_
      refine am_aload_n (j := 0) (am_dk tk_X1_spread 17 rfl) rfl rfl ?_
      refine ly_geti rfl fl_X1_55 rfl (am_dk tk_X1_spread 18 rfl) ?_
      refine am_aload_n (j := 0) (am_dk tk_X1_spread 19 rfl) rfl rfl ?_
      refine ly_geti rfl fl_X1_87 rfl (am_dk tk_X1_spread 20 rfl) ?_
      refine am_iconst (v := 1) (am_dk tk_X1_spread 21 rfl) (by decide) ?_
      refine am_isub (am_dk tk_X1_spread 22 rfl) ?_
      refine am_mmin lm_X1_157 (Nat.le_of_ble_eq_true rfl) (Nat.le_of_ble_eq_true rfl) ⟨Nat.le_of_ble_eq_true rfl, Nat.le_of_ble_eq_true rfl⟩ (am_dk tk_X1_spread 23 rfl) ?_
      refine ly_cV (M := m_X1_place) (As := [.int 0, .int (D 45 9), .int (am_min (D 45 10) ((D 45 12) - 1))]) (b := 45) (st := [.ref 83]) (ct_X1_place _ _ _ _) rfl (by decide) rfl ml_X1_115 ld_X1_place rfl ⟨Nat.le_of_ble_eq_true rfl, Nat.le_of_ble_eq_true rfl⟩ (Nat.le_of_ble_eq_true rfl) ⟨rfl, rfl⟩ ⟨Nat.le_of_ble_eq_true rfl, Nat.le_of_ble_eq_true rfl⟩ (am_dk tk_X1_spread 24 rfl) (am_kki ?_)
      refine am_aload_n (j := 0) (am_dk tk_X1_spread 25 rfl) rfl rfl ?_
      refine ly_geti rfl fl_X1_60 rfl (am_dk tk_X1_spread 26 rfl) ?_
      obtain ⟨hi51, h⟩ := am_chk h
      refine ly_iast (k := (f_X1_place 0 (D 45 9) (am_min (D 45 10) ((D 45 12) - 1)) D).toNatClampNeg) rfl (am_in_vp hi51) rfl (am_dk tk_X1_spread 27 rfl) ?_
      refine am_iconst (v := 0) (am_dk tk_X1_spread 28 rfl) (by decide) ?_
      refine am_istore_n (L' := [(1, .int 0), (0, .ref 45)]) (am_dk tk_X1_spread 29 rfl) rfl (Nat.le_of_ble_eq_true rfl) rfl ?_
      refine am_ls [1, 0] rfl ?_
      exact bx_X1_spread_54  hΦ am_N _ _ h
    · rw [if_neg hc7] at h
      refine am_aload_n (j := 0) (am_dk tk_X1_spread 6 rfl) rfl rfl ?_
      refine am_iload_n (j := 1) (am_dk tk_X1_spread 7 rfl) rfl rfl ?_
      obtain ⟨q12, hq12, h⟩ := am_bind h
      refine ly_cV (M := m_X1_clearHour) (As := [.int x1]) (b := 45) (st := []) (ct_X1_clearHour hq12) rfl (by decide) rfl ml_X1_160 ld_X1_clearHour rfl ⟨Nat.le_of_ble_eq_true rfl, Nat.le_of_ble_eq_true rfl⟩ (Nat.le_of_ble_eq_true rfl) ⟨rfl, rfl⟩ ⟨Nat.le_of_ble_eq_true rfl, Nat.le_of_ble_eq_true rfl⟩ (am_dk tk_X1_spread 8 rfl) (am_kkv ?_)
      refine am_iinc (j := 1) (v := x1 + 1) (L' := [(1, .int (x1 + 1)), (0, .ref 45)]) (am_dk tk_X1_spread 9 rfl) rfl rfl (Nat.le_of_ble_eq_true rfl) rfl ?_
      refine am_goto (tgt := 2) (am_dk tk_X1_spread 10 rfl) (by decide) ?_
      refine am_ls [1, 0] rfl ?_
      exact ih _ _ h
theorem ct_X1_spread {l : Launch} {tw : Nat}  {D D' : am_M} (h : f_X1_spread D = some D') : am_CT l m_X1_spread false [.ref 45] (ly tw true D) (am_is none (ly tw true D')) := by
  have hΦ : am_is none (ly tw true D') none (ly tw true D') := ⟨rfl, rfl⟩
  refine am_CT.of (by decide) (Nat.le_of_ble_eq_true rfl) ?_
  show am_Ex _ _ _ 0 [(0, .ref 45)] [] _
  rw [f_X1_spread] at h
  refine am_iconst (v := 0) (am_dk tk_X1_spread 0 rfl) (by decide) ?_
  refine am_istore_n (L' := [(1, .int 0), (0, .ref 45)]) (am_dk tk_X1_spread 1 rfl) rfl (Nat.le_of_ble_eq_true rfl) rfl ?_
  refine am_ls [1, 0] rfl ?_
  exact bx_X1_spread_2  hΦ am_N _ _ h
abbrev m_X1_mostAtEnd : am_D := (yX1_mostAtEnd, prog_3_method_23_code, 7, (some .int), { frames := 2, cells := 0, slots := 0, locals := 34 })
theorem ld_X1_mostAtEnd : am_LD m_X1_mostAtEnd 0 := ⟨(am_tb 83 (by decide +kernel) (by decide +kernel)), (am_tb 700 (by decide +kernel) (by decide +kernel)), by decide, by decide, by decide +kernel⟩
def tb_X1_mostAtEnd : List (Nat × Instr × Nat) := [(0, .iconst (-1), 1), (1, .istore_n 1, 1), (2, .aload_n 0, 1), (3, .getfield 38, 3), (6, .aload_n 0, 1), (7, .getfield 129, 3), (10, .isub, 1), (11, .istore_n 2, 1), (12, .aload_n 0, 1), (13, .aload_n 0, 1), (14, .getfield 129, 3), (17, .invokevirtual 163, 3), (20, .istore_n 3, 1), (21, .aload_n 0, 1), (22, .aload_n 0, 1), (23, .getfield 129, 3), (26, .invokevirtual 170, 3), (29, .istore 4, 2), (31, .iload 4, 2), (33, .iload_n 3, 1), (34, .if_icmp .gt 80, 3), (37, .iconst 0, 1), (38, .istore 5, 2), (40, .iload 5, 2), (42, .aload_n 0, 1), (43, .getfield 87, 3), (46, .if_icmp .ge 62, 3), (49, .aload_n 0, 1), (50, .getfield 9, 3), (53, .aload_n 0, 1), (54, .aload_n 0, 1), (55, .getfield 129, 3), (58, .iload 4, 2), (60, .iload 5, 2), (62, .invokevirtual 115, 3), (65, .iaload, 1), (66, .istore 6, 2), (68, .iload 6, 2), (70, .iconst (-1), 1), (71, .if_icmp .eq 31, 3), (74, .iload_n 1, 1), (75, .iload 6, 2), (77, .aload_n 0, 1), (78, .getfield 15, 3), (81, .aload_n 0, 1), (82, .iload_n 2, 1), (83, .iload 4, 2), (85, .iload 5, 2), (87, .invokevirtual 115, 3), (90, .iaload, 1), (91, .iadd, 1), (92, .sipush 9999, 3), (95, .invokestatic 157, 3), (98, .invokestatic 118, 3), (101, .istore_n 1, 1), (102, .iinc 5 1, 3), (105, .goto (-65), 3), (108, .iinc 4 1, 3), (111, .goto (-80), 3), (114, .iload_n 1, 1)]
theorem tk_X1_mostAtEnd : am_tbl prog_3_method_23_code tb_X1_mostAtEnd = true := by decide +kernel
def tb_X1_mostAtEnd_1 : List (Nat × Instr × Nat) := [(115, .ireturn, 1)]
theorem tk_X1_mostAtEnd_1 : am_tbl prog_3_method_23_code tb_X1_mostAtEnd_1 = true := by decide +kernel
def b_X1_mostAtEnd_40 (k31 : Int32 → Int32 → Int32 → Int32 → am_M → Option (Int32 × am_M)) : Nat → Int32 → Int32 → Int32 → Int32 → Int32 → am_M → Option (Int32 × am_M)
  | 0, _, _, _, _, _, _ => none
  | n + 1, x1, x2, x3, x4, x5, D => if (D 45 12) ≤ x5 then k31 x1 x2 x3 (x4 + 1) D else if am_in (f_X1_place (D 45 15) x4 x5 D) 44100 = true then if (D 83 (f_X1_place (D 45 15) x4 x5 D).toNatClampNeg) = (-1) then b_X1_mostAtEnd_40 k31 n x1 x2 x3 x4 (x5 + 1) D else if am_in (f_X1_place x2 x4 x5 D) 44100 = true then b_X1_mostAtEnd_40 k31 n (am_max x1 (am_min ((D 83 (f_X1_place (D 45 15) x4 x5 D).toNatClampNeg) + (D 84 (f_X1_place x2 x4 x5 D).toNatClampNeg)) 9999)) x2 x3 x4 (x5 + 1) D else none else none
def b_X1_mostAtEnd_31 : Nat → Int32 → Int32 → Int32 → Int32 → am_M → Option (Int32 × am_M)
  | 0, _, _, _, _, _ => none
  | n + 1, x1, x2, x3, x4, D => if x3 < x4 then some (x1, D) else b_X1_mostAtEnd_40 (b_X1_mostAtEnd_31 n) am_N x1 x2 x3 x4 0 D
def f_X1_mostAtEnd (D : am_M) : Option (Int32 × am_M) := b_X1_mostAtEnd_31 am_N (-1) ((D 45 7) - (D 45 15)) (f_X1_mostTired (D 45 15) D) (f_X1_leastTired (D 45 15) D) D
theorem bx_X1_mostAtEnd_40 {l : Launch} {h0 : am_H} {Φ : am_Ph} {tw : Nat}  {r : Int32} {D' : am_M} (hΦ : Φ (some (.int r)) (ly tw true D')) {k31 : Int32 → Int32 → Int32 → Int32 → am_M → Option (Int32 × am_M)} (hk31 : ∀ (x1 : Int32) (x2 : Int32) (x3 : Int32) (x4 : Int32) (D : am_M), k31 x1 x2 x3 x4 D = some (r, D') → am_Ex (am_E l m_X1_mostAtEnd false h0 Φ) prog_3_method_23_code (0, 0) 31 [(0, .ref 45), (1, .int x1), (2, .int x2), (3, .int x3), (4, .int x4)] [] (ly tw true D)) : ∀ (n : Nat) (x1 : Int32) (x2 : Int32) (x3 : Int32) (x4 : Int32) (x5 : Int32) (D : am_M), b_X1_mostAtEnd_40 k31 n x1 x2 x3 x4 x5 D = some (r, D') → am_Ex (am_E l m_X1_mostAtEnd false h0 Φ) prog_3_method_23_code (0, 0) 40 [(0, .ref 45), (1, .int x1), (2, .int x2), (3, .int x3), (4, .int x4), (5, .int x5)] [] (ly tw true D) := by
  intro n
  induction n with
  | zero =>
    intro x1 x2 x3 x4 x5 D h
    exact absurd h (by simp [b_X1_mostAtEnd_40])
  | succ n ih =>
    intro x1 x2 x3 x4 x5 D h
    rw [b_X1_mostAtEnd_40] at h
    refine am_iload (j := 5) (am_dk tk_X1_mostAtEnd 23 rfl) rfl ?_
    refine am_aload_n (j := 0) (am_dk tk_X1_mostAtEnd 24 rfl) rfl rfl ?_
    refine ly_geti rfl fl_X1_87 rfl (am_dk tk_X1_mostAtEnd 25 rfl) ?_
    refine am_icmp_ge (tgt := 108) (am_dk tk_X1_mostAtEnd 26 rfl) (by decide) (fun hc46 => ?_) (fun hc46 => ?_)
    · rw [if_pos hc46] at h
      refine am_iinc (j := 4) (v := x4 + 1) (L' := [(4, .int (x4 + 1)), (0, .ref 45), (1, .int x1), (2, .int x2), (3, .int x3), (5, .int x5)]) (am_dk tk_X1_mostAtEnd 57 rfl) rfl rfl (Nat.le_of_ble_eq_true rfl) rfl ?_
      refine am_goto (tgt := 31) (am_dk tk_X1_mostAtEnd 58 rfl) (by decide) ?_
      refine am_ls [1, 2, 3, 4, 0] rfl ?_
      exact hk31 _ _ _ _ _ h
    · rw [if_neg hc46] at h
      refine am_aload_n (j := 0) (am_dk tk_X1_mostAtEnd 27 rfl) rfl rfl ?_
      refine ly_getr (b := 83) rfl fl_X1_9 rfl rfl (am_dk tk_X1_mostAtEnd 28 rfl) ?_
      refine am_aload_n (j := 0) (am_dk tk_X1_mostAtEnd 29 rfl) rfl rfl ?_
      refine am_aload_n (j := 0) (am_dk tk_X1_mostAtEnd 30 rfl) rfl rfl ?_
      refine ly_geti rfl fl_X1_129 rfl (am_dk tk_X1_mostAtEnd 31 rfl) ?_
      refine am_iload (j := 4) (am_dk tk_X1_mostAtEnd 32 rfl) rfl ?_
      refine am_iload (j := 5) (am_dk tk_X1_mostAtEnd 33 rfl) rfl ?_
      refine ly_cV (M := m_X1_place) (As := [.int (D 45 15), .int x4, .int x5]) (b := 45) (st := [.ref 83]) (ct_X1_place _ _ _ _) rfl (by decide) rfl ml_X1_115 ld_X1_place rfl ⟨Nat.le_of_ble_eq_true rfl, Nat.le_of_ble_eq_true rfl⟩ (Nat.le_of_ble_eq_true rfl) ⟨rfl, rfl⟩ ⟨Nat.le_of_ble_eq_true rfl, Nat.le_of_ble_eq_true rfl⟩ (am_dk tk_X1_mostAtEnd 34 rfl) (am_kki ?_)
      obtain ⟨hi65, h⟩ := am_chk h
      refine ly_iald (k := (f_X1_place (D 45 15) x4 x5 D).toNatClampNeg) rfl (am_in_vp hi65) rfl (am_dk tk_X1_mostAtEnd 35 rfl) ?_
      refine am_istore (L' := [(6, .int (D 83 (f_X1_place (D 45 15) x4 x5 D).toNatClampNeg)), (0, .ref 45), (1, .int x1), (2, .int x2), (3, .int x3), (4, .int x4), (5, .int x5)]) (am_dk tk_X1_mostAtEnd 36 rfl) (Nat.le_of_ble_eq_true rfl) rfl ?_
      refine am_iload (j := 0) (am_dk tk_X1_mostAtEnd 37 rfl) rfl ?_
      refine am_iconst (v := (-1)) (am_dk tk_X1_mostAtEnd 38 rfl) (by decide) ?_
      refine am_icmp_eq (tgt := 102) (am_dk tk_X1_mostAtEnd 39 rfl) (by decide) (fun hc71 => ?_) (fun hc71 => ?_)
      · rw [if_pos hc71] at h
        refine am_iinc (j := 6) (v := x5 + 1) (L' := [(5, .int (x5 + 1)), (6, .int (D 83 (f_X1_place (D 45 15) x4 x5 D).toNatClampNeg)), (0, .ref 45), (1, .int x1), (2, .int x2), (3, .int x3), (4, .int x4)]) (am_dk tk_X1_mostAtEnd 55 rfl) rfl rfl (Nat.le_of_ble_eq_true rfl) rfl ?_
        refine am_goto (tgt := 40) (am_dk tk_X1_mostAtEnd 56 rfl) (by decide) ?_
        refine am_ls [2, 3, 4, 5, 6, 0] rfl ?_
        exact ih _ _ _ _ _ _ h
      · rw [if_neg hc71] at h
        refine am_iload_n (j := 2) (am_dk tk_X1_mostAtEnd 40 rfl) rfl rfl ?_
        refine am_iload (j := 0) (am_dk tk_X1_mostAtEnd 41 rfl) rfl ?_
        refine am_aload_n (j := 1) (am_dk tk_X1_mostAtEnd 42 rfl) rfl rfl ?_
        refine ly_getr (b := 84) rfl fl_X1_15 rfl rfl (am_dk tk_X1_mostAtEnd 43 rfl) ?_
        refine am_aload_n (j := 1) (am_dk tk_X1_mostAtEnd 44 rfl) rfl rfl ?_
        refine am_iload_n (j := 3) (am_dk tk_X1_mostAtEnd 45 rfl) rfl rfl ?_
        refine am_iload (j := 5) (am_dk tk_X1_mostAtEnd 46 rfl) rfl ?_
        refine am_iload (j := 6) (am_dk tk_X1_mostAtEnd 47 rfl) rfl ?_
        refine ly_cV (M := m_X1_place) (As := [.int x2, .int x4, .int x5]) (b := 45) (st := [.ref 84, .int (D 83 (f_X1_place (D 45 15) x4 x5 D).toNatClampNeg), .int x1]) (ct_X1_place _ _ _ _) rfl (by decide) rfl ml_X1_115 ld_X1_place rfl ⟨Nat.le_of_ble_eq_true rfl, Nat.le_of_ble_eq_true rfl⟩ (Nat.le_of_ble_eq_true rfl) ⟨rfl, rfl⟩ ⟨Nat.le_of_ble_eq_true rfl, Nat.le_of_ble_eq_true rfl⟩ (am_dk tk_X1_mostAtEnd 48 rfl) (am_kki ?_)
        obtain ⟨hi90, h⟩ := am_chk h
        refine ly_iald (k := (f_X1_place x2 x4 x5 D).toNatClampNeg) rfl (am_in_vp hi90) rfl (am_dk tk_X1_mostAtEnd 49 rfl) ?_
        refine am_iadd (am_dk tk_X1_mostAtEnd 50 rfl) ?_
        refine am_sipush (v := 9999) (am_dk tk_X1_mostAtEnd 51 rfl) (by decide) ?_
        refine am_mmin lm_X1_157 (Nat.le_of_ble_eq_true rfl) (Nat.le_of_ble_eq_true rfl) ⟨Nat.le_of_ble_eq_true rfl, Nat.le_of_ble_eq_true rfl⟩ (am_dk tk_X1_mostAtEnd 52 rfl) ?_
        refine am_mmax lm_X1_118 (Nat.le_of_ble_eq_true rfl) (Nat.le_of_ble_eq_true rfl) ⟨Nat.le_of_ble_eq_true rfl, Nat.le_of_ble_eq_true rfl⟩ (am_dk tk_X1_mostAtEnd 53 rfl) ?_
        refine am_istore_n (L' := [(1, .int (am_max x1 (am_min ((D 83 (f_X1_place (D 45 15) x4 x5 D).toNatClampNeg) + (D 84 (f_X1_place x2 x4 x5 D).toNatClampNeg)) 9999))), (6, .int (D 83 (f_X1_place (D 45 15) x4 x5 D).toNatClampNeg)), (0, .ref 45), (2, .int x2), (3, .int x3), (4, .int x4), (5, .int x5)]) (am_dk tk_X1_mostAtEnd 54 rfl) rfl (Nat.le_of_ble_eq_true rfl) rfl ?_
        refine am_iinc (j := 6) (v := x5 + 1) (L' := [(5, .int (x5 + 1)), (1, .int (am_max x1 (am_min ((D 83 (f_X1_place (D 45 15) x4 x5 D).toNatClampNeg) + (D 84 (f_X1_place x2 x4 x5 D).toNatClampNeg)) 9999))), (6, .int (D 83 (f_X1_place (D 45 15) x4 x5 D).toNatClampNeg)), (0, .ref 45), (2, .int x2), (3, .int x3), (4, .int x4)]) (am_dk tk_X1_mostAtEnd 55 rfl) rfl rfl (Nat.le_of_ble_eq_true rfl) rfl ?_
        refine am_goto (tgt := 40) (am_dk tk_X1_mostAtEnd 56 rfl) (by decide) ?_
        refine am_ls [3, 1, 4, 5, 6, 0] rfl ?_
        exact ih _ _ _ _ _ _ h
theorem bx_X1_mostAtEnd_31 {l : Launch} {h0 : am_H} {Φ : am_Ph} {tw : Nat}  {r : Int32} {D' : am_M} (hΦ : Φ (some (.int r)) (ly tw true D')) : ∀ (n : Nat) (x1 : Int32) (x2 : Int32) (x3 : Int32) (x4 : Int32) (D : am_M), b_X1_mostAtEnd_31 n x1 x2 x3 x4 D = some (r, D') → am_Ex (am_E l m_X1_mostAtEnd false h0 Φ) prog_3_method_23_code (0, 0) 31 [(0, .ref 45), (1, .int x1), (2, .int x2), (3, .int x3), (4, .int x4)] [] (ly tw true D) := by
  intro n
  induction n with
  | zero =>
    intro x1 x2 x3 x4 D h
    exact absurd h (by simp [b_X1_mostAtEnd_31])
  | succ n ih =>
    intro x1 x2 x3 x4 D h
    rw [b_X1_mostAtEnd_31] at h
    refine am_iload (j := 4) (am_dk tk_X1_mostAtEnd 18 rfl) rfl ?_
    refine am_iload_n (j := 3) (am_dk tk_X1_mostAtEnd 19 rfl) rfl rfl ?_
    refine am_icmp_gt (tgt := 114) (am_dk tk_X1_mostAtEnd 20 rfl) (by decide) (fun hc34 => ?_) (fun hc34 => ?_)
    · rw [if_pos hc34] at h
      refine am_iload_n (j := 1) (am_dk tk_X1_mostAtEnd 59 rfl) rfl rfl ?_
      exact am_iret rfl (am_r2 h hΦ) ⟨Nat.le_of_ble_eq_true rfl, Nat.le_of_ble_eq_true rfl⟩ (am_dk tk_X1_mostAtEnd_1 0 rfl)
    · rw [if_neg hc34] at h
      refine am_iconst (v := 0) (am_dk tk_X1_mostAtEnd 21 rfl) (by decide) ?_
      refine am_istore (L' := [(5, .int 0), (0, .ref 45), (1, .int x1), (2, .int x2), (3, .int x3), (4, .int x4)]) (am_dk tk_X1_mostAtEnd 22 rfl) (Nat.le_of_ble_eq_true rfl) rfl ?_
      refine am_ls [1, 2, 3, 4, 5, 0] rfl ?_
      exact bx_X1_mostAtEnd_40  hΦ (ih) am_N _ _ _ _ _ _ h
theorem ct_X1_mostAtEnd {l : Launch} {tw : Nat}  {r : Int32} {D D' : am_M} (h : f_X1_mostAtEnd D = some (r, D')) : am_CT l m_X1_mostAtEnd false [.ref 45] (ly tw true D) (am_is (some (.int r)) (ly tw true D')) := by
  have hΦ : am_is (some (.int r)) (ly tw true D') (some (.int r)) (ly tw true D') := ⟨rfl, rfl⟩
  refine am_CT.of (by decide) (Nat.le_of_ble_eq_true rfl) ?_
  show am_Ex _ _ _ 0 [(0, .ref 45)] [] _
  rw [f_X1_mostAtEnd] at h
  refine am_iconst (v := (-1)) (am_dk tk_X1_mostAtEnd 0 rfl) (by decide) ?_
  refine am_istore_n (L' := [(1, .int (-1)), (0, .ref 45)]) (am_dk tk_X1_mostAtEnd 1 rfl) rfl (Nat.le_of_ble_eq_true rfl) rfl ?_
  refine am_aload_n (j := 1) (am_dk tk_X1_mostAtEnd 2 rfl) rfl rfl ?_
  refine ly_geti rfl fl_X1_38 rfl (am_dk tk_X1_mostAtEnd 3 rfl) ?_
  refine am_aload_n (j := 1) (am_dk tk_X1_mostAtEnd 4 rfl) rfl rfl ?_
  refine ly_geti rfl fl_X1_129 rfl (am_dk tk_X1_mostAtEnd 5 rfl) ?_
  refine am_isub (am_dk tk_X1_mostAtEnd 6 rfl) ?_
  refine am_istore_n (L' := [(2, .int ((D 45 7) - (D 45 15))), (1, .int (-1)), (0, .ref 45)]) (am_dk tk_X1_mostAtEnd 7 rfl) rfl (Nat.le_of_ble_eq_true rfl) rfl ?_
  refine am_aload_n (j := 2) (am_dk tk_X1_mostAtEnd 8 rfl) rfl rfl ?_
  refine am_aload_n (j := 2) (am_dk tk_X1_mostAtEnd 9 rfl) rfl rfl ?_
  refine ly_geti rfl fl_X1_129 rfl (am_dk tk_X1_mostAtEnd 10 rfl) ?_
  refine ly_cV (M := m_X1_mostTired) (As := [.int (D 45 15)]) (b := 45) (st := []) (ct_X1_mostTired _ _) rfl (by decide) rfl ml_X1_163 ld_X1_mostTired rfl ⟨Nat.le_of_ble_eq_true rfl, Nat.le_of_ble_eq_true rfl⟩ (Nat.le_of_ble_eq_true rfl) ⟨rfl, rfl⟩ ⟨Nat.le_of_ble_eq_true rfl, Nat.le_of_ble_eq_true rfl⟩ (am_dk tk_X1_mostAtEnd 11 rfl) (am_kki ?_)
  refine am_istore_n (L' := [(3, .int (f_X1_mostTired (D 45 15) D)), (2, .int ((D 45 7) - (D 45 15))), (1, .int (-1)), (0, .ref 45)]) (am_dk tk_X1_mostAtEnd 12 rfl) rfl (Nat.le_of_ble_eq_true rfl) rfl ?_
  refine am_aload_n (j := 3) (am_dk tk_X1_mostAtEnd 13 rfl) rfl rfl ?_
  refine am_aload_n (j := 3) (am_dk tk_X1_mostAtEnd 14 rfl) rfl rfl ?_
  refine ly_geti rfl fl_X1_129 rfl (am_dk tk_X1_mostAtEnd 15 rfl) ?_
  refine ly_cV (M := m_X1_leastTired) (As := [.int (D 45 15)]) (b := 45) (st := []) (ct_X1_leastTired _ _) rfl (by decide) rfl ml_X1_170 ld_X1_leastTired rfl ⟨Nat.le_of_ble_eq_true rfl, Nat.le_of_ble_eq_true rfl⟩ (Nat.le_of_ble_eq_true rfl) ⟨rfl, rfl⟩ ⟨Nat.le_of_ble_eq_true rfl, Nat.le_of_ble_eq_true rfl⟩ (am_dk tk_X1_mostAtEnd 16 rfl) (am_kki ?_)
  refine am_istore (L' := [(4, .int (f_X1_leastTired (D 45 15) D)), (3, .int (f_X1_mostTired (D 45 15) D)), (2, .int ((D 45 7) - (D 45 15))), (1, .int (-1)), (0, .ref 45)]) (am_dk tk_X1_mostAtEnd 17 rfl) (Nat.le_of_ble_eq_true rfl) rfl ?_
  refine am_ls [4, 3, 2, 1, 0] rfl ?_
  exact bx_X1_mostAtEnd_31  hΦ am_N _ _ _ _ _ h
abbrev m_X1_needAt : am_D := (yX1_needAt, prog_3_method_27_code, 4, (some .int), { frames := 1, cells := 0, slots := 0, locals := 23 })
theorem ld_X1_needAt : am_LD m_X1_needAt 3 := ⟨(am_tb 83 (by decide +kernel) (by decide +kernel)), (am_tb 716 (by decide +kernel) (by decide +kernel)), by decide, by decide, by decide +kernel⟩
def tb_X1_needAt : List (Nat × Instr × Nat) := [(0, .iload_n 1, 1), (1, .aload_n 0, 1), (2, .getfield 129, 3), (5, .if_icmp .ge 16, 3), (8, .aload_n 0, 1), (9, .getfield 9, 3), (12, .aload_n 0, 1), (13, .iload_n 1, 1), (14, .iload_n 2, 1), (15, .iload_n 3, 1), (16, .invokevirtual 115, 3), (19, .iaload, 1), (20, .ireturn, 1), (21, .aload_n 0, 1), (22, .getfield 28, 3), (25, .aload_n 0, 1), (26, .getfield 15, 3), (29, .aload_n 0, 1), (30, .aload_n 0, 1), (31, .getfield 38, 3), (34, .iload_n 1, 1), (35, .isub, 1), (36, .iload_n 2, 1), (37, .iload_n 3, 1), (38, .invokevirtual 115, 3), (41, .iaload, 1), (42, .isub, 1), (43, .iconst 0, 1), (44, .invokestatic 118, 3), (47, .ireturn, 1)]
theorem tk_X1_needAt : am_tbl prog_3_method_27_code tb_X1_needAt = true := by decide +kernel
def f_X1_needAt (x1 : Int32) (x2 : Int32) (x3 : Int32) (D : am_M) : Option (Int32 × am_M) := if (D 45 15) ≤ x1 then if am_in (f_X1_place ((D 45 7) - x1) x2 x3 D) 44100 = true then some (am_max ((D 45 5) - (D 84 (f_X1_place ((D 45 7) - x1) x2 x3 D).toNatClampNeg)) 0, D) else none else if am_in (f_X1_place x1 x2 x3 D) 44100 = true then some (D 83 (f_X1_place x1 x2 x3 D).toNatClampNeg, D) else none
theorem ct_X1_needAt {l : Launch} {tw : Nat}  {x1 : Int32} {x2 : Int32} {x3 : Int32} {r : Int32} {D D' : am_M} (h : f_X1_needAt x1 x2 x3 D = some (r, D')) : am_CT l m_X1_needAt false [.ref 45, .int x1, .int x2, .int x3] (ly tw true D) (am_is (some (.int r)) (ly tw true D')) := by
  have hΦ : am_is (some (.int r)) (ly tw true D') (some (.int r)) (ly tw true D') := ⟨rfl, rfl⟩
  refine am_CT.of (by decide) (Nat.le_of_ble_eq_true rfl) ?_
  show am_Ex _ _ _ 0 [(0, .ref 45), (1, .int x1), (2, .int x2), (3, .int x3)] [] _
  rw [f_X1_needAt] at h
  refine am_iload_n (j := 1) (am_dk tk_X1_needAt 0 rfl) rfl rfl ?_
  refine am_aload_n (j := 0) (am_dk tk_X1_needAt 1 rfl) rfl rfl ?_
  refine ly_geti rfl fl_X1_129 rfl (am_dk tk_X1_needAt 2 rfl) ?_
  refine am_icmp_ge (tgt := 21) (am_dk tk_X1_needAt 3 rfl) (by decide) (fun hc5 => ?_) (fun hc5 => ?_)
  · rw [if_pos hc5] at h
    refine am_aload_n (j := 0) (am_dk tk_X1_needAt 13 rfl) rfl rfl ?_
    refine ly_geti rfl fl_X1_28 rfl (am_dk tk_X1_needAt 14 rfl) ?_
    refine am_aload_n (j := 0) (am_dk tk_X1_needAt 15 rfl) rfl rfl ?_
    refine ly_getr (b := 84) rfl fl_X1_15 rfl rfl (am_dk tk_X1_needAt 16 rfl) ?_
    refine am_aload_n (j := 0) (am_dk tk_X1_needAt 17 rfl) rfl rfl ?_
    refine am_aload_n (j := 0) (am_dk tk_X1_needAt 18 rfl) rfl rfl ?_
    refine ly_geti rfl fl_X1_38 rfl (am_dk tk_X1_needAt 19 rfl) ?_
    refine am_iload_n (j := 1) (am_dk tk_X1_needAt 20 rfl) rfl rfl ?_
    refine am_isub (am_dk tk_X1_needAt 21 rfl) ?_
    refine am_iload_n (j := 2) (am_dk tk_X1_needAt 22 rfl) rfl rfl ?_
    refine am_iload_n (j := 3) (am_dk tk_X1_needAt 23 rfl) rfl rfl ?_
    refine ly_cV (M := m_X1_place) (As := [.int ((D 45 7) - x1), .int x2, .int x3]) (b := 45) (st := [.ref 84, .int (D 45 5)]) (ct_X1_place _ _ _ _) rfl (by decide) rfl ml_X1_115 ld_X1_place rfl ⟨Nat.le_of_ble_eq_true rfl, Nat.le_of_ble_eq_true rfl⟩ (Nat.le_of_ble_eq_true rfl) ⟨rfl, rfl⟩ ⟨Nat.le_of_ble_eq_true rfl, Nat.le_of_ble_eq_true rfl⟩ (am_dk tk_X1_needAt 24 rfl) (am_kki ?_)
    obtain ⟨hi41, h⟩ := am_chk h
    refine ly_iald (k := (f_X1_place ((D 45 7) - x1) x2 x3 D).toNatClampNeg) rfl (am_in_vp hi41) rfl (am_dk tk_X1_needAt 25 rfl) ?_
    refine am_isub (am_dk tk_X1_needAt 26 rfl) ?_
    refine am_iconst (v := 0) (am_dk tk_X1_needAt 27 rfl) (by decide) ?_
    refine am_mmax lm_X1_118 (Nat.le_of_ble_eq_true rfl) (Nat.le_of_ble_eq_true rfl) ⟨Nat.le_of_ble_eq_true rfl, Nat.le_of_ble_eq_true rfl⟩ (am_dk tk_X1_needAt 28 rfl) ?_
    exact am_iret rfl (am_r2 h hΦ) ⟨Nat.le_of_ble_eq_true rfl, Nat.le_of_ble_eq_true rfl⟩ (am_dk tk_X1_needAt 29 rfl)
  · rw [if_neg hc5] at h
    refine am_aload_n (j := 0) (am_dk tk_X1_needAt 4 rfl) rfl rfl ?_
    refine ly_getr (b := 83) rfl fl_X1_9 rfl rfl (am_dk tk_X1_needAt 5 rfl) ?_
    refine am_aload_n (j := 0) (am_dk tk_X1_needAt 6 rfl) rfl rfl ?_
    refine am_iload_n (j := 1) (am_dk tk_X1_needAt 7 rfl) rfl rfl ?_
    refine am_iload_n (j := 2) (am_dk tk_X1_needAt 8 rfl) rfl rfl ?_
    refine am_iload_n (j := 3) (am_dk tk_X1_needAt 9 rfl) rfl rfl ?_
    refine ly_cV (M := m_X1_place) (As := [.int x1, .int x2, .int x3]) (b := 45) (st := [.ref 83]) (ct_X1_place _ _ _ _) rfl (by decide) rfl ml_X1_115 ld_X1_place rfl ⟨Nat.le_of_ble_eq_true rfl, Nat.le_of_ble_eq_true rfl⟩ (Nat.le_of_ble_eq_true rfl) ⟨rfl, rfl⟩ ⟨Nat.le_of_ble_eq_true rfl, Nat.le_of_ble_eq_true rfl⟩ (am_dk tk_X1_needAt 10 rfl) (am_kki ?_)
    obtain ⟨hi19, h⟩ := am_chk h
    refine ly_iald (k := (f_X1_place x1 x2 x3 D).toNatClampNeg) rfl (am_in_vp hi19) rfl (am_dk tk_X1_needAt 11 rfl) ?_
    exact am_iret rfl (am_r2 h hΦ) ⟨Nat.le_of_ble_eq_true rfl, Nat.le_of_ble_eq_true rfl⟩ (am_dk tk_X1_needAt 12 rfl)
abbrev m_X1_needBefore : am_D := (yX1_needBefore, prog_3_method_28_code, 4, (some .int), { frames := 1, cells := 0, slots := 0, locals := 13 })
theorem ld_X1_needBefore : am_LD m_X1_needBefore 3 := ⟨(am_tb 83 (by decide +kernel) (by decide +kernel)), (am_tb 720 (by decide +kernel) (by decide +kernel)), by decide, by decide, by decide +kernel⟩
def tb_X1_needBefore : List (Nat × Instr × Nat) := [(0, .iload_n 2, 1), (1, .iconst (-1), 1), (2, .if_icmp .eq 17, 3), (5, .iload_n 2, 1), (6, .aload_n 0, 1), (7, .getfield 22, 3), (10, .iload_n 1, 1), (11, .iaload, 1), (12, .iadd, 1), (13, .sipush 9999, 3), (16, .if_icmp .le 5, 3), (19, .iconst (-1), 1), (20, .ireturn, 1), (21, .iload_n 2, 1), (22, .aload_n 0, 1), (23, .getfield 22, 3), (26, .iload_n 1, 1), (27, .iaload, 1), (28, .iadd, 1), (29, .iload_n 3, 1), (30, .isub, 1), (31, .iconst 0, 1), (32, .invokestatic 118, 3), (35, .ireturn, 1)]
theorem tk_X1_needBefore : am_tbl prog_3_method_28_code tb_X1_needBefore = true := by decide +kernel
def f_X1_needBefore (x1 : Int32) (x2 : Int32) (x3 : Int32) (D : am_M) : Option (Int32 × am_M) := if x2 = (-1) then some ((-1), D) else if am_in x1 48 = true then if (x2 + (D 48 x1.toNatClampNeg)) ≤ 9999 then some (am_max ((x2 + (D 48 x1.toNatClampNeg)) - x3) 0, D) else some ((-1), D) else none
theorem ct_X1_needBefore {l : Launch} {tw : Nat} {tp : Bool}  {x1 : Int32} {x2 : Int32} {x3 : Int32} {r : Int32} {D D' : am_M} (h : f_X1_needBefore x1 x2 x3 D = some (r, D')) : am_CT l m_X1_needBefore false [.ref 45, .int x1, .int x2, .int x3] (ly tw tp D) (am_is (some (.int r)) (ly tw tp D')) := by
  have hΦ : am_is (some (.int r)) (ly tw tp D') (some (.int r)) (ly tw tp D') := ⟨rfl, rfl⟩
  refine am_CT.of (by decide) (Nat.le_of_ble_eq_true rfl) ?_
  show am_Ex _ _ _ 0 [(0, .ref 45), (1, .int x1), (2, .int x2), (3, .int x3)] [] _
  rw [f_X1_needBefore] at h
  refine am_iload_n (j := 2) (am_dk tk_X1_needBefore 0 rfl) rfl rfl ?_
  refine am_iconst (v := (-1)) (am_dk tk_X1_needBefore 1 rfl) (by decide) ?_
  refine am_icmp_eq (tgt := 19) (am_dk tk_X1_needBefore 2 rfl) (by decide) (fun hc2 => ?_) (fun hc2 => ?_)
  · rw [if_pos hc2] at h
    refine am_iconst (v := (-1)) (am_dk tk_X1_needBefore 11 rfl) (by decide) ?_
    exact am_iret rfl (am_r2 h hΦ) ⟨Nat.le_of_ble_eq_true rfl, Nat.le_of_ble_eq_true rfl⟩ (am_dk tk_X1_needBefore 12 rfl)
  · rw [if_neg hc2] at h
    refine am_iload_n (j := 2) (am_dk tk_X1_needBefore 3 rfl) rfl rfl ?_
    refine am_aload_n (j := 0) (am_dk tk_X1_needBefore 4 rfl) rfl rfl ?_
    refine ly_getr (b := 48) rfl fl_X1_22 rfl rfl (am_dk tk_X1_needBefore 5 rfl) ?_
    refine am_iload_n (j := 1) (am_dk tk_X1_needBefore 6 rfl) rfl rfl ?_
    obtain ⟨hi11, h⟩ := am_chk h
    refine ly_iald (k := x1.toNatClampNeg) rfl (am_in_vp hi11) rfl (am_dk tk_X1_needBefore 7 rfl) ?_
    refine am_iadd (am_dk tk_X1_needBefore 8 rfl) ?_
    refine am_sipush (v := 9999) (am_dk tk_X1_needBefore 9 rfl) (by decide) ?_
    refine am_icmp_le (tgt := 21) (am_dk tk_X1_needBefore 10 rfl) (by decide) (fun hc16 => ?_) (fun hc16 => ?_)
    · rw [if_pos hc16] at h
      refine am_iload_n (j := 2) (am_dk tk_X1_needBefore 13 rfl) rfl rfl ?_
      refine am_aload_n (j := 0) (am_dk tk_X1_needBefore 14 rfl) rfl rfl ?_
      refine ly_getr (b := 48) rfl fl_X1_22 rfl rfl (am_dk tk_X1_needBefore 15 rfl) ?_
      refine am_iload_n (j := 1) (am_dk tk_X1_needBefore 16 rfl) rfl rfl ?_
      refine ly_iald (k := x1.toNatClampNeg) rfl (am_in_vp hi11) rfl (am_dk tk_X1_needBefore 17 rfl) ?_
      refine am_iadd (am_dk tk_X1_needBefore 18 rfl) ?_
      refine am_iload_n (j := 3) (am_dk tk_X1_needBefore 19 rfl) rfl rfl ?_
      refine am_isub (am_dk tk_X1_needBefore 20 rfl) ?_
      refine am_iconst (v := 0) (am_dk tk_X1_needBefore 21 rfl) (by decide) ?_
      refine am_mmax lm_X1_118 (Nat.le_of_ble_eq_true rfl) (Nat.le_of_ble_eq_true rfl) ⟨Nat.le_of_ble_eq_true rfl, Nat.le_of_ble_eq_true rfl⟩ (am_dk tk_X1_needBefore 22 rfl) ?_
      exact am_iret rfl (am_r2 h hΦ) ⟨Nat.le_of_ble_eq_true rfl, Nat.le_of_ble_eq_true rfl⟩ (am_dk tk_X1_needBefore 23 rfl)
    · rw [if_neg hc16] at h
      refine am_iconst (v := (-1)) (am_dk tk_X1_needBefore 11 rfl) (by decide) ?_
      exact am_iret rfl (am_r2 h hΦ) ⟨Nat.le_of_ble_eq_true rfl, Nat.le_of_ble_eq_true rfl⟩ (am_dk tk_X1_needBefore 12 rfl)
abbrev m_X1_needOf : am_D := (yX1_needOf, prog_3_method_26_code, 6, (some .int), { frames := 2, cells := 0, slots := 0, locals := 46 })
theorem ld_X1_needOf : am_LD m_X1_needOf 3 := ⟨(am_tb 83 (by decide +kernel) (by decide +kernel)), (am_tb 712 (by decide +kernel) (by decide +kernel)), by decide, by decide, by decide +kernel⟩
def tb_X1_needOf : List (Nat × Instr × Nat) := [(0, .aload_n 0, 1), (1, .iload_n 1, 1), (2, .aload_n 0, 1), (3, .iload_n 1, 1), (4, .iconst 1, 1), (5, .iadd, 1), (6, .iload_n 2, 1), (7, .invokestatic 154, 3), (10, .iconst 0, 1), (11, .invokevirtual 185, 3), (14, .iconst 0, 1), (15, .invokevirtual 188, 3), (18, .istore 4, 2), (20, .iload_n 2, 1), (21, .ifCond .ne 6, 3), (24, .iload 4, 2), (26, .ireturn, 1), (27, .aload_n 0, 1), (28, .iload_n 1, 1), (29, .aload_n 0, 1), (30, .iload_n 1, 1), (31, .iconst 1, 1), (32, .iadd, 1), (33, .iload_n 2, 1), (34, .invokestatic 148, 3), (37, .aload_n 0, 1), (38, .iload_n 3, 1), (39, .invokevirtual 151, 3), (42, .invokevirtual 185, 3), (45, .aload_n 0, 1), (46, .iload_n 3, 1), (47, .invokevirtual 107, 3), (50, .invokevirtual 188, 3), (53, .istore 5, 2), (55, .iload 4, 2), (57, .iconst (-1), 1), (58, .if_icmp .ne 6, 3), (61, .iload 5, 2), (63, .ireturn, 1), (64, .iload 5, 2), (66, .iconst (-1), 1), (67, .if_icmp .ne 8, 3), (70, .iload 4, 2), (72, .goto 10, 3), (75, .iload 4, 2), (77, .iload 5, 2), (79, .invokestatic 157, 3), (82, .ireturn, 1)]
theorem tk_X1_needOf : am_tbl prog_3_method_26_code tb_X1_needOf = true := by decide +kernel
def f_X1_needOf (x1 : Int32) (x2 : Int32) (x3 : Int32) (D : am_M) : Option (Int32 × am_M) := (f_X1_needAt (x1 + 1) (f_X1_tiredByWork x2) 0 D).bind fun q11 => (f_X1_needBefore x1 q11.1 0 q11.2).bind fun q15 => if x2 = 0 then some (q15.1, q15.2) else (f_X1_needAt (x1 + 1) (f_X1_easedBySleep x2) (f_X1_longerSleep x3 q15.2) q15.2).bind fun q42 => (f_X1_needBefore x1 q42.1 (f_X1_earned x3 q42.2) q42.2).bind fun q50 => if q15.1 = (-1) then some (q50.1, q50.2) else if q50.1 = (-1) then some (q15.1, q50.2) else some (am_min q15.1 q50.1, q50.2)
theorem ct_X1_needOf {l : Launch} {tw : Nat}  {x1 : Int32} {x2 : Int32} {x3 : Int32} {r : Int32} {D D' : am_M} (h : f_X1_needOf x1 x2 x3 D = some (r, D')) : am_CT l m_X1_needOf false [.ref 45, .int x1, .int x2, .int x3] (ly tw true D) (am_is (some (.int r)) (ly tw true D')) := by
  have hΦ : am_is (some (.int r)) (ly tw true D') (some (.int r)) (ly tw true D') := ⟨rfl, rfl⟩
  refine am_CT.of (by decide) (Nat.le_of_ble_eq_true rfl) ?_
  show am_Ex _ _ _ 0 [(0, .ref 45), (1, .int x1), (2, .int x2), (3, .int x3)] [] _
  rw [f_X1_needOf] at h
  refine am_aload_n (j := 0) (am_dk tk_X1_needOf 0 rfl) rfl rfl ?_
  refine am_iload_n (j := 1) (am_dk tk_X1_needOf 1 rfl) rfl rfl ?_
  refine am_aload_n (j := 0) (am_dk tk_X1_needOf 2 rfl) rfl rfl ?_
  refine am_iload_n (j := 1) (am_dk tk_X1_needOf 3 rfl) rfl rfl ?_
  refine am_iconst (v := 1) (am_dk tk_X1_needOf 4 rfl) (by decide) ?_
  refine am_iadd (am_dk tk_X1_needOf 5 rfl) ?_
  refine am_iload_n (j := 2) (am_dk tk_X1_needOf 6 rfl) rfl rfl ?_
  refine am_cS (M := m_X1_tiredByWork) (As := [.int x2]) (st := [.int (x1 + 1), .ref 45, .int x1, .ref 45]) (ct_X1_tiredByWork _ _) ml_X1_154 ld_X1_tiredByWork rfl ⟨Nat.le_of_ble_eq_true rfl, Nat.le_of_ble_eq_true rfl⟩ (Nat.le_of_ble_eq_true rfl) ⟨rfl, rfl⟩ ⟨Nat.le_of_ble_eq_true rfl, Nat.le_of_ble_eq_true rfl⟩ (am_dk tk_X1_needOf 7 rfl) (am_kki ?_)
  refine am_iconst (v := 0) (am_dk tk_X1_needOf 8 rfl) (by decide) ?_
  obtain ⟨q11, hq11, h⟩ := am_bind h
  refine ly_cV (M := m_X1_needAt) (As := [.int (x1 + 1), .int (f_X1_tiredByWork x2), .int 0]) (b := 45) (st := [.int x1, .ref 45]) (ct_X1_needAt hq11) rfl (by decide) rfl ml_X1_185 ld_X1_needAt rfl ⟨Nat.le_of_ble_eq_true rfl, Nat.le_of_ble_eq_true rfl⟩ (Nat.le_of_ble_eq_true rfl) ⟨rfl, rfl⟩ ⟨Nat.le_of_ble_eq_true rfl, Nat.le_of_ble_eq_true rfl⟩ (am_dk tk_X1_needOf 9 rfl) (am_kki ?_)
  refine am_iconst (v := 0) (am_dk tk_X1_needOf 10 rfl) (by decide) ?_
  obtain ⟨q15, hq15, h⟩ := am_bind h
  refine ly_cV (M := m_X1_needBefore) (As := [.int x1, .int q11.1, .int 0]) (b := 45) (st := []) (ct_X1_needBefore hq15) rfl (by decide) rfl ml_X1_188 ld_X1_needBefore rfl ⟨Nat.le_of_ble_eq_true rfl, Nat.le_of_ble_eq_true rfl⟩ (Nat.le_of_ble_eq_true rfl) ⟨rfl, rfl⟩ ⟨Nat.le_of_ble_eq_true rfl, Nat.le_of_ble_eq_true rfl⟩ (am_dk tk_X1_needOf 11 rfl) (am_kki ?_)
  refine am_istore (L' := [(4, .int q15.1), (0, .ref 45), (1, .int x1), (2, .int x2), (3, .int x3)]) (am_dk tk_X1_needOf 12 rfl) (Nat.le_of_ble_eq_true rfl) rfl ?_
  refine am_iload_n (j := 3) (am_dk tk_X1_needOf 13 rfl) rfl rfl ?_
  refine am_if_ne (tgt := 27) (am_dk tk_X1_needOf 14 rfl) (by decide) (fun hc21 => ?_) (fun hc21 => ?_)
  · rw [if_neg hc21] at h
    refine am_aload_n (j := 1) (am_dk tk_X1_needOf 17 rfl) rfl rfl ?_
    refine am_iload_n (j := 2) (am_dk tk_X1_needOf 18 rfl) rfl rfl ?_
    refine am_aload_n (j := 1) (am_dk tk_X1_needOf 19 rfl) rfl rfl ?_
    refine am_iload_n (j := 2) (am_dk tk_X1_needOf 20 rfl) rfl rfl ?_
    refine am_iconst (v := 1) (am_dk tk_X1_needOf 21 rfl) (by decide) ?_
    refine am_iadd (am_dk tk_X1_needOf 22 rfl) ?_
    refine am_iload_n (j := 3) (am_dk tk_X1_needOf 23 rfl) rfl rfl ?_
    refine am_cS (M := m_X1_easedBySleep) (As := [.int x2]) (st := [.int (x1 + 1), .ref 45, .int x1, .ref 45]) (ct_X1_easedBySleep _ _) ml_X1_148 ld_X1_easedBySleep rfl ⟨Nat.le_of_ble_eq_true rfl, Nat.le_of_ble_eq_true rfl⟩ (Nat.le_of_ble_eq_true rfl) ⟨rfl, rfl⟩ ⟨Nat.le_of_ble_eq_true rfl, Nat.le_of_ble_eq_true rfl⟩ (am_dk tk_X1_needOf 24 rfl) (am_kki ?_)
    refine am_aload_n (j := 1) (am_dk tk_X1_needOf 25 rfl) rfl rfl ?_
    refine am_iload_n (j := 4) (am_dk tk_X1_needOf 26 rfl) rfl rfl ?_
    refine ly_cV (M := m_X1_longerSleep) (As := [.int x3]) (b := 45) (st := [.int (f_X1_easedBySleep x2), .int (x1 + 1), .ref 45, .int x1, .ref 45]) (ct_X1_longerSleep _ _) rfl (by decide) rfl ml_X1_151 ld_X1_longerSleep rfl ⟨Nat.le_of_ble_eq_true rfl, Nat.le_of_ble_eq_true rfl⟩ (Nat.le_of_ble_eq_true rfl) ⟨rfl, rfl⟩ ⟨Nat.le_of_ble_eq_true rfl, Nat.le_of_ble_eq_true rfl⟩ (am_dk tk_X1_needOf 27 rfl) (am_kki ?_)
    obtain ⟨q42, hq42, h⟩ := am_bind h
    refine ly_cV (M := m_X1_needAt) (As := [.int (x1 + 1), .int (f_X1_easedBySleep x2), .int (f_X1_longerSleep x3 q15.2)]) (b := 45) (st := [.int x1, .ref 45]) (ct_X1_needAt hq42) rfl (by decide) rfl ml_X1_185 ld_X1_needAt rfl ⟨Nat.le_of_ble_eq_true rfl, Nat.le_of_ble_eq_true rfl⟩ (Nat.le_of_ble_eq_true rfl) ⟨rfl, rfl⟩ ⟨Nat.le_of_ble_eq_true rfl, Nat.le_of_ble_eq_true rfl⟩ (am_dk tk_X1_needOf 28 rfl) (am_kki ?_)
    refine am_aload_n (j := 1) (am_dk tk_X1_needOf 29 rfl) rfl rfl ?_
    refine am_iload_n (j := 4) (am_dk tk_X1_needOf 30 rfl) rfl rfl ?_
    refine ly_cV (M := m_X1_earned) (As := [.int x3]) (b := 45) (st := [.int q42.1, .int x1, .ref 45]) (ct_X1_earned _ _) rfl (by decide) rfl ml_X1_107 ld_X1_earned rfl ⟨Nat.le_of_ble_eq_true rfl, Nat.le_of_ble_eq_true rfl⟩ (Nat.le_of_ble_eq_true rfl) ⟨rfl, rfl⟩ ⟨Nat.le_of_ble_eq_true rfl, Nat.le_of_ble_eq_true rfl⟩ (am_dk tk_X1_needOf 31 rfl) (am_kki ?_)
    obtain ⟨q50, hq50, h⟩ := am_bind h
    refine ly_cV (M := m_X1_needBefore) (As := [.int x1, .int q42.1, .int (f_X1_earned x3 q42.2)]) (b := 45) (st := []) (ct_X1_needBefore hq50) rfl (by decide) rfl ml_X1_188 ld_X1_needBefore rfl ⟨Nat.le_of_ble_eq_true rfl, Nat.le_of_ble_eq_true rfl⟩ (Nat.le_of_ble_eq_true rfl) ⟨rfl, rfl⟩ ⟨Nat.le_of_ble_eq_true rfl, Nat.le_of_ble_eq_true rfl⟩ (am_dk tk_X1_needOf 32 rfl) (am_kki ?_)
    refine am_istore (L' := [(5, .int q50.1), (4, .int q15.1), (0, .ref 45), (1, .int x1), (2, .int x2), (3, .int x3)]) (am_dk tk_X1_needOf 33 rfl) (Nat.le_of_ble_eq_true rfl) rfl ?_
    refine am_iload (j := 1) (am_dk tk_X1_needOf 34 rfl) rfl ?_
    refine am_iconst (v := (-1)) (am_dk tk_X1_needOf 35 rfl) (by decide) ?_
    refine am_icmp_ne (tgt := 64) (am_dk tk_X1_needOf 36 rfl) (by decide) (fun hc58 => ?_) (fun hc58 => ?_)
    · rw [if_neg hc58] at h
      refine am_iload (j := 0) (am_dk tk_X1_needOf 39 rfl) rfl ?_
      refine am_iconst (v := (-1)) (am_dk tk_X1_needOf 40 rfl) (by decide) ?_
      refine am_icmp_ne (tgt := 75) (am_dk tk_X1_needOf 41 rfl) (by decide) (fun hc67 => ?_) (fun hc67 => ?_)
      · rw [if_neg hc67] at h
        refine am_iload (j := 1) (am_dk tk_X1_needOf 44 rfl) rfl ?_
        refine am_iload (j := 0) (am_dk tk_X1_needOf 45 rfl) rfl ?_
        refine am_mmin lm_X1_157 (Nat.le_of_ble_eq_true rfl) (Nat.le_of_ble_eq_true rfl) ⟨Nat.le_of_ble_eq_true rfl, Nat.le_of_ble_eq_true rfl⟩ (am_dk tk_X1_needOf 46 rfl) ?_
        exact am_iret rfl (am_r2 h hΦ) ⟨Nat.le_of_ble_eq_true rfl, Nat.le_of_ble_eq_true rfl⟩ (am_dk tk_X1_needOf 47 rfl)
      · rw [if_pos hc67] at h
        refine am_iload (j := 1) (am_dk tk_X1_needOf 42 rfl) rfl ?_
        refine am_goto (tgt := 82) (am_dk tk_X1_needOf 43 rfl) (by decide) ?_
        exact am_iret rfl (am_r2 h hΦ) ⟨Nat.le_of_ble_eq_true rfl, Nat.le_of_ble_eq_true rfl⟩ (am_dk tk_X1_needOf 47 rfl)
    · rw [if_pos hc58] at h
      refine am_iload (j := 0) (am_dk tk_X1_needOf 37 rfl) rfl ?_
      exact am_iret rfl (am_r2 h hΦ) ⟨Nat.le_of_ble_eq_true rfl, Nat.le_of_ble_eq_true rfl⟩ (am_dk tk_X1_needOf 38 rfl)
  · rw [if_pos hc21] at h
    refine am_iload (j := 0) (am_dk tk_X1_needOf 15 rfl) rfl ?_
    exact am_iret rfl (am_r2 h hΦ) ⟨Nat.le_of_ble_eq_true rfl, Nat.le_of_ble_eq_true rfl⟩ (am_dk tk_X1_needOf 16 rfl)
abbrev m_X1_turnHourToNeeds : am_D := (yX1_turnHourToNeeds, prog_3_method_25_code, 6, none, { frames := 3, cells := 0, slots := 0, locals := 71 })
theorem ld_X1_turnHourToNeeds : am_LD m_X1_turnHourToNeeds 2 := ⟨(am_tb 83 (by decide +kernel) (by decide +kernel)), (am_tb 708 (by decide +kernel) (by decide +kernel)), by decide, by decide, by decide +kernel⟩
def tb_X1_turnHourToNeeds : List (Nat × Instr × Nat) := [(0, .aload_n 0, 1), (1, .iload_n 1, 1), (2, .invokevirtual 170, 3), (5, .istore_n 3, 1), (6, .iload_n 3, 1), (7, .iload_n 2, 1), (8, .if_icmp .gt 68, 3), (11, .aload_n 0, 1), (12, .iload_n 1, 1), (13, .iload_n 3, 1), (14, .iconst 0, 1), (15, .invokevirtual 115, 3), (18, .istore 4, 2), (20, .iconst 0, 1), (21, .istore 5, 2), (23, .iload 5, 2), (25, .aload_n 0, 1), (26, .getfield 87, 3), (29, .if_icmp .ge 41, 3), (32, .aload_n 0, 1), (33, .getfield 9, 3), (36, .iload 4, 2), (38, .iload 5, 2), (40, .iadd, 1), (41, .iaload, 1), (42, .iconst (-1), 1), (43, .if_icmp .eq 21, 3), (46, .aload_n 0, 1), (47, .getfield 9, 3), (50, .iload 4, 2), (52, .iload 5, 2), (54, .iadd, 1), (55, .aload_n 0, 1), (56, .iload_n 1, 1), (57, .iload_n 3, 1), (58, .iload 5, 2), (60, .invokevirtual 182, 3), (63, .iastore, 1), (64, .iinc 5 1, 3), (67, .goto (-44), 3), (70, .iinc 3 1, 3), (73, .goto (-67), 3), (76, .return_, 1)]
theorem tk_X1_turnHourToNeeds : am_tbl prog_3_method_25_code tb_X1_turnHourToNeeds = true := by decide +kernel
def b_X1_turnHourToNeeds_23 (k6 : Int32 → Int32 → Int32 → am_M → Option am_M) : Nat → Int32 → Int32 → Int32 → Int32 → Int32 → am_M → Option am_M
  | 0, _, _, _, _, _, _ => none
  | n + 1, x1, x2, x3, x4, x5, D => if (D 45 12) ≤ x5 then k6 x1 x2 (x3 + 1) D else if am_in (x4 + x5) 44100 = true then if (D 83 (x4 + x5).toNatClampNeg) = (-1) then b_X1_turnHourToNeeds_23 k6 n x1 x2 x3 x4 (x5 + 1) D else (f_X1_needOf x1 x3 x5 D).bind fun q60 => b_X1_turnHourToNeeds_23 k6 n x1 x2 x3 x4 (x5 + 1) (am_up q60.2 83 (x4 + x5).toNatClampNeg q60.1) else none
def b_X1_turnHourToNeeds_6 : Nat → Int32 → Int32 → Int32 → am_M → Option am_M
  | 0, _, _, _, _ => none
  | n + 1, x1, x2, x3, D => if x2 < x3 then some D else b_X1_turnHourToNeeds_23 (b_X1_turnHourToNeeds_6 n) am_N x1 x2 x3 (f_X1_place x1 x3 0 D) 0 D
def f_X1_turnHourToNeeds (x1 : Int32) (x2 : Int32) (D : am_M) : Option am_M := b_X1_turnHourToNeeds_6 am_N x1 x2 (f_X1_leastTired x1 D) D
theorem bx_X1_turnHourToNeeds_23 {l : Launch} {h0 : am_H} {Φ : am_Ph} {tw : Nat}  {D' : am_M} (hΦ : Φ none (ly tw true D')) {k6 : Int32 → Int32 → Int32 → am_M → Option am_M} (hk6 : ∀ (x1 : Int32) (x2 : Int32) (x3 : Int32) (D : am_M), k6 x1 x2 x3 D = some D' → am_Ex (am_E l m_X1_turnHourToNeeds false h0 Φ) prog_3_method_25_code (0, 0) 6 [(0, .ref 45), (1, .int x1), (2, .int x2), (3, .int x3)] [] (ly tw true D)) : ∀ (n : Nat) (x1 : Int32) (x2 : Int32) (x3 : Int32) (x4 : Int32) (x5 : Int32) (D : am_M), b_X1_turnHourToNeeds_23 k6 n x1 x2 x3 x4 x5 D = some D' → am_Ex (am_E l m_X1_turnHourToNeeds false h0 Φ) prog_3_method_25_code (0, 0) 23 [(0, .ref 45), (1, .int x1), (2, .int x2), (3, .int x3), (4, .int x4), (5, .int x5)] [] (ly tw true D) := by
  intro n
  induction n with
  | zero =>
    intro x1 x2 x3 x4 x5 D h
    exact absurd h (by simp [b_X1_turnHourToNeeds_23])
  | succ n ih =>
    intro x1 x2 x3 x4 x5 D h
    rw [b_X1_turnHourToNeeds_23] at h
    refine am_iload (j := 5) (am_dk tk_X1_turnHourToNeeds 15 rfl) rfl ?_
    refine am_aload_n (j := 0) (am_dk tk_X1_turnHourToNeeds 16 rfl) rfl rfl ?_
    refine ly_geti rfl fl_X1_87 rfl (am_dk tk_X1_turnHourToNeeds 17 rfl) ?_
    refine am_icmp_ge (tgt := 70) (am_dk tk_X1_turnHourToNeeds 18 rfl) (by decide) (fun hc29 => ?_) (fun hc29 => ?_)
    · rw [if_pos hc29] at h
      refine am_iinc (j := 3) (v := x3 + 1) (L' := [(3, .int (x3 + 1)), (0, .ref 45), (1, .int x1), (2, .int x2), (4, .int x4), (5, .int x5)]) (am_dk tk_X1_turnHourToNeeds 40 rfl) rfl rfl (Nat.le_of_ble_eq_true rfl) rfl ?_
      refine am_goto (tgt := 6) (am_dk tk_X1_turnHourToNeeds 41 rfl) (by decide) ?_
      refine am_ls [1, 2, 3, 0] rfl ?_
      exact hk6 _ _ _ _ h
    · rw [if_neg hc29] at h
      refine am_aload_n (j := 0) (am_dk tk_X1_turnHourToNeeds 19 rfl) rfl rfl ?_
      refine ly_getr (b := 83) rfl fl_X1_9 rfl rfl (am_dk tk_X1_turnHourToNeeds 20 rfl) ?_
      refine am_iload (j := 4) (am_dk tk_X1_turnHourToNeeds 21 rfl) rfl ?_
      refine am_iload (j := 5) (am_dk tk_X1_turnHourToNeeds 22 rfl) rfl ?_
      refine am_iadd (am_dk tk_X1_turnHourToNeeds 23 rfl) ?_
      obtain ⟨hi41, h⟩ := am_chk h
      refine ly_iald (k := (x4 + x5).toNatClampNeg) rfl (am_in_vp hi41) rfl (am_dk tk_X1_turnHourToNeeds 24 rfl) ?_
      refine am_iconst (v := (-1)) (am_dk tk_X1_turnHourToNeeds 25 rfl) (by decide) ?_
      refine am_icmp_eq (tgt := 64) (am_dk tk_X1_turnHourToNeeds 26 rfl) (by decide) (fun hc43 => ?_) (fun hc43 => ?_)
      · rw [if_pos hc43] at h
        refine am_iinc (j := 5) (v := x5 + 1) (L' := [(5, .int (x5 + 1)), (0, .ref 45), (1, .int x1), (2, .int x2), (3, .int x3), (4, .int x4)]) (am_dk tk_X1_turnHourToNeeds 38 rfl) rfl rfl (Nat.le_of_ble_eq_true rfl) rfl ?_
        refine am_goto (tgt := 23) (am_dk tk_X1_turnHourToNeeds 39 rfl) (by decide) ?_
        refine am_ls [1, 2, 3, 4, 5, 0] rfl ?_
        exact ih _ _ _ _ _ _ h
      · rw [if_neg hc43] at h
        refine am_aload_n (j := 0) (am_dk tk_X1_turnHourToNeeds 27 rfl) rfl rfl ?_
        refine ly_getr (b := 83) rfl fl_X1_9 rfl rfl (am_dk tk_X1_turnHourToNeeds 28 rfl) ?_
        refine am_iload (j := 4) (am_dk tk_X1_turnHourToNeeds 29 rfl) rfl ?_
        refine am_iload (j := 5) (am_dk tk_X1_turnHourToNeeds 30 rfl) rfl ?_
        refine am_iadd (am_dk tk_X1_turnHourToNeeds 31 rfl) ?_
        refine am_aload_n (j := 0) (am_dk tk_X1_turnHourToNeeds 32 rfl) rfl rfl ?_
        refine am_iload_n (j := 1) (am_dk tk_X1_turnHourToNeeds 33 rfl) rfl rfl ?_
        refine am_iload_n (j := 3) (am_dk tk_X1_turnHourToNeeds 34 rfl) rfl rfl ?_
        refine am_iload (j := 5) (am_dk tk_X1_turnHourToNeeds 35 rfl) rfl ?_
        obtain ⟨q60, hq60, h⟩ := am_bind h
        refine ly_cV (M := m_X1_needOf) (As := [.int x1, .int x3, .int x5]) (b := 45) (st := [.int (x4 + x5), .ref 83]) (ct_X1_needOf hq60) rfl (by decide) rfl ml_X1_182 ld_X1_needOf rfl ⟨Nat.le_of_ble_eq_true rfl, Nat.le_of_ble_eq_true rfl⟩ (Nat.le_of_ble_eq_true rfl) ⟨rfl, rfl⟩ ⟨Nat.le_of_ble_eq_true rfl, Nat.le_of_ble_eq_true rfl⟩ (am_dk tk_X1_turnHourToNeeds 36 rfl) (am_kki ?_)
        refine ly_iast (k := (x4 + x5).toNatClampNeg) rfl (am_in_vp hi41) rfl (am_dk tk_X1_turnHourToNeeds 37 rfl) ?_
        refine am_iinc (j := 5) (v := x5 + 1) (L' := [(5, .int (x5 + 1)), (0, .ref 45), (1, .int x1), (2, .int x2), (3, .int x3), (4, .int x4)]) (am_dk tk_X1_turnHourToNeeds 38 rfl) rfl rfl (Nat.le_of_ble_eq_true rfl) rfl ?_
        refine am_goto (tgt := 23) (am_dk tk_X1_turnHourToNeeds 39 rfl) (by decide) ?_
        refine am_ls [1, 2, 3, 4, 5, 0] rfl ?_
        exact ih _ _ _ _ _ _ h
theorem bx_X1_turnHourToNeeds_6 {l : Launch} {h0 : am_H} {Φ : am_Ph} {tw : Nat}  {D' : am_M} (hΦ : Φ none (ly tw true D')) : ∀ (n : Nat) (x1 : Int32) (x2 : Int32) (x3 : Int32) (D : am_M), b_X1_turnHourToNeeds_6 n x1 x2 x3 D = some D' → am_Ex (am_E l m_X1_turnHourToNeeds false h0 Φ) prog_3_method_25_code (0, 0) 6 [(0, .ref 45), (1, .int x1), (2, .int x2), (3, .int x3)] [] (ly tw true D) := by
  intro n
  induction n with
  | zero =>
    intro x1 x2 x3 D h
    exact absurd h (by simp [b_X1_turnHourToNeeds_6])
  | succ n ih =>
    intro x1 x2 x3 D h
    rw [b_X1_turnHourToNeeds_6] at h
    refine am_iload_n (j := 3) (am_dk tk_X1_turnHourToNeeds 4 rfl) rfl rfl ?_
    refine am_iload_n (j := 2) (am_dk tk_X1_turnHourToNeeds 5 rfl) rfl rfl ?_
    refine am_icmp_gt (tgt := 76) (am_dk tk_X1_turnHourToNeeds 6 rfl) (by decide) (fun hc8 => ?_) (fun hc8 => ?_)
    · rw [if_pos hc8] at h
      exact am_vret rfl (am_r0 h hΦ) ⟨Nat.le_of_ble_eq_true rfl, Nat.le_of_ble_eq_true rfl⟩ (am_dk tk_X1_turnHourToNeeds 42 rfl)
    · rw [if_neg hc8] at h
      refine am_aload_n (j := 0) (am_dk tk_X1_turnHourToNeeds 7 rfl) rfl rfl ?_
      refine am_iload_n (j := 1) (am_dk tk_X1_turnHourToNeeds 8 rfl) rfl rfl ?_
      refine am_iload_n (j := 3) (am_dk tk_X1_turnHourToNeeds 9 rfl) rfl rfl ?_
      refine am_iconst (v := 0) (am_dk tk_X1_turnHourToNeeds 10 rfl) (by decide) ?_
      refine ly_cV (M := m_X1_place) (As := [.int x1, .int x3, .int 0]) (b := 45) (st := []) (ct_X1_place _ _ _ _) rfl (by decide) rfl ml_X1_115 ld_X1_place rfl ⟨Nat.le_of_ble_eq_true rfl, Nat.le_of_ble_eq_true rfl⟩ (Nat.le_of_ble_eq_true rfl) ⟨rfl, rfl⟩ ⟨Nat.le_of_ble_eq_true rfl, Nat.le_of_ble_eq_true rfl⟩ (am_dk tk_X1_turnHourToNeeds 11 rfl) (am_kki ?_)
      refine am_istore (L' := [(4, .int (f_X1_place x1 x3 0 D)), (0, .ref 45), (1, .int x1), (2, .int x2), (3, .int x3)]) (am_dk tk_X1_turnHourToNeeds 12 rfl) (Nat.le_of_ble_eq_true rfl) rfl ?_
      refine am_iconst (v := 0) (am_dk tk_X1_turnHourToNeeds 13 rfl) (by decide) ?_
      refine am_istore (L' := [(5, .int 0), (4, .int (f_X1_place x1 x3 0 D)), (0, .ref 45), (1, .int x1), (2, .int x2), (3, .int x3)]) (am_dk tk_X1_turnHourToNeeds 14 rfl) (Nat.le_of_ble_eq_true rfl) rfl ?_
      refine am_ls [2, 3, 4, 5, 1, 0] rfl ?_
      exact bx_X1_turnHourToNeeds_23  hΦ (ih) am_N _ _ _ _ _ _ h
theorem ct_X1_turnHourToNeeds {l : Launch} {tw : Nat}  {x1 : Int32} {x2 : Int32} {D D' : am_M} (h : f_X1_turnHourToNeeds x1 x2 D = some D') : am_CT l m_X1_turnHourToNeeds false [.ref 45, .int x1, .int x2] (ly tw true D) (am_is none (ly tw true D')) := by
  have hΦ : am_is none (ly tw true D') none (ly tw true D') := ⟨rfl, rfl⟩
  refine am_CT.of (by decide) (Nat.le_of_ble_eq_true rfl) ?_
  show am_Ex _ _ _ 0 [(0, .ref 45), (1, .int x1), (2, .int x2)] [] _
  rw [f_X1_turnHourToNeeds] at h
  refine am_aload_n (j := 0) (am_dk tk_X1_turnHourToNeeds 0 rfl) rfl rfl ?_
  refine am_iload_n (j := 1) (am_dk tk_X1_turnHourToNeeds 1 rfl) rfl rfl ?_
  refine ly_cV (M := m_X1_leastTired) (As := [.int x1]) (b := 45) (st := []) (ct_X1_leastTired _ _) rfl (by decide) rfl ml_X1_170 ld_X1_leastTired rfl ⟨Nat.le_of_ble_eq_true rfl, Nat.le_of_ble_eq_true rfl⟩ (Nat.le_of_ble_eq_true rfl) ⟨rfl, rfl⟩ ⟨Nat.le_of_ble_eq_true rfl, Nat.le_of_ble_eq_true rfl⟩ (am_dk tk_X1_turnHourToNeeds 2 rfl) (am_kki ?_)
  refine am_istore_n (L' := [(3, .int (f_X1_leastTired x1 D)), (0, .ref 45), (1, .int x1), (2, .int x2)]) (am_dk tk_X1_turnHourToNeeds 3 rfl) rfl (Nat.le_of_ble_eq_true rfl) rfl ?_
  refine am_ls [1, 2, 3, 0] rfl ?_
  exact bx_X1_turnHourToNeeds_6  hΦ am_N _ _ _ _ h
abbrev m_X1_turnToNeeds : am_D := (yX1_turnToNeeds, prog_3_method_24_code, 2, none, { frames := 4, cells := 0, slots := 0, locals := 96 })
theorem ld_X1_turnToNeeds : am_LD m_X1_turnToNeeds 0 := ⟨(am_tb 83 (by decide +kernel) (by decide +kernel)), (am_tb 704 (by decide +kernel) (by decide +kernel)), by decide, by decide, by decide +kernel⟩
def tb_X1_turnToNeeds : List (Nat × Instr × Nat) := [(0, .aload_n 0, 1), (1, .getfield 129, 3), (4, .iconst 1, 1), (5, .isub, 1), (6, .istore_n 1, 1), (7, .iload_n 1, 1), (8, .ifCond .le 19, 3), (11, .aload_n 0, 1), (12, .iload_n 1, 1), (13, .aload_n 0, 1), (14, .iload_n 1, 1), (15, .invokevirtual 163, 3), (18, .invokevirtual 179, 3), (21, .iinc 1 (-1), 3), (24, .goto (-17), 3), (27, .return_, 1)]
theorem tk_X1_turnToNeeds : am_tbl prog_3_method_24_code tb_X1_turnToNeeds = true := by decide +kernel
def b_X1_turnToNeeds_7 : Nat → Int32 → am_M → Option am_M
  | 0, _, _ => none
  | n + 1, x1, D => if x1 ≤ 0 then some D else (f_X1_turnHourToNeeds x1 (f_X1_mostTired x1 D) D).bind fun q18 => b_X1_turnToNeeds_7 n (x1 + (-1)) q18
def f_X1_turnToNeeds (D : am_M) : Option am_M := b_X1_turnToNeeds_7 am_N ((D 45 15) - 1) D
theorem bx_X1_turnToNeeds_7 {l : Launch} {h0 : am_H} {Φ : am_Ph} {tw : Nat}  {D' : am_M} (hΦ : Φ none (ly tw true D')) : ∀ (n : Nat) (x1 : Int32) (D : am_M), b_X1_turnToNeeds_7 n x1 D = some D' → am_Ex (am_E l m_X1_turnToNeeds false h0 Φ) prog_3_method_24_code (0, 0) 7 [(0, .ref 45), (1, .int x1)] [] (ly tw true D) := by
  intro n
  induction n with
  | zero =>
    intro x1 D h
    exact absurd h (by simp [b_X1_turnToNeeds_7])
  | succ n ih =>
    intro x1 D h
    rw [b_X1_turnToNeeds_7] at h
    refine am_iload_n (j := 1) (am_dk tk_X1_turnToNeeds 5 rfl) rfl rfl ?_
    refine am_if_le (tgt := 27) (am_dk tk_X1_turnToNeeds 6 rfl) (by decide) (fun hc8 => ?_) (fun hc8 => ?_)
    · rw [if_pos hc8] at h
      exact am_vret rfl (am_r0 h hΦ) ⟨Nat.le_of_ble_eq_true rfl, Nat.le_of_ble_eq_true rfl⟩ (am_dk tk_X1_turnToNeeds 15 rfl)
    · rw [if_neg hc8] at h
      refine am_aload_n (j := 0) (am_dk tk_X1_turnToNeeds 7 rfl) rfl rfl ?_
      refine am_iload_n (j := 1) (am_dk tk_X1_turnToNeeds 8 rfl) rfl rfl ?_
      refine am_aload_n (j := 0) (am_dk tk_X1_turnToNeeds 9 rfl) rfl rfl ?_
      refine am_iload_n (j := 1) (am_dk tk_X1_turnToNeeds 10 rfl) rfl rfl ?_
      refine ly_cV (M := m_X1_mostTired) (As := [.int x1]) (b := 45) (st := [.int x1, .ref 45]) (ct_X1_mostTired _ _) rfl (by decide) rfl ml_X1_163 ld_X1_mostTired rfl ⟨Nat.le_of_ble_eq_true rfl, Nat.le_of_ble_eq_true rfl⟩ (Nat.le_of_ble_eq_true rfl) ⟨rfl, rfl⟩ ⟨Nat.le_of_ble_eq_true rfl, Nat.le_of_ble_eq_true rfl⟩ (am_dk tk_X1_turnToNeeds 11 rfl) (am_kki ?_)
      obtain ⟨q18, hq18, h⟩ := am_bind h
      refine ly_cV (M := m_X1_turnHourToNeeds) (As := [.int x1, .int (f_X1_mostTired x1 D)]) (b := 45) (st := []) (ct_X1_turnHourToNeeds hq18) rfl (by decide) rfl ml_X1_179 ld_X1_turnHourToNeeds rfl ⟨Nat.le_of_ble_eq_true rfl, Nat.le_of_ble_eq_true rfl⟩ (Nat.le_of_ble_eq_true rfl) ⟨rfl, rfl⟩ ⟨Nat.le_of_ble_eq_true rfl, Nat.le_of_ble_eq_true rfl⟩ (am_dk tk_X1_turnToNeeds 12 rfl) (am_kkv ?_)
      refine am_iinc (j := 1) (v := x1 + (-1)) (L' := [(1, .int (x1 + (-1))), (0, .ref 45)]) (am_dk tk_X1_turnToNeeds 13 rfl) rfl rfl (Nat.le_of_ble_eq_true rfl) rfl ?_
      refine am_goto (tgt := 7) (am_dk tk_X1_turnToNeeds 14 rfl) (by decide) ?_
      refine am_ls [1, 0] rfl ?_
      exact ih _ _ h
theorem ct_X1_turnToNeeds {l : Launch} {tw : Nat}  {D D' : am_M} (h : f_X1_turnToNeeds D = some D') : am_CT l m_X1_turnToNeeds false [.ref 45] (ly tw true D) (am_is none (ly tw true D')) := by
  have hΦ : am_is none (ly tw true D') none (ly tw true D') := ⟨rfl, rfl⟩
  refine am_CT.of (by decide) (Nat.le_of_ble_eq_true rfl) ?_
  show am_Ex _ _ _ 0 [(0, .ref 45)] [] _
  rw [f_X1_turnToNeeds] at h
  refine am_aload_n (j := 0) (am_dk tk_X1_turnToNeeds 0 rfl) rfl rfl ?_
  refine ly_geti rfl fl_X1_129 rfl (am_dk tk_X1_turnToNeeds 1 rfl) ?_
  refine am_iconst (v := 1) (am_dk tk_X1_turnToNeeds 2 rfl) (by decide) ?_
  refine am_isub (am_dk tk_X1_turnToNeeds 3 rfl) ?_
  refine am_istore_n (L' := [(1, .int ((D 45 15) - 1)), (0, .ref 45)]) (am_dk tk_X1_turnToNeeds 4 rfl) rfl (Nat.le_of_ble_eq_true rfl) rfl ?_
  refine am_ls [1, 0] rfl ?_
  exact bx_X1_turnToNeeds_7  hΦ am_N _ _ h
abbrev m_X1_walk : am_D := (yX1_walk, prog_3_method_29_code, 6, none, { frames := 2, cells := 0, slots := 0, locals := 46 })
theorem ld_X1_walk : am_LD m_X1_walk 0 := ⟨(am_tb 83 (by decide +kernel) (by decide +kernel)), (am_tb 724 (by decide +kernel) (by decide +kernel)), by decide, by decide, by decide +kernel⟩
def tb_X1_walk : List (Nat × Instr × Nat) := [(0, .aload_n 0, 1), (1, .getfield 50, 3), (4, .istore_n 1, 1), (5, .aload_n 0, 1), (6, .getfield 55, 3), (9, .aload_n 0, 1), (10, .getfield 87, 3), (13, .iconst 1, 1), (14, .isub, 1), (15, .invokestatic 157, 3), (18, .istore_n 2, 1), (19, .aload_n 0, 1), (20, .getfield 60, 3), (23, .istore_n 3, 1), (24, .iconst 0, 1), (25, .istore 4, 2), (27, .iload 4, 2), (29, .aload_n 0, 1), (30, .getfield 38, 3), (33, .if_icmp .ge 111, 3), (36, .iload_n 1, 1), (37, .ifCond .le 23, 3), (40, .aload_n 0, 1), (41, .iload 4, 2), (43, .iconst 1, 1), (44, .iadd, 1), (45, .iload_n 1, 1), (46, .invokestatic 148, 3), (49, .aload_n 0, 1), (50, .iload_n 2, 1), (51, .invokevirtual 151, 3), (54, .invokevirtual 185, 3), (57, .goto 4, 3), (60, .iconst (-1), 1), (61, .istore 5, 2), (63, .iload 5, 2), (65, .iconst (-1), 1), (66, .if_icmp .eq 47, 3), (69, .aload_n 0, 1), (70, .iload 4, 2), (72, .iload_n 2, 1), (73, .iload_n 3, 1), (74, .invokevirtual 173, 3), (77, .iload 5, 2), (79, .if_icmp .lt 34, 3), (82, .aload_n 0, 1), (83, .getfield 25, 3), (86, .iload 4, 2), (88, .iconst 0, 1), (89, .iastore, 1), (90, .aload_n 0, 1), (91, .iload 4, 2), (93, .iload_n 2, 1), (94, .iload_n 3, 1), (95, .invokevirtual 173, 3), (98, .istore_n 3, 1), (99, .iload_n 1, 1), (100, .invokestatic 148, 3), (103, .istore_n 1, 1), (104, .aload_n 0, 1)]
theorem tk_X1_walk : am_tbl prog_3_method_29_code tb_X1_walk = true := by decide +kernel
def tb_X1_walk_1 : List (Nat × Instr × Nat) := [(105, .iload_n 2, 1), (106, .invokevirtual 151, 3), (109, .istore_n 2, 1), (110, .goto 28, 3), (113, .aload_n 0, 1), (114, .getfield 25, 3), (117, .iload 4, 2), (119, .iconst 1, 1), (120, .iastore, 1), (121, .iload_n 3, 1), (122, .aload_n 0, 1), (123, .getfield 22, 3), (126, .iload 4, 2), (128, .iaload, 1), (129, .isub, 1), (130, .istore_n 3, 1), (131, .iload_n 1, 1), (132, .invokestatic 154, 3), (135, .istore_n 1, 1), (136, .iconst 0, 1), (137, .istore_n 2, 1), (138, .iinc 4 1, 3), (141, .goto (-114), 3), (144, .return_, 1)]
theorem tk_X1_walk_1 : am_tbl prog_3_method_29_code tb_X1_walk_1 = true := by decide +kernel
def b_X1_walk_113 (k27 : Int32 → Int32 → Int32 → Int32 → am_M → Option am_M) (x1 : Int32) (x3 : Int32) (x4 : Int32) (D : am_M) : Option am_M := if am_in x4 48 = true then k27 (f_X1_tiredByWork x1) 0 (x3 - ((am_up D 49 x4.toNatClampNeg 1) 48 x4.toNatClampNeg)) (x4 + 1) (am_up D 49 x4.toNatClampNeg 1) else none
def b_X1_walk_61 (k27 : Int32 → Int32 → Int32 → Int32 → am_M → Option am_M) (x1 : Int32) (x2 : Int32) (x3 : Int32) (x4 : Int32) (s0 : Int32) (D : am_M) : Option am_M := if s0 = (-1) then b_X1_walk_113 k27 x1 x3 x4 D else (f_X1_purseAsleep x4 x2 x3 D).bind fun q74 => if q74.1 < s0 then b_X1_walk_113 k27 x1 x3 x4 q74.2 else if am_in x4 48 = true then (f_X1_purseAsleep x4 x2 x3 (am_up q74.2 49 x4.toNatClampNeg 0)).bind fun q95 => k27 (f_X1_easedBySleep x1) (f_X1_longerSleep x2 q95.2) q95.1 (x4 + 1) q95.2 else none
def b_X1_walk_27 : Nat → Int32 → Int32 → Int32 → Int32 → am_M → Option am_M
  | 0, _, _, _, _, _ => none
  | n + 1, x1, x2, x3, x4, D => if (D 45 7) ≤ x4 then some D else if x1 ≤ 0 then b_X1_walk_61 (b_X1_walk_27 n) x1 x2 x3 x4 (-1) D else (f_X1_needAt (x4 + 1) (f_X1_easedBySleep x1) (f_X1_longerSleep x2 D) D).bind fun q54 => b_X1_walk_61 (b_X1_walk_27 n) x1 x2 x3 x4 q54.1 q54.2
def f_X1_walk (D : am_M) : Option am_M := b_X1_walk_27 am_N (D 45 9) (am_min (D 45 10) ((D 45 12) - 1)) (D 45 11) 0 D
theorem bx_X1_walk_113 {l : Launch} {h0 : am_H} {Φ : am_Ph} {tw : Nat}  {D' : am_M} (hΦ : Φ none (ly tw true D')) {k27 : Int32 → Int32 → Int32 → Int32 → am_M → Option am_M} (hk27 : ∀ (x1 : Int32) (x2 : Int32) (x3 : Int32) (x4 : Int32) (D : am_M), k27 x1 x2 x3 x4 D = some D' → am_Ex (am_E l m_X1_walk false h0 Φ) prog_3_method_29_code (0, 0) 27 [(0, .ref 45), (1, .int x1), (2, .int x2), (3, .int x3), (4, .int x4)] [] (ly tw true D)) : ∀ (x1 : Int32) (x3 : Int32) (x4 : Int32) (D : am_M), b_X1_walk_113 k27 x1 x3 x4 D = some D' → am_Ex (am_E l m_X1_walk false h0 Φ) prog_3_method_29_code (0, 0) 113 [(0, .ref 45), (1, .int x1), (3, .int x3), (4, .int x4)] [] (ly tw true D) := by
  intro x1 x3 x4 D h
  rw [b_X1_walk_113] at h
  refine am_aload_n (j := 0) (am_dk tk_X1_walk_1 4 rfl) rfl rfl ?_
  refine ly_getr (b := 49) rfl fl_X1_25 rfl rfl (am_dk tk_X1_walk_1 5 rfl) ?_
  refine am_iload (j := 3) (am_dk tk_X1_walk_1 6 rfl) rfl ?_
  refine am_iconst (v := 1) (am_dk tk_X1_walk_1 7 rfl) (by decide) ?_
  obtain ⟨hi120, h⟩ := am_chk h
  refine ly_iast (k := x4.toNatClampNeg) rfl (am_in_vp hi120) rfl (am_dk tk_X1_walk_1 8 rfl) ?_
  refine am_iload_n (j := 2) (am_dk tk_X1_walk_1 9 rfl) rfl rfl ?_
  refine am_aload_n (j := 0) (am_dk tk_X1_walk_1 10 rfl) rfl rfl ?_
  refine ly_getr (b := 48) rfl fl_X1_22 rfl rfl (am_dk tk_X1_walk_1 11 rfl) ?_
  refine am_iload (j := 3) (am_dk tk_X1_walk_1 12 rfl) rfl ?_
  refine ly_iald (k := x4.toNatClampNeg) rfl (am_in_vp hi120) rfl (am_dk tk_X1_walk_1 13 rfl) ?_
  refine am_isub (am_dk tk_X1_walk_1 14 rfl) ?_
  refine am_istore_n (L' := [(3, .int (x3 - ((am_up D 49 x4.toNatClampNeg 1) 48 x4.toNatClampNeg))), (0, .ref 45), (1, .int x1), (4, .int x4)]) (am_dk tk_X1_walk_1 15 rfl) rfl (Nat.le_of_ble_eq_true rfl) rfl ?_
  refine am_iload_n (j := 2) (am_dk tk_X1_walk_1 16 rfl) rfl rfl ?_
  refine am_cS (M := m_X1_tiredByWork) (As := [.int x1]) (st := []) (ct_X1_tiredByWork _ _) ml_X1_154 ld_X1_tiredByWork rfl ⟨Nat.le_of_ble_eq_true rfl, Nat.le_of_ble_eq_true rfl⟩ (Nat.le_of_ble_eq_true rfl) ⟨rfl, rfl⟩ ⟨Nat.le_of_ble_eq_true rfl, Nat.le_of_ble_eq_true rfl⟩ (am_dk tk_X1_walk_1 17 rfl) (am_kki ?_)
  refine am_istore_n (L' := [(1, .int (f_X1_tiredByWork x1)), (3, .int (x3 - ((am_up D 49 x4.toNatClampNeg 1) 48 x4.toNatClampNeg))), (0, .ref 45), (4, .int x4)]) (am_dk tk_X1_walk_1 18 rfl) rfl (Nat.le_of_ble_eq_true rfl) rfl ?_
  refine am_iconst (v := 0) (am_dk tk_X1_walk_1 19 rfl) (by decide) ?_
  refine am_istore_n (L' := [(2, .int 0), (1, .int (f_X1_tiredByWork x1)), (3, .int (x3 - ((am_up D 49 x4.toNatClampNeg 1) 48 x4.toNatClampNeg))), (0, .ref 45), (4, .int x4)]) (am_dk tk_X1_walk_1 20 rfl) rfl (Nat.le_of_ble_eq_true rfl) rfl ?_
  refine am_iinc (j := 4) (v := x4 + 1) (L' := [(4, .int (x4 + 1)), (2, .int 0), (1, .int (f_X1_tiredByWork x1)), (3, .int (x3 - ((am_up D 49 x4.toNatClampNeg 1) 48 x4.toNatClampNeg))), (0, .ref 45)]) (am_dk tk_X1_walk_1 21 rfl) rfl rfl (Nat.le_of_ble_eq_true rfl) rfl ?_
  refine am_goto (tgt := 27) (am_dk tk_X1_walk_1 22 rfl) (by decide) ?_
  refine am_ls [4, 2, 1, 3, 0] rfl ?_
  exact hk27 _ _ _ _ _ h
theorem bx_X1_walk_61 {l : Launch} {h0 : am_H} {Φ : am_Ph} {tw : Nat}  {D' : am_M} (hΦ : Φ none (ly tw true D')) {k27 : Int32 → Int32 → Int32 → Int32 → am_M → Option am_M} (hk27 : ∀ (x1 : Int32) (x2 : Int32) (x3 : Int32) (x4 : Int32) (D : am_M), k27 x1 x2 x3 x4 D = some D' → am_Ex (am_E l m_X1_walk false h0 Φ) prog_3_method_29_code (0, 0) 27 [(0, .ref 45), (1, .int x1), (2, .int x2), (3, .int x3), (4, .int x4)] [] (ly tw true D)) : ∀ (x1 : Int32) (x2 : Int32) (x3 : Int32) (x4 : Int32) (s0 : Int32) (D : am_M), b_X1_walk_61 k27 x1 x2 x3 x4 s0 D = some D' → am_Ex (am_E l m_X1_walk false h0 Φ) prog_3_method_29_code (0, 0) 61 [(0, .ref 45), (1, .int x1), (2, .int x2), (3, .int x3), (4, .int x4)] [.int s0] (ly tw true D) := by
  intro x1 x2 x3 x4 s0 D h
  rw [b_X1_walk_61] at h
  refine am_istore (L' := [(5, .int s0), (0, .ref 45), (1, .int x1), (2, .int x2), (3, .int x3), (4, .int x4)]) (am_dk tk_X1_walk 34 rfl) (Nat.le_of_ble_eq_true rfl) rfl ?_
  refine am_iload (j := 0) (am_dk tk_X1_walk 35 rfl) rfl ?_
  refine am_iconst (v := (-1)) (am_dk tk_X1_walk 36 rfl) (by decide) ?_
  refine am_icmp_eq (tgt := 113) (am_dk tk_X1_walk 37 rfl) (by decide) (fun hc66 => ?_) (fun hc66 => ?_)
  · rw [if_pos hc66] at h
    refine am_ls [1, 2, 4, 5] rfl ?_
    exact bx_X1_walk_113  hΦ hk27 _ _ _ _ h
  · rw [if_neg hc66] at h
    refine am_aload_n (j := 1) (am_dk tk_X1_walk 38 rfl) rfl rfl ?_
    refine am_iload (j := 5) (am_dk tk_X1_walk 39 rfl) rfl ?_
    refine am_iload_n (j := 3) (am_dk tk_X1_walk 40 rfl) rfl rfl ?_
    refine am_iload_n (j := 4) (am_dk tk_X1_walk 41 rfl) rfl rfl ?_
    obtain ⟨q74, hq74, h⟩ := am_bind h
    refine ly_cV (M := m_X1_purseAsleep) (As := [.int x4, .int x2, .int x3]) (b := 45) (st := []) (ct_X1_purseAsleep hq74) rfl (by decide) rfl ml_X1_173 ld_X1_purseAsleep rfl ⟨Nat.le_of_ble_eq_true rfl, Nat.le_of_ble_eq_true rfl⟩ (Nat.le_of_ble_eq_true rfl) ⟨rfl, rfl⟩ ⟨Nat.le_of_ble_eq_true rfl, Nat.le_of_ble_eq_true rfl⟩ (am_dk tk_X1_walk 42 rfl) (am_kki ?_)
    refine am_iload (j := 0) (am_dk tk_X1_walk 43 rfl) rfl ?_
    refine am_icmp_lt (tgt := 113) (am_dk tk_X1_walk 44 rfl) (by decide) (fun hc79 => ?_) (fun hc79 => ?_)
    · rw [if_pos hc79] at h
      refine am_ls [1, 2, 4, 5] rfl ?_
      exact bx_X1_walk_113  hΦ hk27 _ _ _ _ h
    · rw [if_neg hc79] at h
      refine am_aload_n (j := 1) (am_dk tk_X1_walk 45 rfl) rfl rfl ?_
      refine ly_getr (b := 49) rfl fl_X1_25 rfl rfl (am_dk tk_X1_walk 46 rfl) ?_
      refine am_iload (j := 5) (am_dk tk_X1_walk 47 rfl) rfl ?_
      refine am_iconst (v := 0) (am_dk tk_X1_walk 48 rfl) (by decide) ?_
      obtain ⟨hi89, h⟩ := am_chk h
      refine ly_iast (k := x4.toNatClampNeg) rfl (am_in_vp hi89) rfl (am_dk tk_X1_walk 49 rfl) ?_
      refine am_aload_n (j := 1) (am_dk tk_X1_walk 50 rfl) rfl rfl ?_
      refine am_iload (j := 5) (am_dk tk_X1_walk 51 rfl) rfl ?_
      refine am_iload_n (j := 3) (am_dk tk_X1_walk 52 rfl) rfl rfl ?_
      refine am_iload_n (j := 4) (am_dk tk_X1_walk 53 rfl) rfl rfl ?_
      obtain ⟨q95, hq95, h⟩ := am_bind h
      refine ly_cV (M := m_X1_purseAsleep) (As := [.int x4, .int x2, .int x3]) (b := 45) (st := []) (ct_X1_purseAsleep hq95) rfl (by decide) rfl ml_X1_173 ld_X1_purseAsleep rfl ⟨Nat.le_of_ble_eq_true rfl, Nat.le_of_ble_eq_true rfl⟩ (Nat.le_of_ble_eq_true rfl) ⟨rfl, rfl⟩ ⟨Nat.le_of_ble_eq_true rfl, Nat.le_of_ble_eq_true rfl⟩ (am_dk tk_X1_walk 54 rfl) (am_kki ?_)
      refine am_istore_n (L' := [(3, .int q95.1), (5, .int s0), (0, .ref 45), (1, .int x1), (2, .int x2), (4, .int x4)]) (am_dk tk_X1_walk 55 rfl) rfl (Nat.le_of_ble_eq_true rfl) rfl ?_
      refine am_iload_n (j := 3) (am_dk tk_X1_walk 56 rfl) rfl rfl ?_
      refine am_cS (M := m_X1_easedBySleep) (As := [.int x1]) (st := []) (ct_X1_easedBySleep _ _) ml_X1_148 ld_X1_easedBySleep rfl ⟨Nat.le_of_ble_eq_true rfl, Nat.le_of_ble_eq_true rfl⟩ (Nat.le_of_ble_eq_true rfl) ⟨rfl, rfl⟩ ⟨Nat.le_of_ble_eq_true rfl, Nat.le_of_ble_eq_true rfl⟩ (am_dk tk_X1_walk 57 rfl) (am_kki ?_)
      refine am_istore_n (L' := [(1, .int (f_X1_easedBySleep x1)), (3, .int q95.1), (5, .int s0), (0, .ref 45), (2, .int x2), (4, .int x4)]) (am_dk tk_X1_walk 58 rfl) rfl (Nat.le_of_ble_eq_true rfl) rfl ?_
      refine am_aload_n (j := 3) (am_dk tk_X1_walk 59 rfl) rfl rfl ?_
      refine am_iload_n (j := 4) (am_dk tk_X1_walk_1 0 rfl) rfl rfl ?_
      refine ly_cV (M := m_X1_longerSleep) (As := [.int x2]) (b := 45) (st := []) (ct_X1_longerSleep _ _) rfl (by decide) rfl ml_X1_151 ld_X1_longerSleep rfl ⟨Nat.le_of_ble_eq_true rfl, Nat.le_of_ble_eq_true rfl⟩ (Nat.le_of_ble_eq_true rfl) ⟨rfl, rfl⟩ ⟨Nat.le_of_ble_eq_true rfl, Nat.le_of_ble_eq_true rfl⟩ (am_dk tk_X1_walk_1 1 rfl) (am_kki ?_)
      refine am_istore_n (L' := [(2, .int (f_X1_longerSleep x2 q95.2)), (1, .int (f_X1_easedBySleep x1)), (3, .int q95.1), (5, .int s0), (0, .ref 45), (4, .int x4)]) (am_dk tk_X1_walk_1 2 rfl) rfl (Nat.le_of_ble_eq_true rfl) rfl ?_
      refine am_goto (tgt := 138) (am_dk tk_X1_walk_1 3 rfl) (by decide) ?_
      refine am_iinc (j := 5) (v := x4 + 1) (L' := [(4, .int (x4 + 1)), (2, .int (f_X1_longerSleep x2 q95.2)), (1, .int (f_X1_easedBySleep x1)), (3, .int q95.1), (5, .int s0), (0, .ref 45)]) (am_dk tk_X1_walk_1 21 rfl) rfl rfl (Nat.le_of_ble_eq_true rfl) rfl ?_
      refine am_goto (tgt := 27) (am_dk tk_X1_walk_1 22 rfl) (by decide) ?_
      refine am_ls [5, 2, 1, 3, 0] rfl ?_
      exact hk27 _ _ _ _ _ h
theorem bx_X1_walk_27 {l : Launch} {h0 : am_H} {Φ : am_Ph} {tw : Nat}  {D' : am_M} (hΦ : Φ none (ly tw true D')) : ∀ (n : Nat) (x1 : Int32) (x2 : Int32) (x3 : Int32) (x4 : Int32) (D : am_M), b_X1_walk_27 n x1 x2 x3 x4 D = some D' → am_Ex (am_E l m_X1_walk false h0 Φ) prog_3_method_29_code (0, 0) 27 [(0, .ref 45), (1, .int x1), (2, .int x2), (3, .int x3), (4, .int x4)] [] (ly tw true D) := by
  intro n
  induction n with
  | zero =>
    intro x1 x2 x3 x4 D h
    exact absurd h (by simp [b_X1_walk_27])
  | succ n ih =>
    intro x1 x2 x3 x4 D h
    rw [b_X1_walk_27] at h
    refine am_iload (j := 4) (am_dk tk_X1_walk 16 rfl) rfl ?_
    refine am_aload_n (j := 0) (am_dk tk_X1_walk 17 rfl) rfl rfl ?_
    refine ly_geti rfl fl_X1_38 rfl (am_dk tk_X1_walk 18 rfl) ?_
    refine am_icmp_ge (tgt := 144) (am_dk tk_X1_walk 19 rfl) (by decide) (fun hc33 => ?_) (fun hc33 => ?_)
    · rw [if_pos hc33] at h
      exact am_vret rfl (am_r0 h hΦ) ⟨Nat.le_of_ble_eq_true rfl, Nat.le_of_ble_eq_true rfl⟩ (am_dk tk_X1_walk_1 23 rfl)
    · rw [if_neg hc33] at h
      refine am_iload_n (j := 1) (am_dk tk_X1_walk 20 rfl) rfl rfl ?_
      refine am_if_le (tgt := 60) (am_dk tk_X1_walk 21 rfl) (by decide) (fun hc37 => ?_) (fun hc37 => ?_)
      · rw [if_pos hc37] at h
        refine am_iconst (v := (-1)) (am_dk tk_X1_walk 33 rfl) (by decide) ?_
        exact bx_X1_walk_61  hΦ (ih) _ _ _ _ _ _ h
      · rw [if_neg hc37] at h
        refine am_aload_n (j := 0) (am_dk tk_X1_walk 22 rfl) rfl rfl ?_
        refine am_iload (j := 4) (am_dk tk_X1_walk 23 rfl) rfl ?_
        refine am_iconst (v := 1) (am_dk tk_X1_walk 24 rfl) (by decide) ?_
        refine am_iadd (am_dk tk_X1_walk 25 rfl) ?_
        refine am_iload_n (j := 1) (am_dk tk_X1_walk 26 rfl) rfl rfl ?_
        refine am_cS (M := m_X1_easedBySleep) (As := [.int x1]) (st := [.int (x4 + 1), .ref 45]) (ct_X1_easedBySleep _ _) ml_X1_148 ld_X1_easedBySleep rfl ⟨Nat.le_of_ble_eq_true rfl, Nat.le_of_ble_eq_true rfl⟩ (Nat.le_of_ble_eq_true rfl) ⟨rfl, rfl⟩ ⟨Nat.le_of_ble_eq_true rfl, Nat.le_of_ble_eq_true rfl⟩ (am_dk tk_X1_walk 27 rfl) (am_kki ?_)
        refine am_aload_n (j := 0) (am_dk tk_X1_walk 28 rfl) rfl rfl ?_
        refine am_iload_n (j := 2) (am_dk tk_X1_walk 29 rfl) rfl rfl ?_
        refine ly_cV (M := m_X1_longerSleep) (As := [.int x2]) (b := 45) (st := [.int (f_X1_easedBySleep x1), .int (x4 + 1), .ref 45]) (ct_X1_longerSleep _ _) rfl (by decide) rfl ml_X1_151 ld_X1_longerSleep rfl ⟨Nat.le_of_ble_eq_true rfl, Nat.le_of_ble_eq_true rfl⟩ (Nat.le_of_ble_eq_true rfl) ⟨rfl, rfl⟩ ⟨Nat.le_of_ble_eq_true rfl, Nat.le_of_ble_eq_true rfl⟩ (am_dk tk_X1_walk 30 rfl) (am_kki ?_)
        obtain ⟨q54, hq54, h⟩ := am_bind h
        refine ly_cV (M := m_X1_needAt) (As := [.int (x4 + 1), .int (f_X1_easedBySleep x1), .int (f_X1_longerSleep x2 D)]) (b := 45) (st := []) (ct_X1_needAt hq54) rfl (by decide) rfl ml_X1_185 ld_X1_needAt rfl ⟨Nat.le_of_ble_eq_true rfl, Nat.le_of_ble_eq_true rfl⟩ (Nat.le_of_ble_eq_true rfl) ⟨rfl, rfl⟩ ⟨Nat.le_of_ble_eq_true rfl, Nat.le_of_ble_eq_true rfl⟩ (am_dk tk_X1_walk 31 rfl) (am_kki ?_)
        refine am_goto (tgt := 61) (am_dk tk_X1_walk 32 rfl) (by decide) ?_
        exact bx_X1_walk_61  hΦ (ih) _ _ _ _ _ _ h
theorem ct_X1_walk {l : Launch} {tw : Nat}  {D D' : am_M} (h : f_X1_walk D = some D') : am_CT l m_X1_walk false [.ref 45] (ly tw true D) (am_is none (ly tw true D')) := by
  have hΦ : am_is none (ly tw true D') none (ly tw true D') := ⟨rfl, rfl⟩
  refine am_CT.of (by decide) (Nat.le_of_ble_eq_true rfl) ?_
  show am_Ex _ _ _ 0 [(0, .ref 45)] [] _
  rw [f_X1_walk] at h
  refine am_aload_n (j := 0) (am_dk tk_X1_walk 0 rfl) rfl rfl ?_
  refine ly_geti rfl fl_X1_50 rfl (am_dk tk_X1_walk 1 rfl) ?_
  refine am_istore_n (L' := [(1, .int (D 45 9)), (0, .ref 45)]) (am_dk tk_X1_walk 2 rfl) rfl (Nat.le_of_ble_eq_true rfl) rfl ?_
  refine am_aload_n (j := 1) (am_dk tk_X1_walk 3 rfl) rfl rfl ?_
  refine ly_geti rfl fl_X1_55 rfl (am_dk tk_X1_walk 4 rfl) ?_
  refine am_aload_n (j := 1) (am_dk tk_X1_walk 5 rfl) rfl rfl ?_
  refine ly_geti rfl fl_X1_87 rfl (am_dk tk_X1_walk 6 rfl) ?_
  refine am_iconst (v := 1) (am_dk tk_X1_walk 7 rfl) (by decide) ?_
  refine am_isub (am_dk tk_X1_walk 8 rfl) ?_
  refine am_mmin lm_X1_157 (Nat.le_of_ble_eq_true rfl) (Nat.le_of_ble_eq_true rfl) ⟨Nat.le_of_ble_eq_true rfl, Nat.le_of_ble_eq_true rfl⟩ (am_dk tk_X1_walk 9 rfl) ?_
  refine am_istore_n (L' := [(2, .int (am_min (D 45 10) ((D 45 12) - 1))), (1, .int (D 45 9)), (0, .ref 45)]) (am_dk tk_X1_walk 10 rfl) rfl (Nat.le_of_ble_eq_true rfl) rfl ?_
  refine am_aload_n (j := 2) (am_dk tk_X1_walk 11 rfl) rfl rfl ?_
  refine ly_geti rfl fl_X1_60 rfl (am_dk tk_X1_walk 12 rfl) ?_
  refine am_istore_n (L' := [(3, .int (D 45 11)), (2, .int (am_min (D 45 10) ((D 45 12) - 1))), (1, .int (D 45 9)), (0, .ref 45)]) (am_dk tk_X1_walk 13 rfl) rfl (Nat.le_of_ble_eq_true rfl) rfl ?_
  refine am_iconst (v := 0) (am_dk tk_X1_walk 14 rfl) (by decide) ?_
  refine am_istore (L' := [(4, .int 0), (3, .int (D 45 11)), (2, .int (am_min (D 45 10) ((D 45 12) - 1))), (1, .int (D 45 9)), (0, .ref 45)]) (am_dk tk_X1_walk 15 rfl) (Nat.le_of_ble_eq_true rfl) rfl ?_
  refine am_ls [4, 3, 2, 1, 0] rfl ?_
  exact bx_X1_walk_27  hΦ am_N _ _ _ _ _ h
abbrev m_X1_prepareTables : am_D := (yX1_prepareTables, prog_3_method_5_code, 2, none, { frames := 4, cells := 2, slots := 88200, locals := 82 })
theorem ld_X1_prepareTables : am_LD m_X1_prepareTables 1 := ⟨(am_tb 83 (by decide +kernel) (by decide +kernel)), (am_tb 625 (by decide +kernel) (by decide +kernel)), by decide, by decide, by decide +kernel⟩
def tb_X1_prepareTables : List (Nat × Instr × Nat) := [(0, .aload_n 0, 1), (1, .aload_n 1, 1), (2, .getfield 82, 3), (5, .putfield 87, 3), (8, .aload_n 0, 1), (9, .aload_n 1, 1), (10, .getfield 88, 3), (13, .putfield 91, 3), (16, .aload_n 0, 1), (17, .bipush 100, 2), (19, .aload_n 0, 1), (20, .getfield 87, 3), (23, .imul, 1), (24, .putfield 92, 3), (27, .aload_n 0, 1), (28, .getfield 9, 3), (31, .arraylength, 1), (32, .ifCond .ne 19, 3), (35, .aload_n 0, 1), (36, .ldc 95, 2), (38, .newarray .int, 2), (40, .putfield 9, 3), (43, .aload_n 0, 1), (44, .ldc 95, 2), (46, .newarray .int, 2), (48, .putfield 15, 3), (51, .aload_n 0, 1), (52, .getfield 18, 3), (55, .ifCond .ne 7, 3), (58, .aload_n 0, 1), (59, .invokevirtual 96, 3), (62, .aload_n 0, 1), (63, .getfield 18, 3), (66, .aload_n 0, 1), (67, .getfield 38, 3), (70, .if_icmp .ge 24, 3), (73, .aload_n 0, 1), (74, .dup, 1), (75, .getfield 18, 3), (78, .iconst 1, 1), (79, .iadd, 1), (80, .putfield 18, 3), (83, .aload_n 0, 1), (84, .aload_n 0, 1), (85, .getfield 18, 3), (88, .invokevirtual 99, 3), (91, .goto (-29), 3), (94, .return_, 1)]
theorem tk_X1_prepareTables : am_tbl prog_3_method_5_code tb_X1_prepareTables = true := by decide +kernel
theorem mk_tables {l : Launch} {h0 : am_H} {Φ : am_Ph} {tw : Nat} {D : am_M} (hle : h0.1.length ≤ 83) (k : am_Ex (am_E l m_X1_prepareTables true h0 Φ) prog_3_method_5_code (2, 88200) 51 [(0, .ref 45)] [] (ly tw true (am_row (am_row D 83 (fun _ => 0)) 84 (fun _ => 0)))) : am_Ex (am_E l m_X1_prepareTables true h0 Φ) prog_3_method_5_code (0, 0) 35 [(0, .ref 45)] [] (ly tw false D) := by
  refine am_aload_n (j := 0) (am_dk tk_X1_prepareTables 18 rfl) rfl rfl ?_
  refine am_ldc kc_X1_95 (am_dk tk_X1_prepareTables 19 rfl) ?_
  refine am_newa (t := 0) (N := 44100) (ty := .int) rfl (Or.inl ⟨rfl, rfl⟩) rfl hle (Nat.le_of_ble_eq_true rfl) rfl rfl (am_tb 149 (by decide +kernel) (by decide +kernel)) (by decide) (by decide) (by decide) ⟨Nat.le_of_ble_eq_true rfl, Nat.le_of_ble_eq_true rfl⟩ (am_dk tk_X1_prepareTables 20 rfl) ?_
  refine am_putr (b := 83) (c := 1) (z := 0) (k := 0) (Nat.le_of_ble_eq_true rfl) rfl fl_X1_9 rfl rfl rfl (am_dk tk_X1_prepareTables 21 rfl) ?_
  refine am_aload_n (j := 0) (am_dk tk_X1_prepareTables 22 rfl) rfl rfl ?_
  refine am_ldc kc_X1_95 (am_dk tk_X1_prepareTables 23 rfl) ?_
  refine am_newa (t := 0) (N := 44100) (ty := .int) rfl (Or.inl ⟨rfl, rfl⟩) rfl (Nat.le_trans hle (Nat.le_of_ble_eq_true rfl)) (Nat.le_of_ble_eq_true rfl) rfl rfl (am_tb 149 (by decide +kernel) (by decide +kernel)) (by decide) (by decide) (by decide) ⟨Nat.le_of_ble_eq_true rfl, Nat.le_of_ble_eq_true rfl⟩ (am_dk tk_X1_prepareTables 24 rfl) ?_
  refine am_putr (b := 84) (c := 1) (z := 0) (k := 1) (Nat.le_of_ble_eq_true rfl) rfl fl_X1_15 rfl rfl rfl (am_dk tk_X1_prepareTables 25 rfl) ?_
  refine am_h (h' := ly tw true (am_row (am_row D 83 (fun _ => 0)) 84 (fun _ => 0))) ?_ k
  refine Prod.ext rfl (Prod.ext ?_ rfl)
  funext a j
  show am_upR (fun a' j' => if a' = 84 then none else am_upR (fun a2 j2 => if a2 = 83 then none else lyR tw false a2 j2) 45 0 (some 83) a' j') 45 1 (some 84) a j = lyR tw true a j
  by_cases h1 : a = 45 ∧ j = 0
  · obtain ⟨rfl, rfl⟩ := h1
    rfl
  · by_cases h2 : a = 45 ∧ j = 1
    · obtain ⟨rfl, rfl⟩ := h2
      rfl
    · by_cases h3 : a = 84
      · subst h3
        simp [am_upR, lyR, lyR0]
      · by_cases h4 : a = 83
        · subst h4
          simp [am_upR, lyR, lyR0]
        · simp [am_upR, lyR, h1, h2, h3, h4]
def b_X1_prepareTables_62 (T : Nat) : Nat → am_M → Option am_M
  | 0, _ => none
  | n + 1, D => if (D 45 7) ≤ (D 45 2) then some D else (f_X1_learnEarnings ((am_up D 45 2 ((D 45 2) + 1)) 45 2) (am_up D 45 2 ((D 45 2) + 1))).bind fun q88 => b_X1_prepareTables_62 T n q88
def b_X1_prepareTables_51 (T : Nat) (D : am_M) : Option am_M := if (D 45 2) = 0 then (f_X1_clearLastEarnings D).bind fun q59 => b_X1_prepareTables_62 T am_N q59 else b_X1_prepareTables_62 T am_N D
theorem bx_X1_prepareTables_62 {l : Launch} {h0 : am_H} {Φ : am_Ph} {tw : Nat} {T : Nat} (hT : lyT T) {D' : am_M} (hΦ : Φ none (ly tw true D')) {cs : Nat × Nat} (hcs : cs.1 ≤ 2 ∧ cs.2 ≤ 88200) : ∀ (n : Nat) (D : am_M), b_X1_prepareTables_62 T n D = some D' → am_Ex (am_E l m_X1_prepareTables true h0 Φ) prog_3_method_5_code cs 62 [(0, .ref 45)] [] (ly tw true D) := by
  intro n
  induction n with
  | zero =>
    intro D h
    exact absurd h (by simp [b_X1_prepareTables_62])
  | succ n ih =>
    intro D h
    rw [b_X1_prepareTables_62] at h
    refine am_aload_n (j := 0) (am_dk tk_X1_prepareTables 31 rfl) rfl rfl ?_
    refine ly_geti rfl fl_X1_18 rfl (am_dk tk_X1_prepareTables 32 rfl) ?_
    refine am_aload_n (j := 0) (am_dk tk_X1_prepareTables 33 rfl) rfl rfl ?_
    refine ly_geti rfl fl_X1_38 rfl (am_dk tk_X1_prepareTables 34 rfl) ?_
    refine am_icmp_ge (tgt := 94) (am_dk tk_X1_prepareTables 35 rfl) (by decide) (fun hc70 => ?_) (fun hc70 => ?_)
    · rw [if_pos hc70] at h
      exact am_vret rfl (am_r0 h hΦ) hcs (am_dk tk_X1_prepareTables 47 rfl)
    · rw [if_neg hc70] at h
      refine am_aload_n (j := 0) (am_dk tk_X1_prepareTables 36 rfl) rfl rfl ?_
      refine am_dup (am_dk tk_X1_prepareTables 37 rfl) rfl ?_
      refine ly_geti rfl fl_X1_18 rfl (am_dk tk_X1_prepareTables 38 rfl) ?_
      refine am_iconst (v := 1) (am_dk tk_X1_prepareTables 39 rfl) (by decide) ?_
      refine am_iadd (am_dk tk_X1_prepareTables 40 rfl) ?_
      refine ly_puti rfl fl_X1_18 rfl rfl (am_dk tk_X1_prepareTables 41 rfl) ?_
      refine am_aload_n (j := 0) (am_dk tk_X1_prepareTables 42 rfl) rfl rfl ?_
      refine am_aload_n (j := 0) (am_dk tk_X1_prepareTables 43 rfl) rfl rfl ?_
      refine ly_geti rfl fl_X1_18 rfl (am_dk tk_X1_prepareTables 44 rfl) ?_
      obtain ⟨q88, hq88, h⟩ := am_bind h
      refine ly_cV (M := m_X1_learnEarnings) (As := [.int ((am_up D 45 2 ((D 45 2) + 1)) 45 2)]) (b := 45) (st := []) (ct_X1_learnEarnings hq88) rfl (by decide) rfl ml_X1_99 ld_X1_learnEarnings rfl ⟨Nat.le_of_ble_eq_true rfl, Nat.le_of_ble_eq_true rfl⟩ (Nat.le_of_ble_eq_true rfl) ⟨rfl, rfl⟩ hcs (am_dk tk_X1_prepareTables 45 rfl) (am_kkv ?_)
      refine am_goto (tgt := 62) (am_dk tk_X1_prepareTables 46 rfl) (by decide) ?_
      exact ih _ h
theorem bx_X1_prepareTables_51 {l : Launch} {h0 : am_H} {Φ : am_Ph} {tw : Nat} {T : Nat} (hT : lyT T) {D' : am_M} (hΦ : Φ none (ly tw true D')) {cs : Nat × Nat} (hcs : cs.1 ≤ 2 ∧ cs.2 ≤ 88200) : ∀ (D : am_M), b_X1_prepareTables_51 T D = some D' → am_Ex (am_E l m_X1_prepareTables true h0 Φ) prog_3_method_5_code cs 51 [(0, .ref 45)] [] (ly tw true D) := by
  intro D h
  rw [b_X1_prepareTables_51] at h
  refine am_aload_n (j := 0) (am_dk tk_X1_prepareTables 26 rfl) rfl rfl ?_
  refine ly_geti rfl fl_X1_18 rfl (am_dk tk_X1_prepareTables 27 rfl) ?_
  refine am_if_ne (tgt := 62) (am_dk tk_X1_prepareTables 28 rfl) (by decide) (fun hc55 => ?_) (fun hc55 => ?_)
  · rw [if_neg hc55] at h
    exact bx_X1_prepareTables_62 hT hΦ hcs am_N _ h
  · rw [if_pos hc55] at h
    refine am_aload_n (j := 0) (am_dk tk_X1_prepareTables 29 rfl) rfl rfl ?_
    obtain ⟨q59, hq59, h⟩ := am_bind h
    refine ly_cV (M := m_X1_clearLastEarnings) (As := []) (b := 45) (st := []) (ct_X1_clearLastEarnings hq59) rfl (by decide) rfl ml_X1_96 ld_X1_clearLastEarnings rfl ⟨Nat.le_of_ble_eq_true rfl, Nat.le_of_ble_eq_true rfl⟩ (Nat.le_of_ble_eq_true rfl) ⟨rfl, rfl⟩ hcs (am_dk tk_X1_prepareTables 30 rfl) (am_kkv ?_)
    exact bx_X1_prepareTables_62 hT hΦ hcs am_N _ h
def f_X1_prepareTablesT (T : Nat) (D : am_M) : Option am_M := b_X1_prepareTables_51 T (am_up (am_up (am_up D 45 12 (D T 1)) 45 13 ((am_up D 45 12 (D T 1)) T 2)) 45 14 (100 * ((am_up (am_up D 45 12 (D T 1)) 45 13 ((am_up D 45 12 (D T 1)) T 2)) 45 12)))
theorem ct_X1_prepareTablesT {l : Launch} {tw : Nat} {T : Nat} (hT : lyT T) {D D' : am_M} (h : f_X1_prepareTablesT T D = some D') : am_CT l m_X1_prepareTables true [.ref 45, .ref T] (ly tw true D) (am_is none (ly tw true D')) := by
  have hΦ : am_is none (ly tw true D') none (ly tw true D') := ⟨rfl, rfl⟩
  refine am_CT.of (by decide) (Nat.le_of_ble_eq_true rfl) ?_
  show am_Ex _ _ _ 0 [(0, .ref 45), (1, .ref T)] [] _
  rw [f_X1_prepareTablesT] at h
  refine am_aload_n (j := 0) (am_dk tk_X1_prepareTables 0 rfl) rfl rfl ?_
  refine am_aload_n (j := 1) (am_dk tk_X1_prepareTables 1 rfl) rfl rfl ?_
  refine ly_geti (lyT_s hT) fl_X1_82 rfl (am_dk tk_X1_prepareTables 2 rfl) ?_
  refine ly_puti rfl fl_X1_87 rfl rfl (am_dk tk_X1_prepareTables 3 rfl) ?_
  refine am_aload_n (j := 0) (am_dk tk_X1_prepareTables 4 rfl) rfl rfl ?_
  refine am_aload_n (j := 1) (am_dk tk_X1_prepareTables 5 rfl) rfl rfl ?_
  refine ly_geti (lyT_s hT) fl_X1_88 rfl (am_dk tk_X1_prepareTables 6 rfl) ?_
  refine ly_puti rfl fl_X1_91 rfl rfl (am_dk tk_X1_prepareTables 7 rfl) ?_
  refine am_aload_n (j := 0) (am_dk tk_X1_prepareTables 8 rfl) rfl rfl ?_
  refine am_bipush (v := 100) (am_dk tk_X1_prepareTables 9 rfl) (by decide) ?_
  refine am_aload_n (j := 0) (am_dk tk_X1_prepareTables 10 rfl) rfl rfl ?_
  refine ly_geti rfl fl_X1_87 rfl (am_dk tk_X1_prepareTables 11 rfl) ?_
  refine am_imul (am_dk tk_X1_prepareTables 12 rfl) ?_
  refine ly_puti rfl fl_X1_92 rfl rfl (am_dk tk_X1_prepareTables 13 rfl) ?_
  refine am_aload_n (j := 0) (am_dk tk_X1_prepareTables 14 rfl) rfl rfl ?_
  refine ly_getr (b := 83) rfl fl_X1_9 rfl rfl (am_dk tk_X1_prepareTables 15 rfl) ?_
  refine ly_alen rfl (am_dk tk_X1_prepareTables 16 rfl) ?_
  refine am_if_ne (tgt := 51) (am_dk tk_X1_prepareTables 17 rfl) (by decide) (fun _ => ?_) (fun hc => absurd hc (by decide))
  refine am_ls [0] rfl ?_
  exact bx_X1_prepareTables_51 hT hΦ ⟨Nat.le_of_ble_eq_true rfl, Nat.le_of_ble_eq_true rfl⟩ _ h
def f_X1_prepareTablesF (T : Nat) (D : am_M) : Option am_M := b_X1_prepareTables_51 T (am_row (am_row (am_up (am_up (am_up D 45 12 (D T 1)) 45 13 ((am_up D 45 12 (D T 1)) T 2)) 45 14 (100 * ((am_up (am_up D 45 12 (D T 1)) 45 13 ((am_up D 45 12 (D T 1)) T 2)) 45 12))) 83 (fun _ => 0)) 84 (fun _ => 0))
theorem ct_X1_prepareTablesF {l : Launch} {tw : Nat} {T : Nat} (hT : lyT T) {D D' : am_M} (h : f_X1_prepareTablesF T D = some D') : am_CT l m_X1_prepareTables true [.ref 45, .ref T] (ly tw false D) (am_is none (ly tw true D')) := by
  have hΦ : am_is none (ly tw true D') none (ly tw true D') := ⟨rfl, rfl⟩
  refine am_CT.of (by decide) (Nat.le_of_ble_eq_true rfl) ?_
  show am_Ex _ _ _ 0 [(0, .ref 45), (1, .ref T)] [] _
  rw [f_X1_prepareTablesF] at h
  have hle : (ly tw false D).1.length ≤ 83 := Nat.le_of_ble_eq_true rfl
  refine am_aload_n (j := 0) (am_dk tk_X1_prepareTables 0 rfl) rfl rfl ?_
  refine am_aload_n (j := 1) (am_dk tk_X1_prepareTables 1 rfl) rfl rfl ?_
  refine ly_geti (lyT_s hT) fl_X1_82 rfl (am_dk tk_X1_prepareTables 2 rfl) ?_
  refine ly_puti rfl fl_X1_87 rfl rfl (am_dk tk_X1_prepareTables 3 rfl) ?_
  refine am_aload_n (j := 0) (am_dk tk_X1_prepareTables 4 rfl) rfl rfl ?_
  refine am_aload_n (j := 1) (am_dk tk_X1_prepareTables 5 rfl) rfl rfl ?_
  refine ly_geti (lyT_s hT) fl_X1_88 rfl (am_dk tk_X1_prepareTables 6 rfl) ?_
  refine ly_puti rfl fl_X1_91 rfl rfl (am_dk tk_X1_prepareTables 7 rfl) ?_
  refine am_aload_n (j := 0) (am_dk tk_X1_prepareTables 8 rfl) rfl rfl ?_
  refine am_bipush (v := 100) (am_dk tk_X1_prepareTables 9 rfl) (by decide) ?_
  refine am_aload_n (j := 0) (am_dk tk_X1_prepareTables 10 rfl) rfl rfl ?_
  refine ly_geti rfl fl_X1_87 rfl (am_dk tk_X1_prepareTables 11 rfl) ?_
  refine am_imul (am_dk tk_X1_prepareTables 12 rfl) ?_
  refine ly_puti rfl fl_X1_92 rfl rfl (am_dk tk_X1_prepareTables 13 rfl) ?_
  refine am_aload_n (j := 0) (am_dk tk_X1_prepareTables 14 rfl) rfl rfl ?_
  refine ly_getr (b := 46) rfl fl_X1_9 rfl rfl (am_dk tk_X1_prepareTables 15 rfl) ?_
  refine ly_alen rfl (am_dk tk_X1_prepareTables 16 rfl) ?_
  refine am_if_ne (tgt := 51) (am_dk tk_X1_prepareTables 17 rfl) (by decide) (fun hc => absurd rfl hc) (fun _ => ?_)
  refine am_ls [0] rfl ?_
  refine mk_tables hle ?_
  exact bx_X1_prepareTables_51 hT hΦ ⟨Nat.le_of_ble_eq_true rfl, Nat.le_of_ble_eq_true rfl⟩ _ h
def f_X1_prepareTables (T : Nat) (tp : Bool) (D : am_M) : Option am_M := if tp = true then f_X1_prepareTablesT T D else f_X1_prepareTablesF T D
theorem ct_X1_prepareTables {l : Launch} {tw : Nat} {tp : Bool} {T : Nat} (hT : lyT T) {D D' : am_M} (h : f_X1_prepareTables T tp D = some D') : am_CT l m_X1_prepareTables true [.ref 45, .ref T] (ly tw tp D) (am_is none (ly tw true D')) := by
  cases tp with
  | true => exact ct_X1_prepareTablesT hT h
  | false => exact ct_X1_prepareTablesF hT h
theorem lyL_ok {tw : Nat} {D : am_M} {tp : Bool} {T : Nat} (hT : lyT T) : ([(0, Value.ref 45), (1, Value.ref T)] : List (Nat × Value)).all (fun q => am_ok (ly tw tp D).1.length q.2) = true := by
  rcases hT with rfl | rfl <;> cases tp <;> rfl
abbrev m_X1_make : am_D := (yX1_make, prog_3_method_3_code, 5, none, { frames := 5, cells := 2, slots := 88200, locals := 117 })
theorem ld_X1_make : am_LD m_X1_make 4 := ⟨(am_tb 83 (by decide +kernel) (by decide +kernel)), (am_tb 617 (by decide +kernel) (by decide +kernel)), by decide, by decide, by decide +kernel⟩
def tb_X1_make : List (Nat × Instr × Nat) := [(0, .aload_n 0, 1), (1, .aload_n 2, 1), (2, .iload_n 3, 1), (3, .iload 4, 2), (5, .invokevirtual 34, 3), (8, .ifCond .eq 4, 3), (11, .return_, 1), (12, .aload_n 0, 1), (13, .iload_n 3, 1), (14, .putfield 31, 3), (17, .aload_n 0, 1), (18, .iload 4, 2), (20, .putfield 38, 3), (23, .aload_n 0, 1), (24, .aload_n 2, 1), (25, .getfield 41, 3), (28, .putfield 46, 3), (31, .aload_n 0, 1), (32, .aload_n 2, 1), (33, .getfield 47, 3), (36, .iload_n 3, 1), (37, .iaload, 1), (38, .putfield 50, 3), (41, .aload_n 0, 1), (42, .aload_n 2, 1), (43, .getfield 52, 3), (46, .iload_n 3, 1), (47, .iaload, 1), (48, .putfield 55, 3), (51, .aload_n 0, 1), (52, .aload_n 2, 1), (53, .getfield 57, 3), (56, .iload_n 3, 1), (57, .iaload, 1), (58, .putfield 60, 3), (61, .aload_n 0, 1), (62, .aload_n 1, 1), (63, .invokevirtual 62, 3), (66, .aload_n 0, 1), (67, .aload_n 1, 1), (68, .invokevirtual 66, 3), (71, .aload_n 0, 1), (72, .invokevirtual 69, 3), (75, .aload_n 0, 1), (76, .aload_n 0, 1), (77, .invokevirtual 72, 3), (80, .putfield 28, 3), (83, .aload_n 0, 1), (84, .getfield 28, 3), (87, .iconst (-1), 1), (88, .if_icmp .ne 4, 3), (91, .return_, 1), (92, .aload_n 0, 1), (93, .invokevirtual 76, 3), (96, .aload_n 0, 1), (97, .invokevirtual 79, 3), (100, .return_, 1)]
theorem tk_X1_make : am_tbl prog_3_method_3_code tb_X1_make = true := by decide +kernel
def f_X1_make (T M : Nat) (tp : Bool) (x3 x4 : Int32) (D : am_M) : Option (Bool × am_M) := (f_X1_isMade M x3 x4 D).bind fun q5 => if q5.1 = 0 then if am_in x3 5 = true then (f_X1_prepareTables T tp (am_up (am_up (am_up (am_up (am_up (am_up q5.2 45 6 x3) 45 7 x4) 45 8 ((am_up (am_up q5.2 45 6 x3) 45 7 x4) M 6)) 45 9 ((am_up (am_up (am_up q5.2 45 6 x3) 45 7 x4) 45 8 ((am_up (am_up q5.2 45 6 x3) 45 7 x4) M 6)) (M + 1) x3.toNatClampNeg)) 45 10 ((am_up (am_up (am_up (am_up q5.2 45 6 x3) 45 7 x4) 45 8 ((am_up (am_up q5.2 45 6 x3) 45 7 x4) M 6)) 45 9 ((am_up (am_up (am_up q5.2 45 6 x3) 45 7 x4) 45 8 ((am_up (am_up q5.2 45 6 x3) 45 7 x4) M 6)) (M + 1) x3.toNatClampNeg)) (M + 2) x3.toNatClampNeg)) 45 11 ((am_up (am_up (am_up (am_up (am_up q5.2 45 6 x3) 45 7 x4) 45 8 ((am_up (am_up q5.2 45 6 x3) 45 7 x4) M 6)) 45 9 ((am_up (am_up (am_up q5.2 45 6 x3) 45 7 x4) 45 8 ((am_up (am_up q5.2 45 6 x3) 45 7 x4) M 6)) (M + 1) x3.toNatClampNeg)) 45 10 ((am_up (am_up (am_up (am_up q5.2 45 6 x3) 45 7 x4) 45 8 ((am_up (am_up q5.2 45 6 x3) 45 7 x4) M 6)) 45 9 ((am_up (am_up (am_up q5.2 45 6 x3) 45 7 x4) 45 8 ((am_up (am_up q5.2 45 6 x3) 45 7 x4) M 6)) (M + 1) x3.toNatClampNeg)) (M + 2) x3.toNatClampNeg)) (M + 3) x3.toNatClampNeg))).bind fun q63 => (f_X1_countOwed T q63).bind fun q68 => (f_X1_spread q68).bind fun q72 => (f_X1_mostAtEnd q72).bind fun q77 => if ((am_up q77.2 45 5 q77.1) 45 5) = (-1) then some (true, am_up q77.2 45 5 q77.1) else (f_X1_turnToNeeds (am_up q77.2 45 5 q77.1)).bind fun q93 => (f_X1_walk q93).bind fun q97 => some (true, q97) else none else some (tp, q5.2)
theorem ct_X1_make {l : Launch} {tw : Nat} {tp : Bool} {T : Nat} (hT : lyT T) {M : Nat} (hM : lyM M) {x3 x4 : Int32} {D : am_M} {q : Bool × am_M} (h : f_X1_make T M tp x3 x4 D = some q) : am_CT l m_X1_make true [.ref 45, .ref T, .ref M, .int x3, .int x4] (ly tw tp D) (am_is none (ly tw q.1 q.2)) := by
  have hΦ : am_is none (ly tw q.1 q.2) none (ly tw q.1 q.2) := ⟨rfl, rfl⟩
  refine am_CT.of (by decide) (Nat.le_of_ble_eq_true rfl) ?_
  show am_Ex _ _ _ 0 [(0, .ref 45), (1, .ref T), (2, .ref M), (3, .int x3), (4, .int x4)] [] _
  rw [f_X1_make] at h
  refine am_aload_n (j := 0) (am_dk tk_X1_make 0 rfl) rfl rfl ?_
  refine am_aload_n (j := 2) (am_dk tk_X1_make 1 rfl) rfl rfl ?_
  refine am_iload_n (j := 3) (am_dk tk_X1_make 2 rfl) rfl rfl ?_
  refine am_iload (j := 4) (am_dk tk_X1_make 3 rfl) rfl ?_
  obtain ⟨q5, hq5, h⟩ := am_bind h
  refine ly_cV (M := m_X1_isMade) (As := [.ref M, .int x3, .int x4]) (b := 45) (st := []) (ct_X1_isMade hM hq5) rfl (by decide) rfl ml_X1_34 ld_X1_isMade rfl ⟨Nat.le_of_ble_eq_true rfl, Nat.le_of_ble_eq_true rfl⟩ (Nat.le_of_ble_eq_true rfl) ⟨rfl, rfl⟩ ⟨Nat.le_of_ble_eq_true rfl, Nat.le_of_ble_eq_true rfl⟩ (am_dk tk_X1_make 4 rfl) (am_kki ?_)
  refine am_if_eq (tgt := 12) (am_dk tk_X1_make 5 rfl) (by decide) (fun hc8 => ?_) (fun hc8 => ?_)
  · rw [if_pos hc8] at h
    refine am_aload_n (j := 0) (am_dk tk_X1_make 7 rfl) rfl rfl ?_
    refine am_iload_n (j := 3) (am_dk tk_X1_make 8 rfl) rfl rfl ?_
    refine ly_puti rfl fl_X1_31 rfl rfl (am_dk tk_X1_make 9 rfl) ?_
    refine am_aload_n (j := 0) (am_dk tk_X1_make 10 rfl) rfl rfl ?_
    refine am_iload (j := 4) (am_dk tk_X1_make 11 rfl) rfl ?_
    refine ly_puti rfl fl_X1_38 rfl rfl (am_dk tk_X1_make 12 rfl) ?_
    refine am_aload_n (j := 0) (am_dk tk_X1_make 13 rfl) rfl rfl ?_
    refine am_aload_n (j := 2) (am_dk tk_X1_make 14 rfl) rfl rfl ?_
    refine ly_geti (lyM_s hM) fl_X1_41 rfl (am_dk tk_X1_make 15 rfl) ?_
    refine ly_puti rfl fl_X1_46 rfl rfl (am_dk tk_X1_make 16 rfl) ?_
    refine am_aload_n (j := 0) (am_dk tk_X1_make 17 rfl) rfl rfl ?_
    refine am_aload_n (j := 2) (am_dk tk_X1_make 18 rfl) rfl rfl ?_
    refine ly_getr (b := (M + 1)) (lyM_s hM) fl_X1_47 rfl (lyM_r0 hM) (am_dk tk_X1_make 19 rfl) ?_
    refine am_iload_n (j := 3) (am_dk tk_X1_make 20 rfl) rfl rfl ?_
    obtain ⟨hi37, h⟩ := am_chk h
    refine ly_iald (k := x3.toNatClampNeg) (lyM_a0 hM) (am_in_vp hi37) rfl (am_dk tk_X1_make 21 rfl) ?_
    refine ly_puti rfl fl_X1_50 rfl rfl (am_dk tk_X1_make 22 rfl) ?_
    refine am_aload_n (j := 0) (am_dk tk_X1_make 23 rfl) rfl rfl ?_
    refine am_aload_n (j := 2) (am_dk tk_X1_make 24 rfl) rfl rfl ?_
    refine ly_getr (b := (M + 2)) (lyM_s hM) fl_X1_52 rfl (lyM_r1 hM) (am_dk tk_X1_make 25 rfl) ?_
    refine am_iload_n (j := 3) (am_dk tk_X1_make 26 rfl) rfl rfl ?_
    refine ly_iald (k := x3.toNatClampNeg) (lyM_a1 hM) (am_in_vp hi37) rfl (am_dk tk_X1_make 27 rfl) ?_
    refine ly_puti rfl fl_X1_55 rfl rfl (am_dk tk_X1_make 28 rfl) ?_
    refine am_aload_n (j := 0) (am_dk tk_X1_make 29 rfl) rfl rfl ?_
    refine am_aload_n (j := 2) (am_dk tk_X1_make 30 rfl) rfl rfl ?_
    refine ly_getr (b := (M + 3)) (lyM_s hM) fl_X1_57 rfl (lyM_r2 hM) (am_dk tk_X1_make 31 rfl) ?_
    refine am_iload_n (j := 3) (am_dk tk_X1_make 32 rfl) rfl rfl ?_
    refine ly_iald (k := x3.toNatClampNeg) (lyM_a2 hM) (am_in_vp hi37) rfl (am_dk tk_X1_make 33 rfl) ?_
    refine ly_puti rfl fl_X1_60 rfl rfl (am_dk tk_X1_make 34 rfl) ?_
    refine am_aload_n (j := 0) (am_dk tk_X1_make 35 rfl) rfl rfl ?_
    refine am_aload_n (j := 1) (am_dk tk_X1_make 36 rfl) rfl rfl ?_
    refine am_ls [0, 1] rfl ?_
    obtain ⟨q63, hq63, h⟩ := am_bind h
    refine am_callVA (M := m_X1_prepareTables) (As := [.ref T]) (b := 45) (st := []) rfl (Nat.le_refl _) (lyL_ok hT) rfl (ct_X1_prepareTables hT hq63) rfl (by decide) rfl ml_X1_62 ld_X1_prepareTables rfl ⟨Nat.le_of_ble_eq_true rfl, Nat.le_of_ble_eq_true rfl⟩ (Nat.le_of_ble_eq_true rfl) ⟨Nat.le_of_ble_eq_true rfl, Nat.le_of_ble_eq_true rfl⟩ (am_dk tk_X1_make 37 rfl) (am_kkv ?_)
    refine am_aload_n (j := 0) (am_dk tk_X1_make 38 rfl) rfl rfl ?_
    refine am_aload_n (j := 1) (am_dk tk_X1_make 39 rfl) rfl rfl ?_
    obtain ⟨q68, hq68, h⟩ := am_bind h
    refine ly_cV (M := m_X1_countOwed) (As := [.ref T]) (b := 45) (st := []) (ct_X1_countOwed hT hq68) rfl (by decide) rfl ml_X1_66 ld_X1_countOwed rfl ⟨Nat.le_of_ble_eq_true rfl, Nat.le_of_ble_eq_true rfl⟩ (Nat.le_of_ble_eq_true rfl) ⟨rfl, rfl⟩ ⟨Nat.le_of_ble_eq_true rfl, Nat.le_of_ble_eq_true rfl⟩ (am_dk tk_X1_make 40 rfl) (am_kkv ?_)
    refine am_aload_n (j := 0) (am_dk tk_X1_make 41 rfl) rfl rfl ?_
    obtain ⟨q72, hq72, h⟩ := am_bind h
    refine ly_cV (M := m_X1_spread) (As := []) (b := 45) (st := []) (ct_X1_spread hq72) rfl (by decide) rfl ml_X1_69 ld_X1_spread rfl ⟨Nat.le_of_ble_eq_true rfl, Nat.le_of_ble_eq_true rfl⟩ (Nat.le_of_ble_eq_true rfl) ⟨rfl, rfl⟩ ⟨Nat.le_of_ble_eq_true rfl, Nat.le_of_ble_eq_true rfl⟩ (am_dk tk_X1_make 42 rfl) (am_kkv ?_)
    refine am_aload_n (j := 0) (am_dk tk_X1_make 43 rfl) rfl rfl ?_
    refine am_aload_n (j := 0) (am_dk tk_X1_make 44 rfl) rfl rfl ?_
    obtain ⟨q77, hq77, h⟩ := am_bind h
    refine ly_cV (M := m_X1_mostAtEnd) (As := []) (b := 45) (st := [.ref 45]) (ct_X1_mostAtEnd hq77) rfl (by decide) rfl ml_X1_72 ld_X1_mostAtEnd rfl ⟨Nat.le_of_ble_eq_true rfl, Nat.le_of_ble_eq_true rfl⟩ (Nat.le_of_ble_eq_true rfl) ⟨rfl, rfl⟩ ⟨Nat.le_of_ble_eq_true rfl, Nat.le_of_ble_eq_true rfl⟩ (am_dk tk_X1_make 45 rfl) (am_kki ?_)
    refine ly_puti rfl fl_X1_28 rfl rfl (am_dk tk_X1_make 46 rfl) ?_
    refine am_aload_n (j := 0) (am_dk tk_X1_make 47 rfl) rfl rfl ?_
    refine ly_geti rfl fl_X1_28 rfl (am_dk tk_X1_make 48 rfl) ?_
    refine am_iconst (v := (-1)) (am_dk tk_X1_make 49 rfl) (by decide) ?_
    refine am_icmp_ne (tgt := 92) (am_dk tk_X1_make 50 rfl) (by decide) (fun hc88 => ?_) (fun hc88 => ?_)
    · rw [if_neg hc88] at h
      refine am_aload_n (j := 0) (am_dk tk_X1_make 52 rfl) rfl rfl ?_
      obtain ⟨q93, hq93, h⟩ := am_bind h
      refine ly_cV (M := m_X1_turnToNeeds) (As := []) (b := 45) (st := []) (ct_X1_turnToNeeds hq93) rfl (by decide) rfl ml_X1_76 ld_X1_turnToNeeds rfl ⟨Nat.le_of_ble_eq_true rfl, Nat.le_of_ble_eq_true rfl⟩ (Nat.le_of_ble_eq_true rfl) ⟨rfl, rfl⟩ ⟨Nat.le_of_ble_eq_true rfl, Nat.le_of_ble_eq_true rfl⟩ (am_dk tk_X1_make 53 rfl) (am_kkv ?_)
      refine am_aload_n (j := 0) (am_dk tk_X1_make 54 rfl) rfl rfl ?_
      obtain ⟨q97, hq97, h⟩ := am_bind h
      refine ly_cV (M := m_X1_walk) (As := []) (b := 45) (st := []) (ct_X1_walk hq97) rfl (by decide) rfl ml_X1_79 ld_X1_walk rfl ⟨Nat.le_of_ble_eq_true rfl, Nat.le_of_ble_eq_true rfl⟩ (Nat.le_of_ble_eq_true rfl) ⟨rfl, rfl⟩ ⟨Nat.le_of_ble_eq_true rfl, Nat.le_of_ble_eq_true rfl⟩ (am_dk tk_X1_make 55 rfl) (am_kkv ?_)
      exact am_vret rfl (am_rm0 h hΦ) ⟨Nat.le_of_ble_eq_true rfl, Nat.le_of_ble_eq_true rfl⟩ (am_dk tk_X1_make 56 rfl)
    · rw [if_pos hc88] at h
      exact am_vret rfl (am_rm0 h hΦ) ⟨Nat.le_of_ble_eq_true rfl, Nat.le_of_ble_eq_true rfl⟩ (am_dk tk_X1_make 51 rfl)
  · rw [if_neg hc8] at h
    exact am_vret rfl (am_rm0 h hΦ) ⟨Nat.le_of_ble_eq_true rfl, Nat.le_of_ble_eq_true rfl⟩ (am_dk tk_X1_make 6 rfl)
