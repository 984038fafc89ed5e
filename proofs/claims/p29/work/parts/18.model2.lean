abbrev m_X6_hour : am_D := (yX6_hour, prog_8_method_32_code, 4, (some .int), { frames := 3, cells := 0, slots := 0, locals := 68 })
theorem ld_X6_hour : am_LD m_X6_hour 1 := ⟨(am_tb 85 (by decide +kernel) (by decide +kernel)), (am_tb 1066 (by decide +kernel) (by decide +kernel)), by decide, by decide, by decide +kernel⟩
def tb_X6_hour : List (Nat × Instr × Nat) := [(0, .aload_n 0, 1), (1, .iload_n 1, 1), (2, .invokevirtual 218, 3), (5, .istore_n 2, 1), (6, .iconst 0, 1), (7, .istore_n 3, 1), (8, .iload_n 3, 1), (9, .iload_n 1, 1), (10, .if_icmp .ge 17, 3), (13, .iload_n 2, 1), (14, .ifCond .ne 13, 3), (17, .aload_n 0, 1), (18, .invokevirtual 221, 3), (21, .iinc 3 1, 3), (24, .goto (-16), 3), (27, .iload_n 2, 1), (28, .ifCond .ne 14, 3), (31, .aload_n 0, 1), (32, .getfield 25, 3), (35, .sipush 137, 3), (38, .iaload, 1), (39, .goto 4, 3), (42, .iload_n 2, 1), (43, .ireturn, 1)]
theorem tk_X6_hour : am_tbl prog_8_method_32_code tb_X6_hour = true := by decide +kernel
def b_X6_hour_27 (x2 : Int32) (D : am_M) : Option (Int32 × am_M) := if x2 = 0 then some (D 62 137, D) else some (x2, D)
def b_X6_hour_8 : Nat → Int32 → Int32 → Int32 → am_M → Option (Int32 × am_M)
  | 0, _, _, _, _ => none
  | n + 1, x1, x2, x3, D => if x1 ≤ x3 then b_X6_hour_27 x2 D else if x2 = 0 then (f_X6_pass D).bind fun q18 => b_X6_hour_8 n x1 x2 (x3 + 1) q18 else b_X6_hour_27 x2 D
def f_X6_hour (x1 : Int32) (D : am_M) : Option (Int32 × am_M) := b_X6_hour_8 am_N x1 (f_X6_hoursRefused x1 D) 0 D
theorem bx_X6_hour_27 {l : Launch} {h0 : am_H} {Φ : am_Ph} {tw : Nat} {tp : Bool}  {r : Int32} {D' : am_M} (hΦ : Φ (some (.int r)) (ly tw tp D')) : ∀ (x2 : Int32) (D : am_M), b_X6_hour_27 x2 D = some (r, D') → am_Ex (am_E l m_X6_hour false h0 Φ) prog_8_method_32_code (0, 0) 27 [(0, .ref 56), (2, .int x2)] [] (ly tw tp D) := by
  intro x2 D h
  rw [b_X6_hour_27] at h
  refine am_iload_n (j := 1) (am_dk tk_X6_hour 15 rfl) rfl rfl ?_
  refine am_if_ne (tgt := 42) (am_dk tk_X6_hour 16 rfl) (by decide) (fun hc28 => ?_) (fun hc28 => ?_)
  · rw [if_neg hc28] at h
    refine am_iload_n (j := 1) (am_dk tk_X6_hour 22 rfl) rfl rfl ?_
    exact am_iret rfl (am_r2 h hΦ) ⟨Nat.le_of_ble_eq_true rfl, Nat.le_of_ble_eq_true rfl⟩ (am_dk tk_X6_hour 23 rfl)
  · rw [if_pos hc28] at h
    refine am_aload_n (j := 0) (am_dk tk_X6_hour 17 rfl) rfl rfl ?_
    refine ly_getr (b := 62) rfl fl_X6_25 rfl rfl (am_dk tk_X6_hour 18 rfl) ?_
    refine am_sipush (v := 137) (am_dk tk_X6_hour 19 rfl) (by decide) ?_
    refine ly_iald (k := 137) rfl (am_in_vp (by decide)) rfl (am_dk tk_X6_hour 20 rfl) ?_
    refine am_goto (tgt := 43) (am_dk tk_X6_hour 21 rfl) (by decide) ?_
    exact am_iret rfl (am_r2 h hΦ) ⟨Nat.le_of_ble_eq_true rfl, Nat.le_of_ble_eq_true rfl⟩ (am_dk tk_X6_hour 23 rfl)
theorem bx_X6_hour_8 {l : Launch} {h0 : am_H} {Φ : am_Ph} {tw : Nat} {tp : Bool}  {r : Int32} {D' : am_M} (hΦ : Φ (some (.int r)) (ly tw tp D')) : ∀ (n : Nat) (x1 : Int32) (x2 : Int32) (x3 : Int32) (D : am_M), b_X6_hour_8 n x1 x2 x3 D = some (r, D') → am_Ex (am_E l m_X6_hour false h0 Φ) prog_8_method_32_code (0, 0) 8 [(0, .ref 56), (1, .int x1), (2, .int x2), (3, .int x3)] [] (ly tw tp D) := by
  intro n
  induction n with
  | zero =>
    intro x1 x2 x3 D h
    exact absurd h (by simp [b_X6_hour_8])
  | succ n ih =>
    intro x1 x2 x3 D h
    rw [b_X6_hour_8] at h
    refine am_iload_n (j := 3) (am_dk tk_X6_hour 6 rfl) rfl rfl ?_
    refine am_iload_n (j := 1) (am_dk tk_X6_hour 7 rfl) rfl rfl ?_
    refine am_icmp_ge (tgt := 27) (am_dk tk_X6_hour 8 rfl) (by decide) (fun hc10 => ?_) (fun hc10 => ?_)
    · rw [if_pos hc10] at h
      refine am_ls [0, 2] rfl ?_
      exact bx_X6_hour_27  hΦ _ _ h
    · rw [if_neg hc10] at h
      refine am_iload_n (j := 2) (am_dk tk_X6_hour 9 rfl) rfl rfl ?_
      refine am_if_ne (tgt := 27) (am_dk tk_X6_hour 10 rfl) (by decide) (fun hc14 => ?_) (fun hc14 => ?_)
      · rw [if_neg hc14] at h
        refine am_ls [0, 2] rfl ?_
        exact bx_X6_hour_27  hΦ _ _ h
      · rw [if_pos hc14] at h
        refine am_aload_n (j := 0) (am_dk tk_X6_hour 11 rfl) rfl rfl ?_
        obtain ⟨q18, hq18, h⟩ := am_bind h
        refine ly_cV (M := m_X6_pass) (As := []) (b := 56) (st := []) (ct_X6_pass hq18) rfl (by decide) rfl ml_X6_221 ld_X6_pass rfl ⟨Nat.le_of_ble_eq_true rfl, Nat.le_of_ble_eq_true rfl⟩ (Nat.le_of_ble_eq_true rfl) ⟨rfl, rfl⟩ ⟨Nat.le_of_ble_eq_true rfl, Nat.le_of_ble_eq_true rfl⟩ (am_dk tk_X6_hour 12 rfl) (am_kkv ?_)
        refine am_iinc (j := 3) (v := x3 + 1) (L' := [(3, .int (x3 + 1)), (0, .ref 56), (1, .int x1), (2, .int x2)]) (am_dk tk_X6_hour 13 rfl) rfl rfl (Nat.le_of_ble_eq_true rfl) rfl ?_
        refine am_goto (tgt := 8) (am_dk tk_X6_hour 14 rfl) (by decide) ?_
        refine am_ls [1, 2, 3, 0] rfl ?_
        exact ih _ _ _ _ h
theorem ct_X6_hour {l : Launch} {tw : Nat} {tp : Bool}  {x1 : Int32} {r : Int32} {D D' : am_M} (h : f_X6_hour x1 D = some (r, D')) : am_CT l m_X6_hour false [.ref 56, .int x1] (ly tw tp D) (am_is (some (.int r)) (ly tw tp D')) := by
  have hΦ : am_is (some (.int r)) (ly tw tp D') (some (.int r)) (ly tw tp D') := ⟨rfl, rfl⟩
  refine am_CT.of (by decide) (Nat.le_of_ble_eq_true rfl) ?_
  show am_Ex _ _ _ 0 [(0, .ref 56), (1, .int x1)] [] _
  rw [f_X6_hour] at h
  refine am_aload_n (j := 0) (am_dk tk_X6_hour 0 rfl) rfl rfl ?_
  refine am_iload_n (j := 1) (am_dk tk_X6_hour 1 rfl) rfl rfl ?_
  refine ly_cV (M := m_X6_hoursRefused) (As := [.int x1]) (b := 56) (st := []) (ct_X6_hoursRefused _ _) rfl (by decide) rfl ml_X6_218 ld_X6_hoursRefused rfl ⟨Nat.le_of_ble_eq_true rfl, Nat.le_of_ble_eq_true rfl⟩ (Nat.le_of_ble_eq_true rfl) ⟨rfl, rfl⟩ ⟨Nat.le_of_ble_eq_true rfl, Nat.le_of_ble_eq_true rfl⟩ (am_dk tk_X6_hour 2 rfl) (am_kki ?_)
  refine am_istore_n (L' := [(2, .int (f_X6_hoursRefused x1 D)), (0, .ref 56), (1, .int x1)]) (am_dk tk_X6_hour 3 rfl) rfl (Nat.le_of_ble_eq_true rfl) rfl ?_
  refine am_iconst (v := 0) (am_dk tk_X6_hour 4 rfl) (by decide) ?_
  refine am_istore_n (L' := [(3, .int 0), (2, .int (f_X6_hoursRefused x1 D)), (0, .ref 56), (1, .int x1)]) (am_dk tk_X6_hour 5 rfl) rfl (Nat.le_of_ble_eq_true rfl) rfl ?_
  refine am_ls [2, 3, 1, 0] rfl ?_
  exact bx_X6_hour_8  hΦ am_N _ _ _ _ h
abbrev m_X6_draw : am_D := (yX6_draw, prog_8_method_33_code, 2, (some .int), { frames := 0, cells := 0, slots := 0, locals := 0 })
theorem ld_X6_draw : am_LD m_X6_draw 1 := ⟨(am_tb 85 (by decide +kernel) (by decide +kernel)), (am_tb 1096 (by decide +kernel) (by decide +kernel)), by decide, by decide, by decide +kernel⟩
def tb_X6_draw : List (Nat × Instr × Nat) := [(0, .aload_n 0, 1), (1, .aload_n 0, 1), (2, .getfield 224, 3), (5, .i2l, 1), (6, .ldc2_w 227, 3), (9, .lmul, 1), (10, .ldc2_w 229, 3), (13, .ladd, 1), (14, .ldc2_w 231, 3), (17, .lrem, 1), (18, .l2i, 1), (19, .putfield 224, 3), (22, .aload_n 0, 1), (23, .getfield 224, 3), (26, .ldc 233, 2), (28, .idiv, 1), (29, .iload_n 1, 1), (30, .irem, 1), (31, .ireturn, 1)]
theorem tk_X6_draw : am_tbl prog_8_method_33_code tb_X6_draw = true := by decide +kernel
def f_X6_draw (x1 : Int32) (D : am_M) : Option (Int32 × am_M) := if x1 = 0 then none else some ((((am_up D 56 12 ((((((D 56 12).toInt64) * 1103515245) + 12345) - ((((D 56 12).toInt64) * 1103515245) + 12345) / 2147483648 * 2147483648).toInt32)) 56 12) / 65536) - (((am_up D 56 12 ((((((D 56 12).toInt64) * 1103515245) + 12345) - ((((D 56 12).toInt64) * 1103515245) + 12345) / 2147483648 * 2147483648).toInt32)) 56 12) / 65536) / x1 * x1, am_up D 56 12 ((((((D 56 12).toInt64) * 1103515245) + 12345) - ((((D 56 12).toInt64) * 1103515245) + 12345) / 2147483648 * 2147483648).toInt32))
theorem ct_X6_draw {l : Launch} {tw : Nat} {tp : Bool}  {x1 : Int32} {r : Int32} {D D' : am_M} (h : f_X6_draw x1 D = some (r, D')) : am_CT l m_X6_draw false [.ref 56, .int x1] (ly tw tp D) (am_is (some (.int r)) (ly tw tp D')) := by
  have hΦ : am_is (some (.int r)) (ly tw tp D') (some (.int r)) (ly tw tp D') := ⟨rfl, rfl⟩
  refine am_CT.of (by decide) (Nat.le_of_ble_eq_true rfl) ?_
  show am_Ex _ _ _ 0 [(0, .ref 56), (1, .int x1)] [] _
  rw [f_X6_draw] at h
  refine am_aload_n (j := 0) (am_dk tk_X6_draw 0 rfl) rfl rfl ?_
  refine am_aload_n (j := 0) (am_dk tk_X6_draw 1 rfl) rfl rfl ?_
  refine ly_geti rfl fl_X6_224 rfl (am_dk tk_X6_draw 2 rfl) ?_
  refine am_i2l (am_dk tk_X6_draw 3 rfl) ?_
  refine am_ldc2 kl_X6_227 (am_dk tk_X6_draw 4 rfl) ?_
  refine am_lmul (am_dk tk_X6_draw 5 rfl) ?_
  refine am_ldc2 kl_X6_229 (am_dk tk_X6_draw 6 rfl) ?_
  refine am_ladd (am_dk tk_X6_draw 7 rfl) ?_
  refine am_ldc2 kl_X6_231 (am_dk tk_X6_draw 8 rfl) ?_
  refine am_lrem (am_dk tk_X6_draw 9 rfl) (by decide) ?_
  refine am_l2i (am_dk tk_X6_draw 10 rfl) ?_
  refine ly_puti rfl fl_X6_224 rfl rfl (am_dk tk_X6_draw 11 rfl) ?_
  refine am_aload_n (j := 0) (am_dk tk_X6_draw 12 rfl) rfl rfl ?_
  refine ly_geti rfl fl_X6_224 rfl (am_dk tk_X6_draw 13 rfl) ?_
  refine am_ldc kc_X6_233 (am_dk tk_X6_draw 14 rfl) ?_
  refine am_idiv (am_dk tk_X6_draw 15 rfl) (by decide) ?_
  refine am_iload_n (j := 1) (am_dk tk_X6_draw 16 rfl) rfl rfl ?_
  obtain ⟨hz30, h⟩ := am_chn h
  refine am_irem (am_dk tk_X6_draw 17 rfl) hz30 ?_
  exact am_iret rfl (am_r2 h hΦ) ⟨Nat.le_of_ble_eq_true rfl, Nat.le_of_ble_eq_true rfl⟩ (am_dk tk_X6_draw 18 rfl)
abbrev m_X6_drift : am_D := (yX6_drift, prog_8_method_34_code, 5, (some .int), { frames := 3, cells := 0, slots := 0, locals := 68 })
theorem ld_X6_drift : am_LD m_X6_drift 1 := ⟨(am_tb 85 (by decide +kernel) (by decide +kernel)), (am_tb 1092 (by decide +kernel) (by decide +kernel)), by decide, by decide, by decide +kernel⟩
def tb_X6_drift : List (Nat × Instr × Nat) := [(0, .aload_n 0, 1), (1, .iload_n 1, 1), (2, .invokevirtual 218, 3), (5, .istore_n 2, 1), (6, .iconst 0, 1), (7, .istore_n 3, 1), (8, .iload_n 3, 1), (9, .iload_n 1, 1), (10, .if_icmp .ge 74, 3), (13, .iload_n 2, 1), (14, .ifCond .ne 70, 3), (17, .aload_n 0, 1), (18, .bipush 6, 2), (20, .invokevirtual 234, 3), (23, .ifCond .ne 51, 3), (26, .aload_n 0, 1), (27, .getfield 96, 3), (30, .ifCond .le 44, 3), (33, .aload_n 0, 1), (34, .aload_n 0, 1), (35, .getfield 96, 3), (38, .invokevirtual 234, 3), (41, .istore 4, 2), (43, .aload_n 0, 1), (44, .getfield 25, 3), (47, .iconst 5, 1), (48, .iload 4, 2), (50, .iadd, 1), (51, .iconst 0, 1), (52, .iastore, 1), (53, .aload_n 0, 1), (54, .getfield 25, 3), (57, .iload 4, 2), (59, .aload_n 0, 1), (60, .getfield 25, 3), (63, .iload 4, 2), (65, .iaload, 1), (66, .iconst 5, 1), (67, .iadd, 1), (68, .bipush 99, 2), (70, .invokestatic 207, 3), (73, .iastore, 1), (74, .aload_n 0, 1), (75, .invokevirtual 221, 3), (78, .iinc 3 1, 3), (81, .goto (-73), 3), (84, .iload_n 2, 1), (85, .ifCond .ne 14, 3), (88, .aload_n 0, 1), (89, .getfield 25, 3), (92, .sipush 137, 3), (95, .iaload, 1), (96, .goto 4, 3), (99, .iload_n 2, 1), (100, .ireturn, 1)]
theorem tk_X6_drift : am_tbl prog_8_method_34_code tb_X6_drift = true := by decide +kernel
def b_X6_drift_84 (x2 : Int32) (D : am_M) : Option (Int32 × am_M) := if x2 = 0 then some (D 62 137, D) else some (x2, D)
def b_X6_drift_74 (k8 : Int32 → Int32 → Int32 → am_M → Option (Int32 × am_M)) (x1 : Int32) (x2 : Int32) (x3 : Int32) (D : am_M) : Option (Int32 × am_M) := (f_X6_pass D).bind fun q75 => k8 x1 x2 (x3 + 1) q75
def b_X6_drift_8 : Nat → Int32 → Int32 → Int32 → am_M → Option (Int32 × am_M)
  | 0, _, _, _, _ => none
  | n + 1, x1, x2, x3, D => if x1 ≤ x3 then b_X6_drift_84 x2 D else if x2 = 0 then (f_X6_draw 6 D).bind fun q20 => if q20.1 = 0 then if (q20.2 56 3) ≤ 0 then b_X6_drift_74 (b_X6_drift_8 n) x1 x2 x3 q20.2 else (f_X6_draw (q20.2 56 3) q20.2).bind fun q38 => if am_in (5 + q38.1) 138 = true then if am_in q38.1 138 = true then b_X6_drift_74 (b_X6_drift_8 n) x1 x2 x3 (am_up (am_up q38.2 62 (5 + q38.1).toNatClampNeg 0) 62 q38.1.toNatClampNeg (f_X6_atMost (((am_up q38.2 62 (5 + q38.1).toNatClampNeg 0) 62 q38.1.toNatClampNeg) + 5) 99)) else none else none else b_X6_drift_74 (b_X6_drift_8 n) x1 x2 x3 q20.2 else b_X6_drift_84 x2 D
def f_X6_drift (x1 : Int32) (D : am_M) : Option (Int32 × am_M) := b_X6_drift_8 am_N x1 (f_X6_hoursRefused x1 D) 0 D
theorem bx_X6_drift_84 {l : Launch} {h0 : am_H} {Φ : am_Ph} {tw : Nat} {tp : Bool}  {r : Int32} {D' : am_M} (hΦ : Φ (some (.int r)) (ly tw tp D')) : ∀ (x2 : Int32) (D : am_M), b_X6_drift_84 x2 D = some (r, D') → am_Ex (am_E l m_X6_drift false h0 Φ) prog_8_method_34_code (0, 0) 84 [(0, .ref 56), (2, .int x2)] [] (ly tw tp D) := by
  intro x2 D h
  rw [b_X6_drift_84] at h
  refine am_iload_n (j := 1) (am_dk tk_X6_drift 46 rfl) rfl rfl ?_
  refine am_if_ne (tgt := 99) (am_dk tk_X6_drift 47 rfl) (by decide) (fun hc85 => ?_) (fun hc85 => ?_)
  · rw [if_neg hc85] at h
    refine am_iload_n (j := 1) (am_dk tk_X6_drift 53 rfl) rfl rfl ?_
    exact am_iret rfl (am_r2 h hΦ) ⟨Nat.le_of_ble_eq_true rfl, Nat.le_of_ble_eq_true rfl⟩ (am_dk tk_X6_drift 54 rfl)
  · rw [if_pos hc85] at h
    refine am_aload_n (j := 0) (am_dk tk_X6_drift 48 rfl) rfl rfl ?_
    refine ly_getr (b := 62) rfl fl_X6_25 rfl rfl (am_dk tk_X6_drift 49 rfl) ?_
    refine am_sipush (v := 137) (am_dk tk_X6_drift 50 rfl) (by decide) ?_
    refine ly_iald (k := 137) rfl (am_in_vp (by decide)) rfl (am_dk tk_X6_drift 51 rfl) ?_
    refine am_goto (tgt := 100) (am_dk tk_X6_drift 52 rfl) (by decide) ?_
    exact am_iret rfl (am_r2 h hΦ) ⟨Nat.le_of_ble_eq_true rfl, Nat.le_of_ble_eq_true rfl⟩ (am_dk tk_X6_drift 54 rfl)
theorem bx_X6_drift_74 {l : Launch} {h0 : am_H} {Φ : am_Ph} {tw : Nat} {tp : Bool}  {r : Int32} {D' : am_M} (hΦ : Φ (some (.int r)) (ly tw tp D')) {k8 : Int32 → Int32 → Int32 → am_M → Option (Int32 × am_M)} (hk8 : ∀ (x1 : Int32) (x2 : Int32) (x3 : Int32) (D : am_M), k8 x1 x2 x3 D = some (r, D') → am_Ex (am_E l m_X6_drift false h0 Φ) prog_8_method_34_code (0, 0) 8 [(0, .ref 56), (1, .int x1), (2, .int x2), (3, .int x3)] [] (ly tw tp D)) : ∀ (x1 : Int32) (x2 : Int32) (x3 : Int32) (D : am_M), b_X6_drift_74 k8 x1 x2 x3 D = some (r, D') → am_Ex (am_E l m_X6_drift false h0 Φ) prog_8_method_34_code (0, 0) 74 [(0, .ref 56), (1, .int x1), (2, .int x2), (3, .int x3)] [] (ly tw tp D) := by
  intro x1 x2 x3 D h
  rw [b_X6_drift_74] at h
  refine am_aload_n (j := 0) (am_dk tk_X6_drift 42 rfl) rfl rfl ?_
  obtain ⟨q75, hq75, h⟩ := am_bind h
  refine ly_cV (M := m_X6_pass) (As := []) (b := 56) (st := []) (ct_X6_pass hq75) rfl (by decide) rfl ml_X6_221 ld_X6_pass rfl ⟨Nat.le_of_ble_eq_true rfl, Nat.le_of_ble_eq_true rfl⟩ (Nat.le_of_ble_eq_true rfl) ⟨rfl, rfl⟩ ⟨Nat.le_of_ble_eq_true rfl, Nat.le_of_ble_eq_true rfl⟩ (am_dk tk_X6_drift 43 rfl) (am_kkv ?_)
  refine am_iinc (j := 3) (v := x3 + 1) (L' := [(3, .int (x3 + 1)), (0, .ref 56), (1, .int x1), (2, .int x2)]) (am_dk tk_X6_drift 44 rfl) rfl rfl (Nat.le_of_ble_eq_true rfl) rfl ?_
  refine am_goto (tgt := 8) (am_dk tk_X6_drift 45 rfl) (by decide) ?_
  refine am_ls [1, 2, 3, 0] rfl ?_
  exact hk8 _ _ _ _ h
theorem bx_X6_drift_8 {l : Launch} {h0 : am_H} {Φ : am_Ph} {tw : Nat} {tp : Bool}  {r : Int32} {D' : am_M} (hΦ : Φ (some (.int r)) (ly tw tp D')) : ∀ (n : Nat) (x1 : Int32) (x2 : Int32) (x3 : Int32) (D : am_M), b_X6_drift_8 n x1 x2 x3 D = some (r, D') → am_Ex (am_E l m_X6_drift false h0 Φ) prog_8_method_34_code (0, 0) 8 [(0, .ref 56), (1, .int x1), (2, .int x2), (3, .int x3)] [] (ly tw tp D) := by
  intro n
  induction n with
  | zero =>
    intro x1 x2 x3 D h
    exact absurd h (by simp [b_X6_drift_8])
  | succ n ih =>
    intro x1 x2 x3 D h
    rw [b_X6_drift_8] at h
    refine am_iload_n (j := 3) (am_dk tk_X6_drift 6 rfl) rfl rfl ?_
    refine am_iload_n (j := 1) (am_dk tk_X6_drift 7 rfl) rfl rfl ?_
    refine am_icmp_ge (tgt := 84) (am_dk tk_X6_drift 8 rfl) (by decide) (fun hc10 => ?_) (fun hc10 => ?_)
    · rw [if_pos hc10] at h
      refine am_ls [0, 2] rfl ?_
      exact bx_X6_drift_84  hΦ _ _ h
    · rw [if_neg hc10] at h
      refine am_iload_n (j := 2) (am_dk tk_X6_drift 9 rfl) rfl rfl ?_
      refine am_if_ne (tgt := 84) (am_dk tk_X6_drift 10 rfl) (by decide) (fun hc14 => ?_) (fun hc14 => ?_)
      · rw [if_neg hc14] at h
        refine am_ls [0, 2] rfl ?_
        exact bx_X6_drift_84  hΦ _ _ h
      · rw [if_pos hc14] at h
        refine am_aload_n (j := 0) (am_dk tk_X6_drift 11 rfl) rfl rfl ?_
        refine am_bipush (v := 6) (am_dk tk_X6_drift 12 rfl) (by decide) ?_
        obtain ⟨q20, hq20, h⟩ := am_bind h
        refine ly_cV (M := m_X6_draw) (As := [.int 6]) (b := 56) (st := []) (ct_X6_draw hq20) rfl (by decide) rfl ml_X6_234 ld_X6_draw rfl ⟨Nat.le_of_ble_eq_true rfl, Nat.le_of_ble_eq_true rfl⟩ (Nat.le_of_ble_eq_true rfl) ⟨rfl, rfl⟩ ⟨Nat.le_of_ble_eq_true rfl, Nat.le_of_ble_eq_true rfl⟩ (am_dk tk_X6_drift 13 rfl) (am_kki ?_)
        refine am_if_ne (tgt := 74) (am_dk tk_X6_drift 14 rfl) (by decide) (fun hc23 => ?_) (fun hc23 => ?_)
        · rw [if_neg hc23] at h
          exact bx_X6_drift_74  hΦ (ih) _ _ _ _ h
        · rw [if_pos hc23] at h
          refine am_aload_n (j := 0) (am_dk tk_X6_drift 15 rfl) rfl rfl ?_
          refine ly_geti rfl fl_X6_96 rfl (am_dk tk_X6_drift 16 rfl) ?_
          refine am_if_le (tgt := 74) (am_dk tk_X6_drift 17 rfl) (by decide) (fun hc30 => ?_) (fun hc30 => ?_)
          · rw [if_pos hc30] at h
            exact bx_X6_drift_74  hΦ (ih) _ _ _ _ h
          · rw [if_neg hc30] at h
            refine am_aload_n (j := 0) (am_dk tk_X6_drift 18 rfl) rfl rfl ?_
            refine am_aload_n (j := 0) (am_dk tk_X6_drift 19 rfl) rfl rfl ?_
            refine ly_geti rfl fl_X6_96 rfl (am_dk tk_X6_drift 20 rfl) ?_
            obtain ⟨q38, hq38, h⟩ := am_bind h
            refine ly_cV (M := m_X6_draw) (As := [.int (q20.2 56 3)]) (b := 56) (st := []) (ct_X6_draw hq38) rfl (by decide) rfl ml_X6_234 ld_X6_draw rfl ⟨Nat.le_of_ble_eq_true rfl, Nat.le_of_ble_eq_true rfl⟩ (Nat.le_of_ble_eq_true rfl) ⟨rfl, rfl⟩ ⟨Nat.le_of_ble_eq_true rfl, Nat.le_of_ble_eq_true rfl⟩ (am_dk tk_X6_drift 21 rfl) (am_kki ?_)
            refine am_istore (L' := [(4, .int q38.1), (0, .ref 56), (1, .int x1), (2, .int x2), (3, .int x3)]) (am_dk tk_X6_drift 22 rfl) (Nat.le_of_ble_eq_true rfl) rfl ?_
            refine am_aload_n (j := 1) (am_dk tk_X6_drift 23 rfl) rfl rfl ?_
            refine ly_getr (b := 62) rfl fl_X6_25 rfl rfl (am_dk tk_X6_drift 24 rfl) ?_
            refine am_iconst (v := 5) (am_dk tk_X6_drift 25 rfl) (by decide) ?_
            refine am_iload (j := 0) (am_dk tk_X6_drift 26 rfl) rfl ?_
            refine am_iadd (am_dk tk_X6_drift 27 rfl) ?_
            refine am_iconst (v := 0) (am_dk tk_X6_drift 28 rfl) (by decide) ?_
            obtain ⟨hi52, h⟩ := am_chk h
            refine ly_iast (k := (5 + q38.1).toNatClampNeg) rfl (am_in_vp hi52) rfl (am_dk tk_X6_drift 29 rfl) ?_
            refine am_aload_n (j := 1) (am_dk tk_X6_drift 30 rfl) rfl rfl ?_
            refine ly_getr (b := 62) rfl fl_X6_25 rfl rfl (am_dk tk_X6_drift 31 rfl) ?_
            refine am_iload (j := 0) (am_dk tk_X6_drift 32 rfl) rfl ?_
            refine am_aload_n (j := 1) (am_dk tk_X6_drift 33 rfl) rfl rfl ?_
            refine ly_getr (b := 62) rfl fl_X6_25 rfl rfl (am_dk tk_X6_drift 34 rfl) ?_
            refine am_iload (j := 0) (am_dk tk_X6_drift 35 rfl) rfl ?_
            obtain ⟨hi65, h⟩ := am_chk h
            refine ly_iald (k := q38.1.toNatClampNeg) rfl (am_in_vp hi65) rfl (am_dk tk_X6_drift 36 rfl) ?_
            refine am_iconst (v := 5) (am_dk tk_X6_drift 37 rfl) (by decide) ?_
            refine am_iadd (am_dk tk_X6_drift 38 rfl) ?_
            refine am_bipush (v := 99) (am_dk tk_X6_drift 39 rfl) (by decide) ?_
            refine am_cS (M := m_X6_atMost) (As := [.int (((am_up q38.2 62 (5 + q38.1).toNatClampNeg 0) 62 q38.1.toNatClampNeg) + 5), .int 99]) (st := [.int q38.1, .ref 62]) (ct_X6_atMost _ _ _) ml_X6_207 ld_X6_atMost rfl ⟨Nat.le_of_ble_eq_true rfl, Nat.le_of_ble_eq_true rfl⟩ (Nat.le_of_ble_eq_true rfl) ⟨rfl, rfl⟩ ⟨Nat.le_of_ble_eq_true rfl, Nat.le_of_ble_eq_true rfl⟩ (am_dk tk_X6_drift 40 rfl) (am_kki ?_)
            refine ly_iast (k := q38.1.toNatClampNeg) rfl (am_in_vp hi65) rfl (am_dk tk_X6_drift 41 rfl) ?_
            refine am_ls [1, 2, 3, 4] rfl ?_
            exact bx_X6_drift_74  hΦ (ih) _ _ _ _ h
theorem ct_X6_drift {l : Launch} {tw : Nat} {tp : Bool}  {x1 : Int32} {r : Int32} {D D' : am_M} (h : f_X6_drift x1 D = some (r, D')) : am_CT l m_X6_drift false [.ref 56, .int x1] (ly tw tp D) (am_is (some (.int r)) (ly tw tp D')) := by
  have hΦ : am_is (some (.int r)) (ly tw tp D') (some (.int r)) (ly tw tp D') := ⟨rfl, rfl⟩
  refine am_CT.of (by decide) (Nat.le_of_ble_eq_true rfl) ?_
  show am_Ex _ _ _ 0 [(0, .ref 56), (1, .int x1)] [] _
  rw [f_X6_drift] at h
  refine am_aload_n (j := 0) (am_dk tk_X6_drift 0 rfl) rfl rfl ?_
  refine am_iload_n (j := 1) (am_dk tk_X6_drift 1 rfl) rfl rfl ?_
  refine ly_cV (M := m_X6_hoursRefused) (As := [.int x1]) (b := 56) (st := []) (ct_X6_hoursRefused _ _) rfl (by decide) rfl ml_X6_218 ld_X6_hoursRefused rfl ⟨Nat.le_of_ble_eq_true rfl, Nat.le_of_ble_eq_true rfl⟩ (Nat.le_of_ble_eq_true rfl) ⟨rfl, rfl⟩ ⟨Nat.le_of_ble_eq_true rfl, Nat.le_of_ble_eq_true rfl⟩ (am_dk tk_X6_drift 2 rfl) (am_kki ?_)
  refine am_istore_n (L' := [(2, .int (f_X6_hoursRefused x1 D)), (0, .ref 56), (1, .int x1)]) (am_dk tk_X6_drift 3 rfl) rfl (Nat.le_of_ble_eq_true rfl) rfl ?_
  refine am_iconst (v := 0) (am_dk tk_X6_drift 4 rfl) (by decide) ?_
  refine am_istore_n (L' := [(3, .int 0), (2, .int (f_X6_hoursRefused x1 D)), (0, .ref 56), (1, .int x1)]) (am_dk tk_X6_drift 5 rfl) rfl (Nat.le_of_ble_eq_true rfl) rfl ?_
  refine am_ls [2, 3, 1, 0] rfl ?_
  exact bx_X6_drift_8  hΦ am_N _ _ _ _ h
abbrev m_X6_give : am_D := (yX6_give, prog_8_method_35_code, 4, (some .int), { frames := 2, cells := 0, slots := 0, locals := 46 })
theorem ld_X6_give : am_LD m_X6_give 3 := ⟨(am_tb 85 (by decide +kernel) (by decide +kernel)), (am_tb 1104 (by decide +kernel) (by decide +kernel)), by decide, by decide, by decide +kernel⟩
def tb_X6_give : List (Nat × Instr × Nat) := [(0, .aload_n 0, 1), (1, .iload_n 1, 1), (2, .invokevirtual 197, 3), (5, .ifCond .eq 16, 3), (8, .aload_n 0, 1), (9, .iload_n 2, 1), (10, .invokevirtual 197, 3), (13, .ifCond .eq 8, 3), (16, .iload_n 1, 1), (17, .iload_n 2, 1), (18, .if_icmp .ne 6, 3), (21, .ldc 201, 2), (23, .ireturn, 1), (24, .iload_n 3, 1), (25, .i2l, 1), (26, .lconst 1, 1), (27, .ldc2_w 237, 3), (30, .invokestatic 99, 3), (33, .ifCond .ne 6, 3), (36, .ldc 105, 2), (38, .ireturn, 1), (39, .aload_n 0, 1), (40, .getfield 25, 3), (43, .bipush 10, 2), (45, .iload_n 1, 1), (46, .iadd, 1), (47, .iaload, 1), (48, .iload_n 3, 1), (49, .if_icmp .ge 6, 3), (52, .ldc 216, 2), (54, .ireturn, 1), (55, .aload_n 0, 1), (56, .getfield 25, 3), (59, .bipush 10, 2), (61, .iload_n 1, 1), (62, .iadd, 1), (63, .dup2, 1), (64, .iaload, 1), (65, .iload_n 3, 1), (66, .isub, 1), (67, .iastore, 1), (68, .aload_n 0, 1), (69, .getfield 25, 3), (72, .bipush 10, 2), (74, .iload_n 2, 1), (75, .iadd, 1), (76, .aload_n 0, 1), (77, .getfield 25, 3), (80, .bipush 10, 2), (82, .iload_n 2, 1), (83, .iadd, 1), (84, .iaload, 1), (85, .iload_n 3, 1), (86, .iadd, 1), (87, .sipush 9999, 3), (90, .invokestatic 207, 3), (93, .iastore, 1), (94, .aload_n 0, 1), (95, .getfield 25, 3), (98, .bipush 10, 2)]
theorem tk_X6_give : am_tbl prog_8_method_35_code tb_X6_give = true := by decide +kernel
def tb_X6_give_1 : List (Nat × Instr × Nat) := [(100, .iload_n 1, 1), (101, .iadd, 1), (102, .iaload, 1), (103, .ireturn, 1)]
theorem tk_X6_give_1 : am_tbl prog_8_method_35_code tb_X6_give_1 = true := by decide +kernel
def f_X6_give (x1 : Int32) (x2 : Int32) (x3 : Int32) (D : am_M) : Option (Int32 × am_M) := if (f_X6_isPerson x1 D) = 0 then some ((-1000000001), D) else if (f_X6_isPerson x2 D) = 0 then some ((-1000000001), D) else if x1 = x2 then some ((-1000000001), D) else if (f_X6_in x3.toInt64 1 999) = 0 then some ((-1000000002), D) else if am_in (10 + x1) 138 = true then if x3 ≤ (D 62 (10 + x1).toNatClampNeg) then if am_in (10 + x2) 138 = true then some ((am_up (am_up D 62 (10 + x1).toNatClampNeg ((D 62 (10 + x1).toNatClampNeg) - x3)) 62 (10 + x2).toNatClampNeg (f_X6_atMost (((am_up D 62 (10 + x1).toNatClampNeg ((D 62 (10 + x1).toNatClampNeg) - x3)) 62 (10 + x2).toNatClampNeg) + x3) 9999)) 62 (10 + x1).toNatClampNeg, am_up (am_up D 62 (10 + x1).toNatClampNeg ((D 62 (10 + x1).toNatClampNeg) - x3)) 62 (10 + x2).toNatClampNeg (f_X6_atMost (((am_up D 62 (10 + x1).toNatClampNeg ((D 62 (10 + x1).toNatClampNeg) - x3)) 62 (10 + x2).toNatClampNeg) + x3) 9999)) else none else some ((-1000000003), D) else none
theorem ct_X6_give {l : Launch} {tw : Nat} {tp : Bool}  {x1 : Int32} {x2 : Int32} {x3 : Int32} {r : Int32} {D D' : am_M} (h : f_X6_give x1 x2 x3 D = some (r, D')) : am_CT l m_X6_give false [.ref 56, .int x1, .int x2, .int x3] (ly tw tp D) (am_is (some (.int r)) (ly tw tp D')) := by
  have hΦ : am_is (some (.int r)) (ly tw tp D') (some (.int r)) (ly tw tp D') := ⟨rfl, rfl⟩
  refine am_CT.of (by decide) (Nat.le_of_ble_eq_true rfl) ?_
  show am_Ex _ _ _ 0 [(0, .ref 56), (1, .int x1), (2, .int x2), (3, .int x3)] [] _
  rw [f_X6_give] at h
  refine am_aload_n (j := 0) (am_dk tk_X6_give 0 rfl) rfl rfl ?_
  refine am_iload_n (j := 1) (am_dk tk_X6_give 1 rfl) rfl rfl ?_
  refine ly_cV (M := m_X6_isPerson) (As := [.int x1]) (b := 56) (st := []) (ct_X6_isPerson _ _) rfl (by decide) rfl ml_X6_197 ld_X6_isPerson rfl ⟨Nat.le_of_ble_eq_true rfl, Nat.le_of_ble_eq_true rfl⟩ (Nat.le_of_ble_eq_true rfl) ⟨rfl, rfl⟩ ⟨Nat.le_of_ble_eq_true rfl, Nat.le_of_ble_eq_true rfl⟩ (am_dk tk_X6_give 2 rfl) (am_kki ?_)
  refine am_if_eq (tgt := 21) (am_dk tk_X6_give 3 rfl) (by decide) (fun hc5 => ?_) (fun hc5 => ?_)
  · rw [if_pos hc5] at h
    refine am_ldc kc_X6_201 (am_dk tk_X6_give 11 rfl) ?_
    exact am_iret rfl (am_r2 h hΦ) ⟨Nat.le_of_ble_eq_true rfl, Nat.le_of_ble_eq_true rfl⟩ (am_dk tk_X6_give 12 rfl)
  · rw [if_neg hc5] at h
    refine am_aload_n (j := 0) (am_dk tk_X6_give 4 rfl) rfl rfl ?_
    refine am_iload_n (j := 2) (am_dk tk_X6_give 5 rfl) rfl rfl ?_
    refine ly_cV (M := m_X6_isPerson) (As := [.int x2]) (b := 56) (st := []) (ct_X6_isPerson _ _) rfl (by decide) rfl ml_X6_197 ld_X6_isPerson rfl ⟨Nat.le_of_ble_eq_true rfl, Nat.le_of_ble_eq_true rfl⟩ (Nat.le_of_ble_eq_true rfl) ⟨rfl, rfl⟩ ⟨Nat.le_of_ble_eq_true rfl, Nat.le_of_ble_eq_true rfl⟩ (am_dk tk_X6_give 6 rfl) (am_kki ?_)
    refine am_if_eq (tgt := 21) (am_dk tk_X6_give 7 rfl) (by decide) (fun hc13 => ?_) (fun hc13 => ?_)
    · rw [if_pos hc13] at h
      refine am_ldc kc_X6_201 (am_dk tk_X6_give 11 rfl) ?_
      exact am_iret rfl (am_r2 h hΦ) ⟨Nat.le_of_ble_eq_true rfl, Nat.le_of_ble_eq_true rfl⟩ (am_dk tk_X6_give 12 rfl)
    · rw [if_neg hc13] at h
      refine am_iload_n (j := 1) (am_dk tk_X6_give 8 rfl) rfl rfl ?_
      refine am_iload_n (j := 2) (am_dk tk_X6_give 9 rfl) rfl rfl ?_
      refine am_icmp_ne (tgt := 24) (am_dk tk_X6_give 10 rfl) (by decide) (fun hc18 => ?_) (fun hc18 => ?_)
      · rw [if_neg hc18] at h
        refine am_iload_n (j := 3) (am_dk tk_X6_give 13 rfl) rfl rfl ?_
        refine am_i2l (am_dk tk_X6_give 14 rfl) ?_
        refine am_lconst (v := 1) (am_dk tk_X6_give 15 rfl) (by decide) ?_
        refine am_ldc2 kl_X6_237 (am_dk tk_X6_give 16 rfl) ?_
        refine am_cS (M := m_X6_in) (As := [.long x3.toInt64, .long 1, .long 999]) (st := []) (ct_X6_in _ _ _ _) ml_X6_99 ld_X6_in rfl ⟨Nat.le_of_ble_eq_true rfl, Nat.le_of_ble_eq_true rfl⟩ (Nat.le_of_ble_eq_true rfl) ⟨rfl, rfl⟩ ⟨Nat.le_of_ble_eq_true rfl, Nat.le_of_ble_eq_true rfl⟩ (am_dk tk_X6_give 17 rfl) (am_kki ?_)
        refine am_if_ne (tgt := 39) (am_dk tk_X6_give 18 rfl) (by decide) (fun hc33 => ?_) (fun hc33 => ?_)
        · rw [if_neg hc33] at h
          refine am_aload_n (j := 0) (am_dk tk_X6_give 21 rfl) rfl rfl ?_
          refine ly_getr (b := 62) rfl fl_X6_25 rfl rfl (am_dk tk_X6_give 22 rfl) ?_
          refine am_bipush (v := 10) (am_dk tk_X6_give 23 rfl) (by decide) ?_
          refine am_iload_n (j := 1) (am_dk tk_X6_give 24 rfl) rfl rfl ?_
          refine am_iadd (am_dk tk_X6_give 25 rfl) ?_
          obtain ⟨hi47, h⟩ := am_chk h
          refine ly_iald (k := (10 + x1).toNatClampNeg) rfl (am_in_vp hi47) rfl (am_dk tk_X6_give 26 rfl) ?_
          refine am_iload_n (j := 3) (am_dk tk_X6_give 27 rfl) rfl rfl ?_
          refine am_icmp_ge (tgt := 55) (am_dk tk_X6_give 28 rfl) (by decide) (fun hc49 => ?_) (fun hc49 => ?_)
          · rw [if_pos hc49] at h
            refine am_aload_n (j := 0) (am_dk tk_X6_give 31 rfl) rfl rfl ?_
            refine ly_getr (b := 62) rfl fl_X6_25 rfl rfl (am_dk tk_X6_give 32 rfl) ?_
            refine am_bipush (v := 10) (am_dk tk_X6_give 33 rfl) (by decide) ?_
            refine am_iload_n (j := 1) (am_dk tk_X6_give 34 rfl) rfl rfl ?_
            refine am_iadd (am_dk tk_X6_give 35 rfl) ?_
            refine am_dup2 (am_dk tk_X6_give 36 rfl) rfl rfl ?_
            refine ly_iald (k := (10 + x1).toNatClampNeg) rfl (am_in_vp hi47) rfl (am_dk tk_X6_give 37 rfl) ?_
            refine am_iload_n (j := 3) (am_dk tk_X6_give 38 rfl) rfl rfl ?_
            refine am_isub (am_dk tk_X6_give 39 rfl) ?_
            refine ly_iast (k := (10 + x1).toNatClampNeg) rfl (am_in_vp hi47) rfl (am_dk tk_X6_give 40 rfl) ?_
            refine am_aload_n (j := 0) (am_dk tk_X6_give 41 rfl) rfl rfl ?_
            refine ly_getr (b := 62) rfl fl_X6_25 rfl rfl (am_dk tk_X6_give 42 rfl) ?_
            refine am_bipush (v := 10) (am_dk tk_X6_give 43 rfl) (by decide) ?_
            refine am_iload_n (j := 2) (am_dk tk_X6_give 44 rfl) rfl rfl ?_
            refine am_iadd (am_dk tk_X6_give 45 rfl) ?_
            refine am_aload_n (j := 0) (am_dk tk_X6_give 46 rfl) rfl rfl ?_
            refine ly_getr (b := 62) rfl fl_X6_25 rfl rfl (am_dk tk_X6_give 47 rfl) ?_
            refine am_bipush (v := 10) (am_dk tk_X6_give 48 rfl) (by decide) ?_
            refine am_iload_n (j := 2) (am_dk tk_X6_give 49 rfl) rfl rfl ?_
            refine am_iadd (am_dk tk_X6_give 50 rfl) ?_
            obtain ⟨hi84, h⟩ := am_chk h
            refine ly_iald (k := (10 + x2).toNatClampNeg) rfl (am_in_vp hi84) rfl (am_dk tk_X6_give 51 rfl) ?_
            refine am_iload_n (j := 3) (am_dk tk_X6_give 52 rfl) rfl rfl ?_
            refine am_iadd (am_dk tk_X6_give 53 rfl) ?_
            refine am_sipush (v := 9999) (am_dk tk_X6_give 54 rfl) (by decide) ?_
            refine am_cS (M := m_X6_atMost) (As := [.int (((am_up D 62 (10 + x1).toNatClampNeg ((D 62 (10 + x1).toNatClampNeg) - x3)) 62 (10 + x2).toNatClampNeg) + x3), .int 9999]) (st := [.int (10 + x2), .ref 62]) (ct_X6_atMost _ _ _) ml_X6_207 ld_X6_atMost rfl ⟨Nat.le_of_ble_eq_true rfl, Nat.le_of_ble_eq_true rfl⟩ (Nat.le_of_ble_eq_true rfl) ⟨rfl, rfl⟩ ⟨Nat.le_of_ble_eq_true rfl, Nat.le_of_ble_eq_true rfl⟩ (am_dk tk_X6_give 55 rfl) (am_kki ?_)
            refine ly_iast (k := (10 + x2).toNatClampNeg) rfl (am_in_vp hi84) rfl (am_dk tk_X6_give 56 rfl) ?_
            refine am_aload_n (j := 0) (am_dk tk_X6_give 57 rfl) rfl rfl ?_
            refine ly_getr (b := 62) rfl fl_X6_25 rfl rfl (am_dk tk_X6_give 58 rfl) ?_
            refine am_bipush (v := 10) (am_dk tk_X6_give 59 rfl) (by decide) ?_
            refine am_iload_n (j := 1) (am_dk tk_X6_give_1 0 rfl) rfl rfl ?_
            refine am_iadd (am_dk tk_X6_give_1 1 rfl) ?_
            refine ly_iald (k := (10 + x1).toNatClampNeg) rfl (am_in_vp hi47) rfl (am_dk tk_X6_give_1 2 rfl) ?_
            exact am_iret rfl (am_r2 h hΦ) ⟨Nat.le_of_ble_eq_true rfl, Nat.le_of_ble_eq_true rfl⟩ (am_dk tk_X6_give_1 3 rfl)
          · rw [if_neg hc49] at h
            refine am_ldc kc_X6_216 (am_dk tk_X6_give 29 rfl) ?_
            exact am_iret rfl (am_r2 h hΦ) ⟨Nat.le_of_ble_eq_true rfl, Nat.le_of_ble_eq_true rfl⟩ (am_dk tk_X6_give 30 rfl)
        · rw [if_pos hc33] at h
          refine am_ldc kc_X6_105 (am_dk tk_X6_give 19 rfl) ?_
          exact am_iret rfl (am_r2 h hΦ) ⟨Nat.le_of_ble_eq_true rfl, Nat.le_of_ble_eq_true rfl⟩ (am_dk tk_X6_give 20 rfl)
      · rw [if_pos hc18] at h
        refine am_ldc kc_X6_201 (am_dk tk_X6_give 11 rfl) ?_
        exact am_iret rfl (am_r2 h hΦ) ⟨Nat.le_of_ble_eq_true rfl, Nat.le_of_ble_eq_true rfl⟩ (am_dk tk_X6_give 12 rfl)
abbrev m_X6_change : am_D := (yX6_change, prog_8_method_36_code, 5, (some .int), { frames := 2, cells := 0, slots := 0, locals := 46 })
theorem ld_X6_change : am_LD m_X6_change 3 := ⟨(am_tb 85 (by decide +kernel) (by decide +kernel)), (am_tb 1109 (by decide +kernel) (by decide +kernel)), by decide, by decide, by decide +kernel⟩
def tb_X6_change : List (Nat × Instr × Nat) := [(0, .aload_n 0, 1), (1, .iload_n 1, 1), (2, .invokevirtual 197, 3), (5, .ifCond .ne 6, 3), (8, .ldc 201, 2), (10, .ireturn, 1), (11, .iload_n 2, 1), (12, .i2l, 1), (13, .lconst 0, 1), (14, .ldc2_w 202, 3), (17, .invokestatic 99, 3), (20, .ifCond .eq 15, 3), (23, .iload_n 3, 1), (24, .i2l, 1), (25, .lconst 0, 1), (26, .ldc2_w 239, 3), (29, .invokestatic 99, 3), (32, .ifCond .ne 6, 3), (35, .ldc 105, 2), (37, .ireturn, 1), (38, .aload_n 0, 1), (39, .getfield 25, 3), (42, .bipush 15, 2), (44, .bipush 24, 2), (46, .iload_n 1, 1), (47, .imul, 1), (48, .iadd, 1), (49, .iload_n 2, 1), (50, .iadd, 1), (51, .iaload, 1), (52, .istore 4, 2), (54, .aload_n 0, 1), (55, .getfield 25, 3), (58, .bipush 15, 2), (60, .bipush 24, 2), (62, .iload_n 1, 1), (63, .imul, 1), (64, .iadd, 1), (65, .iload_n 2, 1), (66, .iadd, 1), (67, .iload_n 3, 1), (68, .iastore, 1), (69, .iload 4, 2), (71, .ireturn, 1)]
theorem tk_X6_change : am_tbl prog_8_method_36_code tb_X6_change = true := by decide +kernel
def f_X6_change (x1 : Int32) (x2 : Int32) (x3 : Int32) (D : am_M) : Option (Int32 × am_M) := if (f_X6_isPerson x1 D) = 0 then some ((-1000000001), D) else if (f_X6_in x2.toInt64 0 23) = 0 then some ((-1000000002), D) else if (f_X6_in x3.toInt64 0 2) = 0 then some ((-1000000002), D) else if am_in ((15 + (24 * x1)) + x2) 138 = true then some (D 62 ((15 + (24 * x1)) + x2).toNatClampNeg, am_up D 62 ((15 + (24 * x1)) + x2).toNatClampNeg x3) else none
theorem ct_X6_change {l : Launch} {tw : Nat} {tp : Bool}  {x1 : Int32} {x2 : Int32} {x3 : Int32} {r : Int32} {D D' : am_M} (h : f_X6_change x1 x2 x3 D = some (r, D')) : am_CT l m_X6_change false [.ref 56, .int x1, .int x2, .int x3] (ly tw tp D) (am_is (some (.int r)) (ly tw tp D')) := by
  have hΦ : am_is (some (.int r)) (ly tw tp D') (some (.int r)) (ly tw tp D') := ⟨rfl, rfl⟩
  refine am_CT.of (by decide) (Nat.le_of_ble_eq_true rfl) ?_
  show am_Ex _ _ _ 0 [(0, .ref 56), (1, .int x1), (2, .int x2), (3, .int x3)] [] _
  rw [f_X6_change] at h
  refine am_aload_n (j := 0) (am_dk tk_X6_change 0 rfl) rfl rfl ?_
  refine am_iload_n (j := 1) (am_dk tk_X6_change 1 rfl) rfl rfl ?_
  refine ly_cV (M := m_X6_isPerson) (As := [.int x1]) (b := 56) (st := []) (ct_X6_isPerson _ _) rfl (by decide) rfl ml_X6_197 ld_X6_isPerson rfl ⟨Nat.le_of_ble_eq_true rfl, Nat.le_of_ble_eq_true rfl⟩ (Nat.le_of_ble_eq_true rfl) ⟨rfl, rfl⟩ ⟨Nat.le_of_ble_eq_true rfl, Nat.le_of_ble_eq_true rfl⟩ (am_dk tk_X6_change 2 rfl) (am_kki ?_)
  refine am_if_ne (tgt := 11) (am_dk tk_X6_change 3 rfl) (by decide) (fun hc5 => ?_) (fun hc5 => ?_)
  · rw [if_neg hc5] at h
    refine am_iload_n (j := 2) (am_dk tk_X6_change 6 rfl) rfl rfl ?_
    refine am_i2l (am_dk tk_X6_change 7 rfl) ?_
    refine am_lconst (v := 0) (am_dk tk_X6_change 8 rfl) (by decide) ?_
    refine am_ldc2 kl_X6_202 (am_dk tk_X6_change 9 rfl) ?_
    refine am_cS (M := m_X6_in) (As := [.long x2.toInt64, .long 0, .long 23]) (st := []) (ct_X6_in _ _ _ _) ml_X6_99 ld_X6_in rfl ⟨Nat.le_of_ble_eq_true rfl, Nat.le_of_ble_eq_true rfl⟩ (Nat.le_of_ble_eq_true rfl) ⟨rfl, rfl⟩ ⟨Nat.le_of_ble_eq_true rfl, Nat.le_of_ble_eq_true rfl⟩ (am_dk tk_X6_change 10 rfl) (am_kki ?_)
    refine am_if_eq (tgt := 35) (am_dk tk_X6_change 11 rfl) (by decide) (fun hc20 => ?_) (fun hc20 => ?_)
    · rw [if_pos hc20] at h
      refine am_ldc kc_X6_105 (am_dk tk_X6_change 18 rfl) ?_
      exact am_iret rfl (am_r2 h hΦ) ⟨Nat.le_of_ble_eq_true rfl, Nat.le_of_ble_eq_true rfl⟩ (am_dk tk_X6_change 19 rfl)
    · rw [if_neg hc20] at h
      refine am_iload_n (j := 3) (am_dk tk_X6_change 12 rfl) rfl rfl ?_
      refine am_i2l (am_dk tk_X6_change 13 rfl) ?_
      refine am_lconst (v := 0) (am_dk tk_X6_change 14 rfl) (by decide) ?_
      refine am_ldc2 kl_X6_239 (am_dk tk_X6_change 15 rfl) ?_
      refine am_cS (M := m_X6_in) (As := [.long x3.toInt64, .long 0, .long 2]) (st := []) (ct_X6_in _ _ _ _) ml_X6_99 ld_X6_in rfl ⟨Nat.le_of_ble_eq_true rfl, Nat.le_of_ble_eq_true rfl⟩ (Nat.le_of_ble_eq_true rfl) ⟨rfl, rfl⟩ ⟨Nat.le_of_ble_eq_true rfl, Nat.le_of_ble_eq_true rfl⟩ (am_dk tk_X6_change 16 rfl) (am_kki ?_)
      refine am_if_ne (tgt := 38) (am_dk tk_X6_change 17 rfl) (by decide) (fun hc32 => ?_) (fun hc32 => ?_)
      · rw [if_neg hc32] at h
        refine am_aload_n (j := 0) (am_dk tk_X6_change 20 rfl) rfl rfl ?_
        refine ly_getr (b := 62) rfl fl_X6_25 rfl rfl (am_dk tk_X6_change 21 rfl) ?_
        refine am_bipush (v := 15) (am_dk tk_X6_change 22 rfl) (by decide) ?_
        refine am_bipush (v := 24) (am_dk tk_X6_change 23 rfl) (by decide) ?_
        refine am_iload_n (j := 1) (am_dk tk_X6_change 24 rfl) rfl rfl ?_
        refine am_imul (am_dk tk_X6_change 25 rfl) ?_
        refine am_iadd (am_dk tk_X6_change 26 rfl) ?_
        refine am_iload_n (j := 2) (am_dk tk_X6_change 27 rfl) rfl rfl ?_
        refine am_iadd (am_dk tk_X6_change 28 rfl) ?_
        obtain ⟨hi51, h⟩ := am_chk h
        refine ly_iald (k := ((15 + (24 * x1)) + x2).toNatClampNeg) rfl (am_in_vp hi51) rfl (am_dk tk_X6_change 29 rfl) ?_
        refine am_istore (L' := [(4, .int (D 62 ((15 + (24 * x1)) + x2).toNatClampNeg)), (0, .ref 56), (1, .int x1), (2, .int x2), (3, .int x3)]) (am_dk tk_X6_change 30 rfl) (Nat.le_of_ble_eq_true rfl) rfl ?_
        refine am_aload_n (j := 1) (am_dk tk_X6_change 31 rfl) rfl rfl ?_
        refine ly_getr (b := 62) rfl fl_X6_25 rfl rfl (am_dk tk_X6_change 32 rfl) ?_
        refine am_bipush (v := 15) (am_dk tk_X6_change 33 rfl) (by decide) ?_
        refine am_bipush (v := 24) (am_dk tk_X6_change 34 rfl) (by decide) ?_
        refine am_iload_n (j := 2) (am_dk tk_X6_change 35 rfl) rfl rfl ?_
        refine am_imul (am_dk tk_X6_change 36 rfl) ?_
        refine am_iadd (am_dk tk_X6_change 37 rfl) ?_
        refine am_iload_n (j := 3) (am_dk tk_X6_change 38 rfl) rfl rfl ?_
        refine am_iadd (am_dk tk_X6_change 39 rfl) ?_
        refine am_iload_n (j := 4) (am_dk tk_X6_change 40 rfl) rfl rfl ?_
        refine ly_iast (k := ((15 + (24 * x1)) + x2).toNatClampNeg) rfl (am_in_vp hi51) rfl (am_dk tk_X6_change 41 rfl) ?_
        refine am_iload (j := 0) (am_dk tk_X6_change 42 rfl) rfl ?_
        exact am_iret rfl (am_r2 h hΦ) ⟨Nat.le_of_ble_eq_true rfl, Nat.le_of_ble_eq_true rfl⟩ (am_dk tk_X6_change 43 rfl)
      · rw [if_pos hc32] at h
        refine am_ldc kc_X6_105 (am_dk tk_X6_change 18 rfl) ?_
        exact am_iret rfl (am_r2 h hΦ) ⟨Nat.le_of_ble_eq_true rfl, Nat.le_of_ble_eq_true rfl⟩ (am_dk tk_X6_change 19 rfl)
  · rw [if_pos hc5] at h
    refine am_ldc kc_X6_201 (am_dk tk_X6_change 4 rfl) ?_
    exact am_iret rfl (am_r2 h hΦ) ⟨Nat.le_of_ble_eq_true rfl, Nat.le_of_ble_eq_true rfl⟩ (am_dk tk_X6_change 5 rfl)
abbrev m_X6_save : am_D := (yX6_save, prog_8_method_37_code, 2, none, { frames := 0, cells := 0, slots := 0, locals := 0 })
theorem ld_X6_save : am_LD m_X6_save 0 := ⟨(am_tb 85 (by decide +kernel) (by decide +kernel)), (am_tb 1118 (by decide +kernel) (by decide +kernel)), by decide, by decide, by decide +kernel⟩
def tb_X6_save : List (Nat × Instr × Nat) := [(0, .iconst 0, 1), (1, .istore_n 1, 1), (2, .iload_n 1, 1), (3, .sipush 138, 3), (6, .if_icmp .ge 21, 3), (9, .aload_n 0, 1), (10, .getfield 62, 3), (13, .iload_n 1, 1), (14, .aload_n 0, 1), (15, .getfield 25, 3), (18, .iload_n 1, 1), (19, .iaload, 1), (20, .iastore, 1), (21, .iinc 1 1, 3), (24, .goto (-22), 3), (27, .return_, 1)]
theorem tk_X6_save : am_tbl prog_8_method_37_code tb_X6_save = true := by decide +kernel
def b_X6_save_2 : Nat → Int32 → am_M → Option am_M
  | 0, _, _ => none
  | n + 1, x1, D => if 138 ≤ x1 then some D else if am_in x1 138 = true then b_X6_save_2 n (x1 + 1) (am_up D 73 x1.toNatClampNeg (D 62 x1.toNatClampNeg)) else none
def f_X6_save (D : am_M) : Option am_M := b_X6_save_2 am_N 0 D
theorem bx_X6_save_2 {l : Launch} {h0 : am_H} {Φ : am_Ph} {tw : Nat} {tp : Bool}  {D' : am_M} (hΦ : Φ none (ly tw tp D')) : ∀ (n : Nat) (x1 : Int32) (D : am_M), b_X6_save_2 n x1 D = some D' → am_Ex (am_E l m_X6_save false h0 Φ) prog_8_method_37_code (0, 0) 2 [(0, .ref 56), (1, .int x1)] [] (ly tw tp D) := by
  intro n
  induction n with
  | zero =>
    intro x1 D h
    exact absurd h (by simp [b_X6_save_2])
  | succ n ih =>
    intro x1 D h
    rw [b_X6_save_2] at h
    refine am_iload_n (j := 1) (am_dk tk_X6_save 2 rfl) rfl rfl ?_
    refine am_sipush (v := 138) (am_dk tk_X6_save 3 rfl) (by decide) ?_
    refine am_icmp_ge (tgt := 27) (am_dk tk_X6_save 4 rfl) (by decide) (fun hc6 => ?_) (fun hc6 => ?_)
    · rw [if_pos hc6] at h
      exact am_vret rfl (am_r0 h hΦ) ⟨Nat.le_of_ble_eq_true rfl, Nat.le_of_ble_eq_true rfl⟩ (am_dk tk_X6_save 15 rfl)
    · rw [if_neg hc6] at h
      refine am_aload_n (j := 0) (am_dk tk_X6_save 5 rfl) rfl rfl ?_
      refine ly_getr (b := 73) rfl fl_X6_62 rfl rfl (am_dk tk_X6_save 6 rfl) ?_
      refine am_iload_n (j := 1) (am_dk tk_X6_save 7 rfl) rfl rfl ?_
      refine am_aload_n (j := 0) (am_dk tk_X6_save 8 rfl) rfl rfl ?_
      refine ly_getr (b := 62) rfl fl_X6_25 rfl rfl (am_dk tk_X6_save 9 rfl) ?_
      refine am_iload_n (j := 1) (am_dk tk_X6_save 10 rfl) rfl rfl ?_
      obtain ⟨hi19, h⟩ := am_chk h
      refine ly_iald (k := x1.toNatClampNeg) rfl (am_in_vp hi19) rfl (am_dk tk_X6_save 11 rfl) ?_
      refine ly_iast (k := x1.toNatClampNeg) rfl (am_in_vp hi19) rfl (am_dk tk_X6_save 12 rfl) ?_
      refine am_iinc (j := 1) (v := x1 + 1) (L' := [(1, .int (x1 + 1)), (0, .ref 56)]) (am_dk tk_X6_save 13 rfl) rfl rfl (Nat.le_of_ble_eq_true rfl) rfl ?_
      refine am_goto (tgt := 2) (am_dk tk_X6_save 14 rfl) (by decide) ?_
      refine am_ls [1, 0] rfl ?_
      exact ih _ _ h
theorem ct_X6_save {l : Launch} {tw : Nat} {tp : Bool}  {D D' : am_M} (h : f_X6_save D = some D') : am_CT l m_X6_save false [.ref 56] (ly tw tp D) (am_is none (ly tw tp D')) := by
  have hΦ : am_is none (ly tw tp D') none (ly tw tp D') := ⟨rfl, rfl⟩
  refine am_CT.of (by decide) (Nat.le_of_ble_eq_true rfl) ?_
  show am_Ex _ _ _ 0 [(0, .ref 56)] [] _
  rw [f_X6_save] at h
  refine am_iconst (v := 0) (am_dk tk_X6_save 0 rfl) (by decide) ?_
  refine am_istore_n (L' := [(1, .int 0), (0, .ref 56)]) (am_dk tk_X6_save 1 rfl) rfl (Nat.le_of_ble_eq_true rfl) rfl ?_
  refine am_ls [1, 0] rfl ?_
  exact bx_X6_save_2  hΦ am_N _ _ h
abbrev m_X6_putBack : am_D := (yX6_putBack, prog_8_method_38_code, 2, none, { frames := 0, cells := 0, slots := 0, locals := 0 })
theorem ld_X6_putBack : am_LD m_X6_putBack 0 := ⟨(am_tb 85 (by decide +kernel) (by decide +kernel)), (am_tb 1122 (by decide +kernel) (by decide +kernel)), by decide, by decide, by decide +kernel⟩
def tb_X6_putBack : List (Nat × Instr × Nat) := [(0, .iconst 0, 1), (1, .istore_n 1, 1), (2, .iload_n 1, 1), (3, .sipush 138, 3), (6, .if_icmp .ge 21, 3), (9, .aload_n 0, 1), (10, .getfield 25, 3), (13, .iload_n 1, 1), (14, .aload_n 0, 1), (15, .getfield 62, 3), (18, .iload_n 1, 1), (19, .iaload, 1), (20, .iastore, 1), (21, .iinc 1 1, 3), (24, .goto (-22), 3), (27, .return_, 1)]
theorem tk_X6_putBack : am_tbl prog_8_method_38_code tb_X6_putBack = true := by decide +kernel
def b_X6_putBack_2 : Nat → Int32 → am_M → Option am_M
  | 0, _, _ => none
  | n + 1, x1, D => if 138 ≤ x1 then some D else if am_in x1 138 = true then b_X6_putBack_2 n (x1 + 1) (am_up D 62 x1.toNatClampNeg (D 73 x1.toNatClampNeg)) else none
def f_X6_putBack (D : am_M) : Option am_M := b_X6_putBack_2 am_N 0 D
theorem bx_X6_putBack_2 {l : Launch} {h0 : am_H} {Φ : am_Ph} {tw : Nat} {tp : Bool}  {D' : am_M} (hΦ : Φ none (ly tw tp D')) : ∀ (n : Nat) (x1 : Int32) (D : am_M), b_X6_putBack_2 n x1 D = some D' → am_Ex (am_E l m_X6_putBack false h0 Φ) prog_8_method_38_code (0, 0) 2 [(0, .ref 56), (1, .int x1)] [] (ly tw tp D) := by
  intro n
  induction n with
  | zero =>
    intro x1 D h
    exact absurd h (by simp [b_X6_putBack_2])
  | succ n ih =>
    intro x1 D h
    rw [b_X6_putBack_2] at h
    refine am_iload_n (j := 1) (am_dk tk_X6_putBack 2 rfl) rfl rfl ?_
    refine am_sipush (v := 138) (am_dk tk_X6_putBack 3 rfl) (by decide) ?_
    refine am_icmp_ge (tgt := 27) (am_dk tk_X6_putBack 4 rfl) (by decide) (fun hc6 => ?_) (fun hc6 => ?_)
    · rw [if_pos hc6] at h
      exact am_vret rfl (am_r0 h hΦ) ⟨Nat.le_of_ble_eq_true rfl, Nat.le_of_ble_eq_true rfl⟩ (am_dk tk_X6_putBack 15 rfl)
    · rw [if_neg hc6] at h
      refine am_aload_n (j := 0) (am_dk tk_X6_putBack 5 rfl) rfl rfl ?_
      refine ly_getr (b := 62) rfl fl_X6_25 rfl rfl (am_dk tk_X6_putBack 6 rfl) ?_
      refine am_iload_n (j := 1) (am_dk tk_X6_putBack 7 rfl) rfl rfl ?_
      refine am_aload_n (j := 0) (am_dk tk_X6_putBack 8 rfl) rfl rfl ?_
      refine ly_getr (b := 73) rfl fl_X6_62 rfl rfl (am_dk tk_X6_putBack 9 rfl) ?_
      refine am_iload_n (j := 1) (am_dk tk_X6_putBack 10 rfl) rfl rfl ?_
      obtain ⟨hi19, h⟩ := am_chk h
      refine ly_iald (k := x1.toNatClampNeg) rfl (am_in_vp hi19) rfl (am_dk tk_X6_putBack 11 rfl) ?_
      refine ly_iast (k := x1.toNatClampNeg) rfl (am_in_vp hi19) rfl (am_dk tk_X6_putBack 12 rfl) ?_
      refine am_iinc (j := 1) (v := x1 + 1) (L' := [(1, .int (x1 + 1)), (0, .ref 56)]) (am_dk tk_X6_putBack 13 rfl) rfl rfl (Nat.le_of_ble_eq_true rfl) rfl ?_
      refine am_goto (tgt := 2) (am_dk tk_X6_putBack 14 rfl) (by decide) ?_
      refine am_ls [1, 0] rfl ?_
      exact ih _ _ h
theorem ct_X6_putBack {l : Launch} {tw : Nat} {tp : Bool}  {D D' : am_M} (h : f_X6_putBack D = some D') : am_CT l m_X6_putBack false [.ref 56] (ly tw tp D) (am_is none (ly tw tp D')) := by
  have hΦ : am_is none (ly tw tp D') none (ly tw tp D') := ⟨rfl, rfl⟩
  refine am_CT.of (by decide) (Nat.le_of_ble_eq_true rfl) ?_
  show am_Ex _ _ _ 0 [(0, .ref 56)] [] _
  rw [f_X6_putBack] at h
  refine am_iconst (v := 0) (am_dk tk_X6_putBack 0 rfl) (by decide) ?_
  refine am_istore_n (L' := [(1, .int 0), (0, .ref 56)]) (am_dk tk_X6_putBack 1 rfl) rfl (Nat.le_of_ble_eq_true rfl) rfl ?_
  refine am_ls [1, 0] rfl ?_
  exact bx_X6_putBack_2  hΦ am_N _ _ h
abbrev m_X6_firstShort : am_D := (yX6_firstShort, prog_8_method_39_code, 8, (some .int), { frames := 3, cells := 0, slots := 0, locals := 68 })
theorem ld_X6_firstShort : am_LD m_X6_firstShort 1 := ⟨(am_tb 85 (by decide +kernel) (by decide +kernel)), (am_tb 1114 (by decide +kernel) (by decide +kernel)), by decide, by decide, by decide +kernel⟩
def tb_X6_firstShort : List (Nat × Instr × Nat) := [(0, .iload_n 1, 1), (1, .i2l, 1), (2, .lconst 0, 1), (3, .lconst 1, 1), (4, .invokestatic 99, 3), (7, .ifCond .ne 6, 3), (10, .ldc 105, 2), (12, .ireturn, 1), (13, .aload_n 0, 1), (14, .invokevirtual 241, 3), (17, .iconst (-1), 1), (18, .istore_n 2, 1), (19, .iconst 0, 1), (20, .istore_n 3, 1), (21, .iload_n 3, 1), (22, .bipush 80, 2), (24, .if_icmp .ge 97, 3), (27, .iload_n 2, 1), (28, .ifCond .ge 93, 3), (31, .aload_n 0, 1), (32, .getfield 25, 3), (35, .sipush 136, 3), (38, .iaload, 1), (39, .istore 4, 2), (41, .aload_n 0, 1), (42, .getfield 25, 3), (45, .sipush 137, 3), (48, .iaload, 1), (49, .istore 5, 2), (51, .aload_n 0, 1), (52, .invokevirtual 221, 3), (55, .aload_n 0, 1), (56, .getfield 25, 3), (59, .sipush 136, 3), (62, .iaload, 1), (63, .iload 4, 2), (65, .iconst (-1), 1), (66, .ixor, 1), (67, .iand, 1), (68, .istore 6, 2), (70, .aload_n 0, 1), (71, .getfield 182, 3), (74, .iconst 1, 1), (75, .isub, 1), (76, .istore 7, 2), (78, .iload 7, 2), (80, .ifCond .lt 35, 3), (83, .iload 6, 2), (85, .iload 7, 2), (87, .invokestatic 154, 3), (90, .ifCond .eq 17, 3), (93, .iload_n 1, 1), (94, .ifCond .ne 8, 3), (97, .iload 7, 2), (99, .goto 9, 3), (102, .iload 5, 2), (104, .goto 4, 3), (107, .iload_n 2, 1), (108, .istore_n 2, 1), (109, .iinc 7 (-1), 3)]
theorem tk_X6_firstShort : am_tbl prog_8_method_39_code tb_X6_firstShort = true := by decide +kernel
def tb_X6_firstShort_1 : List (Nat × Instr × Nat) := [(112, .goto (-34), 3), (115, .iinc 3 1, 3), (118, .goto (-97), 3), (121, .aload_n 0, 1), (122, .invokevirtual 244, 3), (125, .iload_n 2, 1), (126, .ireturn, 1)]
theorem tk_X6_firstShort_1 : am_tbl prog_8_method_39_code tb_X6_firstShort_1 = true := by decide +kernel
def b_X6_firstShort_121 (x2 : Int32) (D : am_M) : Option (Int32 × am_M) := (f_X6_putBack D).bind fun q122 => some (x2, q122)
def b_X6_firstShort_78 (k21 : Int32 → Int32 → Int32 → am_M → Option (Int32 × am_M)) : Nat → Int32 → Int32 → Int32 → Int32 → Int32 → Int32 → am_M → Option (Int32 × am_M)
  | 0, _, _, _, _, _, _, _ => none
  | n + 1, x1, x2, x3, x5, x6, x7, D => if x7 < 0 then k21 x1 x2 (x3 + 1) D else b_X6_firstShort_78 k21 n x1 (if (f_X6_has x6 x7) = 0 then x2 else (if x1 = 0 then x7 else x5)) x3 x5 x6 (x7 + (-1)) D
def b_X6_firstShort_21 : Nat → Int32 → Int32 → Int32 → am_M → Option (Int32 × am_M)
  | 0, _, _, _, _ => none
  | n + 1, x1, x2, x3, D => if 80 ≤ x3 then b_X6_firstShort_121 x2 D else if 0 ≤ x2 then b_X6_firstShort_121 x2 D else (f_X6_pass D).bind fun q52 => b_X6_firstShort_78 (b_X6_firstShort_21 n) am_N x1 x2 x3 (D 62 137) ((q52 62 136) &&& ((D 62 136) ^^^ (-1))) ((q52 56 7) - 1) q52
def f_X6_firstShort (x1 : Int32) (D : am_M) : Option (Int32 × am_M) := if (f_X6_in x1.toInt64 0 1) = 0 then some ((-1000000002), D) else (f_X6_save D).bind fun q14 => b_X6_firstShort_21 am_N x1 (-1) 0 q14
theorem bx_X6_firstShort_121 {l : Launch} {h0 : am_H} {Φ : am_Ph} {tw : Nat} {tp : Bool}  {r : Int32} {D' : am_M} (hΦ : Φ (some (.int r)) (ly tw tp D')) : ∀ (x2 : Int32) (D : am_M), b_X6_firstShort_121 x2 D = some (r, D') → am_Ex (am_E l m_X6_firstShort false h0 Φ) prog_8_method_39_code (0, 0) 121 [(0, .ref 56), (2, .int x2)] [] (ly tw tp D) := by
  intro x2 D h
  rw [b_X6_firstShort_121] at h
  refine am_aload_n (j := 0) (am_dk tk_X6_firstShort_1 3 rfl) rfl rfl ?_
  obtain ⟨q122, hq122, h⟩ := am_bind h
  refine ly_cV (M := m_X6_putBack) (As := []) (b := 56) (st := []) (ct_X6_putBack hq122) rfl (by decide) rfl ml_X6_244 ld_X6_putBack rfl ⟨Nat.le_of_ble_eq_true rfl, Nat.le_of_ble_eq_true rfl⟩ (Nat.le_of_ble_eq_true rfl) ⟨rfl, rfl⟩ ⟨Nat.le_of_ble_eq_true rfl, Nat.le_of_ble_eq_true rfl⟩ (am_dk tk_X6_firstShort_1 4 rfl) (am_kkv ?_)
  refine am_iload_n (j := 1) (am_dk tk_X6_firstShort_1 5 rfl) rfl rfl ?_
  exact am_iret rfl (am_r2 h hΦ) ⟨Nat.le_of_ble_eq_true rfl, Nat.le_of_ble_eq_true rfl⟩ (am_dk tk_X6_firstShort_1 6 rfl)
theorem bx_X6_firstShort_78 {l : Launch} {h0 : am_H} {Φ : am_Ph} {tw : Nat} {tp : Bool}  {r : Int32} {D' : am_M} (hΦ : Φ (some (.int r)) (ly tw tp D')) {k21 : Int32 → Int32 → Int32 → am_M → Option (Int32 × am_M)} (hk21 : ∀ (x1 : Int32) (x2 : Int32) (x3 : Int32) (D : am_M), k21 x1 x2 x3 D = some (r, D') → am_Ex (am_E l m_X6_firstShort false h0 Φ) prog_8_method_39_code (0, 0) 21 [(0, .ref 56), (1, .int x1), (2, .int x2), (3, .int x3)] [] (ly tw tp D)) : ∀ (n : Nat) (x1 : Int32) (x2 : Int32) (x3 : Int32) (x5 : Int32) (x6 : Int32) (x7 : Int32) (D : am_M), b_X6_firstShort_78 k21 n x1 x2 x3 x5 x6 x7 D = some (r, D') → am_Ex (am_E l m_X6_firstShort false h0 Φ) prog_8_method_39_code (0, 0) 78 [(0, .ref 56), (1, .int x1), (2, .int x2), (3, .int x3), (5, .int x5), (6, .int x6), (7, .int x7)] [] (ly tw tp D) := by
  intro n
  induction n with
  | zero =>
    intro x1 x2 x3 x5 x6 x7 D h
    exact absurd h (by simp [b_X6_firstShort_78])
  | succ n ih =>
    intro x1 x2 x3 x5 x6 x7 D h
    rw [b_X6_firstShort_78] at h
    refine am_iload (j := 6) (am_dk tk_X6_firstShort 45 rfl) rfl ?_
    refine am_if_lt (tgt := 115) (am_dk tk_X6_firstShort 46 rfl) (by decide) (fun hc80 => ?_) (fun hc80 => ?_)
    · rw [if_pos hc80] at h
      refine am_iinc (j := 3) (v := x3 + 1) (L' := [(3, .int (x3 + 1)), (0, .ref 56), (1, .int x1), (2, .int x2), (5, .int x5), (6, .int x6), (7, .int x7)]) (am_dk tk_X6_firstShort_1 1 rfl) rfl rfl (Nat.le_of_ble_eq_true rfl) rfl ?_
      refine am_goto (tgt := 21) (am_dk tk_X6_firstShort_1 2 rfl) (by decide) ?_
      refine am_ls [1, 2, 3, 0] rfl ?_
      exact hk21 _ _ _ _ h
    · rw [if_neg hc80] at h
      refine am_iload (j := 5) (am_dk tk_X6_firstShort 47 rfl) rfl ?_
      refine am_iload (j := 6) (am_dk tk_X6_firstShort 48 rfl) rfl ?_
      refine am_cS (M := m_X6_has) (As := [.int x6, .int x7]) (st := []) (ct_X6_has _ _ _) ml_X6_154 ld_X6_has rfl ⟨Nat.le_of_ble_eq_true rfl, Nat.le_of_ble_eq_true rfl⟩ (Nat.le_of_ble_eq_true rfl) ⟨rfl, rfl⟩ ⟨Nat.le_of_ble_eq_true rfl, Nat.le_of_ble_eq_true rfl⟩ (am_dk tk_X6_firstShort 49 rfl) (am_kki ?_)
      refine am_if_eq (tgt := 107) (am_dk tk_X6_firstShort 50 rfl) (by decide) (fun hc90 => ?_) (fun hc90 => ?_)
      · simp only [if_pos hc90] at h
        refine am_iload_n (j := 2) (am_dk tk_X6_firstShort 57 rfl) rfl rfl ?_
        refine am_istore_n (L' := [(2, .int x2), (0, .ref 56), (1, .int x1), (3, .int x3), (5, .int x5), (6, .int x6), (7, .int x7)]) (am_dk tk_X6_firstShort 58 rfl) rfl (Nat.le_of_ble_eq_true rfl) rfl ?_
        refine am_iinc (j := 6) (v := x7 + (-1)) (L' := [(7, .int (x7 + (-1))), (2, .int x2), (0, .ref 56), (1, .int x1), (3, .int x3), (5, .int x5), (6, .int x6)]) (am_dk tk_X6_firstShort 59 rfl) rfl rfl (Nat.le_of_ble_eq_true rfl) rfl ?_
        refine am_goto (tgt := 78) (am_dk tk_X6_firstShort_1 0 rfl) (by decide) ?_
        refine am_ls [2, 3, 1, 4, 5, 6, 0] rfl ?_
        exact ih _ _ _ _ _ _ _ h
      · simp only [if_neg hc90] at h
        refine am_iload_n (j := 1) (am_dk tk_X6_firstShort 51 rfl) rfl rfl ?_
        refine am_if_ne (tgt := 102) (am_dk tk_X6_firstShort 52 rfl) (by decide) (fun hc94 => ?_) (fun hc94 => ?_)
        · simp only [if_neg hc94] at h
          refine am_iload (j := 4) (am_dk tk_X6_firstShort 55 rfl) rfl ?_
          refine am_goto (tgt := 108) (am_dk tk_X6_firstShort 56 rfl) (by decide) ?_
          refine am_istore_n (L' := [(2, .int x5), (0, .ref 56), (1, .int x1), (3, .int x3), (5, .int x5), (6, .int x6), (7, .int x7)]) (am_dk tk_X6_firstShort 58 rfl) rfl (Nat.le_of_ble_eq_true rfl) rfl ?_
          refine am_iinc (j := 6) (v := x7 + (-1)) (L' := [(7, .int (x7 + (-1))), (2, .int x5), (0, .ref 56), (1, .int x1), (3, .int x3), (5, .int x5), (6, .int x6)]) (am_dk tk_X6_firstShort 59 rfl) rfl rfl (Nat.le_of_ble_eq_true rfl) rfl ?_
          refine am_goto (tgt := 78) (am_dk tk_X6_firstShort_1 0 rfl) (by decide) ?_
          refine am_ls [2, 3, 1, 4, 5, 6, 0] rfl ?_
          exact ih _ _ _ _ _ _ _ h
        · simp only [if_pos hc94] at h
          refine am_iload (j := 6) (am_dk tk_X6_firstShort 53 rfl) rfl ?_
          refine am_goto (tgt := 108) (am_dk tk_X6_firstShort 54 rfl) (by decide) ?_
          refine am_istore_n (L' := [(2, .int x7), (0, .ref 56), (1, .int x1), (3, .int x3), (5, .int x5), (6, .int x6), (7, .int x7)]) (am_dk tk_X6_firstShort 58 rfl) rfl (Nat.le_of_ble_eq_true rfl) rfl ?_
          refine am_iinc (j := 6) (v := x7 + (-1)) (L' := [(7, .int (x7 + (-1))), (2, .int x7), (0, .ref 56), (1, .int x1), (3, .int x3), (5, .int x5), (6, .int x6)]) (am_dk tk_X6_firstShort 59 rfl) rfl rfl (Nat.le_of_ble_eq_true rfl) rfl ?_
          refine am_goto (tgt := 78) (am_dk tk_X6_firstShort_1 0 rfl) (by decide) ?_
          refine am_ls [2, 3, 1, 4, 5, 6, 0] rfl ?_
          exact ih _ _ _ _ _ _ _ h
theorem bx_X6_firstShort_21 {l : Launch} {h0 : am_H} {Φ : am_Ph} {tw : Nat} {tp : Bool}  {r : Int32} {D' : am_M} (hΦ : Φ (some (.int r)) (ly tw tp D')) : ∀ (n : Nat) (x1 : Int32) (x2 : Int32) (x3 : Int32) (D : am_M), b_X6_firstShort_21 n x1 x2 x3 D = some (r, D') → am_Ex (am_E l m_X6_firstShort false h0 Φ) prog_8_method_39_code (0, 0) 21 [(0, .ref 56), (1, .int x1), (2, .int x2), (3, .int x3)] [] (ly tw tp D) := by
  intro n
  induction n with
  | zero =>
    intro x1 x2 x3 D h
    exact absurd h (by simp [b_X6_firstShort_21])
  | succ n ih =>
    intro x1 x2 x3 D h
    rw [b_X6_firstShort_21] at h
    refine am_iload_n (j := 3) (am_dk tk_X6_firstShort 14 rfl) rfl rfl ?_
    refine am_bipush (v := 80) (am_dk tk_X6_firstShort 15 rfl) (by decide) ?_
    refine am_icmp_ge (tgt := 121) (am_dk tk_X6_firstShort 16 rfl) (by decide) (fun hc24 => ?_) (fun hc24 => ?_)
    · rw [if_pos hc24] at h
      refine am_ls [0, 2] rfl ?_
      exact bx_X6_firstShort_121  hΦ _ _ h
    · rw [if_neg hc24] at h
      refine am_iload_n (j := 2) (am_dk tk_X6_firstShort 17 rfl) rfl rfl ?_
      refine am_if_ge (tgt := 121) (am_dk tk_X6_firstShort 18 rfl) (by decide) (fun hc28 => ?_) (fun hc28 => ?_)
      · rw [if_pos hc28] at h
        refine am_ls [0, 2] rfl ?_
        exact bx_X6_firstShort_121  hΦ _ _ h
      · rw [if_neg hc28] at h
        refine am_aload_n (j := 0) (am_dk tk_X6_firstShort 19 rfl) rfl rfl ?_
        refine ly_getr (b := 62) rfl fl_X6_25 rfl rfl (am_dk tk_X6_firstShort 20 rfl) ?_
        refine am_sipush (v := 136) (am_dk tk_X6_firstShort 21 rfl) (by decide) ?_
        refine ly_iald (k := 136) rfl (am_in_vp (by decide)) rfl (am_dk tk_X6_firstShort 22 rfl) ?_
        refine am_istore (L' := [(4, .int (D 62 136)), (0, .ref 56), (1, .int x1), (2, .int x2), (3, .int x3)]) (am_dk tk_X6_firstShort 23 rfl) (Nat.le_of_ble_eq_true rfl) rfl ?_
        refine am_aload_n (j := 1) (am_dk tk_X6_firstShort 24 rfl) rfl rfl ?_
        refine ly_getr (b := 62) rfl fl_X6_25 rfl rfl (am_dk tk_X6_firstShort 25 rfl) ?_
        refine am_sipush (v := 137) (am_dk tk_X6_firstShort 26 rfl) (by decide) ?_
        refine ly_iald (k := 137) rfl (am_in_vp (by decide)) rfl (am_dk tk_X6_firstShort 27 rfl) ?_
        refine am_istore (L' := [(5, .int (D 62 137)), (4, .int (D 62 136)), (0, .ref 56), (1, .int x1), (2, .int x2), (3, .int x3)]) (am_dk tk_X6_firstShort 28 rfl) (Nat.le_of_ble_eq_true rfl) rfl ?_
        refine am_aload_n (j := 2) (am_dk tk_X6_firstShort 29 rfl) rfl rfl ?_
        obtain ⟨q52, hq52, h⟩ := am_bind h
        refine ly_cV (M := m_X6_pass) (As := []) (b := 56) (st := []) (ct_X6_pass hq52) rfl (by decide) rfl ml_X6_221 ld_X6_pass rfl ⟨Nat.le_of_ble_eq_true rfl, Nat.le_of_ble_eq_true rfl⟩ (Nat.le_of_ble_eq_true rfl) ⟨rfl, rfl⟩ ⟨Nat.le_of_ble_eq_true rfl, Nat.le_of_ble_eq_true rfl⟩ (am_dk tk_X6_firstShort 30 rfl) (am_kkv ?_)
        refine am_aload_n (j := 2) (am_dk tk_X6_firstShort 31 rfl) rfl rfl ?_
        refine ly_getr (b := 62) rfl fl_X6_25 rfl rfl (am_dk tk_X6_firstShort 32 rfl) ?_
        refine am_sipush (v := 136) (am_dk tk_X6_firstShort 33 rfl) (by decide) ?_
        refine ly_iald (k := 136) rfl (am_in_vp (by decide)) rfl (am_dk tk_X6_firstShort 34 rfl) ?_
        refine am_iload (j := 1) (am_dk tk_X6_firstShort 35 rfl) rfl ?_
        refine am_iconst (v := (-1)) (am_dk tk_X6_firstShort 36 rfl) (by decide) ?_
        refine am_ixor (am_dk tk_X6_firstShort 37 rfl) ?_
        refine am_iand (am_dk tk_X6_firstShort 38 rfl) ?_
        refine am_istore (L' := [(6, .int ((q52 62 136) &&& ((D 62 136) ^^^ (-1)))), (5, .int (D 62 137)), (4, .int (D 62 136)), (0, .ref 56), (1, .int x1), (2, .int x2), (3, .int x3)]) (am_dk tk_X6_firstShort 39 rfl) (Nat.le_of_ble_eq_true rfl) rfl ?_
        refine am_aload_n (j := 3) (am_dk tk_X6_firstShort 40 rfl) rfl rfl ?_
        refine ly_geti rfl fl_X6_182 rfl (am_dk tk_X6_firstShort 41 rfl) ?_
        refine am_iconst (v := 1) (am_dk tk_X6_firstShort 42 rfl) (by decide) ?_
        refine am_isub (am_dk tk_X6_firstShort 43 rfl) ?_
        refine am_istore (L' := [(7, .int ((q52 56 7) - 1)), (6, .int ((q52 62 136) &&& ((D 62 136) ^^^ (-1)))), (5, .int (D 62 137)), (4, .int (D 62 136)), (0, .ref 56), (1, .int x1), (2, .int x2), (3, .int x3)]) (am_dk tk_X6_firstShort 44 rfl) (Nat.le_of_ble_eq_true rfl) rfl ?_
        refine am_ls [4, 5, 6, 7, 2, 1, 0] rfl ?_
        exact bx_X6_firstShort_78  hΦ (ih) am_N _ _ _ _ _ _ _ h
theorem ct_X6_firstShort {l : Launch} {tw : Nat} {tp : Bool}  {x1 : Int32} {r : Int32} {D D' : am_M} (h : f_X6_firstShort x1 D = some (r, D')) : am_CT l m_X6_firstShort false [.ref 56, .int x1] (ly tw tp D) (am_is (some (.int r)) (ly tw tp D')) := by
  have hΦ : am_is (some (.int r)) (ly tw tp D') (some (.int r)) (ly tw tp D') := ⟨rfl, rfl⟩
  refine am_CT.of (by decide) (Nat.le_of_ble_eq_true rfl) ?_
  show am_Ex _ _ _ 0 [(0, .ref 56), (1, .int x1)] [] _
  rw [f_X6_firstShort] at h
  refine am_iload_n (j := 1) (am_dk tk_X6_firstShort 0 rfl) rfl rfl ?_
  refine am_i2l (am_dk tk_X6_firstShort 1 rfl) ?_
  refine am_lconst (v := 0) (am_dk tk_X6_firstShort 2 rfl) (by decide) ?_
  refine am_lconst (v := 1) (am_dk tk_X6_firstShort 3 rfl) (by decide) ?_
  refine am_cS (M := m_X6_in) (As := [.long x1.toInt64, .long 0, .long 1]) (st := []) (ct_X6_in _ _ _ _) ml_X6_99 ld_X6_in rfl ⟨Nat.le_of_ble_eq_true rfl, Nat.le_of_ble_eq_true rfl⟩ (Nat.le_of_ble_eq_true rfl) ⟨rfl, rfl⟩ ⟨Nat.le_of_ble_eq_true rfl, Nat.le_of_ble_eq_true rfl⟩ (am_dk tk_X6_firstShort 4 rfl) (am_kki ?_)
  refine am_if_ne (tgt := 13) (am_dk tk_X6_firstShort 5 rfl) (by decide) (fun hc7 => ?_) (fun hc7 => ?_)
  · rw [if_neg hc7] at h
    refine am_aload_n (j := 0) (am_dk tk_X6_firstShort 8 rfl) rfl rfl ?_
    obtain ⟨q14, hq14, h⟩ := am_bind h
    refine ly_cV (M := m_X6_save) (As := []) (b := 56) (st := []) (ct_X6_save hq14) rfl (by decide) rfl ml_X6_241 ld_X6_save rfl ⟨Nat.le_of_ble_eq_true rfl, Nat.le_of_ble_eq_true rfl⟩ (Nat.le_of_ble_eq_true rfl) ⟨rfl, rfl⟩ ⟨Nat.le_of_ble_eq_true rfl, Nat.le_of_ble_eq_true rfl⟩ (am_dk tk_X6_firstShort 9 rfl) (am_kkv ?_)
    refine am_iconst (v := (-1)) (am_dk tk_X6_firstShort 10 rfl) (by decide) ?_
    refine am_istore_n (L' := [(2, .int (-1)), (0, .ref 56), (1, .int x1)]) (am_dk tk_X6_firstShort 11 rfl) rfl (Nat.le_of_ble_eq_true rfl) rfl ?_
    refine am_iconst (v := 0) (am_dk tk_X6_firstShort 12 rfl) (by decide) ?_
    refine am_istore_n (L' := [(3, .int 0), (2, .int (-1)), (0, .ref 56), (1, .int x1)]) (am_dk tk_X6_firstShort 13 rfl) rfl (Nat.le_of_ble_eq_true rfl) rfl ?_
    refine am_ls [2, 3, 1, 0] rfl ?_
    exact bx_X6_firstShort_21  hΦ am_N _ _ _ _ h
  · rw [if_pos hc7] at h
    refine am_ldc kc_X6_105 (am_dk tk_X6_firstShort 6 rfl) ?_
    exact am_iret rfl (am_r2 h hΦ) ⟨Nat.le_of_ble_eq_true rfl, Nat.le_of_ble_eq_true rfl⟩ (am_dk tk_X6_firstShort 7 rfl)
abbrev m_X6_richest : am_D := (yX6_richest, prog_8_method_40_code, 6, (some .int), { frames := 3, cells := 0, slots := 0, locals := 68 })
theorem ld_X6_richest : am_LD m_X6_richest 2 := ⟨(am_tb 85 (by decide +kernel) (by decide +kernel)), (am_tb 1126 (by decide +kernel) (by decide +kernel)), by decide, by decide, by decide +kernel⟩
def tb_X6_richest : List (Nat × Instr × Nat) := [(0, .iload_n 1, 1), (1, .i2l, 1), (2, .lconst 0, 1), (3, .ldc2_w 247, 3), (6, .invokestatic 99, 3), (9, .ifCond .eq 13, 3), (12, .iload_n 2, 1), (13, .i2l, 1), (14, .lconst 0, 1), (15, .lconst 1, 1), (16, .invokestatic 99, 3), (19, .ifCond .ne 6, 3), (22, .ldc 105, 2), (24, .ireturn, 1), (25, .aload_n 0, 1), (26, .invokevirtual 241, 3), (29, .iconst 0, 1), (30, .istore_n 3, 1), (31, .iload_n 3, 1), (32, .iload_n 1, 1), (33, .if_icmp .ge 13, 3), (36, .aload_n 0, 1), (37, .invokevirtual 221, 3), (40, .iinc 3 1, 3), (43, .goto (-12), 3), (46, .iconst (-1), 1), (47, .istore_n 3, 1), (48, .iconst (-1), 1), (49, .istore 4, 2), (51, .iconst 0, 1), (52, .istore 5, 2), (54, .iload 5, 2), (56, .aload_n 0, 1), (57, .getfield 96, 3), (60, .if_icmp .ge 63, 3), (63, .aload_n 0, 1), (64, .getfield 25, 3), (67, .bipush 10, 2), (69, .iload 5, 2), (71, .iadd, 1), (72, .iaload, 1), (73, .iload 4, 2), (75, .if_icmp .le 8, 3), (78, .iload 5, 2), (80, .goto 4, 3), (83, .iload_n 3, 1), (84, .istore_n 3, 1), (85, .aload_n 0, 1), (86, .getfield 25, 3), (89, .bipush 10, 2), (91, .iload 5, 2), (93, .iadd, 1), (94, .iaload, 1), (95, .iload 4, 2), (97, .if_icmp .le 16, 3), (100, .aload_n 0, 1), (101, .getfield 25, 3), (104, .bipush 10, 2), (106, .iload 5, 2), (108, .iadd, 1)]
theorem tk_X6_richest : am_tbl prog_8_method_40_code tb_X6_richest = true := by decide +kernel
def tb_X6_richest_1 : List (Nat × Instr × Nat) := [(109, .iaload, 1), (110, .goto 5, 3), (113, .iload 4, 2), (115, .istore 4, 2), (117, .iinc 5 1, 3), (120, .goto (-66), 3), (123, .aload_n 0, 1), (124, .invokevirtual 244, 3), (127, .iload_n 2, 1), (128, .ifCond .ne 7, 3), (131, .iload_n 3, 1), (132, .goto 5, 3), (135, .iload 4, 2), (137, .ireturn, 1)]
theorem tk_X6_richest_1 : am_tbl prog_8_method_40_code tb_X6_richest_1 = true := by decide +kernel
def b_X6_richest_84 (k54 : Int32 → Int32 → Int32 → Int32 → am_M → Option (Int32 × am_M)) (x2 : Int32) (x4 : Int32) (x5 : Int32) (s0 : Int32) (D : am_M) : Option (Int32 × am_M) := if am_in (10 + x5) 138 = true then k54 x2 s0 (if (D 62 (10 + x5).toNatClampNeg) ≤ x4 then x4 else D 62 (10 + x5).toNatClampNeg) (x5 + 1) D else none
def b_X6_richest_54 : Nat → Int32 → Int32 → Int32 → Int32 → am_M → Option (Int32 × am_M)
  | 0, _, _, _, _, _ => none
  | n + 1, x2, x3, x4, x5, D => if (D 56 3) ≤ x5 then (f_X6_putBack D).bind fun q124 => if x2 = 0 then some (x3, q124) else some (x4, q124) else if am_in (10 + x5) 138 = true then b_X6_richest_84 (b_X6_richest_54 n) x2 x4 x5 (if (D 62 (10 + x5).toNatClampNeg) ≤ x4 then x3 else x5) D else none
def b_X6_richest_31 : Nat → Int32 → Int32 → Int32 → am_M → Option (Int32 × am_M)
  | 0, _, _, _, _ => none
  | n + 1, x1, x2, x3, D => if x1 ≤ x3 then b_X6_richest_54 am_N x2 (-1) (-1) 0 D else (f_X6_pass D).bind fun q37 => b_X6_richest_31 n x1 x2 (x3 + 1) q37
def f_X6_richest (x1 : Int32) (x2 : Int32) (D : am_M) : Option (Int32 × am_M) := if (f_X6_in x1.toInt64 0 200) = 0 then some ((-1000000002), D) else if (f_X6_in x2.toInt64 0 1) = 0 then some ((-1000000002), D) else (f_X6_save D).bind fun q26 => b_X6_richest_31 am_N x1 x2 0 q26
theorem bx_X6_richest_84 {l : Launch} {h0 : am_H} {Φ : am_Ph} {tw : Nat} {tp : Bool}  {r : Int32} {D' : am_M} (hΦ : Φ (some (.int r)) (ly tw tp D')) {k54 : Int32 → Int32 → Int32 → Int32 → am_M → Option (Int32 × am_M)} (hk54 : ∀ (x2 : Int32) (x3 : Int32) (x4 : Int32) (x5 : Int32) (D : am_M), k54 x2 x3 x4 x5 D = some (r, D') → am_Ex (am_E l m_X6_richest false h0 Φ) prog_8_method_40_code (0, 0) 54 [(0, .ref 56), (2, .int x2), (3, .int x3), (4, .int x4), (5, .int x5)] [] (ly tw tp D)) : ∀ (x2 : Int32) (x4 : Int32) (x5 : Int32) (s0 : Int32) (D : am_M), b_X6_richest_84 k54 x2 x4 x5 s0 D = some (r, D') → am_Ex (am_E l m_X6_richest false h0 Φ) prog_8_method_40_code (0, 0) 84 [(0, .ref 56), (2, .int x2), (4, .int x4), (5, .int x5)] [.int s0] (ly tw tp D) := by
  intro x2 x4 x5 s0 D h
  rw [b_X6_richest_84] at h
  refine am_istore_n (L' := [(3, .int s0), (0, .ref 56), (2, .int x2), (4, .int x4), (5, .int x5)]) (am_dk tk_X6_richest 46 rfl) rfl (Nat.le_of_ble_eq_true rfl) rfl ?_
  refine am_aload_n (j := 1) (am_dk tk_X6_richest 47 rfl) rfl rfl ?_
  refine ly_getr (b := 62) rfl fl_X6_25 rfl rfl (am_dk tk_X6_richest 48 rfl) ?_
  refine am_bipush (v := 10) (am_dk tk_X6_richest 49 rfl) (by decide) ?_
  refine am_iload (j := 4) (am_dk tk_X6_richest 50 rfl) rfl ?_
  refine am_iadd (am_dk tk_X6_richest 51 rfl) ?_
  obtain ⟨hi94, h⟩ := am_chk h
  refine ly_iald (k := (10 + x5).toNatClampNeg) rfl (am_in_vp hi94) rfl (am_dk tk_X6_richest 52 rfl) ?_
  refine am_iload (j := 3) (am_dk tk_X6_richest 53 rfl) rfl ?_
  refine am_icmp_le (tgt := 113) (am_dk tk_X6_richest 54 rfl) (by decide) (fun hc97 => ?_) (fun hc97 => ?_)
  · simp only [if_pos hc97] at h
    refine am_iload (j := 3) (am_dk tk_X6_richest_1 2 rfl) rfl ?_
    refine am_istore (L' := [(4, .int x4), (3, .int s0), (0, .ref 56), (2, .int x2), (5, .int x5)]) (am_dk tk_X6_richest_1 3 rfl) (Nat.le_of_ble_eq_true rfl) rfl ?_
    refine am_iinc (j := 4) (v := x5 + 1) (L' := [(5, .int (x5 + 1)), (4, .int x4), (3, .int s0), (0, .ref 56), (2, .int x2)]) (am_dk tk_X6_richest_1 4 rfl) rfl rfl (Nat.le_of_ble_eq_true rfl) rfl ?_
    refine am_goto (tgt := 54) (am_dk tk_X6_richest_1 5 rfl) (by decide) ?_
    refine am_ls [3, 4, 2, 1, 0] rfl ?_
    exact hk54 _ _ _ _ _ h
  · simp only [if_neg hc97] at h
    refine am_aload_n (j := 1) (am_dk tk_X6_richest 55 rfl) rfl rfl ?_
    refine ly_getr (b := 62) rfl fl_X6_25 rfl rfl (am_dk tk_X6_richest 56 rfl) ?_
    refine am_bipush (v := 10) (am_dk tk_X6_richest 57 rfl) (by decide) ?_
    refine am_iload (j := 4) (am_dk tk_X6_richest 58 rfl) rfl ?_
    refine am_iadd (am_dk tk_X6_richest 59 rfl) ?_
    refine ly_iald (k := (10 + x5).toNatClampNeg) rfl (am_in_vp hi94) rfl (am_dk tk_X6_richest_1 0 rfl) ?_
    refine am_goto (tgt := 115) (am_dk tk_X6_richest_1 1 rfl) (by decide) ?_
    refine am_istore (L' := [(4, .int (D 62 (10 + x5).toNatClampNeg)), (3, .int s0), (0, .ref 56), (2, .int x2), (5, .int x5)]) (am_dk tk_X6_richest_1 3 rfl) (Nat.le_of_ble_eq_true rfl) rfl ?_
    refine am_iinc (j := 4) (v := x5 + 1) (L' := [(5, .int (x5 + 1)), (4, .int (D 62 (10 + x5).toNatClampNeg)), (3, .int s0), (0, .ref 56), (2, .int x2)]) (am_dk tk_X6_richest_1 4 rfl) rfl rfl (Nat.le_of_ble_eq_true rfl) rfl ?_
    refine am_goto (tgt := 54) (am_dk tk_X6_richest_1 5 rfl) (by decide) ?_
    refine am_ls [3, 4, 2, 1, 0] rfl ?_
    exact hk54 _ _ _ _ _ h
theorem bx_X6_richest_54 {l : Launch} {h0 : am_H} {Φ : am_Ph} {tw : Nat} {tp : Bool}  {r : Int32} {D' : am_M} (hΦ : Φ (some (.int r)) (ly tw tp D')) : ∀ (n : Nat) (x2 : Int32) (x3 : Int32) (x4 : Int32) (x5 : Int32) (D : am_M), b_X6_richest_54 n x2 x3 x4 x5 D = some (r, D') → am_Ex (am_E l m_X6_richest false h0 Φ) prog_8_method_40_code (0, 0) 54 [(0, .ref 56), (2, .int x2), (3, .int x3), (4, .int x4), (5, .int x5)] [] (ly tw tp D) := by
  intro n
  induction n with
  | zero =>
    intro x2 x3 x4 x5 D h
    exact absurd h (by simp [b_X6_richest_54])
  | succ n ih =>
    intro x2 x3 x4 x5 D h
    rw [b_X6_richest_54] at h
    refine am_iload (j := 4) (am_dk tk_X6_richest 31 rfl) rfl ?_
    refine am_aload_n (j := 0) (am_dk tk_X6_richest 32 rfl) rfl rfl ?_
    refine ly_geti rfl fl_X6_96 rfl (am_dk tk_X6_richest 33 rfl) ?_
    refine am_icmp_ge (tgt := 123) (am_dk tk_X6_richest 34 rfl) (by decide) (fun hc60 => ?_) (fun hc60 => ?_)
    · rw [if_pos hc60] at h
      refine am_aload_n (j := 0) (am_dk tk_X6_richest_1 6 rfl) rfl rfl ?_
      obtain ⟨q124, hq124, h⟩ := am_bind h
      refine ly_cV (M := m_X6_putBack) (As := []) (b := 56) (st := []) (ct_X6_putBack hq124) rfl (by decide) rfl ml_X6_244 ld_X6_putBack rfl ⟨Nat.le_of_ble_eq_true rfl, Nat.le_of_ble_eq_true rfl⟩ (Nat.le_of_ble_eq_true rfl) ⟨rfl, rfl⟩ ⟨Nat.le_of_ble_eq_true rfl, Nat.le_of_ble_eq_true rfl⟩ (am_dk tk_X6_richest_1 7 rfl) (am_kkv ?_)
      refine am_iload_n (j := 1) (am_dk tk_X6_richest_1 8 rfl) rfl rfl ?_
      refine am_if_ne (tgt := 135) (am_dk tk_X6_richest_1 9 rfl) (by decide) (fun hc128 => ?_) (fun hc128 => ?_)
      · rw [if_neg hc128] at h
        refine am_iload (j := 3) (am_dk tk_X6_richest_1 12 rfl) rfl ?_
        exact am_iret rfl (am_r2 h hΦ) ⟨Nat.le_of_ble_eq_true rfl, Nat.le_of_ble_eq_true rfl⟩ (am_dk tk_X6_richest_1 13 rfl)
      · rw [if_pos hc128] at h
        refine am_iload_n (j := 2) (am_dk tk_X6_richest_1 10 rfl) rfl rfl ?_
        refine am_goto (tgt := 137) (am_dk tk_X6_richest_1 11 rfl) (by decide) ?_
        exact am_iret rfl (am_r2 h hΦ) ⟨Nat.le_of_ble_eq_true rfl, Nat.le_of_ble_eq_true rfl⟩ (am_dk tk_X6_richest_1 13 rfl)
    · rw [if_neg hc60] at h
      refine am_aload_n (j := 0) (am_dk tk_X6_richest 35 rfl) rfl rfl ?_
      refine ly_getr (b := 62) rfl fl_X6_25 rfl rfl (am_dk tk_X6_richest 36 rfl) ?_
      refine am_bipush (v := 10) (am_dk tk_X6_richest 37 rfl) (by decide) ?_
      refine am_iload (j := 4) (am_dk tk_X6_richest 38 rfl) rfl ?_
      refine am_iadd (am_dk tk_X6_richest 39 rfl) ?_
      obtain ⟨hi72, h⟩ := am_chk h
      refine ly_iald (k := (10 + x5).toNatClampNeg) rfl (am_in_vp hi72) rfl (am_dk tk_X6_richest 40 rfl) ?_
      refine am_iload (j := 3) (am_dk tk_X6_richest 41 rfl) rfl ?_
      refine am_icmp_le (tgt := 83) (am_dk tk_X6_richest 42 rfl) (by decide) (fun hc75 => ?_) (fun hc75 => ?_)
      · simp only [if_pos hc75] at h
        refine am_iload_n (j := 2) (am_dk tk_X6_richest 45 rfl) rfl rfl ?_
        refine am_ls [0, 1, 3, 4] rfl ?_
        exact bx_X6_richest_84  hΦ (ih) _ _ _ _ _ h
      · simp only [if_neg hc75] at h
        refine am_iload (j := 4) (am_dk tk_X6_richest 43 rfl) rfl ?_
        refine am_goto (tgt := 84) (am_dk tk_X6_richest 44 rfl) (by decide) ?_
        refine am_ls [0, 1, 3, 4] rfl ?_
        exact bx_X6_richest_84  hΦ (ih) _ _ _ _ _ h
theorem bx_X6_richest_31 {l : Launch} {h0 : am_H} {Φ : am_Ph} {tw : Nat} {tp : Bool}  {r : Int32} {D' : am_M} (hΦ : Φ (some (.int r)) (ly tw tp D')) : ∀ (n : Nat) (x1 : Int32) (x2 : Int32) (x3 : Int32) (D : am_M), b_X6_richest_31 n x1 x2 x3 D = some (r, D') → am_Ex (am_E l m_X6_richest false h0 Φ) prog_8_method_40_code (0, 0) 31 [(0, .ref 56), (1, .int x1), (2, .int x2), (3, .int x3)] [] (ly tw tp D) := by
  intro n
  induction n with
  | zero =>
    intro x1 x2 x3 D h
    exact absurd h (by simp [b_X6_richest_31])
  | succ n ih =>
    intro x1 x2 x3 D h
    rw [b_X6_richest_31] at h
    refine am_iload_n (j := 3) (am_dk tk_X6_richest 18 rfl) rfl rfl ?_
    refine am_iload_n (j := 1) (am_dk tk_X6_richest 19 rfl) rfl rfl ?_
    refine am_icmp_ge (tgt := 46) (am_dk tk_X6_richest 20 rfl) (by decide) (fun hc33 => ?_) (fun hc33 => ?_)
    · rw [if_pos hc33] at h
      refine am_iconst (v := (-1)) (am_dk tk_X6_richest 25 rfl) (by decide) ?_
      refine am_istore_n (L' := [(3, .int (-1)), (0, .ref 56), (1, .int x1), (2, .int x2)]) (am_dk tk_X6_richest 26 rfl) rfl (Nat.le_of_ble_eq_true rfl) rfl ?_
      refine am_iconst (v := (-1)) (am_dk tk_X6_richest 27 rfl) (by decide) ?_
      refine am_istore (L' := [(4, .int (-1)), (3, .int (-1)), (0, .ref 56), (1, .int x1), (2, .int x2)]) (am_dk tk_X6_richest 28 rfl) (Nat.le_of_ble_eq_true rfl) rfl ?_
      refine am_iconst (v := 0) (am_dk tk_X6_richest 29 rfl) (by decide) ?_
      refine am_istore (L' := [(5, .int 0), (4, .int (-1)), (3, .int (-1)), (0, .ref 56), (1, .int x1), (2, .int x2)]) (am_dk tk_X6_richest 30 rfl) (Nat.le_of_ble_eq_true rfl) rfl ?_
      refine am_ls [3, 5, 2, 1, 0] rfl ?_
      exact bx_X6_richest_54  hΦ am_N _ _ _ _ _ h
    · rw [if_neg hc33] at h
      refine am_aload_n (j := 0) (am_dk tk_X6_richest 21 rfl) rfl rfl ?_
      obtain ⟨q37, hq37, h⟩ := am_bind h
      refine ly_cV (M := m_X6_pass) (As := []) (b := 56) (st := []) (ct_X6_pass hq37) rfl (by decide) rfl ml_X6_221 ld_X6_pass rfl ⟨Nat.le_of_ble_eq_true rfl, Nat.le_of_ble_eq_true rfl⟩ (Nat.le_of_ble_eq_true rfl) ⟨rfl, rfl⟩ ⟨Nat.le_of_ble_eq_true rfl, Nat.le_of_ble_eq_true rfl⟩ (am_dk tk_X6_richest 22 rfl) (am_kkv ?_)
      refine am_iinc (j := 3) (v := x3 + 1) (L' := [(3, .int (x3 + 1)), (0, .ref 56), (1, .int x1), (2, .int x2)]) (am_dk tk_X6_richest 23 rfl) rfl rfl (Nat.le_of_ble_eq_true rfl) rfl ?_
      refine am_goto (tgt := 31) (am_dk tk_X6_richest 24 rfl) (by decide) ?_
      refine am_ls [1, 2, 3, 0] rfl ?_
      exact ih _ _ _ _ h
theorem ct_X6_richest {l : Launch} {tw : Nat} {tp : Bool}  {x1 : Int32} {x2 : Int32} {r : Int32} {D D' : am_M} (h : f_X6_richest x1 x2 D = some (r, D')) : am_CT l m_X6_richest false [.ref 56, .int x1, .int x2] (ly tw tp D) (am_is (some (.int r)) (ly tw tp D')) := by
  have hΦ : am_is (some (.int r)) (ly tw tp D') (some (.int r)) (ly tw tp D') := ⟨rfl, rfl⟩
  refine am_CT.of (by decide) (Nat.le_of_ble_eq_true rfl) ?_
  show am_Ex _ _ _ 0 [(0, .ref 56), (1, .int x1), (2, .int x2)] [] _
  rw [f_X6_richest] at h
  refine am_iload_n (j := 1) (am_dk tk_X6_richest 0 rfl) rfl rfl ?_
  refine am_i2l (am_dk tk_X6_richest 1 rfl) ?_
  refine am_lconst (v := 0) (am_dk tk_X6_richest 2 rfl) (by decide) ?_
  refine am_ldc2 kl_X6_247 (am_dk tk_X6_richest 3 rfl) ?_
  refine am_cS (M := m_X6_in) (As := [.long x1.toInt64, .long 0, .long 200]) (st := []) (ct_X6_in _ _ _ _) ml_X6_99 ld_X6_in rfl ⟨Nat.le_of_ble_eq_true rfl, Nat.le_of_ble_eq_true rfl⟩ (Nat.le_of_ble_eq_true rfl) ⟨rfl, rfl⟩ ⟨Nat.le_of_ble_eq_true rfl, Nat.le_of_ble_eq_true rfl⟩ (am_dk tk_X6_richest 4 rfl) (am_kki ?_)
  refine am_if_eq (tgt := 22) (am_dk tk_X6_richest 5 rfl) (by decide) (fun hc9 => ?_) (fun hc9 => ?_)
  · rw [if_pos hc9] at h
    refine am_ldc kc_X6_105 (am_dk tk_X6_richest 12 rfl) ?_
    exact am_iret rfl (am_r2 h hΦ) ⟨Nat.le_of_ble_eq_true rfl, Nat.le_of_ble_eq_true rfl⟩ (am_dk tk_X6_richest 13 rfl)
  · rw [if_neg hc9] at h
    refine am_iload_n (j := 2) (am_dk tk_X6_richest 6 rfl) rfl rfl ?_
    refine am_i2l (am_dk tk_X6_richest 7 rfl) ?_
    refine am_lconst (v := 0) (am_dk tk_X6_richest 8 rfl) (by decide) ?_
    refine am_lconst (v := 1) (am_dk tk_X6_richest 9 rfl) (by decide) ?_
    refine am_cS (M := m_X6_in) (As := [.long x2.toInt64, .long 0, .long 1]) (st := []) (ct_X6_in _ _ _ _) ml_X6_99 ld_X6_in rfl ⟨Nat.le_of_ble_eq_true rfl, Nat.le_of_ble_eq_true rfl⟩ (Nat.le_of_ble_eq_true rfl) ⟨rfl, rfl⟩ ⟨Nat.le_of_ble_eq_true rfl, Nat.le_of_ble_eq_true rfl⟩ (am_dk tk_X6_richest 10 rfl) (am_kki ?_)
    refine am_if_ne (tgt := 25) (am_dk tk_X6_richest 11 rfl) (by decide) (fun hc19 => ?_) (fun hc19 => ?_)
    · rw [if_neg hc19] at h
      refine am_aload_n (j := 0) (am_dk tk_X6_richest 14 rfl) rfl rfl ?_
      obtain ⟨q26, hq26, h⟩ := am_bind h
      refine ly_cV (M := m_X6_save) (As := []) (b := 56) (st := []) (ct_X6_save hq26) rfl (by decide) rfl ml_X6_241 ld_X6_save rfl ⟨Nat.le_of_ble_eq_true rfl, Nat.le_of_ble_eq_true rfl⟩ (Nat.le_of_ble_eq_true rfl) ⟨rfl, rfl⟩ ⟨Nat.le_of_ble_eq_true rfl, Nat.le_of_ble_eq_true rfl⟩ (am_dk tk_X6_richest 15 rfl) (am_kkv ?_)
      refine am_iconst (v := 0) (am_dk tk_X6_richest 16 rfl) (by decide) ?_
      refine am_istore_n (L' := [(3, .int 0), (0, .ref 56), (1, .int x1), (2, .int x2)]) (am_dk tk_X6_richest 17 rfl) rfl (Nat.le_of_ble_eq_true rfl) rfl ?_
      refine am_ls [1, 2, 3, 0] rfl ?_
      exact bx_X6_richest_31  hΦ am_N _ _ _ _ h
    · rw [if_pos hc19] at h
      refine am_ldc kc_X6_105 (am_dk tk_X6_richest 12 rfl) ?_
      exact am_iret rfl (am_r2 h hΦ) ⟨Nat.le_of_ble_eq_true rfl, Nat.le_of_ble_eq_true rfl⟩ (am_dk tk_X6_richest 13 rfl)
abbrev m_X6_behindDebts : am_D := (yX6_behindDebts, prog_8_method_41_code, 6, (some .int), { frames := 0, cells := 0, slots := 0, locals := 0 })
theorem ld_X6_behindDebts : am_LD m_X6_behindDebts 2 := ⟨(am_tb 85 (by decide +kernel) (by decide +kernel)), (am_tb 1153 (by decide +kernel) (by decide +kernel)), by decide, by decide, by decide +kernel⟩
def tb_X6_behindDebts : List (Nat × Instr × Nat) := [(0, .iload_n 2, 1), (1, .istore_n 3, 1), (2, .iconst 0, 1), (3, .istore 4, 2), (5, .iload 4, 2), (7, .aload_n 0, 1), (8, .getfield 182, 3), (11, .if_icmp .ge 64, 3), (14, .aload_n 0, 1), (15, .getfield 16, 3), (18, .iload 4, 2), (20, .iaload, 1), (21, .aload_n 0, 1), (22, .getfield 249, 3), (25, .if_icmp .ne 18, 3), (28, .aload_n 0, 1), (29, .getfield 19, 3), (32, .iload 4, 2), (34, .iaload, 1), (35, .iload_n 1, 1), (36, .if_icmp .ne 7, 3), (39, .iconst 1, 1), (40, .goto 4, 3), (43, .iconst 0, 1), (44, .istore 5, 2), (46, .iload_n 3, 1), (47, .iload 5, 2), (49, .ifCond .eq 17, 3), (52, .iload_n 3, 1), (53, .ifCond .lt 13, 3), (56, .aload_n 0, 1), (57, .getfield 22, 3), (60, .iload 4, 2), (62, .iaload, 1), (63, .goto 4, 3), (66, .iconst 0, 1), (67, .isub, 1), (68, .istore_n 3, 1), (69, .iinc 4 1, 3), (72, .goto (-67), 3), (75, .iload_n 3, 1), (76, .ireturn, 1)]
theorem tk_X6_behindDebts : am_tbl prog_8_method_41_code tb_X6_behindDebts = true := by decide +kernel
def b_X6_behindDebts_66 (k5 : Int32 → Int32 → Int32 → am_M → Option (Int32 × am_M)) (x1 : Int32) (x4 : Int32) (s0 : Int32) (D : am_M) : Option (Int32 × am_M) := k5 x1 (s0 - 0) (x4 + 1) D
def b_X6_behindDebts_44 (k5 : Int32 → Int32 → Int32 → am_M → Option (Int32 × am_M)) (x1 : Int32) (x3 : Int32) (x4 : Int32) (s0 : Int32) (D : am_M) : Option (Int32 × am_M) := if s0 = 0 then b_X6_behindDebts_66 k5 x1 x4 x3 D else if x3 < 0 then b_X6_behindDebts_66 k5 x1 x4 x3 D else if am_in x4 8 = true then k5 x1 (x3 - (D 61 x4.toNatClampNeg)) (x4 + 1) D else none
def b_X6_behindDebts_43 (k5 : Int32 → Int32 → Int32 → am_M → Option (Int32 × am_M)) (x1 : Int32) (x3 : Int32) (x4 : Int32) (D : am_M) : Option (Int32 × am_M) := b_X6_behindDebts_44 k5 x1 x3 x4 0 D
def b_X6_behindDebts_5 : Nat → Int32 → Int32 → Int32 → am_M → Option (Int32 × am_M)
  | 0, _, _, _, _ => none
  | n + 1, x1, x3, x4, D => if (D 56 7) ≤ x4 then some (x3, D) else if am_in x4 8 = true then if (D 59 x4.toNatClampNeg) = (D 56 35) then if (D 60 x4.toNatClampNeg) = x1 then b_X6_behindDebts_44 (b_X6_behindDebts_5 n) x1 x3 x4 1 D else b_X6_behindDebts_43 (b_X6_behindDebts_5 n) x1 x3 x4 D else b_X6_behindDebts_43 (b_X6_behindDebts_5 n) x1 x3 x4 D else none
def f_X6_behindDebts (x1 : Int32) (x2 : Int32) (D : am_M) : Option (Int32 × am_M) := b_X6_behindDebts_5 am_N x1 x2 0 D
theorem bx_X6_behindDebts_66 {l : Launch} {h0 : am_H} {Φ : am_Ph} {tw : Nat} {tp : Bool}  {r : Int32} {D' : am_M} (hΦ : Φ (some (.int r)) (ly tw tp D')) {k5 : Int32 → Int32 → Int32 → am_M → Option (Int32 × am_M)} (hk5 : ∀ (x1 : Int32) (x3 : Int32) (x4 : Int32) (D : am_M), k5 x1 x3 x4 D = some (r, D') → am_Ex (am_E l m_X6_behindDebts false h0 Φ) prog_8_method_41_code (0, 0) 5 [(0, .ref 56), (1, .int x1), (3, .int x3), (4, .int x4)] [] (ly tw tp D)) : ∀ (x1 : Int32) (x4 : Int32) (s0 : Int32) (D : am_M), b_X6_behindDebts_66 k5 x1 x4 s0 D = some (r, D') → am_Ex (am_E l m_X6_behindDebts false h0 Φ) prog_8_method_41_code (0, 0) 66 [(0, .ref 56), (1, .int x1), (4, .int x4)] [.int s0] (ly tw tp D) := by
  intro x1 x4 s0 D h
  rw [b_X6_behindDebts_66] at h
  refine am_iconst (v := 0) (am_dk tk_X6_behindDebts 35 rfl) (by decide) ?_
  refine am_isub (am_dk tk_X6_behindDebts 36 rfl) ?_
  refine am_istore_n (L' := [(3, .int (s0 - 0)), (0, .ref 56), (1, .int x1), (4, .int x4)]) (am_dk tk_X6_behindDebts 37 rfl) rfl (Nat.le_of_ble_eq_true rfl) rfl ?_
  refine am_iinc (j := 3) (v := x4 + 1) (L' := [(4, .int (x4 + 1)), (3, .int (s0 - 0)), (0, .ref 56), (1, .int x1)]) (am_dk tk_X6_behindDebts 38 rfl) rfl rfl (Nat.le_of_ble_eq_true rfl) rfl ?_
  refine am_goto (tgt := 5) (am_dk tk_X6_behindDebts 39 rfl) (by decide) ?_
  refine am_ls [2, 3, 1, 0] rfl ?_
  exact hk5 _ _ _ _ h
theorem bx_X6_behindDebts_44 {l : Launch} {h0 : am_H} {Φ : am_Ph} {tw : Nat} {tp : Bool}  {r : Int32} {D' : am_M} (hΦ : Φ (some (.int r)) (ly tw tp D')) {k5 : Int32 → Int32 → Int32 → am_M → Option (Int32 × am_M)} (hk5 : ∀ (x1 : Int32) (x3 : Int32) (x4 : Int32) (D : am_M), k5 x1 x3 x4 D = some (r, D') → am_Ex (am_E l m_X6_behindDebts false h0 Φ) prog_8_method_41_code (0, 0) 5 [(0, .ref 56), (1, .int x1), (3, .int x3), (4, .int x4)] [] (ly tw tp D)) : ∀ (x1 : Int32) (x3 : Int32) (x4 : Int32) (s0 : Int32) (D : am_M), b_X6_behindDebts_44 k5 x1 x3 x4 s0 D = some (r, D') → am_Ex (am_E l m_X6_behindDebts false h0 Φ) prog_8_method_41_code (0, 0) 44 [(0, .ref 56), (1, .int x1), (3, .int x3), (4, .int x4)] [.int s0] (ly tw tp D) := by
  intro x1 x3 x4 s0 D h
  rw [b_X6_behindDebts_44] at h
  refine am_istore (L' := [(5, .int s0), (0, .ref 56), (1, .int x1), (3, .int x3), (4, .int x4)]) (am_dk tk_X6_behindDebts 24 rfl) (Nat.le_of_ble_eq_true rfl) rfl ?_
  refine am_iload_n (j := 3) (am_dk tk_X6_behindDebts 25 rfl) rfl rfl ?_
  refine am_iload (j := 0) (am_dk tk_X6_behindDebts 26 rfl) rfl ?_
  refine am_if_eq (tgt := 66) (am_dk tk_X6_behindDebts 27 rfl) (by decide) (fun hc49 => ?_) (fun hc49 => ?_)
  · rw [if_pos hc49] at h
    refine am_ls [1, 2, 4] rfl ?_
    exact bx_X6_behindDebts_66  hΦ hk5 _ _ _ _ h
  · rw [if_neg hc49] at h
    refine am_iload_n (j := 3) (am_dk tk_X6_behindDebts 28 rfl) rfl rfl ?_
    refine am_if_lt (tgt := 66) (am_dk tk_X6_behindDebts 29 rfl) (by decide) (fun hc53 => ?_) (fun hc53 => ?_)
    · rw [if_pos hc53] at h
      refine am_ls [1, 2, 4] rfl ?_
      exact bx_X6_behindDebts_66  hΦ hk5 _ _ _ _ h
    · rw [if_neg hc53] at h
      refine am_aload_n (j := 1) (am_dk tk_X6_behindDebts 30 rfl) rfl rfl ?_
      refine ly_getr (b := 61) rfl fl_X6_22 rfl rfl (am_dk tk_X6_behindDebts 31 rfl) ?_
      refine am_iload (j := 4) (am_dk tk_X6_behindDebts 32 rfl) rfl ?_
      obtain ⟨hi62, h⟩ := am_chk h
      refine ly_iald (k := x4.toNatClampNeg) rfl (am_in_vp hi62) rfl (am_dk tk_X6_behindDebts 33 rfl) ?_
      refine am_goto (tgt := 67) (am_dk tk_X6_behindDebts 34 rfl) (by decide) ?_
      refine am_isub (am_dk tk_X6_behindDebts 36 rfl) ?_
      refine am_istore_n (L' := [(3, .int (x3 - (D 61 x4.toNatClampNeg))), (5, .int s0), (0, .ref 56), (1, .int x1), (4, .int x4)]) (am_dk tk_X6_behindDebts 37 rfl) rfl (Nat.le_of_ble_eq_true rfl) rfl ?_
      refine am_iinc (j := 4) (v := x4 + 1) (L' := [(4, .int (x4 + 1)), (3, .int (x3 - (D 61 x4.toNatClampNeg))), (5, .int s0), (0, .ref 56), (1, .int x1)]) (am_dk tk_X6_behindDebts 38 rfl) rfl rfl (Nat.le_of_ble_eq_true rfl) rfl ?_
      refine am_goto (tgt := 5) (am_dk tk_X6_behindDebts 39 rfl) (by decide) ?_
      refine am_ls [3, 4, 1, 0] rfl ?_
      exact hk5 _ _ _ _ h
theorem bx_X6_behindDebts_43 {l : Launch} {h0 : am_H} {Φ : am_Ph} {tw : Nat} {tp : Bool}  {r : Int32} {D' : am_M} (hΦ : Φ (some (.int r)) (ly tw tp D')) {k5 : Int32 → Int32 → Int32 → am_M → Option (Int32 × am_M)} (hk5 : ∀ (x1 : Int32) (x3 : Int32) (x4 : Int32) (D : am_M), k5 x1 x3 x4 D = some (r, D') → am_Ex (am_E l m_X6_behindDebts false h0 Φ) prog_8_method_41_code (0, 0) 5 [(0, .ref 56), (1, .int x1), (3, .int x3), (4, .int x4)] [] (ly tw tp D)) : ∀ (x1 : Int32) (x3 : Int32) (x4 : Int32) (D : am_M), b_X6_behindDebts_43 k5 x1 x3 x4 D = some (r, D') → am_Ex (am_E l m_X6_behindDebts false h0 Φ) prog_8_method_41_code (0, 0) 43 [(0, .ref 56), (1, .int x1), (3, .int x3), (4, .int x4)] [] (ly tw tp D) := by
  intro x1 x3 x4 D h
  rw [b_X6_behindDebts_43] at h
  refine am_iconst (v := 0) (am_dk tk_X6_behindDebts 23 rfl) (by decide) ?_
  exact bx_X6_behindDebts_44  hΦ hk5 _ _ _ _ _ h
theorem bx_X6_behindDebts_5 {l : Launch} {h0 : am_H} {Φ : am_Ph} {tw : Nat} {tp : Bool}  {r : Int32} {D' : am_M} (hΦ : Φ (some (.int r)) (ly tw tp D')) : ∀ (n : Nat) (x1 : Int32) (x3 : Int32) (x4 : Int32) (D : am_M), b_X6_behindDebts_5 n x1 x3 x4 D = some (r, D') → am_Ex (am_E l m_X6_behindDebts false h0 Φ) prog_8_method_41_code (0, 0) 5 [(0, .ref 56), (1, .int x1), (3, .int x3), (4, .int x4)] [] (ly tw tp D) := by
  intro n
  induction n with
  | zero =>
    intro x1 x3 x4 D h
    exact absurd h (by simp [b_X6_behindDebts_5])
  | succ n ih =>
    intro x1 x3 x4 D h
    rw [b_X6_behindDebts_5] at h
    refine am_iload (j := 3) (am_dk tk_X6_behindDebts 4 rfl) rfl ?_
    refine am_aload_n (j := 0) (am_dk tk_X6_behindDebts 5 rfl) rfl rfl ?_
    refine ly_geti rfl fl_X6_182 rfl (am_dk tk_X6_behindDebts 6 rfl) ?_
    refine am_icmp_ge (tgt := 75) (am_dk tk_X6_behindDebts 7 rfl) (by decide) (fun hc11 => ?_) (fun hc11 => ?_)
    · rw [if_pos hc11] at h
      refine am_iload_n (j := 2) (am_dk tk_X6_behindDebts 40 rfl) rfl rfl ?_
      exact am_iret rfl (am_r2 h hΦ) ⟨Nat.le_of_ble_eq_true rfl, Nat.le_of_ble_eq_true rfl⟩ (am_dk tk_X6_behindDebts 41 rfl)
    · rw [if_neg hc11] at h
      refine am_aload_n (j := 0) (am_dk tk_X6_behindDebts 8 rfl) rfl rfl ?_
      refine ly_getr (b := 59) rfl fl_X6_16 rfl rfl (am_dk tk_X6_behindDebts 9 rfl) ?_
      refine am_iload (j := 3) (am_dk tk_X6_behindDebts 10 rfl) rfl ?_
      obtain ⟨hi20, h⟩ := am_chk h
      refine ly_iald (k := x4.toNatClampNeg) rfl (am_in_vp hi20) rfl (am_dk tk_X6_behindDebts 11 rfl) ?_
      refine am_aload_n (j := 0) (am_dk tk_X6_behindDebts 12 rfl) rfl rfl ?_
      refine ly_geti rfl fl_X6_249 rfl (am_dk tk_X6_behindDebts 13 rfl) ?_
      refine am_icmp_ne (tgt := 43) (am_dk tk_X6_behindDebts 14 rfl) (by decide) (fun hc25 => ?_) (fun hc25 => ?_)
      · rw [if_neg hc25] at h
        exact bx_X6_behindDebts_43  hΦ (ih) _ _ _ _ h
      · rw [if_pos hc25] at h
        refine am_aload_n (j := 0) (am_dk tk_X6_behindDebts 15 rfl) rfl rfl ?_
        refine ly_getr (b := 60) rfl fl_X6_19 rfl rfl (am_dk tk_X6_behindDebts 16 rfl) ?_
        refine am_iload (j := 3) (am_dk tk_X6_behindDebts 17 rfl) rfl ?_
        refine ly_iald (k := x4.toNatClampNeg) rfl (am_in_vp hi20) rfl (am_dk tk_X6_behindDebts 18 rfl) ?_
        refine am_iload_n (j := 1) (am_dk tk_X6_behindDebts 19 rfl) rfl rfl ?_
        refine am_icmp_ne (tgt := 43) (am_dk tk_X6_behindDebts 20 rfl) (by decide) (fun hc36 => ?_) (fun hc36 => ?_)
        · rw [if_neg hc36] at h
          exact bx_X6_behindDebts_43  hΦ (ih) _ _ _ _ h
        · rw [if_pos hc36] at h
          refine am_iconst (v := 1) (am_dk tk_X6_behindDebts 21 rfl) (by decide) ?_
          refine am_goto (tgt := 44) (am_dk tk_X6_behindDebts 22 rfl) (by decide) ?_
          exact bx_X6_behindDebts_44  hΦ (ih) _ _ _ _ _ h
theorem ct_X6_behindDebts {l : Launch} {tw : Nat} {tp : Bool}  {x1 : Int32} {x2 : Int32} {r : Int32} {D D' : am_M} (h : f_X6_behindDebts x1 x2 D = some (r, D')) : am_CT l m_X6_behindDebts false [.ref 56, .int x1, .int x2] (ly tw tp D) (am_is (some (.int r)) (ly tw tp D')) := by
  have hΦ : am_is (some (.int r)) (ly tw tp D') (some (.int r)) (ly tw tp D') := ⟨rfl, rfl⟩
  refine am_CT.of (by decide) (Nat.le_of_ble_eq_true rfl) ?_
  show am_Ex _ _ _ 0 [(0, .ref 56), (1, .int x1), (2, .int x2)] [] _
  rw [f_X6_behindDebts] at h
  refine am_iload_n (j := 2) (am_dk tk_X6_behindDebts 0 rfl) rfl rfl ?_
  refine am_istore_n (L' := [(3, .int x2), (0, .ref 56), (1, .int x1), (2, .int x2)]) (am_dk tk_X6_behindDebts 1 rfl) rfl (Nat.le_of_ble_eq_true rfl) rfl ?_
  refine am_iconst (v := 0) (am_dk tk_X6_behindDebts 2 rfl) (by decide) ?_
  refine am_istore (L' := [(4, .int 0), (3, .int x2), (0, .ref 56), (1, .int x1), (2, .int x2)]) (am_dk tk_X6_behindDebts 3 rfl) (Nat.le_of_ble_eq_true rfl) rfl ?_
  refine am_ls [2, 3, 1, 0] rfl ?_
  exact bx_X6_behindDebts_5  hΦ am_N _ _ _ _ h
abbrev m_X6_tiredBy : am_D := (yX6_tiredBy, prog_8_method_42_code, 2, (some .int), { frames := 1, cells := 0, slots := 0, locals := 21 })
theorem ld_X6_tiredBy : am_LD m_X6_tiredBy 2 := ⟨(am_tb 85 (by decide +kernel) (by decide +kernel)), (am_tb 1145 (by decide +kernel) (by decide +kernel)), by decide, by decide, by decide +kernel⟩
def tb_X6_tiredBy : List (Nat × Instr × Nat) := [(0, .iload_n 1, 1), (1, .ifCond .ne 16, 3), (4, .iload_n 0, 1), (5, .iconst 4, 1), (6, .if_icmp .le 9, 3), (9, .iload_n 0, 1), (10, .iconst 4, 1), (11, .isub, 1), (12, .goto 4, 3), (15, .iconst 0, 1), (16, .ireturn, 1), (17, .iload_n 0, 1), (18, .iload_n 1, 1), (19, .iconst 1, 1), (20, .if_icmp .ne 7, 3), (23, .iconst 3, 1), (24, .goto 4, 3), (27, .iconst 1, 1), (28, .iadd, 1), (29, .bipush 99, 2), (31, .invokestatic 207, 3), (34, .ireturn, 1)]
theorem tk_X6_tiredBy : am_tbl prog_8_method_42_code tb_X6_tiredBy = true := by decide +kernel
def f_X6_tiredBy (x0 : Int32) (x1 : Int32) : Int32 := if x1 = 0 then if x0 ≤ 4 then 0 else x0 - 4 else if x1 = 1 then f_X6_atMost (x0 + 3) 99 else f_X6_atMost (x0 + 1) 99
theorem ct_X6_tiredBy {l : Launch} (x0 : Int32) (x1 : Int32) (h : am_H) : am_CT l m_X6_tiredBy false [.int x0, .int x1] h (am_is (some (.int (f_X6_tiredBy x0 x1))) h) := by
  refine am_CT.of (by decide) (Nat.le_of_ble_eq_true rfl) ?_
  show am_Ex _ _ _ 0 [(0, .int x0), (1, .int x1)] [] _
  refine am_iload_n (j := 1) (am_dk tk_X6_tiredBy 0 rfl) rfl rfl ?_
  refine am_if_ne (tgt := 17) (am_dk tk_X6_tiredBy 1 rfl) (by decide) (fun hc1 => ?_) (fun hc1 => ?_)
  · skip
    refine am_iload_n (j := 0) (am_dk tk_X6_tiredBy 11 rfl) rfl rfl ?_
    refine am_iload_n (j := 1) (am_dk tk_X6_tiredBy 12 rfl) rfl rfl ?_
    refine am_iconst (v := 1) (am_dk tk_X6_tiredBy 13 rfl) (by decide) ?_
    refine am_icmp_ne (tgt := 27) (am_dk tk_X6_tiredBy 14 rfl) (by decide) (fun hc20 => ?_) (fun hc20 => ?_)
    · skip
      refine am_iconst (v := 1) (am_dk tk_X6_tiredBy 17 rfl) (by decide) ?_
      refine am_iadd (am_dk tk_X6_tiredBy 18 rfl) ?_
      refine am_bipush (v := 99) (am_dk tk_X6_tiredBy 19 rfl) (by decide) ?_
      refine am_cS (M := m_X6_atMost) (As := [.int (x0 + 1), .int 99]) (st := []) (ct_X6_atMost _ _ _) ml_X6_207 ld_X6_atMost rfl ⟨Nat.le_of_ble_eq_true rfl, Nat.le_of_ble_eq_true rfl⟩ (Nat.le_of_ble_eq_true rfl) ⟨rfl, rfl⟩ ⟨Nat.le_of_ble_eq_true rfl, Nat.le_of_ble_eq_true rfl⟩ (am_dk tk_X6_tiredBy 20 rfl) (am_kki ?_)
      exact am_iret rfl ⟨by simp only [f_X6_tiredBy, if_neg hc1, if_neg hc20], rfl⟩ ⟨Nat.le_of_ble_eq_true rfl, Nat.le_of_ble_eq_true rfl⟩ (am_dk tk_X6_tiredBy 21 rfl)
    · skip
      refine am_iconst (v := 3) (am_dk tk_X6_tiredBy 15 rfl) (by decide) ?_
      refine am_goto (tgt := 28) (am_dk tk_X6_tiredBy 16 rfl) (by decide) ?_
      refine am_iadd (am_dk tk_X6_tiredBy 18 rfl) ?_
      refine am_bipush (v := 99) (am_dk tk_X6_tiredBy 19 rfl) (by decide) ?_
      refine am_cS (M := m_X6_atMost) (As := [.int (x0 + 3), .int 99]) (st := []) (ct_X6_atMost _ _ _) ml_X6_207 ld_X6_atMost rfl ⟨Nat.le_of_ble_eq_true rfl, Nat.le_of_ble_eq_true rfl⟩ (Nat.le_of_ble_eq_true rfl) ⟨rfl, rfl⟩ ⟨Nat.le_of_ble_eq_true rfl, Nat.le_of_ble_eq_true rfl⟩ (am_dk tk_X6_tiredBy 20 rfl) (am_kki ?_)
      exact am_iret rfl ⟨by simp only [f_X6_tiredBy, if_neg hc1, if_pos hc20], rfl⟩ ⟨Nat.le_of_ble_eq_true rfl, Nat.le_of_ble_eq_true rfl⟩ (am_dk tk_X6_tiredBy 21 rfl)
  · skip
    refine am_iload_n (j := 0) (am_dk tk_X6_tiredBy 2 rfl) rfl rfl ?_
    refine am_iconst (v := 4) (am_dk tk_X6_tiredBy 3 rfl) (by decide) ?_
    refine am_icmp_le (tgt := 15) (am_dk tk_X6_tiredBy 4 rfl) (by decide) (fun hc6 => ?_) (fun hc6 => ?_)
    · skip
      refine am_iconst (v := 0) (am_dk tk_X6_tiredBy 9 rfl) (by decide) ?_
      exact am_iret rfl ⟨by simp only [f_X6_tiredBy, if_pos hc1, if_pos hc6], rfl⟩ ⟨Nat.le_of_ble_eq_true rfl, Nat.le_of_ble_eq_true rfl⟩ (am_dk tk_X6_tiredBy 10 rfl)
    · skip
      refine am_iload_n (j := 0) (am_dk tk_X6_tiredBy 5 rfl) rfl rfl ?_
      refine am_iconst (v := 4) (am_dk tk_X6_tiredBy 6 rfl) (by decide) ?_
      refine am_isub (am_dk tk_X6_tiredBy 7 rfl) ?_
      refine am_goto (tgt := 16) (am_dk tk_X6_tiredBy 8 rfl) (by decide) ?_
      exact am_iret rfl ⟨by simp only [f_X6_tiredBy, if_pos hc1, if_neg hc6], rfl⟩ ⟨Nat.le_of_ble_eq_true rfl, Nat.le_of_ble_eq_true rfl⟩ (am_dk tk_X6_tiredBy 10 rfl)
abbrev m_X6_stateBy : am_D := (yX6_stateBy, prog_8_method_43_code, 3, (some .int), { frames := 2, cells := 0, slots := 0, locals := 42 })
theorem ld_X6_stateBy : am_LD m_X6_stateBy 3 := ⟨(am_tb 85 (by decide +kernel) (by decide +kernel)), (am_tb 1142 (by decide +kernel) (by decide +kernel)), by decide, by decide, by decide +kernel⟩
def tb_X6_stateBy : List (Nat × Instr × Nat) := [(0, .bipush 10, 2), (2, .iload_n 0, 1), (3, .iload_n 2, 1), (4, .invokestatic 252, 3), (7, .imul, 1), (8, .iload_n 2, 1), (9, .ifCond .ne 14, 3), (12, .iload_n 1, 1), (13, .iconst 1, 1), (14, .iadd, 1), (15, .bipush 9, 2), (17, .invokestatic 207, 3), (20, .goto 4, 3), (23, .iconst 0, 1), (24, .iadd, 1), (25, .ireturn, 1)]
theorem tk_X6_stateBy : am_tbl prog_8_method_43_code tb_X6_stateBy = true := by decide +kernel
def f_X6_stateBy (x0 : Int32) (x1 : Int32) (x2 : Int32) : Int32 := if x2 = 0 then (10 * (f_X6_tiredBy x0 x2)) + (f_X6_atMost (x1 + 1) 9) else (10 * (f_X6_tiredBy x0 x2)) + 0
theorem ct_X6_stateBy {l : Launch} (x0 : Int32) (x1 : Int32) (x2 : Int32) (h : am_H) : am_CT l m_X6_stateBy false [.int x0, .int x1, .int x2] h (am_is (some (.int (f_X6_stateBy x0 x1 x2))) h) := by
  refine am_CT.of (by decide) (Nat.le_of_ble_eq_true rfl) ?_
  show am_Ex _ _ _ 0 [(0, .int x0), (1, .int x1), (2, .int x2)] [] _
  refine am_bipush (v := 10) (am_dk tk_X6_stateBy 0 rfl) (by decide) ?_
  refine am_iload_n (j := 0) (am_dk tk_X6_stateBy 1 rfl) rfl rfl ?_
  refine am_iload_n (j := 2) (am_dk tk_X6_stateBy 2 rfl) rfl rfl ?_
  refine am_cS (M := m_X6_tiredBy) (As := [.int x0, .int x2]) (st := [.int 10]) (ct_X6_tiredBy _ _ _) ml_X6_252 ld_X6_tiredBy rfl ⟨Nat.le_of_ble_eq_true rfl, Nat.le_of_ble_eq_true rfl⟩ (Nat.le_of_ble_eq_true rfl) ⟨rfl, rfl⟩ ⟨Nat.le_of_ble_eq_true rfl, Nat.le_of_ble_eq_true rfl⟩ (am_dk tk_X6_stateBy 3 rfl) (am_kki ?_)
  refine am_imul (am_dk tk_X6_stateBy 4 rfl) ?_
  refine am_iload_n (j := 2) (am_dk tk_X6_stateBy 5 rfl) rfl rfl ?_
  refine am_if_ne (tgt := 23) (am_dk tk_X6_stateBy 6 rfl) (by decide) (fun hc9 => ?_) (fun hc9 => ?_)
  · skip
    refine am_iconst (v := 0) (am_dk tk_X6_stateBy 13 rfl) (by decide) ?_
    refine am_iadd (am_dk tk_X6_stateBy 14 rfl) ?_
    exact am_iret rfl ⟨by simp only [f_X6_stateBy, if_neg hc9], rfl⟩ ⟨Nat.le_of_ble_eq_true rfl, Nat.le_of_ble_eq_true rfl⟩ (am_dk tk_X6_stateBy 15 rfl)
  · skip
    refine am_iload_n (j := 1) (am_dk tk_X6_stateBy 7 rfl) rfl rfl ?_
    refine am_iconst (v := 1) (am_dk tk_X6_stateBy 8 rfl) (by decide) ?_
    refine am_iadd (am_dk tk_X6_stateBy 9 rfl) ?_
    refine am_bipush (v := 9) (am_dk tk_X6_stateBy 10 rfl) (by decide) ?_
    refine am_cS (M := m_X6_atMost) (As := [.int (x1 + 1), .int 9]) (st := [.int (10 * (f_X6_tiredBy x0 x2))]) (ct_X6_atMost _ _ _) ml_X6_207 ld_X6_atMost rfl ⟨Nat.le_of_ble_eq_true rfl, Nat.le_of_ble_eq_true rfl⟩ (Nat.le_of_ble_eq_true rfl) ⟨rfl, rfl⟩ ⟨Nat.le_of_ble_eq_true rfl, Nat.le_of_ble_eq_true rfl⟩ (am_dk tk_X6_stateBy 11 rfl) (am_kki ?_)
    refine am_goto (tgt := 24) (am_dk tk_X6_stateBy 12 rfl) (by decide) ?_
    refine am_iadd (am_dk tk_X6_stateBy 14 rfl) ?_
    exact am_iret rfl ⟨by simp only [f_X6_stateBy, if_pos hc9], rfl⟩ ⟨Nat.le_of_ble_eq_true rfl, Nat.le_of_ble_eq_true rfl⟩ (am_dk tk_X6_stateBy 15 rfl)
abbrev m_X6_purseBy : am_D := (yX6_purseBy, prog_8_method_44_code, 6, (some .int), { frames := 1, cells := 0, slots := 0, locals := 25 })
theorem ld_X6_purseBy : am_LD m_X6_purseBy 4 := ⟨(am_tb 85 (by decide +kernel) (by decide +kernel)), (am_tb 1149 (by decide +kernel) (by decide +kernel)), by decide, by decide, by decide +kernel⟩
def tb_X6_purseBy : List (Nat × Instr × Nat) := [(0, .iload_n 3, 1), (1, .ifCond .ne 21, 3), (4, .iload_n 1, 1), (5, .aload_n 0, 1), (6, .iload_n 2, 1), (7, .iconst 1, 1), (8, .iadd, 1), (9, .invokevirtual 204, 3), (12, .iadd, 1), (13, .sipush 9999, 3), (16, .invokestatic 207, 3), (19, .goto 4, 3), (22, .iload_n 1, 1), (23, .istore 5, 2), (25, .aload_n 0, 1), (26, .iload 4, 2), (28, .iload 5, 2), (30, .invokevirtual 255, 3), (33, .ireturn, 1)]
theorem tk_X6_purseBy : am_tbl prog_8_method_44_code tb_X6_purseBy = true := by decide +kernel
def b_X6_purseBy_23 (x4 : Int32) (s0 : Int32) (D : am_M) : Option (Int32 × am_M) := (f_X6_behindDebts x4 s0 D).bind fun q30 => some (q30.1, q30.2)
def f_X6_purseBy (x1 : Int32) (x2 : Int32) (x3 : Int32) (x4 : Int32) (D : am_M) : Option (Int32 × am_M) := b_X6_purseBy_23 x4 (if x3 = 0 then f_X6_atMost (x1 + (f_X6_minted (x2 + 1) D)) 9999 else x1) D
theorem bx_X6_purseBy_23 {l : Launch} {h0 : am_H} {Φ : am_Ph} {tw : Nat} {tp : Bool}  {r : Int32} {D' : am_M} (hΦ : Φ (some (.int r)) (ly tw tp D')) : ∀ (x4 : Int32) (s0 : Int32) (D : am_M), b_X6_purseBy_23 x4 s0 D = some (r, D') → am_Ex (am_E l m_X6_purseBy false h0 Φ) prog_8_method_44_code (0, 0) 23 [(0, .ref 56), (4, .int x4)] [.int s0] (ly tw tp D) := by
  intro x4 s0 D h
  rw [b_X6_purseBy_23] at h
  refine am_istore (L' := [(5, .int s0), (0, .ref 56), (4, .int x4)]) (am_dk tk_X6_purseBy 13 rfl) (Nat.le_of_ble_eq_true rfl) rfl ?_
  refine am_aload_n (j := 1) (am_dk tk_X6_purseBy 14 rfl) rfl rfl ?_
  refine am_iload (j := 2) (am_dk tk_X6_purseBy 15 rfl) rfl ?_
  refine am_iload (j := 0) (am_dk tk_X6_purseBy 16 rfl) rfl ?_
  obtain ⟨q30, hq30, h⟩ := am_bind h
  refine ly_cV (M := m_X6_behindDebts) (As := [.int x4, .int s0]) (b := 56) (st := []) (ct_X6_behindDebts hq30) rfl (by decide) rfl ml_X6_255 ld_X6_behindDebts rfl ⟨Nat.le_of_ble_eq_true rfl, Nat.le_of_ble_eq_true rfl⟩ (Nat.le_of_ble_eq_true rfl) ⟨rfl, rfl⟩ ⟨Nat.le_of_ble_eq_true rfl, Nat.le_of_ble_eq_true rfl⟩ (am_dk tk_X6_purseBy 17 rfl) (am_kki ?_)
  exact am_iret rfl (am_r2 h hΦ) ⟨Nat.le_of_ble_eq_true rfl, Nat.le_of_ble_eq_true rfl⟩ (am_dk tk_X6_purseBy 18 rfl)
theorem ct_X6_purseBy {l : Launch} {tw : Nat} {tp : Bool}  {x1 : Int32} {x2 : Int32} {x3 : Int32} {x4 : Int32} {r : Int32} {D D' : am_M} (h : f_X6_purseBy x1 x2 x3 x4 D = some (r, D')) : am_CT l m_X6_purseBy false [.ref 56, .int x1, .int x2, .int x3, .int x4] (ly tw tp D) (am_is (some (.int r)) (ly tw tp D')) := by
  have hΦ : am_is (some (.int r)) (ly tw tp D') (some (.int r)) (ly tw tp D') := ⟨rfl, rfl⟩
  refine am_CT.of (by decide) (Nat.le_of_ble_eq_true rfl) ?_
  show am_Ex _ _ _ 0 [(0, .ref 56), (1, .int x1), (2, .int x2), (3, .int x3), (4, .int x4)] [] _
  rw [f_X6_purseBy] at h
  refine am_iload_n (j := 3) (am_dk tk_X6_purseBy 0 rfl) rfl rfl ?_
  refine am_if_ne (tgt := 22) (am_dk tk_X6_purseBy 1 rfl) (by decide) (fun hc1 => ?_) (fun hc1 => ?_)
  · simp only [if_neg hc1] at h
    refine am_iload_n (j := 1) (am_dk tk_X6_purseBy 12 rfl) rfl rfl ?_
    refine am_ls [0, 4] rfl ?_
    exact bx_X6_purseBy_23  hΦ _ _ _ h
  · simp only [if_pos hc1] at h
    refine am_iload_n (j := 1) (am_dk tk_X6_purseBy 2 rfl) rfl rfl ?_
    refine am_aload_n (j := 0) (am_dk tk_X6_purseBy 3 rfl) rfl rfl ?_
    refine am_iload_n (j := 2) (am_dk tk_X6_purseBy 4 rfl) rfl rfl ?_
    refine am_iconst (v := 1) (am_dk tk_X6_purseBy 5 rfl) (by decide) ?_
    refine am_iadd (am_dk tk_X6_purseBy 6 rfl) ?_
    refine ly_cV (M := m_X6_minted) (As := [.int (x2 + 1)]) (b := 56) (st := [.int x1]) (ct_X6_minted _ _) rfl (by decide) rfl ml_X6_204 ld_X6_minted rfl ⟨Nat.le_of_ble_eq_true rfl, Nat.le_of_ble_eq_true rfl⟩ (Nat.le_of_ble_eq_true rfl) ⟨rfl, rfl⟩ ⟨Nat.le_of_ble_eq_true rfl, Nat.le_of_ble_eq_true rfl⟩ (am_dk tk_X6_purseBy 7 rfl) (am_kki ?_)
    refine am_iadd (am_dk tk_X6_purseBy 8 rfl) ?_
    refine am_sipush (v := 9999) (am_dk tk_X6_purseBy 9 rfl) (by decide) ?_
    refine am_cS (M := m_X6_atMost) (As := [.int (x1 + (f_X6_minted (x2 + 1) D)), .int 9999]) (st := []) (ct_X6_atMost _ _ _) ml_X6_207 ld_X6_atMost rfl ⟨Nat.le_of_ble_eq_true rfl, Nat.le_of_ble_eq_true rfl⟩ (Nat.le_of_ble_eq_true rfl) ⟨rfl, rfl⟩ ⟨Nat.le_of_ble_eq_true rfl, Nat.le_of_ble_eq_true rfl⟩ (am_dk tk_X6_purseBy 10 rfl) (am_kki ?_)
    refine am_goto (tgt := 23) (am_dk tk_X6_purseBy 11 rfl) (by decide) ?_
    refine am_ls [0, 4] rfl ?_
    exact bx_X6_purseBy_23  hΦ _ _ _ h
abbrev m_X6_liveOn : am_D := (yX6_liveOn, prog_8_method_45_code, 6, none, { frames := 3, cells := 0, slots := 0, locals := 64 })
theorem ld_X6_liveOn : am_LD m_X6_liveOn 1 := ⟨(am_tb 85 (by decide +kernel) (by decide +kernel)), (am_tb 1139 (by decide +kernel) (by decide +kernel)), by decide, by decide, by decide +kernel⟩
def tb_X6_liveOn : List (Nat × Instr × Nat) := [(0, .iconst 0, 1), (1, .istore_n 2, 1), (2, .iload_n 2, 1), (3, .sipush 1000, 3), (6, .if_icmp .ge 16, 3), (9, .aload_n 0, 1), (10, .getfield 68, 3), (13, .iload_n 2, 1), (14, .iconst (-1), 1), (15, .iastore, 1), (16, .iinc 2 1, 3), (19, .goto (-17), 3), (22, .iconst 0, 1), (23, .istore_n 2, 1), (24, .iload_n 2, 1), (25, .sipush 1000, 3), (28, .if_icmp .ge 104, 3), (31, .iload_n 2, 1), (32, .bipush 10, 2), (34, .if_icmp .ge 7, 3), (37, .iconst 1, 1), (38, .goto 4, 3), (41, .iconst 0, 1), (42, .istore_n 3, 1), (43, .iload_n 3, 1), (44, .iconst 3, 1), (45, .if_icmp .ge 81, 3), (48, .aload_n 0, 1), (49, .getfield 65, 3), (52, .iload_n 2, 1), (53, .iaload, 1), (54, .ifCond .lt 72, 3), (57, .iload_n 2, 1), (58, .bipush 10, 2), (60, .idiv, 1), (61, .iload_n 2, 1), (62, .bipush 10, 2), (64, .irem, 1), (65, .iload_n 3, 1), (66, .invokestatic 258, 3), (69, .istore 4, 2), (71, .aload_n 0, 1), (72, .aload_n 0, 1), (73, .getfield 65, 3), (76, .iload_n 2, 1), (77, .iaload, 1), (78, .iload_n 2, 1), (79, .bipush 10, 2), (81, .irem, 1), (82, .iload_n 3, 1), (83, .iload_n 1, 1), (84, .invokevirtual 262, 3), (87, .istore 5, 2), (89, .aload_n 0, 1), (90, .getfield 68, 3), (93, .iload 4, 2), (95, .iload 5, 2), (97, .aload_n 0, 1), (98, .getfield 68, 3), (101, .iload 4, 2)]
theorem tk_X6_liveOn : am_tbl prog_8_method_45_code tb_X6_liveOn = true := by decide +kernel
def tb_X6_liveOn_1 : List (Nat × Instr × Nat) := [(103, .iaload, 1), (104, .if_icmp .le 8, 3), (107, .iload 5, 2), (109, .goto 10, 3), (112, .aload_n 0, 1), (113, .getfield 68, 3), (116, .iload 4, 2), (118, .iaload, 1), (119, .iastore, 1), (120, .iinc 3 1, 3), (123, .goto (-80), 3), (126, .iinc 2 1, 3), (129, .goto (-105), 3), (132, .iconst 0, 1), (133, .istore_n 2, 1), (134, .iload_n 2, 1), (135, .sipush 1000, 3), (138, .if_icmp .ge 21, 3), (141, .aload_n 0, 1), (142, .getfield 65, 3), (145, .iload_n 2, 1), (146, .aload_n 0, 1), (147, .getfield 68, 3), (150, .iload_n 2, 1), (151, .iaload, 1), (152, .iastore, 1), (153, .iinc 2 1, 3), (156, .goto (-22), 3), (159, .return_, 1)]
theorem tk_X6_liveOn_1 : am_tbl prog_8_method_45_code tb_X6_liveOn_1 = true := by decide +kernel
def b_X6_liveOn_134 : Nat → Int32 → am_M → Option am_M
  | 0, _, _ => none
  | n + 1, x2, D => if 1000 ≤ x2 then some D else if am_in x2 1000 = true then b_X6_liveOn_134 n (x2 + 1) (am_up D 74 x2.toNatClampNeg (D 75 x2.toNatClampNeg)) else none
def b_X6_liveOn_119 (k24 : Int32 → Int32 → am_M → Option am_M) (k43 : Int32 → Int32 → Int32 → am_M → Option am_M) (x1 : Int32) (x2 : Int32) (x3 : Int32) (s0 : Int32) (s1 : Int32) (D : am_M) : Option am_M := if am_in s1 1000 = true then k43 x1 x2 (x3 + 1) (am_up D 75 s1.toNatClampNeg s0) else none
def b_X6_liveOn_43 (k24 : Int32 → Int32 → am_M → Option am_M) : Nat → Int32 → Int32 → Int32 → am_M → Option am_M
  | 0, _, _, _, _ => none
  | n + 1, x1, x2, x3, D => if 3 ≤ x3 then k24 x1 (x2 + 1) D else if am_in x2 1000 = true then if (D 74 x2.toNatClampNeg) < 0 then k24 x1 (x2 + 1) D else (f_X6_purseBy (D 74 x2.toNatClampNeg) (x2 - x2 / 10 * 10) x3 x1 D).bind fun q84 => if am_in (f_X6_stateBy (x2 / 10) (x2 - x2 / 10 * 10) x3) 1000 = true then b_X6_liveOn_119 k24 (b_X6_liveOn_43 k24 n) x1 x2 x3 (if q84.1 ≤ (q84.2 75 (f_X6_stateBy (x2 / 10) (x2 - x2 / 10 * 10) x3).toNatClampNeg) then q84.2 75 (f_X6_stateBy (x2 / 10) (x2 - x2 / 10 * 10) x3).toNatClampNeg else q84.1) (f_X6_stateBy (x2 / 10) (x2 - x2 / 10 * 10) x3) q84.2 else none else none
def b_X6_liveOn_24 : Nat → Int32 → Int32 → am_M → Option am_M
  | 0, _, _, _ => none
  | n + 1, x1, x2, D => if 1000 ≤ x2 then b_X6_liveOn_134 am_N 0 D else b_X6_liveOn_43 (b_X6_liveOn_24 n) am_N x1 x2 (if 10 ≤ x2 then 0 else 1) D
def b_X6_liveOn_2 : Nat → Int32 → Int32 → am_M → Option am_M
  | 0, _, _, _ => none
  | n + 1, x1, x2, D => if 1000 ≤ x2 then b_X6_liveOn_24 am_N x1 0 D else if am_in x2 1000 = true then b_X6_liveOn_2 n x1 (x2 + 1) (am_up D 75 x2.toNatClampNeg (-1)) else none
def f_X6_liveOn (x1 : Int32) (D : am_M) : Option am_M := b_X6_liveOn_2 am_N x1 0 D
theorem bx_X6_liveOn_134 {l : Launch} {h0 : am_H} {Φ : am_Ph} {tw : Nat} {tp : Bool}  {D' : am_M} (hΦ : Φ none (ly tw tp D')) : ∀ (n : Nat) (x2 : Int32) (D : am_M), b_X6_liveOn_134 n x2 D = some D' → am_Ex (am_E l m_X6_liveOn false h0 Φ) prog_8_method_45_code (0, 0) 134 [(0, .ref 56), (2, .int x2)] [] (ly tw tp D) := by
  intro n
  induction n with
  | zero =>
    intro x2 D h
    exact absurd h (by simp [b_X6_liveOn_134])
  | succ n ih =>
    intro x2 D h
    rw [b_X6_liveOn_134] at h
    refine am_iload_n (j := 1) (am_dk tk_X6_liveOn_1 15 rfl) rfl rfl ?_
    refine am_sipush (v := 1000) (am_dk tk_X6_liveOn_1 16 rfl) (by decide) ?_
    refine am_icmp_ge (tgt := 159) (am_dk tk_X6_liveOn_1 17 rfl) (by decide) (fun hc138 => ?_) (fun hc138 => ?_)
    · rw [if_pos hc138] at h
      exact am_vret rfl (am_r0 h hΦ) ⟨Nat.le_of_ble_eq_true rfl, Nat.le_of_ble_eq_true rfl⟩ (am_dk tk_X6_liveOn_1 28 rfl)
    · rw [if_neg hc138] at h
      refine am_aload_n (j := 0) (am_dk tk_X6_liveOn_1 18 rfl) rfl rfl ?_
      refine ly_getr (b := 74) rfl fl_X6_65 rfl rfl (am_dk tk_X6_liveOn_1 19 rfl) ?_
      refine am_iload_n (j := 1) (am_dk tk_X6_liveOn_1 20 rfl) rfl rfl ?_
      refine am_aload_n (j := 0) (am_dk tk_X6_liveOn_1 21 rfl) rfl rfl ?_
      refine ly_getr (b := 75) rfl fl_X6_68 rfl rfl (am_dk tk_X6_liveOn_1 22 rfl) ?_
      refine am_iload_n (j := 1) (am_dk tk_X6_liveOn_1 23 rfl) rfl rfl ?_
      obtain ⟨hi151, h⟩ := am_chk h
      refine ly_iald (k := x2.toNatClampNeg) rfl (am_in_vp hi151) rfl (am_dk tk_X6_liveOn_1 24 rfl) ?_
      refine ly_iast (k := x2.toNatClampNeg) rfl (am_in_vp hi151) rfl (am_dk tk_X6_liveOn_1 25 rfl) ?_
      refine am_iinc (j := 1) (v := x2 + 1) (L' := [(2, .int (x2 + 1)), (0, .ref 56)]) (am_dk tk_X6_liveOn_1 26 rfl) rfl rfl (Nat.le_of_ble_eq_true rfl) rfl ?_
      refine am_goto (tgt := 134) (am_dk tk_X6_liveOn_1 27 rfl) (by decide) ?_
      refine am_ls [1, 0] rfl ?_
      exact ih _ _ h
theorem bx_X6_liveOn_119 {l : Launch} {h0 : am_H} {Φ : am_Ph} {tw : Nat} {tp : Bool}  {D' : am_M} (hΦ : Φ none (ly tw tp D')) {k24 : Int32 → Int32 → am_M → Option am_M} (hk24 : ∀ (x1 : Int32) (x2 : Int32) (D : am_M), k24 x1 x2 D = some D' → am_Ex (am_E l m_X6_liveOn false h0 Φ) prog_8_method_45_code (0, 0) 24 [(0, .ref 56), (1, .int x1), (2, .int x2)] [] (ly tw tp D)) {k43 : Int32 → Int32 → Int32 → am_M → Option am_M} (hk43 : ∀ (x1 : Int32) (x2 : Int32) (x3 : Int32) (D : am_M), k43 x1 x2 x3 D = some D' → am_Ex (am_E l m_X6_liveOn false h0 Φ) prog_8_method_45_code (0, 0) 43 [(0, .ref 56), (1, .int x1), (2, .int x2), (3, .int x3)] [] (ly tw tp D)) : ∀ (x1 : Int32) (x2 : Int32) (x3 : Int32) (s0 : Int32) (s1 : Int32) (D : am_M), b_X6_liveOn_119 k24 k43 x1 x2 x3 s0 s1 D = some D' → am_Ex (am_E l m_X6_liveOn false h0 Φ) prog_8_method_45_code (0, 0) 119 [(0, .ref 56), (1, .int x1), (2, .int x2), (3, .int x3)] [.int s0, .int s1, .ref 75] (ly tw tp D) := by
  intro x1 x2 x3 s0 s1 D h
  rw [b_X6_liveOn_119] at h
  obtain ⟨hi119, h⟩ := am_chk h
  refine ly_iast (k := s1.toNatClampNeg) rfl (am_in_vp hi119) rfl (am_dk tk_X6_liveOn_1 8 rfl) ?_
  refine am_iinc (j := 3) (v := x3 + 1) (L' := [(3, .int (x3 + 1)), (0, .ref 56), (1, .int x1), (2, .int x2)]) (am_dk tk_X6_liveOn_1 9 rfl) rfl rfl (Nat.le_of_ble_eq_true rfl) rfl ?_
  refine am_goto (tgt := 43) (am_dk tk_X6_liveOn_1 10 rfl) (by decide) ?_
  refine am_ls [1, 2, 3, 0] rfl ?_
  exact hk43 _ _ _ _ h
theorem bx_X6_liveOn_43 {l : Launch} {h0 : am_H} {Φ : am_Ph} {tw : Nat} {tp : Bool}  {D' : am_M} (hΦ : Φ none (ly tw tp D')) {k24 : Int32 → Int32 → am_M → Option am_M} (hk24 : ∀ (x1 : Int32) (x2 : Int32) (D : am_M), k24 x1 x2 D = some D' → am_Ex (am_E l m_X6_liveOn false h0 Φ) prog_8_method_45_code (0, 0) 24 [(0, .ref 56), (1, .int x1), (2, .int x2)] [] (ly tw tp D)) : ∀ (n : Nat) (x1 : Int32) (x2 : Int32) (x3 : Int32) (D : am_M), b_X6_liveOn_43 k24 n x1 x2 x3 D = some D' → am_Ex (am_E l m_X6_liveOn false h0 Φ) prog_8_method_45_code (0, 0) 43 [(0, .ref 56), (1, .int x1), (2, .int x2), (3, .int x3)] [] (ly tw tp D) := by
  intro n
  induction n with
  | zero =>
    intro x1 x2 x3 D h
    exact absurd h (by simp [b_X6_liveOn_43])
  | succ n ih =>
    intro x1 x2 x3 D h
    rw [b_X6_liveOn_43] at h
    refine am_iload_n (j := 3) (am_dk tk_X6_liveOn 24 rfl) rfl rfl ?_
    refine am_iconst (v := 3) (am_dk tk_X6_liveOn 25 rfl) (by decide) ?_
    refine am_icmp_ge (tgt := 126) (am_dk tk_X6_liveOn 26 rfl) (by decide) (fun hc45 => ?_) (fun hc45 => ?_)
    · rw [if_pos hc45] at h
      refine am_iinc (j := 2) (v := x2 + 1) (L' := [(2, .int (x2 + 1)), (0, .ref 56), (1, .int x1), (3, .int x3)]) (am_dk tk_X6_liveOn_1 11 rfl) rfl rfl (Nat.le_of_ble_eq_true rfl) rfl ?_
      refine am_goto (tgt := 24) (am_dk tk_X6_liveOn_1 12 rfl) (by decide) ?_
      refine am_ls [1, 2, 0] rfl ?_
      exact hk24 _ _ _ h
    · rw [if_neg hc45] at h
      refine am_aload_n (j := 0) (am_dk tk_X6_liveOn 27 rfl) rfl rfl ?_
      refine ly_getr (b := 74) rfl fl_X6_65 rfl rfl (am_dk tk_X6_liveOn 28 rfl) ?_
      refine am_iload_n (j := 2) (am_dk tk_X6_liveOn 29 rfl) rfl rfl ?_
      obtain ⟨hi53, h⟩ := am_chk h
      refine ly_iald (k := x2.toNatClampNeg) rfl (am_in_vp hi53) rfl (am_dk tk_X6_liveOn 30 rfl) ?_
      refine am_if_lt (tgt := 126) (am_dk tk_X6_liveOn 31 rfl) (by decide) (fun hc54 => ?_) (fun hc54 => ?_)
      · rw [if_pos hc54] at h
        refine am_iinc (j := 2) (v := x2 + 1) (L' := [(2, .int (x2 + 1)), (0, .ref 56), (1, .int x1), (3, .int x3)]) (am_dk tk_X6_liveOn_1 11 rfl) rfl rfl (Nat.le_of_ble_eq_true rfl) rfl ?_
        refine am_goto (tgt := 24) (am_dk tk_X6_liveOn_1 12 rfl) (by decide) ?_
        refine am_ls [1, 2, 0] rfl ?_
        exact hk24 _ _ _ h
      · rw [if_neg hc54] at h
        refine am_iload_n (j := 2) (am_dk tk_X6_liveOn 32 rfl) rfl rfl ?_
        refine am_bipush (v := 10) (am_dk tk_X6_liveOn 33 rfl) (by decide) ?_
        refine am_idiv (am_dk tk_X6_liveOn 34 rfl) (by decide) ?_
        refine am_iload_n (j := 2) (am_dk tk_X6_liveOn 35 rfl) rfl rfl ?_
        refine am_bipush (v := 10) (am_dk tk_X6_liveOn 36 rfl) (by decide) ?_
        refine am_irem (am_dk tk_X6_liveOn 37 rfl) (by decide) ?_
        refine am_iload_n (j := 3) (am_dk tk_X6_liveOn 38 rfl) rfl rfl ?_
        refine am_cS (M := m_X6_stateBy) (As := [.int (x2 / 10), .int (x2 - x2 / 10 * 10), .int x3]) (st := []) (ct_X6_stateBy _ _ _ _) ml_X6_258 ld_X6_stateBy rfl ⟨Nat.le_of_ble_eq_true rfl, Nat.le_of_ble_eq_true rfl⟩ (Nat.le_of_ble_eq_true rfl) ⟨rfl, rfl⟩ ⟨Nat.le_of_ble_eq_true rfl, Nat.le_of_ble_eq_true rfl⟩ (am_dk tk_X6_liveOn 39 rfl) (am_kki ?_)
        refine am_istore (L' := [(4, .int (f_X6_stateBy (x2 / 10) (x2 - x2 / 10 * 10) x3)), (0, .ref 56), (1, .int x1), (2, .int x2), (3, .int x3)]) (am_dk tk_X6_liveOn 40 rfl) (Nat.le_of_ble_eq_true rfl) rfl ?_
        refine am_aload_n (j := 1) (am_dk tk_X6_liveOn 41 rfl) rfl rfl ?_
        refine am_aload_n (j := 1) (am_dk tk_X6_liveOn 42 rfl) rfl rfl ?_
        refine ly_getr (b := 74) rfl fl_X6_65 rfl rfl (am_dk tk_X6_liveOn 43 rfl) ?_
        refine am_iload_n (j := 3) (am_dk tk_X6_liveOn 44 rfl) rfl rfl ?_
        refine ly_iald (k := x2.toNatClampNeg) rfl (am_in_vp hi53) rfl (am_dk tk_X6_liveOn 45 rfl) ?_
        refine am_iload_n (j := 3) (am_dk tk_X6_liveOn 46 rfl) rfl rfl ?_
        refine am_bipush (v := 10) (am_dk tk_X6_liveOn 47 rfl) (by decide) ?_
        refine am_irem (am_dk tk_X6_liveOn 48 rfl) (by decide) ?_
        refine am_iload_n (j := 4) (am_dk tk_X6_liveOn 49 rfl) rfl rfl ?_
        refine am_iload_n (j := 2) (am_dk tk_X6_liveOn 50 rfl) rfl rfl ?_
        obtain ⟨q84, hq84, h⟩ := am_bind h
        refine ly_cV (M := m_X6_purseBy) (As := [.int (D 74 x2.toNatClampNeg), .int (x2 - x2 / 10 * 10), .int x3, .int x1]) (b := 56) (st := []) (ct_X6_purseBy hq84) rfl (by decide) rfl ml_X6_262 ld_X6_purseBy rfl ⟨Nat.le_of_ble_eq_true rfl, Nat.le_of_ble_eq_true rfl⟩ (Nat.le_of_ble_eq_true rfl) ⟨rfl, rfl⟩ ⟨Nat.le_of_ble_eq_true rfl, Nat.le_of_ble_eq_true rfl⟩ (am_dk tk_X6_liveOn 51 rfl) (am_kki ?_)
        refine am_istore (L' := [(5, .int q84.1), (4, .int (f_X6_stateBy (x2 / 10) (x2 - x2 / 10 * 10) x3)), (0, .ref 56), (1, .int x1), (2, .int x2), (3, .int x3)]) (am_dk tk_X6_liveOn 52 rfl) (Nat.le_of_ble_eq_true rfl) rfl ?_
        refine am_aload_n (j := 2) (am_dk tk_X6_liveOn 53 rfl) rfl rfl ?_
        refine ly_getr (b := 75) rfl fl_X6_68 rfl rfl (am_dk tk_X6_liveOn 54 rfl) ?_
        refine am_iload (j := 1) (am_dk tk_X6_liveOn 55 rfl) rfl ?_
        refine am_iload (j := 0) (am_dk tk_X6_liveOn 56 rfl) rfl ?_
        refine am_aload_n (j := 2) (am_dk tk_X6_liveOn 57 rfl) rfl rfl ?_
        refine ly_getr (b := 75) rfl fl_X6_68 rfl rfl (am_dk tk_X6_liveOn 58 rfl) ?_
        refine am_iload (j := 1) (am_dk tk_X6_liveOn 59 rfl) rfl ?_
        obtain ⟨hi103, h⟩ := am_chk h
        refine ly_iald (k := (f_X6_stateBy (x2 / 10) (x2 - x2 / 10 * 10) x3).toNatClampNeg) rfl (am_in_vp hi103) rfl (am_dk tk_X6_liveOn_1 0 rfl) ?_
        refine am_icmp_le (tgt := 112) (am_dk tk_X6_liveOn_1 1 rfl) (by decide) (fun hc104 => ?_) (fun hc104 => ?_)
        · simp only [if_pos hc104] at h
          refine am_aload_n (j := 2) (am_dk tk_X6_liveOn_1 4 rfl) rfl rfl ?_
          refine ly_getr (b := 75) rfl fl_X6_68 rfl rfl (am_dk tk_X6_liveOn_1 5 rfl) ?_
          refine am_iload (j := 1) (am_dk tk_X6_liveOn_1 6 rfl) rfl ?_
          refine ly_iald (k := (f_X6_stateBy (x2 / 10) (x2 - x2 / 10 * 10) x3).toNatClampNeg) rfl (am_in_vp hi103) rfl (am_dk tk_X6_liveOn_1 7 rfl) ?_
          refine am_ls [2, 3, 4, 5] rfl ?_
          exact bx_X6_liveOn_119  hΦ hk24 (ih) _ _ _ _ _ _ h
        · simp only [if_neg hc104] at h
          refine am_iload (j := 0) (am_dk tk_X6_liveOn_1 2 rfl) rfl ?_
          refine am_goto (tgt := 119) (am_dk tk_X6_liveOn_1 3 rfl) (by decide) ?_
          refine am_ls [2, 3, 4, 5] rfl ?_
          exact bx_X6_liveOn_119  hΦ hk24 (ih) _ _ _ _ _ _ h
theorem bx_X6_liveOn_24 {l : Launch} {h0 : am_H} {Φ : am_Ph} {tw : Nat} {tp : Bool}  {D' : am_M} (hΦ : Φ none (ly tw tp D')) : ∀ (n : Nat) (x1 : Int32) (x2 : Int32) (D : am_M), b_X6_liveOn_24 n x1 x2 D = some D' → am_Ex (am_E l m_X6_liveOn false h0 Φ) prog_8_method_45_code (0, 0) 24 [(0, .ref 56), (1, .int x1), (2, .int x2)] [] (ly tw tp D) := by
  intro n
  induction n with
  | zero =>
    intro x1 x2 D h
    exact absurd h (by simp [b_X6_liveOn_24])
  | succ n ih =>
    intro x1 x2 D h
    rw [b_X6_liveOn_24] at h
    refine am_iload_n (j := 2) (am_dk tk_X6_liveOn 14 rfl) rfl rfl ?_
    refine am_sipush (v := 1000) (am_dk tk_X6_liveOn 15 rfl) (by decide) ?_
    refine am_icmp_ge (tgt := 132) (am_dk tk_X6_liveOn 16 rfl) (by decide) (fun hc28 => ?_) (fun hc28 => ?_)
    · rw [if_pos hc28] at h
      refine am_iconst (v := 0) (am_dk tk_X6_liveOn_1 13 rfl) (by decide) ?_
      refine am_istore_n (L' := [(2, .int 0), (0, .ref 56), (1, .int x1)]) (am_dk tk_X6_liveOn_1 14 rfl) rfl (Nat.le_of_ble_eq_true rfl) rfl ?_
      refine am_ls [1, 0] rfl ?_
      exact bx_X6_liveOn_134  hΦ am_N _ _ h
    · rw [if_neg hc28] at h
      refine am_iload_n (j := 2) (am_dk tk_X6_liveOn 17 rfl) rfl rfl ?_
      refine am_bipush (v := 10) (am_dk tk_X6_liveOn 18 rfl) (by decide) ?_
      refine am_icmp_ge (tgt := 41) (am_dk tk_X6_liveOn 19 rfl) (by decide) (fun hc34 => ?_) (fun hc34 => ?_)
      · simp only [if_pos hc34] at h
        refine am_iconst (v := 0) (am_dk tk_X6_liveOn 22 rfl) (by decide) ?_
        refine am_istore_n (L' := [(3, .int 0), (0, .ref 56), (1, .int x1), (2, .int x2)]) (am_dk tk_X6_liveOn 23 rfl) rfl (Nat.le_of_ble_eq_true rfl) rfl ?_
        refine am_ls [1, 2, 3, 0] rfl ?_
        exact bx_X6_liveOn_43  hΦ (ih) am_N _ _ _ _ h
      · simp only [if_neg hc34] at h
        refine am_iconst (v := 1) (am_dk tk_X6_liveOn 20 rfl) (by decide) ?_
        refine am_goto (tgt := 42) (am_dk tk_X6_liveOn 21 rfl) (by decide) ?_
        refine am_istore_n (L' := [(3, .int 1), (0, .ref 56), (1, .int x1), (2, .int x2)]) (am_dk tk_X6_liveOn 23 rfl) rfl (Nat.le_of_ble_eq_true rfl) rfl ?_
        refine am_ls [1, 2, 3, 0] rfl ?_
        exact bx_X6_liveOn_43  hΦ (ih) am_N _ _ _ _ h
theorem bx_X6_liveOn_2 {l : Launch} {h0 : am_H} {Φ : am_Ph} {tw : Nat} {tp : Bool}  {D' : am_M} (hΦ : Φ none (ly tw tp D')) : ∀ (n : Nat) (x1 : Int32) (x2 : Int32) (D : am_M), b_X6_liveOn_2 n x1 x2 D = some D' → am_Ex (am_E l m_X6_liveOn false h0 Φ) prog_8_method_45_code (0, 0) 2 [(0, .ref 56), (1, .int x1), (2, .int x2)] [] (ly tw tp D) := by
  intro n
  induction n with
  | zero =>
    intro x1 x2 D h
    exact absurd h (by simp [b_X6_liveOn_2])
  | succ n ih =>
    intro x1 x2 D h
    rw [b_X6_liveOn_2] at h
    refine am_iload_n (j := 2) (am_dk tk_X6_liveOn 2 rfl) rfl rfl ?_
    refine am_sipush (v := 1000) (am_dk tk_X6_liveOn 3 rfl) (by decide) ?_
    refine am_icmp_ge (tgt := 22) (am_dk tk_X6_liveOn 4 rfl) (by decide) (fun hc6 => ?_) (fun hc6 => ?_)
    · rw [if_pos hc6] at h
      refine am_iconst (v := 0) (am_dk tk_X6_liveOn 12 rfl) (by decide) ?_
      refine am_istore_n (L' := [(2, .int 0), (0, .ref 56), (1, .int x1)]) (am_dk tk_X6_liveOn 13 rfl) rfl (Nat.le_of_ble_eq_true rfl) rfl ?_
      refine am_ls [1, 2, 0] rfl ?_
      exact bx_X6_liveOn_24  hΦ am_N _ _ _ h
    · rw [if_neg hc6] at h
      refine am_aload_n (j := 0) (am_dk tk_X6_liveOn 5 rfl) rfl rfl ?_
      refine ly_getr (b := 75) rfl fl_X6_68 rfl rfl (am_dk tk_X6_liveOn 6 rfl) ?_
      refine am_iload_n (j := 2) (am_dk tk_X6_liveOn 7 rfl) rfl rfl ?_
      refine am_iconst (v := (-1)) (am_dk tk_X6_liveOn 8 rfl) (by decide) ?_
      obtain ⟨hi15, h⟩ := am_chk h
      refine ly_iast (k := x2.toNatClampNeg) rfl (am_in_vp hi15) rfl (am_dk tk_X6_liveOn 9 rfl) ?_
      refine am_iinc (j := 2) (v := x2 + 1) (L' := [(2, .int (x2 + 1)), (0, .ref 56), (1, .int x1)]) (am_dk tk_X6_liveOn 10 rfl) rfl rfl (Nat.le_of_ble_eq_true rfl) rfl ?_
      refine am_goto (tgt := 2) (am_dk tk_X6_liveOn 11 rfl) (by decide) ?_
      refine am_ls [1, 2, 0] rfl ?_
      exact ih _ _ _ h
theorem ct_X6_liveOn {l : Launch} {tw : Nat} {tp : Bool}  {x1 : Int32} {D D' : am_M} (h : f_X6_liveOn x1 D = some D') : am_CT l m_X6_liveOn false [.ref 56, .int x1] (ly tw tp D) (am_is none (ly tw tp D')) := by
  have hΦ : am_is none (ly tw tp D') none (ly tw tp D') := ⟨rfl, rfl⟩
  refine am_CT.of (by decide) (Nat.le_of_ble_eq_true rfl) ?_
  show am_Ex _ _ _ 0 [(0, .ref 56), (1, .int x1)] [] _
  rw [f_X6_liveOn] at h
  refine am_iconst (v := 0) (am_dk tk_X6_liveOn 0 rfl) (by decide) ?_
  refine am_istore_n (L' := [(2, .int 0), (0, .ref 56), (1, .int x1)]) (am_dk tk_X6_liveOn 1 rfl) rfl (Nat.le_of_ble_eq_true rfl) rfl ?_
  refine am_ls [1, 2, 0] rfl ?_
  exact bx_X6_liveOn_2  hΦ am_N _ _ _ h
abbrev m_X6_mostFrom : am_D := (yX6_mostFrom, prog_8_method_46_code, 7, (some .int), { frames := 4, cells := 0, slots := 0, locals := 89 })
theorem ld_X6_mostFrom : am_LD m_X6_mostFrom 4 := ⟨(am_tb 85 (by decide +kernel) (by decide +kernel)), (am_tb 1135 (by decide +kernel) (by decide +kernel)), by decide, by decide, by decide +kernel⟩
def tb_X6_mostFrom : List (Nat × Instr × Nat) := [(0, .iconst 0, 1), (1, .istore 5, 2), (3, .iload 5, 2), (5, .sipush 1000, 3), (8, .if_icmp .ge 17, 3), (11, .aload_n 0, 1), (12, .getfield 65, 3), (15, .iload 5, 2), (17, .iconst (-1), 1), (18, .iastore, 1), (19, .iinc 5 1, 3), (22, .goto (-19), 3), (25, .aload_n 0, 1), (26, .getfield 65, 3), (29, .iload_n 1, 1), (30, .iload_n 2, 1), (31, .iastore, 1), (32, .iconst 0, 1), (33, .istore 5, 2), (35, .iload 5, 2), (37, .iload 4, 2), (39, .if_icmp .ge 17, 3), (42, .aload_n 0, 1), (43, .iload_n 3, 1), (44, .iload 5, 2), (46, .iadd, 1), (47, .invokevirtual 266, 3), (50, .iinc 5 1, 3), (53, .goto (-18), 3), (56, .iconst (-1), 1), (57, .istore 5, 2), (59, .iconst 0, 1), (60, .istore 6, 2), (62, .iload 6, 2), (64, .sipush 1000, 3), (67, .if_icmp .ge 35, 3), (70, .aload_n 0, 1), (71, .getfield 65, 3), (74, .iload 6, 2), (76, .iaload, 1), (77, .iload 5, 2), (79, .if_icmp .le 13, 3), (82, .aload_n 0, 1), (83, .getfield 65, 3), (86, .iload 6, 2), (88, .iaload, 1), (89, .goto 5, 3), (92, .iload 5, 2), (94, .istore 5, 2), (96, .iinc 6 1, 3), (99, .goto (-37), 3), (102, .iload 5, 2), (104, .ireturn, 1)]
theorem tk_X6_mostFrom : am_tbl prog_8_method_46_code tb_X6_mostFrom = true := by decide +kernel
def b_X6_mostFrom_62 : Nat → Int32 → Int32 → am_M → Option (Int32 × am_M)
  | 0, _, _, _ => none
  | n + 1, x5, x6, D => if 1000 ≤ x6 then some (x5, D) else if am_in x6 1000 = true then b_X6_mostFrom_62 n (if (D 74 x6.toNatClampNeg) ≤ x5 then x5 else D 74 x6.toNatClampNeg) (x6 + 1) D else none
def b_X6_mostFrom_35 : Nat → Int32 → Int32 → Int32 → am_M → Option (Int32 × am_M)
  | 0, _, _, _, _ => none
  | n + 1, x3, x4, x5, D => if x4 ≤ x5 then b_X6_mostFrom_62 am_N (-1) 0 D else (f_X6_liveOn (x3 + x5) D).bind fun q47 => b_X6_mostFrom_35 n x3 x4 (x5 + 1) q47
def b_X6_mostFrom_3 : Nat → Int32 → Int32 → Int32 → Int32 → Int32 → am_M → Option (Int32 × am_M)
  | 0, _, _, _, _, _, _ => none
  | n + 1, x1, x2, x3, x4, x5, D => if 1000 ≤ x5 then if am_in x1 1000 = true then b_X6_mostFrom_35 am_N x3 x4 0 (am_up D 74 x1.toNatClampNeg x2) else none else if am_in x5 1000 = true then b_X6_mostFrom_3 n x1 x2 x3 x4 (x5 + 1) (am_up D 74 x5.toNatClampNeg (-1)) else none
def f_X6_mostFrom (x1 : Int32) (x2 : Int32) (x3 : Int32) (x4 : Int32) (D : am_M) : Option (Int32 × am_M) := b_X6_mostFrom_3 am_N x1 x2 x3 x4 0 D
theorem bx_X6_mostFrom_62 {l : Launch} {h0 : am_H} {Φ : am_Ph} {tw : Nat} {tp : Bool}  {r : Int32} {D' : am_M} (hΦ : Φ (some (.int r)) (ly tw tp D')) : ∀ (n : Nat) (x5 : Int32) (x6 : Int32) (D : am_M), b_X6_mostFrom_62 n x5 x6 D = some (r, D') → am_Ex (am_E l m_X6_mostFrom false h0 Φ) prog_8_method_46_code (0, 0) 62 [(0, .ref 56), (5, .int x5), (6, .int x6)] [] (ly tw tp D) := by
  intro n
  induction n with
  | zero =>
    intro x5 x6 D h
    exact absurd h (by simp [b_X6_mostFrom_62])
  | succ n ih =>
    intro x5 x6 D h
    rw [b_X6_mostFrom_62] at h
    refine am_iload (j := 2) (am_dk tk_X6_mostFrom 33 rfl) rfl ?_
    refine am_sipush (v := 1000) (am_dk tk_X6_mostFrom 34 rfl) (by decide) ?_
    refine am_icmp_ge (tgt := 102) (am_dk tk_X6_mostFrom 35 rfl) (by decide) (fun hc67 => ?_) (fun hc67 => ?_)
    · rw [if_pos hc67] at h
      refine am_iload (j := 1) (am_dk tk_X6_mostFrom 51 rfl) rfl ?_
      exact am_iret rfl (am_r2 h hΦ) ⟨Nat.le_of_ble_eq_true rfl, Nat.le_of_ble_eq_true rfl⟩ (am_dk tk_X6_mostFrom 52 rfl)
    · rw [if_neg hc67] at h
      refine am_aload_n (j := 0) (am_dk tk_X6_mostFrom 36 rfl) rfl rfl ?_
      refine ly_getr (b := 74) rfl fl_X6_65 rfl rfl (am_dk tk_X6_mostFrom 37 rfl) ?_
      refine am_iload (j := 2) (am_dk tk_X6_mostFrom 38 rfl) rfl ?_
      obtain ⟨hi76, h⟩ := am_chk h
      refine ly_iald (k := x6.toNatClampNeg) rfl (am_in_vp hi76) rfl (am_dk tk_X6_mostFrom 39 rfl) ?_
      refine am_iload (j := 1) (am_dk tk_X6_mostFrom 40 rfl) rfl ?_
      refine am_icmp_le (tgt := 92) (am_dk tk_X6_mostFrom 41 rfl) (by decide) (fun hc79 => ?_) (fun hc79 => ?_)
      · simp only [if_pos hc79] at h
        refine am_iload (j := 1) (am_dk tk_X6_mostFrom 47 rfl) rfl ?_
        refine am_istore (L' := [(5, .int x5), (0, .ref 56), (6, .int x6)]) (am_dk tk_X6_mostFrom 48 rfl) (Nat.le_of_ble_eq_true rfl) rfl ?_
        refine am_iinc (j := 2) (v := x6 + 1) (L' := [(6, .int (x6 + 1)), (5, .int x5), (0, .ref 56)]) (am_dk tk_X6_mostFrom 49 rfl) rfl rfl (Nat.le_of_ble_eq_true rfl) rfl ?_
        refine am_goto (tgt := 62) (am_dk tk_X6_mostFrom 50 rfl) (by decide) ?_
        refine am_ls [2, 1, 0] rfl ?_
        exact ih _ _ _ h
      · simp only [if_neg hc79] at h
        refine am_aload_n (j := 0) (am_dk tk_X6_mostFrom 42 rfl) rfl rfl ?_
        refine ly_getr (b := 74) rfl fl_X6_65 rfl rfl (am_dk tk_X6_mostFrom 43 rfl) ?_
        refine am_iload (j := 2) (am_dk tk_X6_mostFrom 44 rfl) rfl ?_
        refine ly_iald (k := x6.toNatClampNeg) rfl (am_in_vp hi76) rfl (am_dk tk_X6_mostFrom 45 rfl) ?_
        refine am_goto (tgt := 94) (am_dk tk_X6_mostFrom 46 rfl) (by decide) ?_
        refine am_istore (L' := [(5, .int (D 74 x6.toNatClampNeg)), (0, .ref 56), (6, .int x6)]) (am_dk tk_X6_mostFrom 48 rfl) (Nat.le_of_ble_eq_true rfl) rfl ?_
        refine am_iinc (j := 2) (v := x6 + 1) (L' := [(6, .int (x6 + 1)), (5, .int (D 74 x6.toNatClampNeg)), (0, .ref 56)]) (am_dk tk_X6_mostFrom 49 rfl) rfl rfl (Nat.le_of_ble_eq_true rfl) rfl ?_
        refine am_goto (tgt := 62) (am_dk tk_X6_mostFrom 50 rfl) (by decide) ?_
        refine am_ls [2, 1, 0] rfl ?_
        exact ih _ _ _ h
theorem bx_X6_mostFrom_35 {l : Launch} {h0 : am_H} {Φ : am_Ph} {tw : Nat} {tp : Bool}  {r : Int32} {D' : am_M} (hΦ : Φ (some (.int r)) (ly tw tp D')) : ∀ (n : Nat) (x3 : Int32) (x4 : Int32) (x5 : Int32) (D : am_M), b_X6_mostFrom_35 n x3 x4 x5 D = some (r, D') → am_Ex (am_E l m_X6_mostFrom false h0 Φ) prog_8_method_46_code (0, 0) 35 [(0, .ref 56), (3, .int x3), (4, .int x4), (5, .int x5)] [] (ly tw tp D) := by
  intro n
  induction n with
  | zero =>
    intro x3 x4 x5 D h
    exact absurd h (by simp [b_X6_mostFrom_35])
  | succ n ih =>
    intro x3 x4 x5 D h
    rw [b_X6_mostFrom_35] at h
    refine am_iload (j := 3) (am_dk tk_X6_mostFrom 19 rfl) rfl ?_
    refine am_iload (j := 2) (am_dk tk_X6_mostFrom 20 rfl) rfl ?_
    refine am_icmp_ge (tgt := 56) (am_dk tk_X6_mostFrom 21 rfl) (by decide) (fun hc39 => ?_) (fun hc39 => ?_)
    · rw [if_pos hc39] at h
      refine am_iconst (v := (-1)) (am_dk tk_X6_mostFrom 29 rfl) (by decide) ?_
      refine am_istore (L' := [(5, .int (-1)), (0, .ref 56), (3, .int x3), (4, .int x4)]) (am_dk tk_X6_mostFrom 30 rfl) (Nat.le_of_ble_eq_true rfl) rfl ?_
      refine am_iconst (v := 0) (am_dk tk_X6_mostFrom 31 rfl) (by decide) ?_
      refine am_istore (L' := [(6, .int 0), (5, .int (-1)), (0, .ref 56), (3, .int x3), (4, .int x4)]) (am_dk tk_X6_mostFrom 32 rfl) (Nat.le_of_ble_eq_true rfl) rfl ?_
      refine am_ls [2, 1, 0] rfl ?_
      exact bx_X6_mostFrom_62  hΦ am_N _ _ _ h
    · rw [if_neg hc39] at h
      refine am_aload_n (j := 0) (am_dk tk_X6_mostFrom 22 rfl) rfl rfl ?_
      refine am_iload_n (j := 1) (am_dk tk_X6_mostFrom 23 rfl) rfl rfl ?_
      refine am_iload (j := 3) (am_dk tk_X6_mostFrom 24 rfl) rfl ?_
      refine am_iadd (am_dk tk_X6_mostFrom 25 rfl) ?_
      obtain ⟨q47, hq47, h⟩ := am_bind h
      refine ly_cV (M := m_X6_liveOn) (As := [.int (x3 + x5)]) (b := 56) (st := []) (ct_X6_liveOn hq47) rfl (by decide) rfl ml_X6_266 ld_X6_liveOn rfl ⟨Nat.le_of_ble_eq_true rfl, Nat.le_of_ble_eq_true rfl⟩ (Nat.le_of_ble_eq_true rfl) ⟨rfl, rfl⟩ ⟨Nat.le_of_ble_eq_true rfl, Nat.le_of_ble_eq_true rfl⟩ (am_dk tk_X6_mostFrom 26 rfl) (am_kkv ?_)
      refine am_iinc (j := 3) (v := x5 + 1) (L' := [(5, .int (x5 + 1)), (0, .ref 56), (3, .int x3), (4, .int x4)]) (am_dk tk_X6_mostFrom 27 rfl) rfl rfl (Nat.le_of_ble_eq_true rfl) rfl ?_
      refine am_goto (tgt := 35) (am_dk tk_X6_mostFrom 28 rfl) (by decide) ?_
      refine am_ls [1, 2, 3, 0] rfl ?_
      exact ih _ _ _ _ h
theorem bx_X6_mostFrom_3 {l : Launch} {h0 : am_H} {Φ : am_Ph} {tw : Nat} {tp : Bool}  {r : Int32} {D' : am_M} (hΦ : Φ (some (.int r)) (ly tw tp D')) : ∀ (n : Nat) (x1 : Int32) (x2 : Int32) (x3 : Int32) (x4 : Int32) (x5 : Int32) (D : am_M), b_X6_mostFrom_3 n x1 x2 x3 x4 x5 D = some (r, D') → am_Ex (am_E l m_X6_mostFrom false h0 Φ) prog_8_method_46_code (0, 0) 3 [(0, .ref 56), (1, .int x1), (2, .int x2), (3, .int x3), (4, .int x4), (5, .int x5)] [] (ly tw tp D) := by
  intro n
  induction n with
  | zero =>
    intro x1 x2 x3 x4 x5 D h
    exact absurd h (by simp [b_X6_mostFrom_3])
  | succ n ih =>
    intro x1 x2 x3 x4 x5 D h
    rw [b_X6_mostFrom_3] at h
    refine am_iload (j := 5) (am_dk tk_X6_mostFrom 2 rfl) rfl ?_
    refine am_sipush (v := 1000) (am_dk tk_X6_mostFrom 3 rfl) (by decide) ?_
    refine am_icmp_ge (tgt := 25) (am_dk tk_X6_mostFrom 4 rfl) (by decide) (fun hc8 => ?_) (fun hc8 => ?_)
    · rw [if_pos hc8] at h
      refine am_aload_n (j := 0) (am_dk tk_X6_mostFrom 12 rfl) rfl rfl ?_
      refine ly_getr (b := 74) rfl fl_X6_65 rfl rfl (am_dk tk_X6_mostFrom 13 rfl) ?_
      refine am_iload_n (j := 1) (am_dk tk_X6_mostFrom 14 rfl) rfl rfl ?_
      refine am_iload_n (j := 2) (am_dk tk_X6_mostFrom 15 rfl) rfl rfl ?_
      obtain ⟨hi31, h⟩ := am_chk h
      refine ly_iast (k := x1.toNatClampNeg) rfl (am_in_vp hi31) rfl (am_dk tk_X6_mostFrom 16 rfl) ?_
      refine am_iconst (v := 0) (am_dk tk_X6_mostFrom 17 rfl) (by decide) ?_
      refine am_istore (L' := [(5, .int 0), (0, .ref 56), (1, .int x1), (2, .int x2), (3, .int x3), (4, .int x4)]) (am_dk tk_X6_mostFrom 18 rfl) (Nat.le_of_ble_eq_true rfl) rfl ?_
      refine am_ls [1, 4, 5, 0] rfl ?_
      exact bx_X6_mostFrom_35  hΦ am_N _ _ _ _ h
    · rw [if_neg hc8] at h
      refine am_aload_n (j := 0) (am_dk tk_X6_mostFrom 5 rfl) rfl rfl ?_
      refine ly_getr (b := 74) rfl fl_X6_65 rfl rfl (am_dk tk_X6_mostFrom 6 rfl) ?_
      refine am_iload (j := 5) (am_dk tk_X6_mostFrom 7 rfl) rfl ?_
      refine am_iconst (v := (-1)) (am_dk tk_X6_mostFrom 8 rfl) (by decide) ?_
      obtain ⟨hi18, h⟩ := am_chk h
      refine ly_iast (k := x5.toNatClampNeg) rfl (am_in_vp hi18) rfl (am_dk tk_X6_mostFrom 9 rfl) ?_
      refine am_iinc (j := 5) (v := x5 + 1) (L' := [(5, .int (x5 + 1)), (0, .ref 56), (1, .int x1), (2, .int x2), (3, .int x3), (4, .int x4)]) (am_dk tk_X6_mostFrom 10 rfl) rfl rfl (Nat.le_of_ble_eq_true rfl) rfl ?_
      refine am_goto (tgt := 3) (am_dk tk_X6_mostFrom 11 rfl) (by decide) ?_
      refine am_ls [1, 2, 3, 4, 5, 0] rfl ?_
      exact ih _ _ _ _ _ _ h
theorem ct_X6_mostFrom {l : Launch} {tw : Nat} {tp : Bool}  {x1 : Int32} {x2 : Int32} {x3 : Int32} {x4 : Int32} {r : Int32} {D D' : am_M} (h : f_X6_mostFrom x1 x2 x3 x4 D = some (r, D')) : am_CT l m_X6_mostFrom false [.ref 56, .int x1, .int x2, .int x3, .int x4] (ly tw tp D) (am_is (some (.int r)) (ly tw tp D')) := by
  have hΦ : am_is (some (.int r)) (ly tw tp D') (some (.int r)) (ly tw tp D') := ⟨rfl, rfl⟩
  refine am_CT.of (by decide) (Nat.le_of_ble_eq_true rfl) ?_
  show am_Ex _ _ _ 0 [(0, .ref 56), (1, .int x1), (2, .int x2), (3, .int x3), (4, .int x4)] [] _
  rw [f_X6_mostFrom] at h
  refine am_iconst (v := 0) (am_dk tk_X6_mostFrom 0 rfl) (by decide) ?_
  refine am_istore (L' := [(5, .int 0), (0, .ref 56), (1, .int x1), (2, .int x2), (3, .int x3), (4, .int x4)]) (am_dk tk_X6_mostFrom 1 rfl) (Nat.le_of_ble_eq_true rfl) rfl ?_
  refine am_ls [1, 2, 3, 4, 5, 0] rfl ?_
  exact bx_X6_mostFrom_3  hΦ am_N _ _ _ _ _ _ h
abbrev m_X6_lived : am_D := (yX6_lived, prog_8_method_47_code, 14, (some .int), { frames := 5, cells := 0, slots := 0, locals := 115 })
theorem ld_X6_lived : am_LD m_X6_lived 5 := ⟨(am_tb 85 (by decide +kernel) (by decide +kernel)), (am_tb 1157 (by decide +kernel) (by decide +kernel)), by decide, by decide, by decide +kernel⟩
def tb_X6_lived : List (Nat × Instr × Nat) := [(0, .iload_n 1, 1), (1, .istore 6, 2), (3, .iload_n 2, 1), (4, .istore 7, 2), (6, .iconst (-1), 1), (7, .istore 8, 2), (9, .iconst 0, 1), (10, .istore 9, 2), (12, .iload 9, 2), (14, .iload 5, 2), (16, .if_icmp .gt 160, 3), (19, .iconst (-1), 1), (20, .istore 8, 2), (22, .aload_n 0, 1), (23, .getfield 25, 3), (26, .sipush 137, 3), (29, .iaload, 1), (30, .iload 9, 2), (32, .iadd, 1), (33, .istore 10, 2), (35, .iload 6, 2), (37, .bipush 10, 2), (39, .if_icmp .ge 7, 3), (42, .iconst 1, 1), (43, .goto 4, 3), (46, .iconst 0, 1), (47, .istore 11, 2), (49, .iload 11, 2), (51, .iconst 3, 1), (52, .if_icmp .ge 84, 3), (55, .iload 8, 2), (57, .ifCond .ge 79, 3), (60, .aload_n 0, 1), (61, .iload 7, 2), (63, .iload 6, 2), (65, .bipush 10, 2), (67, .irem, 1), (68, .iload 11, 2), (70, .iload 10, 2), (72, .invokevirtual 262, 3), (75, .istore 12, 2), (77, .iload 6, 2), (79, .bipush 10, 2), (81, .idiv, 1), (82, .iload 6, 2), (84, .bipush 10, 2), (86, .irem, 1), (87, .iload 11, 2), (89, .invokestatic 258, 3), (92, .istore 13, 2), (94, .iload 12, 2), (96, .ifCond .lt 31, 3), (99, .aload_n 0, 1), (100, .iload 13, 2), (102, .iload 12, 2), (104, .iload 10, 2), (106, .iconst 1, 1), (107, .iadd, 1), (108, .iload_n 3, 1), (109, .iconst 1, 1)]
theorem tk_X6_lived : am_tbl prog_8_method_47_code tb_X6_lived = true := by decide +kernel
def tb_X6_lived_1 : List (Nat × Instr × Nat) := [(110, .isub, 1), (111, .iload 9, 2), (113, .isub, 1), (114, .invokevirtual 270, 3), (117, .iload 4, 2), (119, .if_icmp .ne 8, 3), (122, .iload 11, 2), (124, .goto 4, 3), (127, .iconst (-1), 1), (128, .istore 8, 2), (130, .iinc 11 1, 3), (133, .goto (-84), 3), (136, .aload_n 0, 1), (137, .iload 7, 2), (139, .iload 6, 2), (141, .bipush 10, 2), (143, .irem, 1), (144, .iload 8, 2), (146, .iload 10, 2), (148, .invokevirtual 262, 3), (151, .istore 7, 2), (153, .iload 6, 2), (155, .bipush 10, 2), (157, .idiv, 1), (158, .iload 6, 2), (160, .bipush 10, 2), (162, .irem, 1), (163, .iload 8, 2), (165, .invokestatic 258, 3), (168, .istore 6, 2), (170, .iinc 9 1, 3), (173, .goto (-161), 3), (176, .iload 8, 2), (178, .ireturn, 1)]
theorem tk_X6_lived_1 : am_tbl prog_8_method_47_code tb_X6_lived_1 = true := by decide +kernel
def b_X6_lived_136 (k12 : Int32 → Int32 → Int32 → Int32 → Int32 → Int32 → Int32 → am_M → Option (Int32 × am_M)) (x3 : Int32) (x4 : Int32) (x5 : Int32) (x6 : Int32) (x7 : Int32) (x8 : Int32) (x9 : Int32) (x10 : Int32) (D : am_M) : Option (Int32 × am_M) := (f_X6_purseBy x7 (x6 - x6 / 10 * 10) x8 x10 D).bind fun q148 => k12 x3 x4 x5 (f_X6_stateBy (x6 / 10) (x6 - x6 / 10 * 10) x8) q148.1 x8 (x9 + 1) q148.2
def b_X6_lived_49 (k12 : Int32 → Int32 → Int32 → Int32 → Int32 → Int32 → Int32 → am_M → Option (Int32 × am_M)) : Nat → Int32 → Int32 → Int32 → Int32 → Int32 → Int32 → Int32 → Int32 → Int32 → am_M → Option (Int32 × am_M)
  | 0, _, _, _, _, _, _, _, _, _, _ => none
  | n + 1, x3, x4, x5, x6, x7, x8, x9, x10, x11, D => if 3 ≤ x11 then b_X6_lived_136 k12 x3 x4 x5 x6 x7 x8 x9 x10 D else if 0 ≤ x8 then b_X6_lived_136 k12 x3 x4 x5 x6 x7 x8 x9 x10 D else (f_X6_purseBy x7 (x6 - x6 / 10 * 10) x11 x10 D).bind fun q72 => if q72.1 < 0 then b_X6_lived_49 k12 n x3 x4 x5 x6 x7 (-1) x9 x10 (x11 + 1) q72.2 else (f_X6_mostFrom (f_X6_stateBy (x6 / 10) (x6 - x6 / 10 * 10) x11) q72.1 (x10 + 1) ((x3 - 1) - x9) q72.2).bind fun q114 => b_X6_lived_49 k12 n x3 x4 x5 x6 x7 (if q114.1 = x4 then x11 else (-1)) x9 x10 (x11 + 1) q114.2
def b_X6_lived_12 : Nat → Int32 → Int32 → Int32 → Int32 → Int32 → Int32 → Int32 → am_M → Option (Int32 × am_M)
  | 0, _, _, _, _, _, _, _, _ => none
  | n + 1, x3, x4, x5, x6, x7, x8, x9, D => if x5 < x9 then some (x8, D) else b_X6_lived_49 (b_X6_lived_12 n) am_N x3 x4 x5 x6 x7 (-1) x9 ((D 62 137) + x9) (if 10 ≤ x6 then 0 else 1) D
def f_X6_lived (x1 : Int32) (x2 : Int32) (x3 : Int32) (x4 : Int32) (x5 : Int32) (D : am_M) : Option (Int32 × am_M) := b_X6_lived_12 am_N x3 x4 x5 x1 x2 (-1) 0 D
theorem bx_X6_lived_136 {l : Launch} {h0 : am_H} {Φ : am_Ph} {tw : Nat} {tp : Bool}  {r : Int32} {D' : am_M} (hΦ : Φ (some (.int r)) (ly tw tp D')) {k12 : Int32 → Int32 → Int32 → Int32 → Int32 → Int32 → Int32 → am_M → Option (Int32 × am_M)} (hk12 : ∀ (x3 : Int32) (x4 : Int32) (x5 : Int32) (x6 : Int32) (x7 : Int32) (x8 : Int32) (x9 : Int32) (D : am_M), k12 x3 x4 x5 x6 x7 x8 x9 D = some (r, D') → am_Ex (am_E l m_X6_lived false h0 Φ) prog_8_method_47_code (0, 0) 12 [(0, .ref 56), (3, .int x3), (4, .int x4), (5, .int x5), (6, .int x6), (7, .int x7), (8, .int x8), (9, .int x9)] [] (ly tw tp D)) : ∀ (x3 : Int32) (x4 : Int32) (x5 : Int32) (x6 : Int32) (x7 : Int32) (x8 : Int32) (x9 : Int32) (x10 : Int32) (D : am_M), b_X6_lived_136 k12 x3 x4 x5 x6 x7 x8 x9 x10 D = some (r, D') → am_Ex (am_E l m_X6_lived false h0 Φ) prog_8_method_47_code (0, 0) 136 [(0, .ref 56), (3, .int x3), (4, .int x4), (5, .int x5), (6, .int x6), (7, .int x7), (8, .int x8), (9, .int x9), (10, .int x10)] [] (ly tw tp D) := by
  intro x3 x4 x5 x6 x7 x8 x9 x10 D h
  rw [b_X6_lived_136] at h
  refine am_aload_n (j := 0) (am_dk tk_X6_lived_1 12 rfl) rfl rfl ?_
  refine am_iload (j := 5) (am_dk tk_X6_lived_1 13 rfl) rfl ?_
  refine am_iload (j := 4) (am_dk tk_X6_lived_1 14 rfl) rfl ?_
  refine am_bipush (v := 10) (am_dk tk_X6_lived_1 15 rfl) (by decide) ?_
  refine am_irem (am_dk tk_X6_lived_1 16 rfl) (by decide) ?_
  refine am_iload (j := 6) (am_dk tk_X6_lived_1 17 rfl) rfl ?_
  refine am_iload (j := 8) (am_dk tk_X6_lived_1 18 rfl) rfl ?_
  obtain ⟨q148, hq148, h⟩ := am_bind h
  refine ly_cV (M := m_X6_purseBy) (As := [.int x7, .int (x6 - x6 / 10 * 10), .int x8, .int x10]) (b := 56) (st := []) (ct_X6_purseBy hq148) rfl (by decide) rfl ml_X6_262 ld_X6_purseBy rfl ⟨Nat.le_of_ble_eq_true rfl, Nat.le_of_ble_eq_true rfl⟩ (Nat.le_of_ble_eq_true rfl) ⟨rfl, rfl⟩ ⟨Nat.le_of_ble_eq_true rfl, Nat.le_of_ble_eq_true rfl⟩ (am_dk tk_X6_lived_1 19 rfl) (am_kki ?_)
  refine am_istore (L' := [(7, .int q148.1), (0, .ref 56), (3, .int x3), (4, .int x4), (5, .int x5), (6, .int x6), (8, .int x8), (9, .int x9), (10, .int x10)]) (am_dk tk_X6_lived_1 20 rfl) (Nat.le_of_ble_eq_true rfl) rfl ?_
  refine am_iload (j := 5) (am_dk tk_X6_lived_1 21 rfl) rfl ?_
  refine am_bipush (v := 10) (am_dk tk_X6_lived_1 22 rfl) (by decide) ?_
  refine am_idiv (am_dk tk_X6_lived_1 23 rfl) (by decide) ?_
  refine am_iload (j := 5) (am_dk tk_X6_lived_1 24 rfl) rfl ?_
  refine am_bipush (v := 10) (am_dk tk_X6_lived_1 25 rfl) (by decide) ?_
  refine am_irem (am_dk tk_X6_lived_1 26 rfl) (by decide) ?_
  refine am_iload (j := 6) (am_dk tk_X6_lived_1 27 rfl) rfl ?_
  refine am_cS (M := m_X6_stateBy) (As := [.int (x6 / 10), .int (x6 - x6 / 10 * 10), .int x8]) (st := []) (ct_X6_stateBy _ _ _ _) ml_X6_258 ld_X6_stateBy rfl ⟨Nat.le_of_ble_eq_true rfl, Nat.le_of_ble_eq_true rfl⟩ (Nat.le_of_ble_eq_true rfl) ⟨rfl, rfl⟩ ⟨Nat.le_of_ble_eq_true rfl, Nat.le_of_ble_eq_true rfl⟩ (am_dk tk_X6_lived_1 28 rfl) (am_kki ?_)
  refine am_istore (L' := [(6, .int (f_X6_stateBy (x6 / 10) (x6 - x6 / 10 * 10) x8)), (7, .int q148.1), (0, .ref 56), (3, .int x3), (4, .int x4), (5, .int x5), (8, .int x8), (9, .int x9), (10, .int x10)]) (am_dk tk_X6_lived_1 29 rfl) (Nat.le_of_ble_eq_true rfl) rfl ?_
  refine am_iinc (j := 7) (v := x9 + 1) (L' := [(9, .int (x9 + 1)), (6, .int (f_X6_stateBy (x6 / 10) (x6 - x6 / 10 * 10) x8)), (7, .int q148.1), (0, .ref 56), (3, .int x3), (4, .int x4), (5, .int x5), (8, .int x8), (10, .int x10)]) (am_dk tk_X6_lived_1 30 rfl) rfl rfl (Nat.le_of_ble_eq_true rfl) rfl ?_
  refine am_goto (tgt := 12) (am_dk tk_X6_lived_1 31 rfl) (by decide) ?_
  refine am_ls [3, 4, 5, 6, 1, 2, 7, 0] rfl ?_
  exact hk12 _ _ _ _ _ _ _ _ h
theorem bx_X6_lived_49 {l : Launch} {h0 : am_H} {Φ : am_Ph} {tw : Nat} {tp : Bool}  {r : Int32} {D' : am_M} (hΦ : Φ (some (.int r)) (ly tw tp D')) {k12 : Int32 → Int32 → Int32 → Int32 → Int32 → Int32 → Int32 → am_M → Option (Int32 × am_M)} (hk12 : ∀ (x3 : Int32) (x4 : Int32) (x5 : Int32) (x6 : Int32) (x7 : Int32) (x8 : Int32) (x9 : Int32) (D : am_M), k12 x3 x4 x5 x6 x7 x8 x9 D = some (r, D') → am_Ex (am_E l m_X6_lived false h0 Φ) prog_8_method_47_code (0, 0) 12 [(0, .ref 56), (3, .int x3), (4, .int x4), (5, .int x5), (6, .int x6), (7, .int x7), (8, .int x8), (9, .int x9)] [] (ly tw tp D)) : ∀ (n : Nat) (x3 : Int32) (x4 : Int32) (x5 : Int32) (x6 : Int32) (x7 : Int32) (x8 : Int32) (x9 : Int32) (x10 : Int32) (x11 : Int32) (D : am_M), b_X6_lived_49 k12 n x3 x4 x5 x6 x7 x8 x9 x10 x11 D = some (r, D') → am_Ex (am_E l m_X6_lived false h0 Φ) prog_8_method_47_code (0, 0) 49 [(0, .ref 56), (3, .int x3), (4, .int x4), (5, .int x5), (6, .int x6), (7, .int x7), (8, .int x8), (9, .int x9), (10, .int x10), (11, .int x11)] [] (ly tw tp D) := by
  intro n
  induction n with
  | zero =>
    intro x3 x4 x5 x6 x7 x8 x9 x10 x11 D h
    exact absurd h (by simp [b_X6_lived_49])
  | succ n ih =>
    intro x3 x4 x5 x6 x7 x8 x9 x10 x11 D h
    rw [b_X6_lived_49] at h
    refine am_iload (j := 9) (am_dk tk_X6_lived 27 rfl) rfl ?_
    refine am_iconst (v := 3) (am_dk tk_X6_lived 28 rfl) (by decide) ?_
    refine am_icmp_ge (tgt := 136) (am_dk tk_X6_lived 29 rfl) (by decide) (fun hc52 => ?_) (fun hc52 => ?_)
    · rw [if_pos hc52] at h
      refine am_ls [0, 1, 2, 3, 4, 5, 6, 7, 8] rfl ?_
      exact bx_X6_lived_136  hΦ hk12 _ _ _ _ _ _ _ _ _ h
    · rw [if_neg hc52] at h
      refine am_iload (j := 6) (am_dk tk_X6_lived 30 rfl) rfl ?_
      refine am_if_ge (tgt := 136) (am_dk tk_X6_lived 31 rfl) (by decide) (fun hc57 => ?_) (fun hc57 => ?_)
      · rw [if_pos hc57] at h
        refine am_ls [0, 1, 2, 3, 4, 5, 6, 7, 8] rfl ?_
        exact bx_X6_lived_136  hΦ hk12 _ _ _ _ _ _ _ _ _ h
      · rw [if_neg hc57] at h
        refine am_aload_n (j := 0) (am_dk tk_X6_lived 32 rfl) rfl rfl ?_
        refine am_iload (j := 5) (am_dk tk_X6_lived 33 rfl) rfl ?_
        refine am_iload (j := 4) (am_dk tk_X6_lived 34 rfl) rfl ?_
        refine am_bipush (v := 10) (am_dk tk_X6_lived 35 rfl) (by decide) ?_
        refine am_irem (am_dk tk_X6_lived 36 rfl) (by decide) ?_
        refine am_iload (j := 9) (am_dk tk_X6_lived 37 rfl) rfl ?_
        refine am_iload (j := 8) (am_dk tk_X6_lived 38 rfl) rfl ?_
        obtain ⟨q72, hq72, h⟩ := am_bind h
        refine ly_cV (M := m_X6_purseBy) (As := [.int x7, .int (x6 - x6 / 10 * 10), .int x11, .int x10]) (b := 56) (st := []) (ct_X6_purseBy hq72) rfl (by decide) rfl ml_X6_262 ld_X6_purseBy rfl ⟨Nat.le_of_ble_eq_true rfl, Nat.le_of_ble_eq_true rfl⟩ (Nat.le_of_ble_eq_true rfl) ⟨rfl, rfl⟩ ⟨Nat.le_of_ble_eq_true rfl, Nat.le_of_ble_eq_true rfl⟩ (am_dk tk_X6_lived 39 rfl) (am_kki ?_)
        refine am_istore (L' := [(12, .int q72.1), (0, .ref 56), (3, .int x3), (4, .int x4), (5, .int x5), (6, .int x6), (7, .int x7), (8, .int x8), (9, .int x9), (10, .int x10), (11, .int x11)]) (am_dk tk_X6_lived 40 rfl) (Nat.le_of_ble_eq_true rfl) rfl ?_
        refine am_iload (j := 5) (am_dk tk_X6_lived 41 rfl) rfl ?_
        refine am_bipush (v := 10) (am_dk tk_X6_lived 42 rfl) (by decide) ?_
        refine am_idiv (am_dk tk_X6_lived 43 rfl) (by decide) ?_
        refine am_iload (j := 5) (am_dk tk_X6_lived 44 rfl) rfl ?_
        refine am_bipush (v := 10) (am_dk tk_X6_lived 45 rfl) (by decide) ?_
        refine am_irem (am_dk tk_X6_lived 46 rfl) (by decide) ?_
        refine am_iload (j := 10) (am_dk tk_X6_lived 47 rfl) rfl ?_
        refine am_cS (M := m_X6_stateBy) (As := [.int (x6 / 10), .int (x6 - x6 / 10 * 10), .int x11]) (st := []) (ct_X6_stateBy _ _ _ _) ml_X6_258 ld_X6_stateBy rfl ⟨Nat.le_of_ble_eq_true rfl, Nat.le_of_ble_eq_true rfl⟩ (Nat.le_of_ble_eq_true rfl) ⟨rfl, rfl⟩ ⟨Nat.le_of_ble_eq_true rfl, Nat.le_of_ble_eq_true rfl⟩ (am_dk tk_X6_lived 48 rfl) (am_kki ?_)
        refine am_istore (L' := [(13, .int (f_X6_stateBy (x6 / 10) (x6 - x6 / 10 * 10) x11)), (12, .int q72.1), (0, .ref 56), (3, .int x3), (4, .int x4), (5, .int x5), (6, .int x6), (7, .int x7), (8, .int x8), (9, .int x9), (10, .int x10), (11, .int x11)]) (am_dk tk_X6_lived 49 rfl) (Nat.le_of_ble_eq_true rfl) rfl ?_
        refine am_iload (j := 1) (am_dk tk_X6_lived 50 rfl) rfl ?_
        refine am_if_lt (tgt := 127) (am_dk tk_X6_lived 51 rfl) (by decide) (fun hc96 => ?_) (fun hc96 => ?_)
        · rw [if_pos hc96] at h
          refine am_iconst (v := (-1)) (am_dk tk_X6_lived_1 8 rfl) (by decide) ?_
          refine am_istore (L' := [(8, .int (-1)), (13, .int (f_X6_stateBy (x6 / 10) (x6 - x6 / 10 * 10) x11)), (12, .int q72.1), (0, .ref 56), (3, .int x3), (4, .int x4), (5, .int x5), (6, .int x6), (7, .int x7), (9, .int x9), (10, .int x10), (11, .int x11)]) (am_dk tk_X6_lived_1 9 rfl) (Nat.le_of_ble_eq_true rfl) rfl ?_
          refine am_iinc (j := 11) (v := x11 + 1) (L' := [(11, .int (x11 + 1)), (8, .int (-1)), (13, .int (f_X6_stateBy (x6 / 10) (x6 - x6 / 10 * 10) x11)), (12, .int q72.1), (0, .ref 56), (3, .int x3), (4, .int x4), (5, .int x5), (6, .int x6), (7, .int x7), (9, .int x9), (10, .int x10)]) (am_dk tk_X6_lived_1 10 rfl) rfl rfl (Nat.le_of_ble_eq_true rfl) rfl ?_
          refine am_goto (tgt := 49) (am_dk tk_X6_lived_1 11 rfl) (by decide) ?_
          refine am_ls [4, 5, 6, 7, 8, 9, 1, 10, 11, 0] rfl ?_
          exact ih _ _ _ _ _ _ _ _ _ _ h
        · rw [if_neg hc96] at h
          refine am_aload_n (j := 2) (am_dk tk_X6_lived 52 rfl) rfl rfl ?_
          refine am_iload (j := 0) (am_dk tk_X6_lived 53 rfl) rfl ?_
          refine am_iload (j := 1) (am_dk tk_X6_lived 54 rfl) rfl ?_
          refine am_iload (j := 10) (am_dk tk_X6_lived 55 rfl) rfl ?_
          refine am_iconst (v := 1) (am_dk tk_X6_lived 56 rfl) (by decide) ?_
          refine am_iadd (am_dk tk_X6_lived 57 rfl) ?_
          refine am_iload_n (j := 3) (am_dk tk_X6_lived 58 rfl) rfl rfl ?_
          refine am_iconst (v := 1) (am_dk tk_X6_lived 59 rfl) (by decide) ?_
          refine am_isub (am_dk tk_X6_lived_1 0 rfl) ?_
          refine am_iload (j := 9) (am_dk tk_X6_lived_1 1 rfl) rfl ?_
          refine am_isub (am_dk tk_X6_lived_1 2 rfl) ?_
          obtain ⟨q114, hq114, h⟩ := am_bind h
          refine ly_cV (M := m_X6_mostFrom) (As := [.int (f_X6_stateBy (x6 / 10) (x6 - x6 / 10 * 10) x11), .int q72.1, .int (x10 + 1), .int ((x3 - 1) - x9)]) (b := 56) (st := []) (ct_X6_mostFrom hq114) rfl (by decide) rfl ml_X6_270 ld_X6_mostFrom rfl ⟨Nat.le_of_ble_eq_true rfl, Nat.le_of_ble_eq_true rfl⟩ (Nat.le_of_ble_eq_true rfl) ⟨rfl, rfl⟩ ⟨Nat.le_of_ble_eq_true rfl, Nat.le_of_ble_eq_true rfl⟩ (am_dk tk_X6_lived_1 3 rfl) (am_kki ?_)
          refine am_iload (j := 4) (am_dk tk_X6_lived_1 4 rfl) rfl ?_
          refine am_icmp_ne (tgt := 127) (am_dk tk_X6_lived_1 5 rfl) (by decide) (fun hc119 => ?_) (fun hc119 => ?_)
          · simp only [if_neg hc119] at h
            refine am_iconst (v := (-1)) (am_dk tk_X6_lived_1 8 rfl) (by decide) ?_
            refine am_istore (L' := [(8, .int (-1)), (13, .int (f_X6_stateBy (x6 / 10) (x6 - x6 / 10 * 10) x11)), (12, .int q72.1), (0, .ref 56), (3, .int x3), (4, .int x4), (5, .int x5), (6, .int x6), (7, .int x7), (9, .int x9), (10, .int x10), (11, .int x11)]) (am_dk tk_X6_lived_1 9 rfl) (Nat.le_of_ble_eq_true rfl) rfl ?_
            refine am_iinc (j := 11) (v := x11 + 1) (L' := [(11, .int (x11 + 1)), (8, .int (-1)), (13, .int (f_X6_stateBy (x6 / 10) (x6 - x6 / 10 * 10) x11)), (12, .int q72.1), (0, .ref 56), (3, .int x3), (4, .int x4), (5, .int x5), (6, .int x6), (7, .int x7), (9, .int x9), (10, .int x10)]) (am_dk tk_X6_lived_1 10 rfl) rfl rfl (Nat.le_of_ble_eq_true rfl) rfl ?_
            refine am_goto (tgt := 49) (am_dk tk_X6_lived_1 11 rfl) (by decide) ?_
            refine am_ls [4, 5, 6, 7, 8, 9, 1, 10, 11, 0] rfl ?_
            exact ih _ _ _ _ _ _ _ _ _ _ h
          · simp only [if_pos hc119] at h
            refine am_iload (j := 11) (am_dk tk_X6_lived_1 6 rfl) rfl ?_
            refine am_goto (tgt := 128) (am_dk tk_X6_lived_1 7 rfl) (by decide) ?_
            refine am_istore (L' := [(8, .int x11), (13, .int (f_X6_stateBy (x6 / 10) (x6 - x6 / 10 * 10) x11)), (12, .int q72.1), (0, .ref 56), (3, .int x3), (4, .int x4), (5, .int x5), (6, .int x6), (7, .int x7), (9, .int x9), (10, .int x10), (11, .int x11)]) (am_dk tk_X6_lived_1 9 rfl) (Nat.le_of_ble_eq_true rfl) rfl ?_
            refine am_iinc (j := 11) (v := x11 + 1) (L' := [(11, .int (x11 + 1)), (8, .int x11), (13, .int (f_X6_stateBy (x6 / 10) (x6 - x6 / 10 * 10) x11)), (12, .int q72.1), (0, .ref 56), (3, .int x3), (4, .int x4), (5, .int x5), (6, .int x6), (7, .int x7), (9, .int x9), (10, .int x10)]) (am_dk tk_X6_lived_1 10 rfl) rfl rfl (Nat.le_of_ble_eq_true rfl) rfl ?_
            refine am_goto (tgt := 49) (am_dk tk_X6_lived_1 11 rfl) (by decide) ?_
            refine am_ls [4, 5, 6, 7, 8, 9, 1, 10, 11, 0] rfl ?_
            exact ih _ _ _ _ _ _ _ _ _ _ h
theorem bx_X6_lived_12 {l : Launch} {h0 : am_H} {Φ : am_Ph} {tw : Nat} {tp : Bool}  {r : Int32} {D' : am_M} (hΦ : Φ (some (.int r)) (ly tw tp D')) : ∀ (n : Nat) (x3 : Int32) (x4 : Int32) (x5 : Int32) (x6 : Int32) (x7 : Int32) (x8 : Int32) (x9 : Int32) (D : am_M), b_X6_lived_12 n x3 x4 x5 x6 x7 x8 x9 D = some (r, D') → am_Ex (am_E l m_X6_lived false h0 Φ) prog_8_method_47_code (0, 0) 12 [(0, .ref 56), (3, .int x3), (4, .int x4), (5, .int x5), (6, .int x6), (7, .int x7), (8, .int x8), (9, .int x9)] [] (ly tw tp D) := by
  intro n
  induction n with
  | zero =>
    intro x3 x4 x5 x6 x7 x8 x9 D h
    exact absurd h (by simp [b_X6_lived_12])
  | succ n ih =>
    intro x3 x4 x5 x6 x7 x8 x9 D h
    rw [b_X6_lived_12] at h
    refine am_iload (j := 7) (am_dk tk_X6_lived 8 rfl) rfl ?_
    refine am_iload (j := 3) (am_dk tk_X6_lived 9 rfl) rfl ?_
    refine am_icmp_gt (tgt := 176) (am_dk tk_X6_lived 10 rfl) (by decide) (fun hc16 => ?_) (fun hc16 => ?_)
    · rw [if_pos hc16] at h
      refine am_iload (j := 6) (am_dk tk_X6_lived_1 32 rfl) rfl ?_
      exact am_iret rfl (am_r2 h hΦ) ⟨Nat.le_of_ble_eq_true rfl, Nat.le_of_ble_eq_true rfl⟩ (am_dk tk_X6_lived_1 33 rfl)
    · rw [if_neg hc16] at h
      refine am_iconst (v := (-1)) (am_dk tk_X6_lived 11 rfl) (by decide) ?_
      refine am_istore (L' := [(8, .int (-1)), (0, .ref 56), (3, .int x3), (4, .int x4), (5, .int x5), (6, .int x6), (7, .int x7), (9, .int x9)]) (am_dk tk_X6_lived 12 rfl) (Nat.le_of_ble_eq_true rfl) rfl ?_
      refine am_aload_n (j := 1) (am_dk tk_X6_lived 13 rfl) rfl rfl ?_
      refine ly_getr (b := 62) rfl fl_X6_25 rfl rfl (am_dk tk_X6_lived 14 rfl) ?_
      refine am_sipush (v := 137) (am_dk tk_X6_lived 15 rfl) (by decide) ?_
      refine ly_iald (k := 137) rfl (am_in_vp (by decide)) rfl (am_dk tk_X6_lived 16 rfl) ?_
      refine am_iload (j := 7) (am_dk tk_X6_lived 17 rfl) rfl ?_
      refine am_iadd (am_dk tk_X6_lived 18 rfl) ?_
      refine am_istore (L' := [(10, .int ((D 62 137) + x9)), (8, .int (-1)), (0, .ref 56), (3, .int x3), (4, .int x4), (5, .int x5), (6, .int x6), (7, .int x7), (9, .int x9)]) (am_dk tk_X6_lived 19 rfl) (Nat.le_of_ble_eq_true rfl) rfl ?_
      refine am_iload (j := 6) (am_dk tk_X6_lived 20 rfl) rfl ?_
      refine am_bipush (v := 10) (am_dk tk_X6_lived 21 rfl) (by decide) ?_
      refine am_icmp_ge (tgt := 46) (am_dk tk_X6_lived 22 rfl) (by decide) (fun hc39 => ?_) (fun hc39 => ?_)
      · simp only [if_pos hc39] at h
        refine am_iconst (v := 0) (am_dk tk_X6_lived 25 rfl) (by decide) ?_
        refine am_istore (L' := [(11, .int 0), (10, .int ((D 62 137) + x9)), (8, .int (-1)), (0, .ref 56), (3, .int x3), (4, .int x4), (5, .int x5), (6, .int x6), (7, .int x7), (9, .int x9)]) (am_dk tk_X6_lived 26 rfl) (Nat.le_of_ble_eq_true rfl) rfl ?_
        refine am_ls [3, 4, 5, 6, 7, 8, 2, 9, 1, 0] rfl ?_
        exact bx_X6_lived_49  hΦ (ih) am_N _ _ _ _ _ _ _ _ _ _ h
      · simp only [if_neg hc39] at h
        refine am_iconst (v := 1) (am_dk tk_X6_lived 23 rfl) (by decide) ?_
        refine am_goto (tgt := 47) (am_dk tk_X6_lived 24 rfl) (by decide) ?_
        refine am_istore (L' := [(11, .int 1), (10, .int ((D 62 137) + x9)), (8, .int (-1)), (0, .ref 56), (3, .int x3), (4, .int x4), (5, .int x5), (6, .int x6), (7, .int x7), (9, .int x9)]) (am_dk tk_X6_lived 26 rfl) (Nat.le_of_ble_eq_true rfl) rfl ?_
        refine am_ls [3, 4, 5, 6, 7, 8, 2, 9, 1, 0] rfl ?_
        exact bx_X6_lived_49  hΦ (ih) am_N _ _ _ _ _ _ _ _ _ _ h
theorem ct_X6_lived {l : Launch} {tw : Nat} {tp : Bool}  {x1 : Int32} {x2 : Int32} {x3 : Int32} {x4 : Int32} {x5 : Int32} {r : Int32} {D D' : am_M} (h : f_X6_lived x1 x2 x3 x4 x5 D = some (r, D')) : am_CT l m_X6_lived false [.ref 56, .int x1, .int x2, .int x3, .int x4, .int x5] (ly tw tp D) (am_is (some (.int r)) (ly tw tp D')) := by
  have hΦ : am_is (some (.int r)) (ly tw tp D') (some (.int r)) (ly tw tp D') := ⟨rfl, rfl⟩
  refine am_CT.of (by decide) (Nat.le_of_ble_eq_true rfl) ?_
  show am_Ex _ _ _ 0 [(0, .ref 56), (1, .int x1), (2, .int x2), (3, .int x3), (4, .int x4), (5, .int x5)] [] _
  rw [f_X6_lived] at h
  refine am_iload_n (j := 1) (am_dk tk_X6_lived 0 rfl) rfl rfl ?_
  refine am_istore (L' := [(6, .int x1), (0, .ref 56), (1, .int x1), (2, .int x2), (3, .int x3), (4, .int x4), (5, .int x5)]) (am_dk tk_X6_lived 1 rfl) (Nat.le_of_ble_eq_true rfl) rfl ?_
  refine am_iload_n (j := 3) (am_dk tk_X6_lived 2 rfl) rfl rfl ?_
  refine am_istore (L' := [(7, .int x2), (6, .int x1), (0, .ref 56), (1, .int x1), (2, .int x2), (3, .int x3), (4, .int x4), (5, .int x5)]) (am_dk tk_X6_lived 3 rfl) (Nat.le_of_ble_eq_true rfl) rfl ?_
  refine am_iconst (v := (-1)) (am_dk tk_X6_lived 4 rfl) (by decide) ?_
  refine am_istore (L' := [(8, .int (-1)), (7, .int x2), (6, .int x1), (0, .ref 56), (1, .int x1), (2, .int x2), (3, .int x3), (4, .int x4), (5, .int x5)]) (am_dk tk_X6_lived 5 rfl) (Nat.le_of_ble_eq_true rfl) rfl ?_
  refine am_iconst (v := 0) (am_dk tk_X6_lived 6 rfl) (by decide) ?_
  refine am_istore (L' := [(9, .int 0), (8, .int (-1)), (7, .int x2), (6, .int x1), (0, .ref 56), (1, .int x1), (2, .int x2), (3, .int x3), (4, .int x4), (5, .int x5)]) (am_dk tk_X6_lived 7 rfl) (Nat.le_of_ble_eq_true rfl) rfl ?_
  refine am_ls [4, 7, 8, 9, 3, 2, 1, 0] rfl ?_
  exact bx_X6_lived_12  hΦ am_N _ _ _ _ _ _ _ _ h
abbrev m_X6_life : am_D := (yX6_life, prog_8_method_48_code, 6, (some .int), { frames := 6, cells := 0, slots := 0, locals := 148 })
theorem ld_X6_life : am_LD m_X6_life 3 := ⟨(am_tb 85 (by decide +kernel) (by decide +kernel)), (am_tb 1131 (by decide +kernel) (by decide +kernel)), by decide, by decide, by decide +kernel⟩
def tb_X6_life : List (Nat × Instr × Nat) := [(0, .aload_n 0, 1), (1, .iload_n 1, 1), (2, .invokevirtual 197, 3), (5, .ifCond .ne 6, 3), (8, .ldc 201, 2), (10, .ireturn, 1), (11, .iload_n 2, 1), (12, .i2l, 1), (13, .lconst 1, 1), (14, .ldc2_w 117, 3), (17, .invokestatic 99, 3), (20, .ifCond .ne 6, 3), (23, .ldc 105, 2), (25, .ireturn, 1), (26, .aload_n 0, 1), (27, .iload_n 1, 1), (28, .putfield 249, 3), (31, .bipush 10, 2), (33, .aload_n 0, 1), (34, .getfield 25, 3), (37, .iload_n 1, 1), (38, .iaload, 1), (39, .imul, 1), (40, .aload_n 0, 1), (41, .getfield 25, 3), (44, .iconst 5, 1), (45, .iload_n 1, 1), (46, .iadd, 1), (47, .iaload, 1), (48, .bipush 9, 2), (50, .invokestatic 207, 3), (53, .iadd, 1), (54, .istore 4, 2), (56, .aload_n 0, 1), (57, .iload 4, 2), (59, .aload_n 0, 1), (60, .getfield 25, 3), (63, .bipush 10, 2), (65, .iload_n 1, 1), (66, .iadd, 1), (67, .iaload, 1), (68, .aload_n 0, 1), (69, .getfield 25, 3), (72, .sipush 137, 3), (75, .iaload, 1), (76, .iload_n 2, 1), (77, .invokevirtual 270, 3), (80, .istore 5, 2), (82, .iload 5, 2), (84, .ifCond .lt 8, 3), (87, .iload_n 3, 1), (88, .iconst (-1), 1), (89, .if_icmp .ne 6, 3), (92, .iload 5, 2), (94, .ireturn, 1), (95, .iload_n 3, 1), (96, .i2l, 1), (97, .lconst 0, 1), (98, .iload_n 2, 1), (99, .iconst 1, 1)]
theorem tk_X6_life : am_tbl prog_8_method_48_code tb_X6_life = true := by decide +kernel
def tb_X6_life_1 : List (Nat × Instr × Nat) := [(100, .isub, 1), (101, .i2l, 1), (102, .invokestatic 99, 3), (105, .ifCond .eq 25, 3), (108, .aload_n 0, 1), (109, .iload 4, 2), (111, .aload_n 0, 1), (112, .getfield 25, 3), (115, .bipush 10, 2), (117, .iload_n 1, 1), (118, .iadd, 1), (119, .iaload, 1), (120, .iload_n 2, 1), (121, .iload 5, 2), (123, .iload_n 3, 1), (124, .invokevirtual 273, 3), (127, .goto 4, 3), (130, .iconst (-1), 1), (131, .ireturn, 1)]
theorem tk_X6_life_1 : am_tbl prog_8_method_48_code tb_X6_life_1 = true := by decide +kernel
def f_X6_life (x1 : Int32) (x2 : Int32) (x3 : Int32) (D : am_M) : Option (Int32 × am_M) := if (f_X6_isPerson x1 D) = 0 then some ((-1000000001), D) else if (f_X6_in x2.toInt64 1 48) = 0 then some ((-1000000002), D) else if am_in x1 138 = true then if am_in (5 + x1) 138 = true then if am_in (10 + x1) 138 = true then (f_X6_mostFrom ((10 * ((am_up D 56 35 x1) 62 x1.toNatClampNeg)) + (f_X6_atMost ((am_up D 56 35 x1) 62 (5 + x1).toNatClampNeg) 9)) ((am_up D 56 35 x1) 62 (10 + x1).toNatClampNeg) ((am_up D 56 35 x1) 62 137) x2 (am_up D 56 35 x1)).bind fun q77 => if q77.1 < 0 then some (q77.1, q77.2) else if x3 = (-1) then some (q77.1, q77.2) else if (f_X6_in x3.toInt64 0 ((x2 - 1).toInt64)) = 0 then some ((-1), q77.2) else (f_X6_lived ((10 * ((am_up D 56 35 x1) 62 x1.toNatClampNeg)) + (f_X6_atMost ((am_up D 56 35 x1) 62 (5 + x1).toNatClampNeg) 9)) (q77.2 62 (10 + x1).toNatClampNeg) x2 q77.1 x3 q77.2).bind fun q124 => some (q124.1, q124.2) else none else none else none
theorem ct_X6_life {l : Launch} {tw : Nat} {tp : Bool}  {x1 : Int32} {x2 : Int32} {x3 : Int32} {r : Int32} {D D' : am_M} (h : f_X6_life x1 x2 x3 D = some (r, D')) : am_CT l m_X6_life false [.ref 56, .int x1, .int x2, .int x3] (ly tw tp D) (am_is (some (.int r)) (ly tw tp D')) := by
  have hΦ : am_is (some (.int r)) (ly tw tp D') (some (.int r)) (ly tw tp D') := ⟨rfl, rfl⟩
  refine am_CT.of (by decide) (Nat.le_of_ble_eq_true rfl) ?_
  show am_Ex _ _ _ 0 [(0, .ref 56), (1, .int x1), (2, .int x2), (3, .int x3)] [] _
  rw [f_X6_life] at h
  refine am_aload_n (j := 0) (am_dk tk_X6_life 0 rfl) rfl rfl ?_
  refine am_iload_n (j := 1) (am_dk tk_X6_life 1 rfl) rfl rfl ?_
  refine ly_cV (M := m_X6_isPerson) (As := [.int x1]) (b := 56) (st := []) (ct_X6_isPerson _ _) rfl (by decide) rfl ml_X6_197 ld_X6_isPerson rfl ⟨Nat.le_of_ble_eq_true rfl, Nat.le_of_ble_eq_true rfl⟩ (Nat.le_of_ble_eq_true rfl) ⟨rfl, rfl⟩ ⟨Nat.le_of_ble_eq_true rfl, Nat.le_of_ble_eq_true rfl⟩ (am_dk tk_X6_life 2 rfl) (am_kki ?_)
  refine am_if_ne (tgt := 11) (am_dk tk_X6_life 3 rfl) (by decide) (fun hc5 => ?_) (fun hc5 => ?_)
  · rw [if_neg hc5] at h
    refine am_iload_n (j := 2) (am_dk tk_X6_life 6 rfl) rfl rfl ?_
    refine am_i2l (am_dk tk_X6_life 7 rfl) ?_
    refine am_lconst (v := 1) (am_dk tk_X6_life 8 rfl) (by decide) ?_
    refine am_ldc2 kl_X6_117 (am_dk tk_X6_life 9 rfl) ?_
    refine am_cS (M := m_X6_in) (As := [.long x2.toInt64, .long 1, .long 48]) (st := []) (ct_X6_in _ _ _ _) ml_X6_99 ld_X6_in rfl ⟨Nat.le_of_ble_eq_true rfl, Nat.le_of_ble_eq_true rfl⟩ (Nat.le_of_ble_eq_true rfl) ⟨rfl, rfl⟩ ⟨Nat.le_of_ble_eq_true rfl, Nat.le_of_ble_eq_true rfl⟩ (am_dk tk_X6_life 10 rfl) (am_kki ?_)
    refine am_if_ne (tgt := 26) (am_dk tk_X6_life 11 rfl) (by decide) (fun hc20 => ?_) (fun hc20 => ?_)
    · rw [if_neg hc20] at h
      refine am_aload_n (j := 0) (am_dk tk_X6_life 14 rfl) rfl rfl ?_
      refine am_iload_n (j := 1) (am_dk tk_X6_life 15 rfl) rfl rfl ?_
      refine ly_puti rfl fl_X6_249 rfl rfl (am_dk tk_X6_life 16 rfl) ?_
      refine am_bipush (v := 10) (am_dk tk_X6_life 17 rfl) (by decide) ?_
      refine am_aload_n (j := 0) (am_dk tk_X6_life 18 rfl) rfl rfl ?_
      refine ly_getr (b := 62) rfl fl_X6_25 rfl rfl (am_dk tk_X6_life 19 rfl) ?_
      refine am_iload_n (j := 1) (am_dk tk_X6_life 20 rfl) rfl rfl ?_
      obtain ⟨hi38, h⟩ := am_chk h
      refine ly_iald (k := x1.toNatClampNeg) rfl (am_in_vp hi38) rfl (am_dk tk_X6_life 21 rfl) ?_
      refine am_imul (am_dk tk_X6_life 22 rfl) ?_
      refine am_aload_n (j := 0) (am_dk tk_X6_life 23 rfl) rfl rfl ?_
      refine ly_getr (b := 62) rfl fl_X6_25 rfl rfl (am_dk tk_X6_life 24 rfl) ?_
      refine am_iconst (v := 5) (am_dk tk_X6_life 25 rfl) (by decide) ?_
      refine am_iload_n (j := 1) (am_dk tk_X6_life 26 rfl) rfl rfl ?_
      refine am_iadd (am_dk tk_X6_life 27 rfl) ?_
      obtain ⟨hi47, h⟩ := am_chk h
      refine ly_iald (k := (5 + x1).toNatClampNeg) rfl (am_in_vp hi47) rfl (am_dk tk_X6_life 28 rfl) ?_
      refine am_bipush (v := 9) (am_dk tk_X6_life 29 rfl) (by decide) ?_
      refine am_cS (M := m_X6_atMost) (As := [.int ((am_up D 56 35 x1) 62 (5 + x1).toNatClampNeg), .int 9]) (st := [.int (10 * ((am_up D 56 35 x1) 62 x1.toNatClampNeg))]) (ct_X6_atMost _ _ _) ml_X6_207 ld_X6_atMost rfl ⟨Nat.le_of_ble_eq_true rfl, Nat.le_of_ble_eq_true rfl⟩ (Nat.le_of_ble_eq_true rfl) ⟨rfl, rfl⟩ ⟨Nat.le_of_ble_eq_true rfl, Nat.le_of_ble_eq_true rfl⟩ (am_dk tk_X6_life 30 rfl) (am_kki ?_)
      refine am_iadd (am_dk tk_X6_life 31 rfl) ?_
      refine am_istore (L' := [(4, .int ((10 * ((am_up D 56 35 x1) 62 x1.toNatClampNeg)) + (f_X6_atMost ((am_up D 56 35 x1) 62 (5 + x1).toNatClampNeg) 9))), (0, .ref 56), (1, .int x1), (2, .int x2), (3, .int x3)]) (am_dk tk_X6_life 32 rfl) (Nat.le_of_ble_eq_true rfl) rfl ?_
      refine am_aload_n (j := 1) (am_dk tk_X6_life 33 rfl) rfl rfl ?_
      refine am_iload (j := 0) (am_dk tk_X6_life 34 rfl) rfl ?_
      refine am_aload_n (j := 1) (am_dk tk_X6_life 35 rfl) rfl rfl ?_
      refine ly_getr (b := 62) rfl fl_X6_25 rfl rfl (am_dk tk_X6_life 36 rfl) ?_
      refine am_bipush (v := 10) (am_dk tk_X6_life 37 rfl) (by decide) ?_
      refine am_iload_n (j := 2) (am_dk tk_X6_life 38 rfl) rfl rfl ?_
      refine am_iadd (am_dk tk_X6_life 39 rfl) ?_
      obtain ⟨hi67, h⟩ := am_chk h
      refine ly_iald (k := (10 + x1).toNatClampNeg) rfl (am_in_vp hi67) rfl (am_dk tk_X6_life 40 rfl) ?_
      refine am_aload_n (j := 1) (am_dk tk_X6_life 41 rfl) rfl rfl ?_
      refine ly_getr (b := 62) rfl fl_X6_25 rfl rfl (am_dk tk_X6_life 42 rfl) ?_
      refine am_sipush (v := 137) (am_dk tk_X6_life 43 rfl) (by decide) ?_
      refine ly_iald (k := 137) rfl (am_in_vp (by decide)) rfl (am_dk tk_X6_life 44 rfl) ?_
      refine am_iload_n (j := 3) (am_dk tk_X6_life 45 rfl) rfl rfl ?_
      obtain ⟨q77, hq77, h⟩ := am_bind h
      refine ly_cV (M := m_X6_mostFrom) (As := [.int ((10 * ((am_up D 56 35 x1) 62 x1.toNatClampNeg)) + (f_X6_atMost ((am_up D 56 35 x1) 62 (5 + x1).toNatClampNeg) 9)), .int ((am_up D 56 35 x1) 62 (10 + x1).toNatClampNeg), .int ((am_up D 56 35 x1) 62 137), .int x2]) (b := 56) (st := []) (ct_X6_mostFrom hq77) rfl (by decide) rfl ml_X6_270 ld_X6_mostFrom rfl ⟨Nat.le_of_ble_eq_true rfl, Nat.le_of_ble_eq_true rfl⟩ (Nat.le_of_ble_eq_true rfl) ⟨rfl, rfl⟩ ⟨Nat.le_of_ble_eq_true rfl, Nat.le_of_ble_eq_true rfl⟩ (am_dk tk_X6_life 46 rfl) (am_kki ?_)
      refine am_istore (L' := [(5, .int q77.1), (4, .int ((10 * ((am_up D 56 35 x1) 62 x1.toNatClampNeg)) + (f_X6_atMost ((am_up D 56 35 x1) 62 (5 + x1).toNatClampNeg) 9))), (0, .ref 56), (1, .int x1), (2, .int x2), (3, .int x3)]) (am_dk tk_X6_life 47 rfl) (Nat.le_of_ble_eq_true rfl) rfl ?_
      refine am_iload (j := 0) (am_dk tk_X6_life 48 rfl) rfl ?_
      refine am_if_lt (tgt := 92) (am_dk tk_X6_life 49 rfl) (by decide) (fun hc84 => ?_) (fun hc84 => ?_)
      · rw [if_pos hc84] at h
        refine am_iload (j := 0) (am_dk tk_X6_life 53 rfl) rfl ?_
        exact am_iret rfl (am_r2 h hΦ) ⟨Nat.le_of_ble_eq_true rfl, Nat.le_of_ble_eq_true rfl⟩ (am_dk tk_X6_life 54 rfl)
      · rw [if_neg hc84] at h
        refine am_iload_n (j := 5) (am_dk tk_X6_life 50 rfl) rfl rfl ?_
        refine am_iconst (v := (-1)) (am_dk tk_X6_life 51 rfl) (by decide) ?_
        refine am_icmp_ne (tgt := 95) (am_dk tk_X6_life 52 rfl) (by decide) (fun hc89 => ?_) (fun hc89 => ?_)
        · rw [if_neg hc89] at h
          refine am_iload_n (j := 5) (am_dk tk_X6_life 55 rfl) rfl rfl ?_
          refine am_i2l (am_dk tk_X6_life 56 rfl) ?_
          refine am_lconst (v := 0) (am_dk tk_X6_life 57 rfl) (by decide) ?_
          refine am_iload_n (j := 4) (am_dk tk_X6_life 58 rfl) rfl rfl ?_
          refine am_iconst (v := 1) (am_dk tk_X6_life 59 rfl) (by decide) ?_
          refine am_isub (am_dk tk_X6_life_1 0 rfl) ?_
          refine am_i2l (am_dk tk_X6_life_1 1 rfl) ?_
          refine am_cS (M := m_X6_in) (As := [.long x3.toInt64, .long 0, .long ((x2 - 1).toInt64)]) (st := []) (ct_X6_in _ _ _ _) ml_X6_99 ld_X6_in rfl ⟨Nat.le_of_ble_eq_true rfl, Nat.le_of_ble_eq_true rfl⟩ (Nat.le_of_ble_eq_true rfl) ⟨rfl, rfl⟩ ⟨Nat.le_of_ble_eq_true rfl, Nat.le_of_ble_eq_true rfl⟩ (am_dk tk_X6_life_1 2 rfl) (am_kki ?_)
          refine am_if_eq (tgt := 130) (am_dk tk_X6_life_1 3 rfl) (by decide) (fun hc105 => ?_) (fun hc105 => ?_)
          · rw [if_pos hc105] at h
            refine am_iconst (v := (-1)) (am_dk tk_X6_life_1 17 rfl) (by decide) ?_
            exact am_iret rfl (am_r2 h hΦ) ⟨Nat.le_of_ble_eq_true rfl, Nat.le_of_ble_eq_true rfl⟩ (am_dk tk_X6_life_1 18 rfl)
          · rw [if_neg hc105] at h
            refine am_aload_n (j := 2) (am_dk tk_X6_life_1 4 rfl) rfl rfl ?_
            refine am_iload (j := 1) (am_dk tk_X6_life_1 5 rfl) rfl ?_
            refine am_aload_n (j := 2) (am_dk tk_X6_life_1 6 rfl) rfl rfl ?_
            refine ly_getr (b := 62) rfl fl_X6_25 rfl rfl (am_dk tk_X6_life_1 7 rfl) ?_
            refine am_bipush (v := 10) (am_dk tk_X6_life_1 8 rfl) (by decide) ?_
            refine am_iload_n (j := 3) (am_dk tk_X6_life_1 9 rfl) rfl rfl ?_
            refine am_iadd (am_dk tk_X6_life_1 10 rfl) ?_
            refine ly_iald (k := (10 + x1).toNatClampNeg) rfl (am_in_vp hi67) rfl (am_dk tk_X6_life_1 11 rfl) ?_
            refine am_iload_n (j := 4) (am_dk tk_X6_life_1 12 rfl) rfl rfl ?_
            refine am_iload (j := 0) (am_dk tk_X6_life_1 13 rfl) rfl ?_
            refine am_iload_n (j := 5) (am_dk tk_X6_life_1 14 rfl) rfl rfl ?_
            obtain ⟨q124, hq124, h⟩ := am_bind h
            refine ly_cV (M := m_X6_lived) (As := [.int ((10 * ((am_up D 56 35 x1) 62 x1.toNatClampNeg)) + (f_X6_atMost ((am_up D 56 35 x1) 62 (5 + x1).toNatClampNeg) 9)), .int (q77.2 62 (10 + x1).toNatClampNeg), .int x2, .int q77.1, .int x3]) (b := 56) (st := []) (ct_X6_lived hq124) rfl (by decide) rfl ml_X6_273 ld_X6_lived rfl ⟨Nat.le_of_ble_eq_true rfl, Nat.le_of_ble_eq_true rfl⟩ (Nat.le_of_ble_eq_true rfl) ⟨rfl, rfl⟩ ⟨Nat.le_of_ble_eq_true rfl, Nat.le_of_ble_eq_true rfl⟩ (am_dk tk_X6_life_1 15 rfl) (am_kki ?_)
            refine am_goto (tgt := 131) (am_dk tk_X6_life_1 16 rfl) (by decide) ?_
            exact am_iret rfl (am_r2 h hΦ) ⟨Nat.le_of_ble_eq_true rfl, Nat.le_of_ble_eq_true rfl⟩ (am_dk tk_X6_life_1 18 rfl)
        · rw [if_pos hc89] at h
          refine am_iload (j := 0) (am_dk tk_X6_life 53 rfl) rfl ?_
          exact am_iret rfl (am_r2 h hΦ) ⟨Nat.le_of_ble_eq_true rfl, Nat.le_of_ble_eq_true rfl⟩ (am_dk tk_X6_life 54 rfl)
    · rw [if_pos hc20] at h
      refine am_ldc kc_X6_105 (am_dk tk_X6_life 12 rfl) ?_
      exact am_iret rfl (am_r2 h hΦ) ⟨Nat.le_of_ble_eq_true rfl, Nat.le_of_ble_eq_true rfl⟩ (am_dk tk_X6_life 13 rfl)
  · rw [if_pos hc5] at h
    refine am_ldc kc_X6_201 (am_dk tk_X6_life 4 rfl) ?_
    exact am_iret rfl (am_r2 h hΦ) ⟨Nat.le_of_ble_eq_true rfl, Nat.le_of_ble_eq_true rfl⟩ (am_dk tk_X6_life 5 rfl)
abbrev m_X6_canLie : am_D := (yX6_canLie, prog_8_method_49_code, 5, (some .boolean), { frames := 0, cells := 0, slots := 0, locals := 0 })
theorem ld_X6_canLie : am_LD m_X6_canLie 2 := ⟨(am_tb 85 (by decide +kernel) (by decide +kernel)), (am_tb 1166 (by decide +kernel) (by decide +kernel)), by decide, by decide, by decide +kernel⟩
def tb_X6_canLie : List (Nat × Instr × Nat) := [(0, .iconst 1, 1), (1, .istore_n 3, 1), (2, .iload_n 1, 1), (3, .istore 4, 2), (5, .iload 4, 2), (7, .iload_n 1, 1), (8, .iload_n 2, 1), (9, .iadd, 1), (10, .if_icmp .ge 33, 3), (13, .iload_n 3, 1), (14, .ifCond .eq 21, 3), (17, .aload_n 0, 1), (18, .getfield 71, 3), (21, .iload 4, 2), (23, .iaload, 1), (24, .aload_n 0, 1), (25, .getfield 93, 3), (28, .if_icmp .ge 7, 3), (31, .iconst 1, 1), (32, .goto 4, 3), (35, .iconst 0, 1), (36, .istore_n 3, 1), (37, .iinc 4 1, 3), (40, .goto (-35), 3), (43, .iload_n 3, 1), (44, .ireturn, 1)]
theorem tk_X6_canLie : am_tbl prog_8_method_49_code tb_X6_canLie = true := by decide +kernel
def b_X6_canLie_5 : Nat → Int32 → Int32 → Int32 → Int32 → am_M → Option (Int32 × am_M)
  | 0, _, _, _, _, _ => none
  | n + 1, x1, x2, x3, x4, D => if (x1 + x2) ≤ x4 then if (x3 = 0 ∨ x3 = 1) then some (x3, D) else none else if x3 = 0 then b_X6_canLie_5 n x1 x2 0 (x4 + 1) D else if am_in x4 24 = true then b_X6_canLie_5 n x1 x2 (if (D 56 0) ≤ (D 76 x4.toNatClampNeg) then 0 else 1) (x4 + 1) D else none
def f_X6_canLie (x1 : Int32) (x2 : Int32) (D : am_M) : Option (Int32 × am_M) := b_X6_canLie_5 am_N x1 x2 1 x1 D
theorem bx_X6_canLie_5 {l : Launch} {h0 : am_H} {Φ : am_Ph} {tw : Nat} {tp : Bool}  {r : Int32} {D' : am_M} (hΦ : Φ (some (.int r)) (ly tw tp D')) : ∀ (n : Nat) (x1 : Int32) (x2 : Int32) (x3 : Int32) (x4 : Int32) (D : am_M), b_X6_canLie_5 n x1 x2 x3 x4 D = some (r, D') → am_Ex (am_E l m_X6_canLie false h0 Φ) prog_8_method_49_code (0, 0) 5 [(0, .ref 56), (1, .int x1), (2, .int x2), (3, .int x3), (4, .int x4)] [] (ly tw tp D) := by
  intro n
  induction n with
  | zero =>
    intro x1 x2 x3 x4 D h
    exact absurd h (by simp [b_X6_canLie_5])
  | succ n ih =>
    intro x1 x2 x3 x4 D h
    rw [b_X6_canLie_5] at h
    refine am_iload (j := 4) (am_dk tk_X6_canLie 4 rfl) rfl ?_
    refine am_iload_n (j := 1) (am_dk tk_X6_canLie 5 rfl) rfl rfl ?_
    refine am_iload_n (j := 2) (am_dk tk_X6_canLie 6 rfl) rfl rfl ?_
    refine am_iadd (am_dk tk_X6_canLie 7 rfl) ?_
    refine am_icmp_ge (tgt := 43) (am_dk tk_X6_canLie 8 rfl) (by decide) (fun hc10 => ?_) (fun hc10 => ?_)
    · rw [if_pos hc10] at h
      refine am_iload_n (j := 3) (am_dk tk_X6_canLie 24 rfl) rfl rfl ?_
      obtain ⟨hb44, h⟩ := am_chk h
      exact am_zret hb44 rfl (am_r2 h hΦ) ⟨Nat.le_of_ble_eq_true rfl, Nat.le_of_ble_eq_true rfl⟩ (am_dk tk_X6_canLie 25 rfl)
    · rw [if_neg hc10] at h
      refine am_iload_n (j := 3) (am_dk tk_X6_canLie 9 rfl) rfl rfl ?_
      refine am_if_eq (tgt := 35) (am_dk tk_X6_canLie 10 rfl) (by decide) (fun hc14 => ?_) (fun hc14 => ?_)
      · rw [if_pos hc14] at h
        refine am_iconst (v := 0) (am_dk tk_X6_canLie 20 rfl) (by decide) ?_
        refine am_istore_n (L' := [(3, .int 0), (0, .ref 56), (1, .int x1), (2, .int x2), (4, .int x4)]) (am_dk tk_X6_canLie 21 rfl) rfl (Nat.le_of_ble_eq_true rfl) rfl ?_
        refine am_iinc (j := 4) (v := x4 + 1) (L' := [(4, .int (x4 + 1)), (3, .int 0), (0, .ref 56), (1, .int x1), (2, .int x2)]) (am_dk tk_X6_canLie 22 rfl) rfl rfl (Nat.le_of_ble_eq_true rfl) rfl ?_
        refine am_goto (tgt := 5) (am_dk tk_X6_canLie 23 rfl) (by decide) ?_
        refine am_ls [2, 3, 4, 1, 0] rfl ?_
        exact ih _ _ _ _ _ h
      · rw [if_neg hc14] at h
        refine am_aload_n (j := 0) (am_dk tk_X6_canLie 11 rfl) rfl rfl ?_
        refine ly_getr (b := 76) rfl fl_X6_71 rfl rfl (am_dk tk_X6_canLie 12 rfl) ?_
        refine am_iload (j := 4) (am_dk tk_X6_canLie 13 rfl) rfl ?_
        obtain ⟨hi23, h⟩ := am_chk h
        refine ly_iald (k := x4.toNatClampNeg) rfl (am_in_vp hi23) rfl (am_dk tk_X6_canLie 14 rfl) ?_
        refine am_aload_n (j := 0) (am_dk tk_X6_canLie 15 rfl) rfl rfl ?_
        refine ly_geti rfl fl_X6_93 rfl (am_dk tk_X6_canLie 16 rfl) ?_
        refine am_icmp_ge (tgt := 35) (am_dk tk_X6_canLie 17 rfl) (by decide) (fun hc28 => ?_) (fun hc28 => ?_)
        · simp only [if_pos hc28] at h
          refine am_iconst (v := 0) (am_dk tk_X6_canLie 20 rfl) (by decide) ?_
          refine am_istore_n (L' := [(3, .int 0), (0, .ref 56), (1, .int x1), (2, .int x2), (4, .int x4)]) (am_dk tk_X6_canLie 21 rfl) rfl (Nat.le_of_ble_eq_true rfl) rfl ?_
          refine am_iinc (j := 4) (v := x4 + 1) (L' := [(4, .int (x4 + 1)), (3, .int 0), (0, .ref 56), (1, .int x1), (2, .int x2)]) (am_dk tk_X6_canLie 22 rfl) rfl rfl (Nat.le_of_ble_eq_true rfl) rfl ?_
          refine am_goto (tgt := 5) (am_dk tk_X6_canLie 23 rfl) (by decide) ?_
          refine am_ls [2, 3, 4, 1, 0] rfl ?_
          exact ih _ _ _ _ _ h
        · simp only [if_neg hc28] at h
          refine am_iconst (v := 1) (am_dk tk_X6_canLie 18 rfl) (by decide) ?_
          refine am_goto (tgt := 36) (am_dk tk_X6_canLie 19 rfl) (by decide) ?_
          refine am_istore_n (L' := [(3, .int 1), (0, .ref 56), (1, .int x1), (2, .int x2), (4, .int x4)]) (am_dk tk_X6_canLie 21 rfl) rfl (Nat.le_of_ble_eq_true rfl) rfl ?_
          refine am_iinc (j := 4) (v := x4 + 1) (L' := [(4, .int (x4 + 1)), (3, .int 1), (0, .ref 56), (1, .int x1), (2, .int x2)]) (am_dk tk_X6_canLie 22 rfl) rfl rfl (Nat.le_of_ble_eq_true rfl) rfl ?_
          refine am_goto (tgt := 5) (am_dk tk_X6_canLie 23 rfl) (by decide) ?_
          refine am_ls [2, 3, 4, 1, 0] rfl ?_
          exact ih _ _ _ _ _ h
theorem ct_X6_canLie {l : Launch} {tw : Nat} {tp : Bool}  {x1 : Int32} {x2 : Int32} {r : Int32} {D D' : am_M} (h : f_X6_canLie x1 x2 D = some (r, D')) : am_CT l m_X6_canLie false [.ref 56, .int x1, .int x2] (ly tw tp D) (am_is (some (.int r)) (ly tw tp D')) := by
  have hΦ : am_is (some (.int r)) (ly tw tp D') (some (.int r)) (ly tw tp D') := ⟨rfl, rfl⟩
  refine am_CT.of (by decide) (Nat.le_of_ble_eq_true rfl) ?_
  show am_Ex _ _ _ 0 [(0, .ref 56), (1, .int x1), (2, .int x2)] [] _
  rw [f_X6_canLie] at h
  refine am_iconst (v := 1) (am_dk tk_X6_canLie 0 rfl) (by decide) ?_
  refine am_istore_n (L' := [(3, .int 1), (0, .ref 56), (1, .int x1), (2, .int x2)]) (am_dk tk_X6_canLie 1 rfl) rfl (Nat.le_of_ble_eq_true rfl) rfl ?_
  refine am_iload_n (j := 2) (am_dk tk_X6_canLie 2 rfl) rfl rfl ?_
  refine am_istore (L' := [(4, .int x1), (3, .int 1), (0, .ref 56), (1, .int x1), (2, .int x2)]) (am_dk tk_X6_canLie 3 rfl) (Nat.le_of_ble_eq_true rfl) rfl ?_
  refine am_ls [2, 3, 4, 1, 0] rfl ?_
  exact bx_X6_canLie_5  hΦ am_N _ _ _ _ _ h
abbrev m_X6_shift : am_D := (yX6_shift, prog_8_method_50_code, 6, (some .int), { frames := 2, cells := 0, slots := 0, locals := 46 })
theorem ld_X6_shift : am_LD m_X6_shift 2 := ⟨(am_tb 85 (by decide +kernel) (by decide +kernel)), (am_tb 1161 (by decide +kernel) (by decide +kernel)), by decide, by decide, by decide +kernel⟩
def tb_X6_shift : List (Nat × Instr × Nat) := [(0, .aload_n 0, 1), (1, .iload_n 2, 1), (2, .invokevirtual 197, 3), (5, .ifCond .ne 6, 3), (8, .ldc 201, 2), (10, .ireturn, 1), (11, .iload_n 1, 1), (12, .i2l, 1), (13, .lconst 1, 1), (14, .ldc2_w 277, 3), (17, .invokestatic 99, 3), (20, .ifCond .ne 6, 3), (23, .ldc 105, 2), (25, .ireturn, 1), (26, .iconst 0, 1), (27, .istore_n 3, 1), (28, .iload_n 3, 1), (29, .bipush 24, 2), (31, .if_icmp .ge 16, 3), (34, .aload_n 0, 1), (35, .getfield 71, 3), (38, .iload_n 3, 1), (39, .iconst 0, 1), (40, .iastore, 1), (41, .iinc 3 1, 3), (44, .goto (-16), 3), (47, .iconst 0, 1), (48, .istore_n 3, 1), (49, .iload_n 3, 1), (50, .aload_n 0, 1), (51, .getfield 96, 3), (54, .if_icmp .ge 86, 3), (57, .iconst 0, 1), (58, .istore 4, 2), (60, .iload 4, 2), (62, .iload_n 1, 1), (63, .iadd, 1), (64, .bipush 24, 2), (66, .if_icmp .gt 19, 3), (69, .aload_n 0, 1), (70, .iload 4, 2), (72, .iload_n 1, 1), (73, .invokevirtual 279, 3), (76, .ifCond .ne 9, 3), (79, .iinc 4 1, 3), (82, .goto (-22), 3), (85, .iload 4, 2), (87, .iload_n 1, 1), (88, .iadd, 1), (89, .bipush 24, 2), (91, .if_icmp .le 5, 3), (94, .iconst (-1), 1), (95, .ireturn, 1), (96, .aload_n 0, 1), (97, .getfield 74, 3), (100, .iload_n 3, 1), (101, .iload 4, 2), (103, .iastore, 1), (104, .iload 4, 2), (106, .istore 5, 2)]
theorem tk_X6_shift : am_tbl prog_8_method_50_code tb_X6_shift = true := by decide +kernel
def tb_X6_shift_1 : List (Nat × Instr × Nat) := [(108, .iload 5, 2), (110, .iload 4, 2), (112, .iload_n 1, 1), (113, .iadd, 1), (114, .if_icmp .ge 20, 3), (117, .aload_n 0, 1), (118, .getfield 71, 3), (121, .iload 5, 2), (123, .dup2, 1), (124, .iaload, 1), (125, .iconst 1, 1), (126, .iadd, 1), (127, .iastore, 1), (128, .iinc 5 1, 3), (131, .goto (-23), 3), (134, .iinc 3 1, 3), (137, .goto (-88), 3), (140, .aload_n 0, 1), (141, .getfield 74, 3), (144, .iload_n 2, 1), (145, .iaload, 1), (146, .ireturn, 1)]
theorem tk_X6_shift_1 : am_tbl prog_8_method_50_code tb_X6_shift_1 = true := by decide +kernel
def b_X6_shift_108 (k49 : Int32 → Int32 → Int32 → am_M → Option (Int32 × am_M)) : Nat → Int32 → Int32 → Int32 → Int32 → Int32 → am_M → Option (Int32 × am_M)
  | 0, _, _, _, _, _, _ => none
  | n + 1, x1, x2, x3, x4, x5, D => if (x4 + x1) ≤ x5 then k49 x1 x2 (x3 + 1) D else if am_in x5 24 = true then b_X6_shift_108 k49 n x1 x2 x3 x4 (x5 + 1) (am_up D 76 x5.toNatClampNeg ((D 76 x5.toNatClampNeg) + 1)) else none
def b_X6_shift_85 (k49 : Int32 → Int32 → Int32 → am_M → Option (Int32 × am_M)) (x1 : Int32) (x2 : Int32) (x3 : Int32) (x4 : Int32) (D : am_M) : Option (Int32 × am_M) := if (x4 + x1) ≤ 24 then if am_in x3 5 = true then b_X6_shift_108 k49 am_N x1 x2 x3 x4 x4 (am_up D 77 x3.toNatClampNeg x4) else none else some ((-1), D)
def b_X6_shift_60 (k49 : Int32 → Int32 → Int32 → am_M → Option (Int32 × am_M)) : Nat → Int32 → Int32 → Int32 → Int32 → am_M → Option (Int32 × am_M)
  | 0, _, _, _, _, _ => none
  | n + 1, x1, x2, x3, x4, D => if 24 < (x4 + x1) then b_X6_shift_85 k49 x1 x2 x3 x4 D else (f_X6_canLie x4 x1 D).bind fun q73 => if q73.1 = 0 then b_X6_shift_60 k49 n x1 x2 x3 (x4 + 1) q73.2 else b_X6_shift_85 k49 x1 x2 x3 x4 q73.2
def b_X6_shift_49 : Nat → Int32 → Int32 → Int32 → am_M → Option (Int32 × am_M)
  | 0, _, _, _, _ => none
  | n + 1, x1, x2, x3, D => if (D 56 3) ≤ x3 then if am_in x2 5 = true then some (D 77 x2.toNatClampNeg, D) else none else b_X6_shift_60 (b_X6_shift_49 n) am_N x1 x2 x3 0 D
def b_X6_shift_28 : Nat → Int32 → Int32 → Int32 → am_M → Option (Int32 × am_M)
  | 0, _, _, _, _ => none
  | n + 1, x1, x2, x3, D => if 24 ≤ x3 then b_X6_shift_49 am_N x1 x2 0 D else if am_in x3 24 = true then b_X6_shift_28 n x1 x2 (x3 + 1) (am_up D 76 x3.toNatClampNeg 0) else none
def f_X6_shift (x1 : Int32) (x2 : Int32) (D : am_M) : Option (Int32 × am_M) := if (f_X6_isPerson x2 D) = 0 then some ((-1000000001), D) else if (f_X6_in x1.toInt64 1 12) = 0 then some ((-1000000002), D) else b_X6_shift_28 am_N x1 x2 0 D
theorem bx_X6_shift_108 {l : Launch} {h0 : am_H} {Φ : am_Ph} {tw : Nat} {tp : Bool}  {r : Int32} {D' : am_M} (hΦ : Φ (some (.int r)) (ly tw tp D')) {k49 : Int32 → Int32 → Int32 → am_M → Option (Int32 × am_M)} (hk49 : ∀ (x1 : Int32) (x2 : Int32) (x3 : Int32) (D : am_M), k49 x1 x2 x3 D = some (r, D') → am_Ex (am_E l m_X6_shift false h0 Φ) prog_8_method_50_code (0, 0) 49 [(0, .ref 56), (1, .int x1), (2, .int x2), (3, .int x3)] [] (ly tw tp D)) : ∀ (n : Nat) (x1 : Int32) (x2 : Int32) (x3 : Int32) (x4 : Int32) (x5 : Int32) (D : am_M), b_X6_shift_108 k49 n x1 x2 x3 x4 x5 D = some (r, D') → am_Ex (am_E l m_X6_shift false h0 Φ) prog_8_method_50_code (0, 0) 108 [(0, .ref 56), (1, .int x1), (2, .int x2), (3, .int x3), (4, .int x4), (5, .int x5)] [] (ly tw tp D) := by
  intro n
  induction n with
  | zero =>
    intro x1 x2 x3 x4 x5 D h
    exact absurd h (by simp [b_X6_shift_108])
  | succ n ih =>
    intro x1 x2 x3 x4 x5 D h
    rw [b_X6_shift_108] at h
    refine am_iload (j := 5) (am_dk tk_X6_shift_1 0 rfl) rfl ?_
    refine am_iload (j := 4) (am_dk tk_X6_shift_1 1 rfl) rfl ?_
    refine am_iload_n (j := 1) (am_dk tk_X6_shift_1 2 rfl) rfl rfl ?_
    refine am_iadd (am_dk tk_X6_shift_1 3 rfl) ?_
    refine am_icmp_ge (tgt := 134) (am_dk tk_X6_shift_1 4 rfl) (by decide) (fun hc114 => ?_) (fun hc114 => ?_)
    · rw [if_pos hc114] at h
      refine am_iinc (j := 3) (v := x3 + 1) (L' := [(3, .int (x3 + 1)), (0, .ref 56), (1, .int x1), (2, .int x2), (4, .int x4), (5, .int x5)]) (am_dk tk_X6_shift_1 15 rfl) rfl rfl (Nat.le_of_ble_eq_true rfl) rfl ?_
      refine am_goto (tgt := 49) (am_dk tk_X6_shift_1 16 rfl) (by decide) ?_
      refine am_ls [1, 2, 3, 0] rfl ?_
      exact hk49 _ _ _ _ h
    · rw [if_neg hc114] at h
      refine am_aload_n (j := 0) (am_dk tk_X6_shift_1 5 rfl) rfl rfl ?_
      refine ly_getr (b := 76) rfl fl_X6_71 rfl rfl (am_dk tk_X6_shift_1 6 rfl) ?_
      refine am_iload (j := 5) (am_dk tk_X6_shift_1 7 rfl) rfl ?_
      refine am_dup2 (am_dk tk_X6_shift_1 8 rfl) rfl rfl ?_
      obtain ⟨hi124, h⟩ := am_chk h
      refine ly_iald (k := x5.toNatClampNeg) rfl (am_in_vp hi124) rfl (am_dk tk_X6_shift_1 9 rfl) ?_
      refine am_iconst (v := 1) (am_dk tk_X6_shift_1 10 rfl) (by decide) ?_
      refine am_iadd (am_dk tk_X6_shift_1 11 rfl) ?_
      refine ly_iast (k := x5.toNatClampNeg) rfl (am_in_vp hi124) rfl (am_dk tk_X6_shift_1 12 rfl) ?_
      refine am_iinc (j := 5) (v := x5 + 1) (L' := [(5, .int (x5 + 1)), (0, .ref 56), (1, .int x1), (2, .int x2), (3, .int x3), (4, .int x4)]) (am_dk tk_X6_shift_1 13 rfl) rfl rfl (Nat.le_of_ble_eq_true rfl) rfl ?_
      refine am_goto (tgt := 108) (am_dk tk_X6_shift_1 14 rfl) (by decide) ?_
      refine am_ls [1, 2, 3, 4, 5, 0] rfl ?_
      exact ih _ _ _ _ _ _ h
theorem bx_X6_shift_85 {l : Launch} {h0 : am_H} {Φ : am_Ph} {tw : Nat} {tp : Bool}  {r : Int32} {D' : am_M} (hΦ : Φ (some (.int r)) (ly tw tp D')) {k49 : Int32 → Int32 → Int32 → am_M → Option (Int32 × am_M)} (hk49 : ∀ (x1 : Int32) (x2 : Int32) (x3 : Int32) (D : am_M), k49 x1 x2 x3 D = some (r, D') → am_Ex (am_E l m_X6_shift false h0 Φ) prog_8_method_50_code (0, 0) 49 [(0, .ref 56), (1, .int x1), (2, .int x2), (3, .int x3)] [] (ly tw tp D)) : ∀ (x1 : Int32) (x2 : Int32) (x3 : Int32) (x4 : Int32) (D : am_M), b_X6_shift_85 k49 x1 x2 x3 x4 D = some (r, D') → am_Ex (am_E l m_X6_shift false h0 Φ) prog_8_method_50_code (0, 0) 85 [(0, .ref 56), (1, .int x1), (2, .int x2), (3, .int x3), (4, .int x4)] [] (ly tw tp D) := by
  intro x1 x2 x3 x4 D h
  rw [b_X6_shift_85] at h
  refine am_iload (j := 4) (am_dk tk_X6_shift 46 rfl) rfl ?_
  refine am_iload_n (j := 1) (am_dk tk_X6_shift 47 rfl) rfl rfl ?_
  refine am_iadd (am_dk tk_X6_shift 48 rfl) ?_
  refine am_bipush (v := 24) (am_dk tk_X6_shift 49 rfl) (by decide) ?_
  refine am_icmp_le (tgt := 96) (am_dk tk_X6_shift 50 rfl) (by decide) (fun hc91 => ?_) (fun hc91 => ?_)
  · rw [if_pos hc91] at h
    refine am_aload_n (j := 0) (am_dk tk_X6_shift 53 rfl) rfl rfl ?_
    refine ly_getr (b := 77) rfl fl_X6_74 rfl rfl (am_dk tk_X6_shift 54 rfl) ?_
    refine am_iload_n (j := 3) (am_dk tk_X6_shift 55 rfl) rfl rfl ?_
    refine am_iload (j := 4) (am_dk tk_X6_shift 56 rfl) rfl ?_
    obtain ⟨hi103, h⟩ := am_chk h
    refine ly_iast (k := x3.toNatClampNeg) rfl (am_in_vp hi103) rfl (am_dk tk_X6_shift 57 rfl) ?_
    refine am_iload (j := 4) (am_dk tk_X6_shift 58 rfl) rfl ?_
    refine am_istore (L' := [(5, .int x4), (0, .ref 56), (1, .int x1), (2, .int x2), (3, .int x3), (4, .int x4)]) (am_dk tk_X6_shift 59 rfl) (Nat.le_of_ble_eq_true rfl) rfl ?_
    refine am_ls [1, 2, 3, 4, 5, 0] rfl ?_
    exact bx_X6_shift_108  hΦ hk49 am_N _ _ _ _ _ _ h
  · rw [if_neg hc91] at h
    refine am_iconst (v := (-1)) (am_dk tk_X6_shift 51 rfl) (by decide) ?_
    exact am_iret rfl (am_r2 h hΦ) ⟨Nat.le_of_ble_eq_true rfl, Nat.le_of_ble_eq_true rfl⟩ (am_dk tk_X6_shift 52 rfl)
theorem bx_X6_shift_60 {l : Launch} {h0 : am_H} {Φ : am_Ph} {tw : Nat} {tp : Bool}  {r : Int32} {D' : am_M} (hΦ : Φ (some (.int r)) (ly tw tp D')) {k49 : Int32 → Int32 → Int32 → am_M → Option (Int32 × am_M)} (hk49 : ∀ (x1 : Int32) (x2 : Int32) (x3 : Int32) (D : am_M), k49 x1 x2 x3 D = some (r, D') → am_Ex (am_E l m_X6_shift false h0 Φ) prog_8_method_50_code (0, 0) 49 [(0, .ref 56), (1, .int x1), (2, .int x2), (3, .int x3)] [] (ly tw tp D)) : ∀ (n : Nat) (x1 : Int32) (x2 : Int32) (x3 : Int32) (x4 : Int32) (D : am_M), b_X6_shift_60 k49 n x1 x2 x3 x4 D = some (r, D') → am_Ex (am_E l m_X6_shift false h0 Φ) prog_8_method_50_code (0, 0) 60 [(0, .ref 56), (1, .int x1), (2, .int x2), (3, .int x3), (4, .int x4)] [] (ly tw tp D) := by
  intro n
  induction n with
  | zero =>
    intro x1 x2 x3 x4 D h
    exact absurd h (by simp [b_X6_shift_60])
  | succ n ih =>
    intro x1 x2 x3 x4 D h
    rw [b_X6_shift_60] at h
    refine am_iload (j := 4) (am_dk tk_X6_shift 34 rfl) rfl ?_
    refine am_iload_n (j := 1) (am_dk tk_X6_shift 35 rfl) rfl rfl ?_
    refine am_iadd (am_dk tk_X6_shift 36 rfl) ?_
    refine am_bipush (v := 24) (am_dk tk_X6_shift 37 rfl) (by decide) ?_
    refine am_icmp_gt (tgt := 85) (am_dk tk_X6_shift 38 rfl) (by decide) (fun hc66 => ?_) (fun hc66 => ?_)
    · rw [if_pos hc66] at h
      exact bx_X6_shift_85  hΦ hk49 _ _ _ _ _ h
    · rw [if_neg hc66] at h
      refine am_aload_n (j := 0) (am_dk tk_X6_shift 39 rfl) rfl rfl ?_
      refine am_iload (j := 4) (am_dk tk_X6_shift 40 rfl) rfl ?_
      refine am_iload_n (j := 1) (am_dk tk_X6_shift 41 rfl) rfl rfl ?_
      obtain ⟨q73, hq73, h⟩ := am_bind h
      refine ly_cV (M := m_X6_canLie) (As := [.int x4, .int x1]) (b := 56) (st := []) (ct_X6_canLie hq73) rfl (by decide) rfl ml_X6_279 ld_X6_canLie rfl ⟨Nat.le_of_ble_eq_true rfl, Nat.le_of_ble_eq_true rfl⟩ (Nat.le_of_ble_eq_true rfl) ⟨rfl, rfl⟩ ⟨Nat.le_of_ble_eq_true rfl, Nat.le_of_ble_eq_true rfl⟩ (am_dk tk_X6_shift 42 rfl) (am_kki ?_)
      refine am_if_ne (tgt := 85) (am_dk tk_X6_shift 43 rfl) (by decide) (fun hc76 => ?_) (fun hc76 => ?_)
      · rw [if_neg hc76] at h
        exact bx_X6_shift_85  hΦ hk49 _ _ _ _ _ h
      · rw [if_pos hc76] at h
        refine am_iinc (j := 4) (v := x4 + 1) (L' := [(4, .int (x4 + 1)), (0, .ref 56), (1, .int x1), (2, .int x2), (3, .int x3)]) (am_dk tk_X6_shift 44 rfl) rfl rfl (Nat.le_of_ble_eq_true rfl) rfl ?_
        refine am_goto (tgt := 60) (am_dk tk_X6_shift 45 rfl) (by decide) ?_
        refine am_ls [1, 2, 3, 4, 0] rfl ?_
        exact ih _ _ _ _ _ h
theorem bx_X6_shift_49 {l : Launch} {h0 : am_H} {Φ : am_Ph} {tw : Nat} {tp : Bool}  {r : Int32} {D' : am_M} (hΦ : Φ (some (.int r)) (ly tw tp D')) : ∀ (n : Nat) (x1 : Int32) (x2 : Int32) (x3 : Int32) (D : am_M), b_X6_shift_49 n x1 x2 x3 D = some (r, D') → am_Ex (am_E l m_X6_shift false h0 Φ) prog_8_method_50_code (0, 0) 49 [(0, .ref 56), (1, .int x1), (2, .int x2), (3, .int x3)] [] (ly tw tp D) := by
  intro n
  induction n with
  | zero =>
    intro x1 x2 x3 D h
    exact absurd h (by simp [b_X6_shift_49])
  | succ n ih =>
    intro x1 x2 x3 D h
    rw [b_X6_shift_49] at h
    refine am_iload_n (j := 3) (am_dk tk_X6_shift 28 rfl) rfl rfl ?_
    refine am_aload_n (j := 0) (am_dk tk_X6_shift 29 rfl) rfl rfl ?_
    refine ly_geti rfl fl_X6_96 rfl (am_dk tk_X6_shift 30 rfl) ?_
    refine am_icmp_ge (tgt := 140) (am_dk tk_X6_shift 31 rfl) (by decide) (fun hc54 => ?_) (fun hc54 => ?_)
    · rw [if_pos hc54] at h
      refine am_aload_n (j := 0) (am_dk tk_X6_shift_1 17 rfl) rfl rfl ?_
      refine ly_getr (b := 77) rfl fl_X6_74 rfl rfl (am_dk tk_X6_shift_1 18 rfl) ?_
      refine am_iload_n (j := 2) (am_dk tk_X6_shift_1 19 rfl) rfl rfl ?_
      obtain ⟨hi145, h⟩ := am_chk h
      refine ly_iald (k := x2.toNatClampNeg) rfl (am_in_vp hi145) rfl (am_dk tk_X6_shift_1 20 rfl) ?_
      exact am_iret rfl (am_r2 h hΦ) ⟨Nat.le_of_ble_eq_true rfl, Nat.le_of_ble_eq_true rfl⟩ (am_dk tk_X6_shift_1 21 rfl)
    · rw [if_neg hc54] at h
      refine am_iconst (v := 0) (am_dk tk_X6_shift 32 rfl) (by decide) ?_
      refine am_istore (L' := [(4, .int 0), (0, .ref 56), (1, .int x1), (2, .int x2), (3, .int x3)]) (am_dk tk_X6_shift 33 rfl) (Nat.le_of_ble_eq_true rfl) rfl ?_
      refine am_ls [1, 2, 3, 4, 0] rfl ?_
      exact bx_X6_shift_60  hΦ (ih) am_N _ _ _ _ _ h
theorem bx_X6_shift_28 {l : Launch} {h0 : am_H} {Φ : am_Ph} {tw : Nat} {tp : Bool}  {r : Int32} {D' : am_M} (hΦ : Φ (some (.int r)) (ly tw tp D')) : ∀ (n : Nat) (x1 : Int32) (x2 : Int32) (x3 : Int32) (D : am_M), b_X6_shift_28 n x1 x2 x3 D = some (r, D') → am_Ex (am_E l m_X6_shift false h0 Φ) prog_8_method_50_code (0, 0) 28 [(0, .ref 56), (1, .int x1), (2, .int x2), (3, .int x3)] [] (ly tw tp D) := by
  intro n
  induction n with
  | zero =>
    intro x1 x2 x3 D h
    exact absurd h (by simp [b_X6_shift_28])
  | succ n ih =>
    intro x1 x2 x3 D h
    rw [b_X6_shift_28] at h
    refine am_iload_n (j := 3) (am_dk tk_X6_shift 16 rfl) rfl rfl ?_
    refine am_bipush (v := 24) (am_dk tk_X6_shift 17 rfl) (by decide) ?_
    refine am_icmp_ge (tgt := 47) (am_dk tk_X6_shift 18 rfl) (by decide) (fun hc31 => ?_) (fun hc31 => ?_)
    · rw [if_pos hc31] at h
      refine am_iconst (v := 0) (am_dk tk_X6_shift 26 rfl) (by decide) ?_
      refine am_istore_n (L' := [(3, .int 0), (0, .ref 56), (1, .int x1), (2, .int x2)]) (am_dk tk_X6_shift 27 rfl) rfl (Nat.le_of_ble_eq_true rfl) rfl ?_
      refine am_ls [1, 2, 3, 0] rfl ?_
      exact bx_X6_shift_49  hΦ am_N _ _ _ _ h
    · rw [if_neg hc31] at h
      refine am_aload_n (j := 0) (am_dk tk_X6_shift 19 rfl) rfl rfl ?_
      refine ly_getr (b := 76) rfl fl_X6_71 rfl rfl (am_dk tk_X6_shift 20 rfl) ?_
      refine am_iload_n (j := 3) (am_dk tk_X6_shift 21 rfl) rfl rfl ?_
      refine am_iconst (v := 0) (am_dk tk_X6_shift 22 rfl) (by decide) ?_
      obtain ⟨hi40, h⟩ := am_chk h
      refine ly_iast (k := x3.toNatClampNeg) rfl (am_in_vp hi40) rfl (am_dk tk_X6_shift 23 rfl) ?_
      refine am_iinc (j := 3) (v := x3 + 1) (L' := [(3, .int (x3 + 1)), (0, .ref 56), (1, .int x1), (2, .int x2)]) (am_dk tk_X6_shift 24 rfl) rfl rfl (Nat.le_of_ble_eq_true rfl) rfl ?_
      refine am_goto (tgt := 28) (am_dk tk_X6_shift 25 rfl) (by decide) ?_
      refine am_ls [1, 2, 3, 0] rfl ?_
      exact ih _ _ _ _ h
theorem ct_X6_shift {l : Launch} {tw : Nat} {tp : Bool}  {x1 : Int32} {x2 : Int32} {r : Int32} {D D' : am_M} (h : f_X6_shift x1 x2 D = some (r, D')) : am_CT l m_X6_shift false [.ref 56, .int x1, .int x2] (ly tw tp D) (am_is (some (.int r)) (ly tw tp D')) := by
  have hΦ : am_is (some (.int r)) (ly tw tp D') (some (.int r)) (ly tw tp D') := ⟨rfl, rfl⟩
  refine am_CT.of (by decide) (Nat.le_of_ble_eq_true rfl) ?_
  show am_Ex _ _ _ 0 [(0, .ref 56), (1, .int x1), (2, .int x2)] [] _
  rw [f_X6_shift] at h
  refine am_aload_n (j := 0) (am_dk tk_X6_shift 0 rfl) rfl rfl ?_
  refine am_iload_n (j := 2) (am_dk tk_X6_shift 1 rfl) rfl rfl ?_
  refine ly_cV (M := m_X6_isPerson) (As := [.int x2]) (b := 56) (st := []) (ct_X6_isPerson _ _) rfl (by decide) rfl ml_X6_197 ld_X6_isPerson rfl ⟨Nat.le_of_ble_eq_true rfl, Nat.le_of_ble_eq_true rfl⟩ (Nat.le_of_ble_eq_true rfl) ⟨rfl, rfl⟩ ⟨Nat.le_of_ble_eq_true rfl, Nat.le_of_ble_eq_true rfl⟩ (am_dk tk_X6_shift 2 rfl) (am_kki ?_)
  refine am_if_ne (tgt := 11) (am_dk tk_X6_shift 3 rfl) (by decide) (fun hc5 => ?_) (fun hc5 => ?_)
  · rw [if_neg hc5] at h
    refine am_iload_n (j := 1) (am_dk tk_X6_shift 6 rfl) rfl rfl ?_
    refine am_i2l (am_dk tk_X6_shift 7 rfl) ?_
    refine am_lconst (v := 1) (am_dk tk_X6_shift 8 rfl) (by decide) ?_
    refine am_ldc2 kl_X6_277 (am_dk tk_X6_shift 9 rfl) ?_
    refine am_cS (M := m_X6_in) (As := [.long x1.toInt64, .long 1, .long 12]) (st := []) (ct_X6_in _ _ _ _) ml_X6_99 ld_X6_in rfl ⟨Nat.le_of_ble_eq_true rfl, Nat.le_of_ble_eq_true rfl⟩ (Nat.le_of_ble_eq_true rfl) ⟨rfl, rfl⟩ ⟨Nat.le_of_ble_eq_true rfl, Nat.le_of_ble_eq_true rfl⟩ (am_dk tk_X6_shift 10 rfl) (am_kki ?_)
    refine am_if_ne (tgt := 26) (am_dk tk_X6_shift 11 rfl) (by decide) (fun hc20 => ?_) (fun hc20 => ?_)
    · rw [if_neg hc20] at h
      refine am_iconst (v := 0) (am_dk tk_X6_shift 14 rfl) (by decide) ?_
      refine am_istore_n (L' := [(3, .int 0), (0, .ref 56), (1, .int x1), (2, .int x2)]) (am_dk tk_X6_shift 15 rfl) rfl (Nat.le_of_ble_eq_true rfl) rfl ?_
      refine am_ls [1, 2, 3, 0] rfl ?_
      exact bx_X6_shift_28  hΦ am_N _ _ _ _ h
    · rw [if_pos hc20] at h
      refine am_ldc kc_X6_105 (am_dk tk_X6_shift 12 rfl) ?_
      exact am_iret rfl (am_r2 h hΦ) ⟨Nat.le_of_ble_eq_true rfl, Nat.le_of_ble_eq_true rfl⟩ (am_dk tk_X6_shift 13 rfl)
  · rw [if_pos hc5] at h
    refine am_ldc kc_X6_201 (am_dk tk_X6_shift 4 rfl) ?_
    exact am_iret rfl (am_r2 h hΦ) ⟨Nat.le_of_ble_eq_true rfl, Nat.le_of_ble_eq_true rfl⟩ (am_dk tk_X6_shift 5 rfl)
abbrev m_X6_findFewest : am_D := (yX6_findFewest, prog_8_method_51_code, 5, none, { frames := 0, cells := 0, slots := 0, locals := 0 })
theorem ld_X6_findFewest : am_LD m_X6_findFewest 1 := ⟨(am_tb 85 (by decide +kernel) (by decide +kernel)), (am_tb 1175 (by decide +kernel) (by decide +kernel)), by decide, by decide, by decide +kernel⟩
def tb_X6_findFewest : List (Nat × Instr × Nat) := [(0, .aload_n 0, 1), (1, .getfield 77, 3), (4, .iconst 0, 1), (5, .iconst 0, 1), (6, .iastore, 1), (7, .iconst 1, 1), (8, .istore_n 2, 1), (9, .iload_n 2, 1), (10, .sipush 200, 3), (13, .if_icmp .gt 123, 3), (16, .aload_n 0, 1), (17, .getfield 77, 3), (20, .iload_n 2, 1), (21, .iconst 1, 1), (22, .isub, 1), (23, .iaload, 1), (24, .istore_n 3, 1), (25, .iconst 0, 1), (26, .istore 4, 2), (28, .iload 4, 2), (30, .aload_n 0, 1), (31, .getfield 179, 3), (34, .if_icmp .ge 57, 3), (37, .aload_n 0, 1), (38, .getfield 13, 3), (41, .iload 4, 2), (43, .iaload, 1), (44, .iload_n 2, 1), (45, .if_icmp .gt 38, 3), (48, .aload_n 0, 1), (49, .getfield 77, 3), (52, .iload_n 2, 1), (53, .aload_n 0, 1), (54, .getfield 13, 3), (57, .iload 4, 2), (59, .iaload, 1), (60, .isub, 1), (61, .iaload, 1), (62, .iload_n 3, 1), (63, .if_icmp .ge 20, 3), (66, .aload_n 0, 1), (67, .getfield 77, 3), (70, .iload_n 2, 1), (71, .aload_n 0, 1), (72, .getfield 13, 3), (75, .iload 4, 2), (77, .iaload, 1), (78, .isub, 1), (79, .iaload, 1), (80, .goto 4, 3), (83, .iload_n 3, 1), (84, .istore_n 3, 1), (85, .iinc 4 1, 3), (88, .goto (-60), 3), (91, .iload_n 1, 1), (92, .iload_n 2, 1), (93, .if_icmp .gt 26, 3), (96, .aload_n 0, 1), (97, .getfield 77, 3), (100, .iload_n 2, 1)]
theorem tk_X6_findFewest : am_tbl prog_8_method_51_code tb_X6_findFewest = true := by decide +kernel
def tb_X6_findFewest_1 : List (Nat × Instr × Nat) := [(101, .iload_n 1, 1), (102, .isub, 1), (103, .iaload, 1), (104, .iload_n 3, 1), (105, .if_icmp .ge 14, 3), (108, .aload_n 0, 1), (109, .getfield 77, 3), (112, .iload_n 2, 1), (113, .iload_n 1, 1), (114, .isub, 1), (115, .iaload, 1), (116, .goto 4, 3), (119, .iload_n 3, 1), (120, .istore_n 3, 1), (121, .aload_n 0, 1), (122, .getfield 77, 3), (125, .iload_n 2, 1), (126, .iload_n 3, 1), (127, .iconst 1, 1), (128, .iadd, 1), (129, .iastore, 1), (130, .iinc 2 1, 3), (133, .goto (-124), 3), (136, .return_, 1)]
theorem tk_X6_findFewest_1 : am_tbl prog_8_method_51_code tb_X6_findFewest_1 = true := by decide +kernel
def b_X6_findFewest_120 (k9 : Int32 → Int32 → am_M → Option am_M) (x1 : Int32) (x2 : Int32) (s0 : Int32) (D : am_M) : Option am_M := if am_in x2 201 = true then k9 x1 (x2 + 1) (am_up D 78 x2.toNatClampNeg (s0 + 1)) else none
def b_X6_findFewest_119 (k9 : Int32 → Int32 → am_M → Option am_M) (x1 : Int32) (x2 : Int32) (x3 : Int32) (D : am_M) : Option am_M := b_X6_findFewest_120 k9 x1 x2 x3 D
def b_X6_findFewest_28 (k9 : Int32 → Int32 → am_M → Option am_M) : Nat → Int32 → Int32 → Int32 → Int32 → am_M → Option am_M
  | 0, _, _, _, _, _ => none
  | n + 1, x1, x2, x3, x4, D => if (D 56 5) ≤ x4 then if x2 < x1 then b_X6_findFewest_119 k9 x1 x2 x3 D else if am_in (x2 - x1) 201 = true then if x3 ≤ (D 78 (x2 - x1).toNatClampNeg) then b_X6_findFewest_119 k9 x1 x2 x3 D else b_X6_findFewest_120 k9 x1 x2 (D 78 (x2 - x1).toNatClampNeg) D else none else if am_in x4 4 = true then if x2 < (D 58 x4.toNatClampNeg) then b_X6_findFewest_28 k9 n x1 x2 x3 (x4 + 1) D else if am_in (x2 - (D 58 x4.toNatClampNeg)) 201 = true then b_X6_findFewest_28 k9 n x1 x2 (if x3 ≤ (D 78 (x2 - (D 58 x4.toNatClampNeg)).toNatClampNeg) then x3 else D 78 (x2 - (D 58 x4.toNatClampNeg)).toNatClampNeg) (x4 + 1) D else none else none
def b_X6_findFewest_9 : Nat → Int32 → Int32 → am_M → Option am_M
  | 0, _, _, _ => none
  | n + 1, x1, x2, D => if 200 < x2 then some D else if am_in (x2 - 1) 201 = true then b_X6_findFewest_28 (b_X6_findFewest_9 n) am_N x1 x2 (D 78 (x2 - 1).toNatClampNeg) 0 D else none
def f_X6_findFewest (x1 : Int32) (D : am_M) : Option am_M := b_X6_findFewest_9 am_N x1 1 (am_up D 78 0 0)
theorem bx_X6_findFewest_120 {l : Launch} {h0 : am_H} {Φ : am_Ph} {tw : Nat} {tp : Bool}  {D' : am_M} (hΦ : Φ none (ly tw tp D')) {k9 : Int32 → Int32 → am_M → Option am_M} (hk9 : ∀ (x1 : Int32) (x2 : Int32) (D : am_M), k9 x1 x2 D = some D' → am_Ex (am_E l m_X6_findFewest false h0 Φ) prog_8_method_51_code (0, 0) 9 [(0, .ref 56), (1, .int x1), (2, .int x2)] [] (ly tw tp D)) : ∀ (x1 : Int32) (x2 : Int32) (s0 : Int32) (D : am_M), b_X6_findFewest_120 k9 x1 x2 s0 D = some D' → am_Ex (am_E l m_X6_findFewest false h0 Φ) prog_8_method_51_code (0, 0) 120 [(0, .ref 56), (1, .int x1), (2, .int x2)] [.int s0] (ly tw tp D) := by
  intro x1 x2 s0 D h
  rw [b_X6_findFewest_120] at h
  refine am_istore_n (L' := [(3, .int s0), (0, .ref 56), (1, .int x1), (2, .int x2)]) (am_dk tk_X6_findFewest_1 13 rfl) rfl (Nat.le_of_ble_eq_true rfl) rfl ?_
  refine am_aload_n (j := 1) (am_dk tk_X6_findFewest_1 14 rfl) rfl rfl ?_
  refine ly_getr (b := 78) rfl fl_X6_77 rfl rfl (am_dk tk_X6_findFewest_1 15 rfl) ?_
  refine am_iload_n (j := 3) (am_dk tk_X6_findFewest_1 16 rfl) rfl rfl ?_
  refine am_iload_n (j := 0) (am_dk tk_X6_findFewest_1 17 rfl) rfl rfl ?_
  refine am_iconst (v := 1) (am_dk tk_X6_findFewest_1 18 rfl) (by decide) ?_
  refine am_iadd (am_dk tk_X6_findFewest_1 19 rfl) ?_
  obtain ⟨hi129, h⟩ := am_chk h
  refine ly_iast (k := x2.toNatClampNeg) rfl (am_in_vp hi129) rfl (am_dk tk_X6_findFewest_1 20 rfl) ?_
  refine am_iinc (j := 3) (v := x2 + 1) (L' := [(2, .int (x2 + 1)), (3, .int s0), (0, .ref 56), (1, .int x1)]) (am_dk tk_X6_findFewest_1 21 rfl) rfl rfl (Nat.le_of_ble_eq_true rfl) rfl ?_
  refine am_goto (tgt := 9) (am_dk tk_X6_findFewest_1 22 rfl) (by decide) ?_
  refine am_ls [2, 3, 0] rfl ?_
  exact hk9 _ _ _ h
theorem bx_X6_findFewest_119 {l : Launch} {h0 : am_H} {Φ : am_Ph} {tw : Nat} {tp : Bool}  {D' : am_M} (hΦ : Φ none (ly tw tp D')) {k9 : Int32 → Int32 → am_M → Option am_M} (hk9 : ∀ (x1 : Int32) (x2 : Int32) (D : am_M), k9 x1 x2 D = some D' → am_Ex (am_E l m_X6_findFewest false h0 Φ) prog_8_method_51_code (0, 0) 9 [(0, .ref 56), (1, .int x1), (2, .int x2)] [] (ly tw tp D)) : ∀ (x1 : Int32) (x2 : Int32) (x3 : Int32) (D : am_M), b_X6_findFewest_119 k9 x1 x2 x3 D = some D' → am_Ex (am_E l m_X6_findFewest false h0 Φ) prog_8_method_51_code (0, 0) 119 [(0, .ref 56), (1, .int x1), (2, .int x2), (3, .int x3)] [] (ly tw tp D) := by
  intro x1 x2 x3 D h
  rw [b_X6_findFewest_119] at h
  refine am_iload_n (j := 3) (am_dk tk_X6_findFewest_1 12 rfl) rfl rfl ?_
  refine am_ls [0, 1, 2] rfl ?_
  exact bx_X6_findFewest_120  hΦ hk9 _ _ _ _ h
theorem bx_X6_findFewest_28 {l : Launch} {h0 : am_H} {Φ : am_Ph} {tw : Nat} {tp : Bool}  {D' : am_M} (hΦ : Φ none (ly tw tp D')) {k9 : Int32 → Int32 → am_M → Option am_M} (hk9 : ∀ (x1 : Int32) (x2 : Int32) (D : am_M), k9 x1 x2 D = some D' → am_Ex (am_E l m_X6_findFewest false h0 Φ) prog_8_method_51_code (0, 0) 9 [(0, .ref 56), (1, .int x1), (2, .int x2)] [] (ly tw tp D)) : ∀ (n : Nat) (x1 : Int32) (x2 : Int32) (x3 : Int32) (x4 : Int32) (D : am_M), b_X6_findFewest_28 k9 n x1 x2 x3 x4 D = some D' → am_Ex (am_E l m_X6_findFewest false h0 Φ) prog_8_method_51_code (0, 0) 28 [(0, .ref 56), (1, .int x1), (2, .int x2), (3, .int x3), (4, .int x4)] [] (ly tw tp D) := by
  intro n
  induction n with
  | zero =>
    intro x1 x2 x3 x4 D h
    exact absurd h (by simp [b_X6_findFewest_28])
  | succ n ih =>
    intro x1 x2 x3 x4 D h
    rw [b_X6_findFewest_28] at h
    refine am_iload (j := 4) (am_dk tk_X6_findFewest 19 rfl) rfl ?_
    refine am_aload_n (j := 0) (am_dk tk_X6_findFewest 20 rfl) rfl rfl ?_
    refine ly_geti rfl fl_X6_179 rfl (am_dk tk_X6_findFewest 21 rfl) ?_
    refine am_icmp_ge (tgt := 91) (am_dk tk_X6_findFewest 22 rfl) (by decide) (fun hc34 => ?_) (fun hc34 => ?_)
    · rw [if_pos hc34] at h
      refine am_iload_n (j := 1) (am_dk tk_X6_findFewest 54 rfl) rfl rfl ?_
      refine am_iload_n (j := 2) (am_dk tk_X6_findFewest 55 rfl) rfl rfl ?_
      refine am_icmp_gt (tgt := 119) (am_dk tk_X6_findFewest 56 rfl) (by decide) (fun hc93 => ?_) (fun hc93 => ?_)
      · rw [if_pos hc93] at h
        refine am_ls [0, 1, 2, 3] rfl ?_
        exact bx_X6_findFewest_119  hΦ hk9 _ _ _ _ h
      · rw [if_neg hc93] at h
        refine am_aload_n (j := 0) (am_dk tk_X6_findFewest 57 rfl) rfl rfl ?_
        refine ly_getr (b := 78) rfl fl_X6_77 rfl rfl (am_dk tk_X6_findFewest 58 rfl) ?_
        refine am_iload_n (j := 2) (am_dk tk_X6_findFewest 59 rfl) rfl rfl ?_
        refine am_iload_n (j := 1) (am_dk tk_X6_findFewest_1 0 rfl) rfl rfl ?_
        refine am_isub (am_dk tk_X6_findFewest_1 1 rfl) ?_
        obtain ⟨hi103, h⟩ := am_chk h
        refine ly_iald (k := (x2 - x1).toNatClampNeg) rfl (am_in_vp hi103) rfl (am_dk tk_X6_findFewest_1 2 rfl) ?_
        refine am_iload_n (j := 3) (am_dk tk_X6_findFewest_1 3 rfl) rfl rfl ?_
        refine am_icmp_ge (tgt := 119) (am_dk tk_X6_findFewest_1 4 rfl) (by decide) (fun hc105 => ?_) (fun hc105 => ?_)
        · rw [if_pos hc105] at h
          refine am_ls [0, 1, 2, 3] rfl ?_
          exact bx_X6_findFewest_119  hΦ hk9 _ _ _ _ h
        · rw [if_neg hc105] at h
          refine am_aload_n (j := 0) (am_dk tk_X6_findFewest_1 5 rfl) rfl rfl ?_
          refine ly_getr (b := 78) rfl fl_X6_77 rfl rfl (am_dk tk_X6_findFewest_1 6 rfl) ?_
          refine am_iload_n (j := 2) (am_dk tk_X6_findFewest_1 7 rfl) rfl rfl ?_
          refine am_iload_n (j := 1) (am_dk tk_X6_findFewest_1 8 rfl) rfl rfl ?_
          refine am_isub (am_dk tk_X6_findFewest_1 9 rfl) ?_
          refine ly_iald (k := (x2 - x1).toNatClampNeg) rfl (am_in_vp hi103) rfl (am_dk tk_X6_findFewest_1 10 rfl) ?_
          refine am_goto (tgt := 120) (am_dk tk_X6_findFewest_1 11 rfl) (by decide) ?_
          refine am_ls [0, 1, 2] rfl ?_
          exact bx_X6_findFewest_120  hΦ hk9 _ _ _ _ h
    · rw [if_neg hc34] at h
      refine am_aload_n (j := 0) (am_dk tk_X6_findFewest 23 rfl) rfl rfl ?_
      refine ly_getr (b := 58) rfl fl_X6_13 rfl rfl (am_dk tk_X6_findFewest 24 rfl) ?_
      refine am_iload (j := 4) (am_dk tk_X6_findFewest 25 rfl) rfl ?_
      obtain ⟨hi43, h⟩ := am_chk h
      refine ly_iald (k := x4.toNatClampNeg) rfl (am_in_vp hi43) rfl (am_dk tk_X6_findFewest 26 rfl) ?_
      refine am_iload_n (j := 2) (am_dk tk_X6_findFewest 27 rfl) rfl rfl ?_
      refine am_icmp_gt (tgt := 83) (am_dk tk_X6_findFewest 28 rfl) (by decide) (fun hc45 => ?_) (fun hc45 => ?_)
      · rw [if_pos hc45] at h
        refine am_iload_n (j := 3) (am_dk tk_X6_findFewest 50 rfl) rfl rfl ?_
        refine am_istore_n (L' := [(3, .int x3), (0, .ref 56), (1, .int x1), (2, .int x2), (4, .int x4)]) (am_dk tk_X6_findFewest 51 rfl) rfl (Nat.le_of_ble_eq_true rfl) rfl ?_
        refine am_iinc (j := 4) (v := x4 + 1) (L' := [(4, .int (x4 + 1)), (3, .int x3), (0, .ref 56), (1, .int x1), (2, .int x2)]) (am_dk tk_X6_findFewest 52 rfl) rfl rfl (Nat.le_of_ble_eq_true rfl) rfl ?_
        refine am_goto (tgt := 28) (am_dk tk_X6_findFewest 53 rfl) (by decide) ?_
        refine am_ls [2, 3, 4, 1, 0] rfl ?_
        exact ih _ _ _ _ _ h
      · rw [if_neg hc45] at h
        refine am_aload_n (j := 0) (am_dk tk_X6_findFewest 29 rfl) rfl rfl ?_
        refine ly_getr (b := 78) rfl fl_X6_77 rfl rfl (am_dk tk_X6_findFewest 30 rfl) ?_
        refine am_iload_n (j := 2) (am_dk tk_X6_findFewest 31 rfl) rfl rfl ?_
        refine am_aload_n (j := 0) (am_dk tk_X6_findFewest 32 rfl) rfl rfl ?_
        refine ly_getr (b := 58) rfl fl_X6_13 rfl rfl (am_dk tk_X6_findFewest 33 rfl) ?_
        refine am_iload (j := 4) (am_dk tk_X6_findFewest 34 rfl) rfl ?_
        refine ly_iald (k := x4.toNatClampNeg) rfl (am_in_vp hi43) rfl (am_dk tk_X6_findFewest 35 rfl) ?_
        refine am_isub (am_dk tk_X6_findFewest 36 rfl) ?_
        obtain ⟨hi61, h⟩ := am_chk h
        refine ly_iald (k := (x2 - (D 58 x4.toNatClampNeg)).toNatClampNeg) rfl (am_in_vp hi61) rfl (am_dk tk_X6_findFewest 37 rfl) ?_
        refine am_iload_n (j := 3) (am_dk tk_X6_findFewest 38 rfl) rfl rfl ?_
        refine am_icmp_ge (tgt := 83) (am_dk tk_X6_findFewest 39 rfl) (by decide) (fun hc63 => ?_) (fun hc63 => ?_)
        · simp only [if_pos hc63] at h
          refine am_iload_n (j := 3) (am_dk tk_X6_findFewest 50 rfl) rfl rfl ?_
          refine am_istore_n (L' := [(3, .int x3), (0, .ref 56), (1, .int x1), (2, .int x2), (4, .int x4)]) (am_dk tk_X6_findFewest 51 rfl) rfl (Nat.le_of_ble_eq_true rfl) rfl ?_
          refine am_iinc (j := 4) (v := x4 + 1) (L' := [(4, .int (x4 + 1)), (3, .int x3), (0, .ref 56), (1, .int x1), (2, .int x2)]) (am_dk tk_X6_findFewest 52 rfl) rfl rfl (Nat.le_of_ble_eq_true rfl) rfl ?_
          refine am_goto (tgt := 28) (am_dk tk_X6_findFewest 53 rfl) (by decide) ?_
          refine am_ls [2, 3, 4, 1, 0] rfl ?_
          exact ih _ _ _ _ _ h
        · simp only [if_neg hc63] at h
          refine am_aload_n (j := 0) (am_dk tk_X6_findFewest 40 rfl) rfl rfl ?_
          refine ly_getr (b := 78) rfl fl_X6_77 rfl rfl (am_dk tk_X6_findFewest 41 rfl) ?_
          refine am_iload_n (j := 2) (am_dk tk_X6_findFewest 42 rfl) rfl rfl ?_
          refine am_aload_n (j := 0) (am_dk tk_X6_findFewest 43 rfl) rfl rfl ?_
          refine ly_getr (b := 58) rfl fl_X6_13 rfl rfl (am_dk tk_X6_findFewest 44 rfl) ?_
          refine am_iload (j := 4) (am_dk tk_X6_findFewest 45 rfl) rfl ?_
          refine ly_iald (k := x4.toNatClampNeg) rfl (am_in_vp hi43) rfl (am_dk tk_X6_findFewest 46 rfl) ?_
          refine am_isub (am_dk tk_X6_findFewest 47 rfl) ?_
          refine ly_iald (k := (x2 - (D 58 x4.toNatClampNeg)).toNatClampNeg) rfl (am_in_vp hi61) rfl (am_dk tk_X6_findFewest 48 rfl) ?_
          refine am_goto (tgt := 84) (am_dk tk_X6_findFewest 49 rfl) (by decide) ?_
          refine am_istore_n (L' := [(3, .int (D 78 (x2 - (D 58 x4.toNatClampNeg)).toNatClampNeg)), (0, .ref 56), (1, .int x1), (2, .int x2), (4, .int x4)]) (am_dk tk_X6_findFewest 51 rfl) rfl (Nat.le_of_ble_eq_true rfl) rfl ?_
          refine am_iinc (j := 4) (v := x4 + 1) (L' := [(4, .int (x4 + 1)), (3, .int (D 78 (x2 - (D 58 x4.toNatClampNeg)).toNatClampNeg)), (0, .ref 56), (1, .int x1), (2, .int x2)]) (am_dk tk_X6_findFewest 52 rfl) rfl rfl (Nat.le_of_ble_eq_true rfl) rfl ?_
          refine am_goto (tgt := 28) (am_dk tk_X6_findFewest 53 rfl) (by decide) ?_
          refine am_ls [2, 3, 4, 1, 0] rfl ?_
          exact ih _ _ _ _ _ h
theorem bx_X6_findFewest_9 {l : Launch} {h0 : am_H} {Φ : am_Ph} {tw : Nat} {tp : Bool}  {D' : am_M} (hΦ : Φ none (ly tw tp D')) : ∀ (n : Nat) (x1 : Int32) (x2 : Int32) (D : am_M), b_X6_findFewest_9 n x1 x2 D = some D' → am_Ex (am_E l m_X6_findFewest false h0 Φ) prog_8_method_51_code (0, 0) 9 [(0, .ref 56), (1, .int x1), (2, .int x2)] [] (ly tw tp D) := by
  intro n
  induction n with
  | zero =>
    intro x1 x2 D h
    exact absurd h (by simp [b_X6_findFewest_9])
  | succ n ih =>
    intro x1 x2 D h
    rw [b_X6_findFewest_9] at h
    refine am_iload_n (j := 2) (am_dk tk_X6_findFewest 7 rfl) rfl rfl ?_
    refine am_sipush (v := 200) (am_dk tk_X6_findFewest 8 rfl) (by decide) ?_
    refine am_icmp_gt (tgt := 136) (am_dk tk_X6_findFewest 9 rfl) (by decide) (fun hc13 => ?_) (fun hc13 => ?_)
    · rw [if_pos hc13] at h
      exact am_vret rfl (am_r0 h hΦ) ⟨Nat.le_of_ble_eq_true rfl, Nat.le_of_ble_eq_true rfl⟩ (am_dk tk_X6_findFewest_1 23 rfl)
    · rw [if_neg hc13] at h
      refine am_aload_n (j := 0) (am_dk tk_X6_findFewest 10 rfl) rfl rfl ?_
      refine ly_getr (b := 78) rfl fl_X6_77 rfl rfl (am_dk tk_X6_findFewest 11 rfl) ?_
      refine am_iload_n (j := 2) (am_dk tk_X6_findFewest 12 rfl) rfl rfl ?_
      refine am_iconst (v := 1) (am_dk tk_X6_findFewest 13 rfl) (by decide) ?_
      refine am_isub (am_dk tk_X6_findFewest 14 rfl) ?_
      obtain ⟨hi23, h⟩ := am_chk h
      refine ly_iald (k := (x2 - 1).toNatClampNeg) rfl (am_in_vp hi23) rfl (am_dk tk_X6_findFewest 15 rfl) ?_
      refine am_istore_n (L' := [(3, .int (D 78 (x2 - 1).toNatClampNeg)), (0, .ref 56), (1, .int x1), (2, .int x2)]) (am_dk tk_X6_findFewest 16 rfl) rfl (Nat.le_of_ble_eq_true rfl) rfl ?_
      refine am_iconst (v := 0) (am_dk tk_X6_findFewest 17 rfl) (by decide) ?_
      refine am_istore (L' := [(4, .int 0), (3, .int (D 78 (x2 - 1).toNatClampNeg)), (0, .ref 56), (1, .int x1), (2, .int x2)]) (am_dk tk_X6_findFewest 18 rfl) (Nat.le_of_ble_eq_true rfl) rfl ?_
      refine am_ls [2, 3, 4, 1, 0] rfl ?_
      exact bx_X6_findFewest_28  hΦ (ih) am_N _ _ _ _ _ h
theorem ct_X6_findFewest {l : Launch} {tw : Nat} {tp : Bool}  {x1 : Int32} {D D' : am_M} (h : f_X6_findFewest x1 D = some D') : am_CT l m_X6_findFewest false [.ref 56, .int x1] (ly tw tp D) (am_is none (ly tw tp D')) := by
  have hΦ : am_is none (ly tw tp D') none (ly tw tp D') := ⟨rfl, rfl⟩
  refine am_CT.of (by decide) (Nat.le_of_ble_eq_true rfl) ?_
  show am_Ex _ _ _ 0 [(0, .ref 56), (1, .int x1)] [] _
  rw [f_X6_findFewest] at h
  refine am_aload_n (j := 0) (am_dk tk_X6_findFewest 0 rfl) rfl rfl ?_
  refine ly_getr (b := 78) rfl fl_X6_77 rfl rfl (am_dk tk_X6_findFewest 1 rfl) ?_
  refine am_iconst (v := 0) (am_dk tk_X6_findFewest 2 rfl) (by decide) ?_
  refine am_iconst (v := 0) (am_dk tk_X6_findFewest 3 rfl) (by decide) ?_
  refine ly_iast (k := 0) rfl (am_in_vp (by decide)) rfl (am_dk tk_X6_findFewest 4 rfl) ?_
  refine am_iconst (v := 1) (am_dk tk_X6_findFewest 5 rfl) (by decide) ?_
  refine am_istore_n (L' := [(2, .int 1), (0, .ref 56), (1, .int x1)]) (am_dk tk_X6_findFewest 6 rfl) rfl (Nat.le_of_ble_eq_true rfl) rfl ?_
  refine am_ls [1, 2, 0] rfl ?_
  exact bx_X6_findFewest_9  hΦ am_N _ _ _ h
abbrev m_X6_isCoin : am_D := (yX6_isCoin, prog_8_method_52_code, 4, (some .boolean), { frames := 0, cells := 0, slots := 0, locals := 0 })
theorem ld_X6_isCoin : am_LD m_X6_isCoin 1 := ⟨(am_tb 85 (by decide +kernel) (by decide +kernel)), (am_tb 1179 (by decide +kernel) (by decide +kernel)), by decide, by decide, by decide +kernel⟩
def tb_X6_isCoin : List (Nat × Instr × Nat) := [(0, .iload_n 1, 1), (1, .iconst 1, 1), (2, .if_icmp .ne 7, 3), (5, .iconst 1, 1), (6, .goto 4, 3), (9, .iconst 0, 1), (10, .istore_n 2, 1), (11, .iconst 0, 1), (12, .istore_n 3, 1), (13, .iload_n 3, 1), (14, .aload_n 0, 1), (15, .getfield 179, 3), (18, .if_icmp .ge 29, 3), (21, .iload_n 2, 1), (22, .ifCond .ne 13, 3), (25, .aload_n 0, 1), (26, .getfield 13, 3), (29, .iload_n 3, 1), (30, .iaload, 1), (31, .iload_n 1, 1), (32, .if_icmp .ne 7, 3), (35, .iconst 1, 1), (36, .goto 4, 3), (39, .iconst 0, 1), (40, .istore_n 2, 1), (41, .iinc 3 1, 3), (44, .goto (-31), 3), (47, .iload_n 2, 1), (48, .ireturn, 1)]
theorem tk_X6_isCoin : am_tbl prog_8_method_52_code tb_X6_isCoin = true := by decide +kernel
def b_X6_isCoin_35 (k13 : Int32 → Int32 → Int32 → am_M → Option (Int32 × am_M)) (x1 : Int32) (x3 : Int32) (D : am_M) : Option (Int32 × am_M) := k13 x1 1 (x3 + 1) D
def b_X6_isCoin_13 : Nat → Int32 → Int32 → Int32 → am_M → Option (Int32 × am_M)
  | 0, _, _, _, _ => none
  | n + 1, x1, x2, x3, D => if (D 56 5) ≤ x3 then if (x2 = 0 ∨ x2 = 1) then some (x2, D) else none else if x2 = 0 then if am_in x3 4 = true then if (D 58 x3.toNatClampNeg) = x1 then b_X6_isCoin_35 (b_X6_isCoin_13 n) x1 x3 D else b_X6_isCoin_13 n x1 0 (x3 + 1) D else none else b_X6_isCoin_35 (b_X6_isCoin_13 n) x1 x3 D
def f_X6_isCoin (x1 : Int32) (D : am_M) : Option (Int32 × am_M) := b_X6_isCoin_13 am_N x1 (if x1 = 1 then 1 else 0) 0 D
theorem bx_X6_isCoin_35 {l : Launch} {h0 : am_H} {Φ : am_Ph} {tw : Nat} {tp : Bool}  {r : Int32} {D' : am_M} (hΦ : Φ (some (.int r)) (ly tw tp D')) {k13 : Int32 → Int32 → Int32 → am_M → Option (Int32 × am_M)} (hk13 : ∀ (x1 : Int32) (x2 : Int32) (x3 : Int32) (D : am_M), k13 x1 x2 x3 D = some (r, D') → am_Ex (am_E l m_X6_isCoin false h0 Φ) prog_8_method_52_code (0, 0) 13 [(0, .ref 56), (1, .int x1), (2, .int x2), (3, .int x3)] [] (ly tw tp D)) : ∀ (x1 : Int32) (x3 : Int32) (D : am_M), b_X6_isCoin_35 k13 x1 x3 D = some (r, D') → am_Ex (am_E l m_X6_isCoin false h0 Φ) prog_8_method_52_code (0, 0) 35 [(0, .ref 56), (1, .int x1), (3, .int x3)] [] (ly tw tp D) := by
  intro x1 x3 D h
  rw [b_X6_isCoin_35] at h
  refine am_iconst (v := 1) (am_dk tk_X6_isCoin 21 rfl) (by decide) ?_
  refine am_goto (tgt := 40) (am_dk tk_X6_isCoin 22 rfl) (by decide) ?_
  refine am_istore_n (L' := [(2, .int 1), (0, .ref 56), (1, .int x1), (3, .int x3)]) (am_dk tk_X6_isCoin 24 rfl) rfl (Nat.le_of_ble_eq_true rfl) rfl ?_
  refine am_iinc (j := 3) (v := x3 + 1) (L' := [(3, .int (x3 + 1)), (2, .int 1), (0, .ref 56), (1, .int x1)]) (am_dk tk_X6_isCoin 25 rfl) rfl rfl (Nat.le_of_ble_eq_true rfl) rfl ?_
  refine am_goto (tgt := 13) (am_dk tk_X6_isCoin 26 rfl) (by decide) ?_
  refine am_ls [2, 3, 1, 0] rfl ?_
  exact hk13 _ _ _ _ h
theorem bx_X6_isCoin_13 {l : Launch} {h0 : am_H} {Φ : am_Ph} {tw : Nat} {tp : Bool}  {r : Int32} {D' : am_M} (hΦ : Φ (some (.int r)) (ly tw tp D')) : ∀ (n : Nat) (x1 : Int32) (x2 : Int32) (x3 : Int32) (D : am_M), b_X6_isCoin_13 n x1 x2 x3 D = some (r, D') → am_Ex (am_E l m_X6_isCoin false h0 Φ) prog_8_method_52_code (0, 0) 13 [(0, .ref 56), (1, .int x1), (2, .int x2), (3, .int x3)] [] (ly tw tp D) := by
  intro n
  induction n with
  | zero =>
    intro x1 x2 x3 D h
    exact absurd h (by simp [b_X6_isCoin_13])
  | succ n ih =>
    intro x1 x2 x3 D h
    rw [b_X6_isCoin_13] at h
    refine am_iload_n (j := 3) (am_dk tk_X6_isCoin 9 rfl) rfl rfl ?_
    refine am_aload_n (j := 0) (am_dk tk_X6_isCoin 10 rfl) rfl rfl ?_
    refine ly_geti rfl fl_X6_179 rfl (am_dk tk_X6_isCoin 11 rfl) ?_
    refine am_icmp_ge (tgt := 47) (am_dk tk_X6_isCoin 12 rfl) (by decide) (fun hc18 => ?_) (fun hc18 => ?_)
    · rw [if_pos hc18] at h
      refine am_iload_n (j := 2) (am_dk tk_X6_isCoin 27 rfl) rfl rfl ?_
      obtain ⟨hb48, h⟩ := am_chk h
      exact am_zret hb48 rfl (am_r2 h hΦ) ⟨Nat.le_of_ble_eq_true rfl, Nat.le_of_ble_eq_true rfl⟩ (am_dk tk_X6_isCoin 28 rfl)
    · rw [if_neg hc18] at h
      refine am_iload_n (j := 2) (am_dk tk_X6_isCoin 13 rfl) rfl rfl ?_
      refine am_if_ne (tgt := 35) (am_dk tk_X6_isCoin 14 rfl) (by decide) (fun hc22 => ?_) (fun hc22 => ?_)
      · rw [if_neg hc22] at h
        refine am_ls [0, 1, 3] rfl ?_
        exact bx_X6_isCoin_35  hΦ (ih) _ _ _ h
      · rw [if_pos hc22] at h
        refine am_aload_n (j := 0) (am_dk tk_X6_isCoin 15 rfl) rfl rfl ?_
        refine ly_getr (b := 58) rfl fl_X6_13 rfl rfl (am_dk tk_X6_isCoin 16 rfl) ?_
        refine am_iload_n (j := 3) (am_dk tk_X6_isCoin 17 rfl) rfl rfl ?_
        obtain ⟨hi30, h⟩ := am_chk h
        refine ly_iald (k := x3.toNatClampNeg) rfl (am_in_vp hi30) rfl (am_dk tk_X6_isCoin 18 rfl) ?_
        refine am_iload_n (j := 1) (am_dk tk_X6_isCoin 19 rfl) rfl rfl ?_
        refine am_icmp_ne (tgt := 39) (am_dk tk_X6_isCoin 20 rfl) (by decide) (fun hc32 => ?_) (fun hc32 => ?_)
        · rw [if_neg hc32] at h
          refine am_iconst (v := 0) (am_dk tk_X6_isCoin 23 rfl) (by decide) ?_
          refine am_istore_n (L' := [(2, .int 0), (0, .ref 56), (1, .int x1), (3, .int x3)]) (am_dk tk_X6_isCoin 24 rfl) rfl (Nat.le_of_ble_eq_true rfl) rfl ?_
          refine am_iinc (j := 3) (v := x3 + 1) (L' := [(3, .int (x3 + 1)), (2, .int 0), (0, .ref 56), (1, .int x1)]) (am_dk tk_X6_isCoin 25 rfl) rfl rfl (Nat.le_of_ble_eq_true rfl) rfl ?_
          refine am_goto (tgt := 13) (am_dk tk_X6_isCoin 26 rfl) (by decide) ?_
          refine am_ls [2, 3, 1, 0] rfl ?_
          exact ih _ _ _ _ h
        · rw [if_pos hc32] at h
          refine am_ls [0, 1, 3] rfl ?_
          exact bx_X6_isCoin_35  hΦ (ih) _ _ _ h
theorem ct_X6_isCoin {l : Launch} {tw : Nat} {tp : Bool}  {x1 : Int32} {r : Int32} {D D' : am_M} (h : f_X6_isCoin x1 D = some (r, D')) : am_CT l m_X6_isCoin false [.ref 56, .int x1] (ly tw tp D) (am_is (some (.int r)) (ly tw tp D')) := by
  have hΦ : am_is (some (.int r)) (ly tw tp D') (some (.int r)) (ly tw tp D') := ⟨rfl, rfl⟩
  refine am_CT.of (by decide) (Nat.le_of_ble_eq_true rfl) ?_
  show am_Ex _ _ _ 0 [(0, .ref 56), (1, .int x1)] [] _
  rw [f_X6_isCoin] at h
  refine am_iload_n (j := 1) (am_dk tk_X6_isCoin 0 rfl) rfl rfl ?_
  refine am_iconst (v := 1) (am_dk tk_X6_isCoin 1 rfl) (by decide) ?_
  refine am_icmp_ne (tgt := 9) (am_dk tk_X6_isCoin 2 rfl) (by decide) (fun hc2 => ?_) (fun hc2 => ?_)
  · simp only [if_neg hc2] at h
    refine am_iconst (v := 0) (am_dk tk_X6_isCoin 5 rfl) (by decide) ?_
    refine am_istore_n (L' := [(2, .int 0), (0, .ref 56), (1, .int x1)]) (am_dk tk_X6_isCoin 6 rfl) rfl (Nat.le_of_ble_eq_true rfl) rfl ?_
    refine am_iconst (v := 0) (am_dk tk_X6_isCoin 7 rfl) (by decide) ?_
    refine am_istore_n (L' := [(3, .int 0), (2, .int 0), (0, .ref 56), (1, .int x1)]) (am_dk tk_X6_isCoin 8 rfl) rfl (Nat.le_of_ble_eq_true rfl) rfl ?_
    refine am_ls [2, 3, 1, 0] rfl ?_
    exact bx_X6_isCoin_13  hΦ am_N _ _ _ _ h
  · simp only [if_pos hc2] at h
    refine am_iconst (v := 1) (am_dk tk_X6_isCoin 3 rfl) (by decide) ?_
    refine am_goto (tgt := 10) (am_dk tk_X6_isCoin 4 rfl) (by decide) ?_
    refine am_istore_n (L' := [(2, .int 1), (0, .ref 56), (1, .int x1)]) (am_dk tk_X6_isCoin 6 rfl) rfl (Nat.le_of_ble_eq_true rfl) rfl ?_
    refine am_iconst (v := 0) (am_dk tk_X6_isCoin 7 rfl) (by decide) ?_
    refine am_istore_n (L' := [(3, .int 0), (2, .int 1), (0, .ref 56), (1, .int x1)]) (am_dk tk_X6_isCoin 8 rfl) rfl (Nat.le_of_ble_eq_true rfl) rfl ?_
    refine am_ls [2, 3, 1, 0] rfl ?_
    exact bx_X6_isCoin_13  hΦ am_N _ _ _ _ h
abbrev m_X6_coins : am_D := (yX6_coins, prog_8_method_53_code, 6, (some .int), { frames := 1, cells := 0, slots := 0, locals := 25 })
theorem ld_X6_coins : am_LD m_X6_coins 2 := ⟨(am_tb 85 (by decide +kernel) (by decide +kernel)), (am_tb 1170 (by decide +kernel) (by decide +kernel)), by decide, by decide, by decide +kernel⟩
def tb_X6_coins : List (Nat × Instr × Nat) := [(0, .iload_n 1, 1), (1, .i2l, 1), (2, .lconst 0, 1), (3, .ldc2_w 247, 3), (6, .invokestatic 99, 3), (9, .ifCond .eq 20, 3), (12, .iload_n 2, 1), (13, .iconst (-1), 1), (14, .if_icmp .eq 18, 3), (17, .iload_n 2, 1), (18, .i2l, 1), (19, .lconst 1, 1), (20, .ldc2_w 282, 3), (23, .invokestatic 99, 3), (26, .ifCond .ne 6, 3), (29, .ldc 105, 2), (31, .ireturn, 1), (32, .aload_n 0, 1), (33, .iconst 1, 1), (34, .invokevirtual 284, 3), (37, .iload_n 2, 1), (38, .iconst (-1), 1), (39, .if_icmp .ne 10, 3), (42, .aload_n 0, 1), (43, .getfield 77, 3), (46, .iload_n 1, 1), (47, .iaload, 1), (48, .ireturn, 1), (49, .iload_n 1, 1), (50, .istore_n 3, 1), (51, .iconst 0, 1), (52, .istore 4, 2), (54, .bipush 60, 2), (56, .istore 5, 2), (58, .iload 5, 2), (60, .iload_n 2, 1), (61, .if_icmp .lt 58, 3), (64, .iconst 0, 1), (65, .istore 4, 2), (67, .aload_n 0, 1), (68, .iload 5, 2), (70, .invokevirtual 287, 3), (73, .ifCond .eq 40, 3), (76, .iload 5, 2), (78, .iload_n 3, 1), (79, .if_icmp .gt 34, 3), (82, .aload_n 0, 1), (83, .getfield 77, 3), (86, .iload_n 3, 1), (87, .iload 5, 2), (89, .isub, 1), (90, .iaload, 1), (91, .aload_n 0, 1), (92, .getfield 77, 3), (95, .iload_n 3, 1), (96, .iaload, 1), (97, .iconst 1, 1), (98, .isub, 1), (99, .if_icmp .ne 14, 3), (102, .iload_n 3, 1)]
theorem tk_X6_coins : am_tbl prog_8_method_53_code tb_X6_coins = true := by decide +kernel
def tb_X6_coins_1 : List (Nat × Instr × Nat) := [(103, .iload 5, 2), (105, .isub, 1), (106, .istore_n 3, 1), (107, .iinc 4 1, 3), (110, .goto (-43), 3), (113, .iinc 5 (-1), 3), (116, .goto (-58), 3), (119, .iload 4, 2), (121, .ireturn, 1)]
theorem tk_X6_coins_1 : am_tbl prog_8_method_53_code tb_X6_coins_1 = true := by decide +kernel
def b_X6_coins_67 (k58 : Int32 → Int32 → Int32 → Int32 → am_M → Option (Int32 × am_M)) : Nat → Int32 → Int32 → Int32 → Int32 → am_M → Option (Int32 × am_M)
  | 0, _, _, _, _, _ => none
  | n + 1, x2, x3, x4, x5, D => (f_X6_isCoin x5 D).bind fun q70 => if q70.1 = 0 then k58 x2 x3 x4 (x5 + (-1)) q70.2 else if x3 < x5 then k58 x2 x3 x4 (x5 + (-1)) q70.2 else if am_in (x3 - x5) 201 = true then if am_in x3 201 = true then if (q70.2 78 (x3 - x5).toNatClampNeg) = ((q70.2 78 x3.toNatClampNeg) - 1) then b_X6_coins_67 k58 n x2 (x3 - x5) (x4 + 1) x5 q70.2 else k58 x2 x3 x4 (x5 + (-1)) q70.2 else none else none
def b_X6_coins_58 : Nat → Int32 → Int32 → Int32 → Int32 → am_M → Option (Int32 × am_M)
  | 0, _, _, _, _, _ => none
  | n + 1, x2, x3, x4, x5, D => if x5 < x2 then some (x4, D) else b_X6_coins_67 (b_X6_coins_58 n) am_N x2 x3 0 x5 D
def b_X6_coins_32 (x1 : Int32) (x2 : Int32) (D : am_M) : Option (Int32 × am_M) := (f_X6_findFewest 1 D).bind fun q34 => if x2 = (-1) then if am_in x1 201 = true then some (q34 78 x1.toNatClampNeg, q34) else none else b_X6_coins_58 am_N x2 x1 0 60 q34
def f_X6_coins (x1 : Int32) (x2 : Int32) (D : am_M) : Option (Int32 × am_M) := if (f_X6_in x1.toInt64 0 200) = 0 then some ((-1000000002), D) else if x2 = (-1) then b_X6_coins_32 x1 x2 D else if (f_X6_in x2.toInt64 1 60) = 0 then some ((-1000000002), D) else b_X6_coins_32 x1 x2 D
theorem bx_X6_coins_67 {l : Launch} {h0 : am_H} {Φ : am_Ph} {tw : Nat} {tp : Bool}  {r : Int32} {D' : am_M} (hΦ : Φ (some (.int r)) (ly tw tp D')) {k58 : Int32 → Int32 → Int32 → Int32 → am_M → Option (Int32 × am_M)} (hk58 : ∀ (x2 : Int32) (x3 : Int32) (x4 : Int32) (x5 : Int32) (D : am_M), k58 x2 x3 x4 x5 D = some (r, D') → am_Ex (am_E l m_X6_coins false h0 Φ) prog_8_method_53_code (0, 0) 58 [(0, .ref 56), (2, .int x2), (3, .int x3), (4, .int x4), (5, .int x5)] [] (ly tw tp D)) : ∀ (n : Nat) (x2 : Int32) (x3 : Int32) (x4 : Int32) (x5 : Int32) (D : am_M), b_X6_coins_67 k58 n x2 x3 x4 x5 D = some (r, D') → am_Ex (am_E l m_X6_coins false h0 Φ) prog_8_method_53_code (0, 0) 67 [(0, .ref 56), (2, .int x2), (3, .int x3), (4, .int x4), (5, .int x5)] [] (ly tw tp D) := by
  intro n
  induction n with
  | zero =>
    intro x2 x3 x4 x5 D h
    exact absurd h (by simp [b_X6_coins_67])
  | succ n ih =>
    intro x2 x3 x4 x5 D h
    rw [b_X6_coins_67] at h
    refine am_aload_n (j := 0) (am_dk tk_X6_coins 39 rfl) rfl rfl ?_
    refine am_iload (j := 4) (am_dk tk_X6_coins 40 rfl) rfl ?_
    obtain ⟨q70, hq70, h⟩ := am_bind h
    refine ly_cV (M := m_X6_isCoin) (As := [.int x5]) (b := 56) (st := []) (ct_X6_isCoin hq70) rfl (by decide) rfl ml_X6_287 ld_X6_isCoin rfl ⟨Nat.le_of_ble_eq_true rfl, Nat.le_of_ble_eq_true rfl⟩ (Nat.le_of_ble_eq_true rfl) ⟨rfl, rfl⟩ ⟨Nat.le_of_ble_eq_true rfl, Nat.le_of_ble_eq_true rfl⟩ (am_dk tk_X6_coins 41 rfl) (am_kki ?_)
    refine am_if_eq (tgt := 113) (am_dk tk_X6_coins 42 rfl) (by decide) (fun hc73 => ?_) (fun hc73 => ?_)
    · rw [if_pos hc73] at h
      refine am_iinc (j := 4) (v := x5 + (-1)) (L' := [(5, .int (x5 + (-1))), (0, .ref 56), (2, .int x2), (3, .int x3), (4, .int x4)]) (am_dk tk_X6_coins_1 5 rfl) rfl rfl (Nat.le_of_ble_eq_true rfl) rfl ?_
      refine am_goto (tgt := 58) (am_dk tk_X6_coins_1 6 rfl) (by decide) ?_
      refine am_ls [1, 2, 3, 4, 0] rfl ?_
      exact hk58 _ _ _ _ _ h
    · rw [if_neg hc73] at h
      refine am_iload (j := 4) (am_dk tk_X6_coins 43 rfl) rfl ?_
      refine am_iload_n (j := 2) (am_dk tk_X6_coins 44 rfl) rfl rfl ?_
      refine am_icmp_gt (tgt := 113) (am_dk tk_X6_coins 45 rfl) (by decide) (fun hc79 => ?_) (fun hc79 => ?_)
      · rw [if_pos hc79] at h
        refine am_iinc (j := 4) (v := x5 + (-1)) (L' := [(5, .int (x5 + (-1))), (0, .ref 56), (2, .int x2), (3, .int x3), (4, .int x4)]) (am_dk tk_X6_coins_1 5 rfl) rfl rfl (Nat.le_of_ble_eq_true rfl) rfl ?_
        refine am_goto (tgt := 58) (am_dk tk_X6_coins_1 6 rfl) (by decide) ?_
        refine am_ls [1, 2, 3, 4, 0] rfl ?_
        exact hk58 _ _ _ _ _ h
      · rw [if_neg hc79] at h
        refine am_aload_n (j := 0) (am_dk tk_X6_coins 46 rfl) rfl rfl ?_
        refine ly_getr (b := 78) rfl fl_X6_77 rfl rfl (am_dk tk_X6_coins 47 rfl) ?_
        refine am_iload_n (j := 2) (am_dk tk_X6_coins 48 rfl) rfl rfl ?_
        refine am_iload (j := 4) (am_dk tk_X6_coins 49 rfl) rfl ?_
        refine am_isub (am_dk tk_X6_coins 50 rfl) ?_
        obtain ⟨hi90, h⟩ := am_chk h
        refine ly_iald (k := (x3 - x5).toNatClampNeg) rfl (am_in_vp hi90) rfl (am_dk tk_X6_coins 51 rfl) ?_
        refine am_aload_n (j := 0) (am_dk tk_X6_coins 52 rfl) rfl rfl ?_
        refine ly_getr (b := 78) rfl fl_X6_77 rfl rfl (am_dk tk_X6_coins 53 rfl) ?_
        refine am_iload_n (j := 2) (am_dk tk_X6_coins 54 rfl) rfl rfl ?_
        obtain ⟨hi96, h⟩ := am_chk h
        refine ly_iald (k := x3.toNatClampNeg) rfl (am_in_vp hi96) rfl (am_dk tk_X6_coins 55 rfl) ?_
        refine am_iconst (v := 1) (am_dk tk_X6_coins 56 rfl) (by decide) ?_
        refine am_isub (am_dk tk_X6_coins 57 rfl) ?_
        refine am_icmp_ne (tgt := 113) (am_dk tk_X6_coins 58 rfl) (by decide) (fun hc99 => ?_) (fun hc99 => ?_)
        · rw [if_neg hc99] at h
          refine am_iinc (j := 4) (v := x5 + (-1)) (L' := [(5, .int (x5 + (-1))), (0, .ref 56), (2, .int x2), (3, .int x3), (4, .int x4)]) (am_dk tk_X6_coins_1 5 rfl) rfl rfl (Nat.le_of_ble_eq_true rfl) rfl ?_
          refine am_goto (tgt := 58) (am_dk tk_X6_coins_1 6 rfl) (by decide) ?_
          refine am_ls [1, 2, 3, 4, 0] rfl ?_
          exact hk58 _ _ _ _ _ h
        · rw [if_pos hc99] at h
          refine am_iload_n (j := 2) (am_dk tk_X6_coins 59 rfl) rfl rfl ?_
          refine am_iload (j := 4) (am_dk tk_X6_coins_1 0 rfl) rfl ?_
          refine am_isub (am_dk tk_X6_coins_1 1 rfl) ?_
          refine am_istore_n (L' := [(3, .int (x3 - x5)), (0, .ref 56), (2, .int x2), (4, .int x4), (5, .int x5)]) (am_dk tk_X6_coins_1 2 rfl) rfl (Nat.le_of_ble_eq_true rfl) rfl ?_
          refine am_iinc (j := 3) (v := x4 + 1) (L' := [(4, .int (x4 + 1)), (3, .int (x3 - x5)), (0, .ref 56), (2, .int x2), (5, .int x5)]) (am_dk tk_X6_coins_1 3 rfl) rfl rfl (Nat.le_of_ble_eq_true rfl) rfl ?_
          refine am_goto (tgt := 67) (am_dk tk_X6_coins_1 4 rfl) (by decide) ?_
          refine am_ls [2, 3, 1, 0, 4] rfl ?_
          exact ih _ _ _ _ _ h
theorem bx_X6_coins_58 {l : Launch} {h0 : am_H} {Φ : am_Ph} {tw : Nat} {tp : Bool}  {r : Int32} {D' : am_M} (hΦ : Φ (some (.int r)) (ly tw tp D')) : ∀ (n : Nat) (x2 : Int32) (x3 : Int32) (x4 : Int32) (x5 : Int32) (D : am_M), b_X6_coins_58 n x2 x3 x4 x5 D = some (r, D') → am_Ex (am_E l m_X6_coins false h0 Φ) prog_8_method_53_code (0, 0) 58 [(0, .ref 56), (2, .int x2), (3, .int x3), (4, .int x4), (5, .int x5)] [] (ly tw tp D) := by
  intro n
  induction n with
  | zero =>
    intro x2 x3 x4 x5 D h
    exact absurd h (by simp [b_X6_coins_58])
  | succ n ih =>
    intro x2 x3 x4 x5 D h
    rw [b_X6_coins_58] at h
    refine am_iload (j := 4) (am_dk tk_X6_coins 34 rfl) rfl ?_
    refine am_iload_n (j := 1) (am_dk tk_X6_coins 35 rfl) rfl rfl ?_
    refine am_icmp_lt (tgt := 119) (am_dk tk_X6_coins 36 rfl) (by decide) (fun hc61 => ?_) (fun hc61 => ?_)
    · rw [if_pos hc61] at h
      refine am_iload (j := 3) (am_dk tk_X6_coins_1 7 rfl) rfl ?_
      exact am_iret rfl (am_r2 h hΦ) ⟨Nat.le_of_ble_eq_true rfl, Nat.le_of_ble_eq_true rfl⟩ (am_dk tk_X6_coins_1 8 rfl)
    · rw [if_neg hc61] at h
      refine am_iconst (v := 0) (am_dk tk_X6_coins 37 rfl) (by decide) ?_
      refine am_istore (L' := [(4, .int 0), (0, .ref 56), (2, .int x2), (3, .int x3), (5, .int x5)]) (am_dk tk_X6_coins 38 rfl) (Nat.le_of_ble_eq_true rfl) rfl ?_
      refine am_ls [1, 2, 3, 0, 4] rfl ?_
      exact bx_X6_coins_67  hΦ (ih) am_N _ _ _ _ _ h
theorem bx_X6_coins_32 {l : Launch} {h0 : am_H} {Φ : am_Ph} {tw : Nat} {tp : Bool}  {r : Int32} {D' : am_M} (hΦ : Φ (some (.int r)) (ly tw tp D')) : ∀ (x1 : Int32) (x2 : Int32) (D : am_M), b_X6_coins_32 x1 x2 D = some (r, D') → am_Ex (am_E l m_X6_coins false h0 Φ) prog_8_method_53_code (0, 0) 32 [(0, .ref 56), (1, .int x1), (2, .int x2)] [] (ly tw tp D) := by
  intro x1 x2 D h
  rw [b_X6_coins_32] at h
  refine am_aload_n (j := 0) (am_dk tk_X6_coins 17 rfl) rfl rfl ?_
  refine am_iconst (v := 1) (am_dk tk_X6_coins 18 rfl) (by decide) ?_
  obtain ⟨q34, hq34, h⟩ := am_bind h
  refine ly_cV (M := m_X6_findFewest) (As := [.int 1]) (b := 56) (st := []) (ct_X6_findFewest hq34) rfl (by decide) rfl ml_X6_284 ld_X6_findFewest rfl ⟨Nat.le_of_ble_eq_true rfl, Nat.le_of_ble_eq_true rfl⟩ (Nat.le_of_ble_eq_true rfl) ⟨rfl, rfl⟩ ⟨Nat.le_of_ble_eq_true rfl, Nat.le_of_ble_eq_true rfl⟩ (am_dk tk_X6_coins 19 rfl) (am_kkv ?_)
  refine am_iload_n (j := 2) (am_dk tk_X6_coins 20 rfl) rfl rfl ?_
  refine am_iconst (v := (-1)) (am_dk tk_X6_coins 21 rfl) (by decide) ?_
  refine am_icmp_ne (tgt := 49) (am_dk tk_X6_coins 22 rfl) (by decide) (fun hc39 => ?_) (fun hc39 => ?_)
  · rw [if_neg hc39] at h
    refine am_iload_n (j := 1) (am_dk tk_X6_coins 28 rfl) rfl rfl ?_
    refine am_istore_n (L' := [(3, .int x1), (0, .ref 56), (1, .int x1), (2, .int x2)]) (am_dk tk_X6_coins 29 rfl) rfl (Nat.le_of_ble_eq_true rfl) rfl ?_
    refine am_iconst (v := 0) (am_dk tk_X6_coins 30 rfl) (by decide) ?_
    refine am_istore (L' := [(4, .int 0), (3, .int x1), (0, .ref 56), (1, .int x1), (2, .int x2)]) (am_dk tk_X6_coins 31 rfl) (Nat.le_of_ble_eq_true rfl) rfl ?_
    refine am_bipush (v := 60) (am_dk tk_X6_coins 32 rfl) (by decide) ?_
    refine am_istore (L' := [(5, .int 60), (4, .int 0), (3, .int x1), (0, .ref 56), (1, .int x1), (2, .int x2)]) (am_dk tk_X6_coins 33 rfl) (Nat.le_of_ble_eq_true rfl) rfl ?_
    refine am_ls [3, 5, 2, 1, 0] rfl ?_
    exact bx_X6_coins_58  hΦ am_N _ _ _ _ _ h
  · rw [if_pos hc39] at h
    refine am_aload_n (j := 0) (am_dk tk_X6_coins 23 rfl) rfl rfl ?_
    refine ly_getr (b := 78) rfl fl_X6_77 rfl rfl (am_dk tk_X6_coins 24 rfl) ?_
    refine am_iload_n (j := 1) (am_dk tk_X6_coins 25 rfl) rfl rfl ?_
    obtain ⟨hi47, h⟩ := am_chk h
    refine ly_iald (k := x1.toNatClampNeg) rfl (am_in_vp hi47) rfl (am_dk tk_X6_coins 26 rfl) ?_
    exact am_iret rfl (am_r2 h hΦ) ⟨Nat.le_of_ble_eq_true rfl, Nat.le_of_ble_eq_true rfl⟩ (am_dk tk_X6_coins 27 rfl)
theorem ct_X6_coins {l : Launch} {tw : Nat} {tp : Bool}  {x1 : Int32} {x2 : Int32} {r : Int32} {D D' : am_M} (h : f_X6_coins x1 x2 D = some (r, D')) : am_CT l m_X6_coins false [.ref 56, .int x1, .int x2] (ly tw tp D) (am_is (some (.int r)) (ly tw tp D')) := by
  have hΦ : am_is (some (.int r)) (ly tw tp D') (some (.int r)) (ly tw tp D') := ⟨rfl, rfl⟩
  refine am_CT.of (by decide) (Nat.le_of_ble_eq_true rfl) ?_
  show am_Ex _ _ _ 0 [(0, .ref 56), (1, .int x1), (2, .int x2)] [] _
  rw [f_X6_coins] at h
  refine am_iload_n (j := 1) (am_dk tk_X6_coins 0 rfl) rfl rfl ?_
  refine am_i2l (am_dk tk_X6_coins 1 rfl) ?_
  refine am_lconst (v := 0) (am_dk tk_X6_coins 2 rfl) (by decide) ?_
  refine am_ldc2 kl_X6_247 (am_dk tk_X6_coins 3 rfl) ?_
  refine am_cS (M := m_X6_in) (As := [.long x1.toInt64, .long 0, .long 200]) (st := []) (ct_X6_in _ _ _ _) ml_X6_99 ld_X6_in rfl ⟨Nat.le_of_ble_eq_true rfl, Nat.le_of_ble_eq_true rfl⟩ (Nat.le_of_ble_eq_true rfl) ⟨rfl, rfl⟩ ⟨Nat.le_of_ble_eq_true rfl, Nat.le_of_ble_eq_true rfl⟩ (am_dk tk_X6_coins 4 rfl) (am_kki ?_)
  refine am_if_eq (tgt := 29) (am_dk tk_X6_coins 5 rfl) (by decide) (fun hc9 => ?_) (fun hc9 => ?_)
  · rw [if_pos hc9] at h
    refine am_ldc kc_X6_105 (am_dk tk_X6_coins 15 rfl) ?_
    exact am_iret rfl (am_r2 h hΦ) ⟨Nat.le_of_ble_eq_true rfl, Nat.le_of_ble_eq_true rfl⟩ (am_dk tk_X6_coins 16 rfl)
  · rw [if_neg hc9] at h
    refine am_iload_n (j := 2) (am_dk tk_X6_coins 6 rfl) rfl rfl ?_
    refine am_iconst (v := (-1)) (am_dk tk_X6_coins 7 rfl) (by decide) ?_
    refine am_icmp_eq (tgt := 32) (am_dk tk_X6_coins 8 rfl) (by decide) (fun hc14 => ?_) (fun hc14 => ?_)
    · rw [if_pos hc14] at h
      exact bx_X6_coins_32  hΦ _ _ _ h
    · rw [if_neg hc14] at h
      refine am_iload_n (j := 2) (am_dk tk_X6_coins 9 rfl) rfl rfl ?_
      refine am_i2l (am_dk tk_X6_coins 10 rfl) ?_
      refine am_lconst (v := 1) (am_dk tk_X6_coins 11 rfl) (by decide) ?_
      refine am_ldc2 kl_X6_282 (am_dk tk_X6_coins 12 rfl) ?_
      refine am_cS (M := m_X6_in) (As := [.long x2.toInt64, .long 1, .long 60]) (st := []) (ct_X6_in _ _ _ _) ml_X6_99 ld_X6_in rfl ⟨Nat.le_of_ble_eq_true rfl, Nat.le_of_ble_eq_true rfl⟩ (Nat.le_of_ble_eq_true rfl) ⟨rfl, rfl⟩ ⟨Nat.le_of_ble_eq_true rfl, Nat.le_of_ble_eq_true rfl⟩ (am_dk tk_X6_coins 13 rfl) (am_kki ?_)
      refine am_if_ne (tgt := 32) (am_dk tk_X6_coins 14 rfl) (by decide) (fun hc26 => ?_) (fun hc26 => ?_)
      · rw [if_neg hc26] at h
        exact bx_X6_coins_32  hΦ _ _ _ h
      · rw [if_pos hc26] at h
        refine am_ldc kc_X6_105 (am_dk tk_X6_coins 15 rfl) ?_
        exact am_iret rfl (am_r2 h hΦ) ⟨Nat.le_of_ble_eq_true rfl, Nat.le_of_ble_eq_true rfl⟩ (am_dk tk_X6_coins 16 rfl)
abbrev m_X6_strike : am_D := (yX6_strike, prog_8_method_54_code, 7, (some .int), { frames := 1, cells := 0, slots := 0, locals := 25 })
theorem ld_X6_strike : am_LD m_X6_strike 1 := ⟨(am_tb 85 (by decide +kernel) (by decide +kernel)), (am_tb 1183 (by decide +kernel) (by decide +kernel)), by decide, by decide, by decide +kernel⟩
def tb_X6_strike : List (Nat × Instr × Nat) := [(0, .iload_n 1, 1), (1, .i2l, 1), (2, .lconst 0, 1), (3, .lconst 1, 1), (4, .invokestatic 99, 3), (7, .ifCond .ne 6, 3), (10, .ldc 105, 2), (12, .ireturn, 1), (13, .iconst (-1), 1), (14, .istore_n 2, 1), (15, .ldc_w 290, 3), (18, .istore_n 3, 1), (19, .iconst 2, 1), (20, .istore 4, 2), (22, .iload 4, 2), (24, .bipush 60, 2), (26, .if_icmp .gt 81, 3), (29, .aload_n 0, 1), (30, .iload 4, 2), (32, .invokevirtual 287, 3), (35, .ifCond .ne 66, 3), (38, .aload_n 0, 1), (39, .iload 4, 2), (41, .invokevirtual 284, 3), (44, .iconst 0, 1), (45, .istore 5, 2), (47, .iconst 1, 1), (48, .istore 6, 2), (50, .iload 6, 2), (52, .bipush 60, 2), (54, .if_icmp .gt 21, 3), (57, .iload 5, 2), (59, .aload_n 0, 1), (60, .getfield 77, 3), (63, .iload 6, 2), (65, .iaload, 1), (66, .iadd, 1), (67, .istore 5, 2), (69, .iinc 6 1, 3), (72, .goto (-22), 3), (75, .iload 5, 2), (77, .iload_n 3, 1), (78, .if_icmp .ge 8, 3), (81, .iload 4, 2), (83, .goto 4, 3), (86, .iload_n 2, 1), (87, .istore_n 2, 1), (88, .iload 5, 2), (90, .iload_n 3, 1), (91, .if_icmp .ge 8, 3), (94, .iload 5, 2), (96, .goto 4, 3), (99, .iload_n 3, 1), (100, .istore_n 3, 1), (101, .iinc 4 1, 3), (104, .goto (-82), 3), (107, .iload_n 1, 1), (108, .ifCond .ne 7, 3), (111, .iload_n 2, 1), (112, .goto 4, 3)]
theorem tk_X6_strike : am_tbl prog_8_method_54_code tb_X6_strike = true := by decide +kernel
def tb_X6_strike_1 : List (Nat × Instr × Nat) := [(115, .iload_n 3, 1), (116, .ireturn, 1)]
theorem tk_X6_strike_1 : am_tbl prog_8_method_54_code tb_X6_strike_1 = true := by decide +kernel
def b_X6_strike_87 (k22 : Int32 → Int32 → Int32 → Int32 → am_M → Option (Int32 × am_M)) (x1 : Int32) (x3 : Int32) (x4 : Int32) (x5 : Int32) (s0 : Int32) (D : am_M) : Option (Int32 × am_M) := k22 x1 s0 (if x3 ≤ x5 then x3 else x5) (x4 + 1) D
def b_X6_strike_50 (k22 : Int32 → Int32 → Int32 → Int32 → am_M → Option (Int32 × am_M)) : Nat → Int32 → Int32 → Int32 → Int32 → Int32 → Int32 → am_M → Option (Int32 × am_M)
  | 0, _, _, _, _, _, _, _ => none
  | n + 1, x1, x2, x3, x4, x5, x6, D => if 60 < x6 then b_X6_strike_87 k22 x1 x3 x4 x5 (if x3 ≤ x5 then x2 else x4) D else if am_in x6 201 = true then b_X6_strike_50 k22 n x1 x2 x3 x4 (x5 + (D 78 x6.toNatClampNeg)) (x6 + 1) D else none
def b_X6_strike_22 : Nat → Int32 → Int32 → Int32 → Int32 → am_M → Option (Int32 × am_M)
  | 0, _, _, _, _, _ => none
  | n + 1, x1, x2, x3, x4, D => if 60 < x4 then if x1 = 0 then some (x2, D) else some (x3, D) else (f_X6_isCoin x4 D).bind fun q32 => if q32.1 = 0 then (f_X6_findFewest x4 q32.2).bind fun q41 => b_X6_strike_50 (b_X6_strike_22 n) am_N x1 x2 x3 x4 0 1 q41 else b_X6_strike_22 n x1 x2 x3 (x4 + 1) q32.2
def f_X6_strike (x1 : Int32) (D : am_M) : Option (Int32 × am_M) := if (f_X6_in x1.toInt64 0 1) = 0 then some ((-1000000002), D) else b_X6_strike_22 am_N x1 (-1) 1000000 2 D
theorem bx_X6_strike_87 {l : Launch} {h0 : am_H} {Φ : am_Ph} {tw : Nat} {tp : Bool}  {r : Int32} {D' : am_M} (hΦ : Φ (some (.int r)) (ly tw tp D')) {k22 : Int32 → Int32 → Int32 → Int32 → am_M → Option (Int32 × am_M)} (hk22 : ∀ (x1 : Int32) (x2 : Int32) (x3 : Int32) (x4 : Int32) (D : am_M), k22 x1 x2 x3 x4 D = some (r, D') → am_Ex (am_E l m_X6_strike false h0 Φ) prog_8_method_54_code (0, 0) 22 [(0, .ref 56), (1, .int x1), (2, .int x2), (3, .int x3), (4, .int x4)] [] (ly tw tp D)) : ∀ (x1 : Int32) (x3 : Int32) (x4 : Int32) (x5 : Int32) (s0 : Int32) (D : am_M), b_X6_strike_87 k22 x1 x3 x4 x5 s0 D = some (r, D') → am_Ex (am_E l m_X6_strike false h0 Φ) prog_8_method_54_code (0, 0) 87 [(0, .ref 56), (1, .int x1), (3, .int x3), (4, .int x4), (5, .int x5)] [.int s0] (ly tw tp D) := by
  intro x1 x3 x4 x5 s0 D h
  rw [b_X6_strike_87] at h
  refine am_istore_n (L' := [(2, .int s0), (0, .ref 56), (1, .int x1), (3, .int x3), (4, .int x4), (5, .int x5)]) (am_dk tk_X6_strike 46 rfl) rfl (Nat.le_of_ble_eq_true rfl) rfl ?_
  refine am_iload (j := 5) (am_dk tk_X6_strike 47 rfl) rfl ?_
  refine am_iload_n (j := 3) (am_dk tk_X6_strike 48 rfl) rfl rfl ?_
  refine am_icmp_ge (tgt := 99) (am_dk tk_X6_strike 49 rfl) (by decide) (fun hc91 => ?_) (fun hc91 => ?_)
  · simp only [if_pos hc91] at h
    refine am_iload_n (j := 3) (am_dk tk_X6_strike 52 rfl) rfl rfl ?_
    refine am_istore_n (L' := [(3, .int x3), (2, .int s0), (0, .ref 56), (1, .int x1), (4, .int x4), (5, .int x5)]) (am_dk tk_X6_strike 53 rfl) rfl (Nat.le_of_ble_eq_true rfl) rfl ?_
    refine am_iinc (j := 4) (v := x4 + 1) (L' := [(4, .int (x4 + 1)), (3, .int x3), (2, .int s0), (0, .ref 56), (1, .int x1), (5, .int x5)]) (am_dk tk_X6_strike 54 rfl) rfl rfl (Nat.le_of_ble_eq_true rfl) rfl ?_
    refine am_goto (tgt := 22) (am_dk tk_X6_strike 55 rfl) (by decide) ?_
    refine am_ls [3, 4, 2, 1, 0] rfl ?_
    exact hk22 _ _ _ _ _ h
  · simp only [if_neg hc91] at h
    refine am_iload (j := 5) (am_dk tk_X6_strike 50 rfl) rfl ?_
    refine am_goto (tgt := 100) (am_dk tk_X6_strike 51 rfl) (by decide) ?_
    refine am_istore_n (L' := [(3, .int x5), (2, .int s0), (0, .ref 56), (1, .int x1), (4, .int x4), (5, .int x5)]) (am_dk tk_X6_strike 53 rfl) rfl (Nat.le_of_ble_eq_true rfl) rfl ?_
    refine am_iinc (j := 4) (v := x4 + 1) (L' := [(4, .int (x4 + 1)), (3, .int x5), (2, .int s0), (0, .ref 56), (1, .int x1), (5, .int x5)]) (am_dk tk_X6_strike 54 rfl) rfl rfl (Nat.le_of_ble_eq_true rfl) rfl ?_
    refine am_goto (tgt := 22) (am_dk tk_X6_strike 55 rfl) (by decide) ?_
    refine am_ls [3, 4, 2, 1, 0] rfl ?_
    exact hk22 _ _ _ _ _ h
theorem bx_X6_strike_50 {l : Launch} {h0 : am_H} {Φ : am_Ph} {tw : Nat} {tp : Bool}  {r : Int32} {D' : am_M} (hΦ : Φ (some (.int r)) (ly tw tp D')) {k22 : Int32 → Int32 → Int32 → Int32 → am_M → Option (Int32 × am_M)} (hk22 : ∀ (x1 : Int32) (x2 : Int32) (x3 : Int32) (x4 : Int32) (D : am_M), k22 x1 x2 x3 x4 D = some (r, D') → am_Ex (am_E l m_X6_strike false h0 Φ) prog_8_method_54_code (0, 0) 22 [(0, .ref 56), (1, .int x1), (2, .int x2), (3, .int x3), (4, .int x4)] [] (ly tw tp D)) : ∀ (n : Nat) (x1 : Int32) (x2 : Int32) (x3 : Int32) (x4 : Int32) (x5 : Int32) (x6 : Int32) (D : am_M), b_X6_strike_50 k22 n x1 x2 x3 x4 x5 x6 D = some (r, D') → am_Ex (am_E l m_X6_strike false h0 Φ) prog_8_method_54_code (0, 0) 50 [(0, .ref 56), (1, .int x1), (2, .int x2), (3, .int x3), (4, .int x4), (5, .int x5), (6, .int x6)] [] (ly tw tp D) := by
  intro n
  induction n with
  | zero =>
    intro x1 x2 x3 x4 x5 x6 D h
    exact absurd h (by simp [b_X6_strike_50])
  | succ n ih =>
    intro x1 x2 x3 x4 x5 x6 D h
    rw [b_X6_strike_50] at h
    refine am_iload (j := 6) (am_dk tk_X6_strike 28 rfl) rfl ?_
    refine am_bipush (v := 60) (am_dk tk_X6_strike 29 rfl) (by decide) ?_
    refine am_icmp_gt (tgt := 75) (am_dk tk_X6_strike 30 rfl) (by decide) (fun hc54 => ?_) (fun hc54 => ?_)
    · rw [if_pos hc54] at h
      refine am_iload (j := 5) (am_dk tk_X6_strike 40 rfl) rfl ?_
      refine am_iload_n (j := 3) (am_dk tk_X6_strike 41 rfl) rfl rfl ?_
      refine am_icmp_ge (tgt := 86) (am_dk tk_X6_strike 42 rfl) (by decide) (fun hc78 => ?_) (fun hc78 => ?_)
      · simp only [if_pos hc78] at h
        refine am_iload_n (j := 2) (am_dk tk_X6_strike 45 rfl) rfl rfl ?_
        refine am_ls [0, 1, 3, 4, 5] rfl ?_
        exact bx_X6_strike_87  hΦ hk22 _ _ _ _ _ _ h
      · simp only [if_neg hc78] at h
        refine am_iload (j := 4) (am_dk tk_X6_strike 43 rfl) rfl ?_
        refine am_goto (tgt := 87) (am_dk tk_X6_strike 44 rfl) (by decide) ?_
        refine am_ls [0, 1, 3, 4, 5] rfl ?_
        exact bx_X6_strike_87  hΦ hk22 _ _ _ _ _ _ h
    · rw [if_neg hc54] at h
      refine am_iload (j := 5) (am_dk tk_X6_strike 31 rfl) rfl ?_
      refine am_aload_n (j := 0) (am_dk tk_X6_strike 32 rfl) rfl rfl ?_
      refine ly_getr (b := 78) rfl fl_X6_77 rfl rfl (am_dk tk_X6_strike 33 rfl) ?_
      refine am_iload (j := 6) (am_dk tk_X6_strike 34 rfl) rfl ?_
      obtain ⟨hi65, h⟩ := am_chk h
      refine ly_iald (k := x6.toNatClampNeg) rfl (am_in_vp hi65) rfl (am_dk tk_X6_strike 35 rfl) ?_
      refine am_iadd (am_dk tk_X6_strike 36 rfl) ?_
      refine am_istore (L' := [(5, .int (x5 + (D 78 x6.toNatClampNeg))), (0, .ref 56), (1, .int x1), (2, .int x2), (3, .int x3), (4, .int x4), (6, .int x6)]) (am_dk tk_X6_strike 37 rfl) (Nat.le_of_ble_eq_true rfl) rfl ?_
      refine am_iinc (j := 6) (v := x6 + 1) (L' := [(6, .int (x6 + 1)), (5, .int (x5 + (D 78 x6.toNatClampNeg))), (0, .ref 56), (1, .int x1), (2, .int x2), (3, .int x3), (4, .int x4)]) (am_dk tk_X6_strike 38 rfl) rfl rfl (Nat.le_of_ble_eq_true rfl) rfl ?_
      refine am_goto (tgt := 50) (am_dk tk_X6_strike 39 rfl) (by decide) ?_
      refine am_ls [2, 3, 4, 5, 6, 1, 0] rfl ?_
      exact ih _ _ _ _ _ _ _ h
theorem bx_X6_strike_22 {l : Launch} {h0 : am_H} {Φ : am_Ph} {tw : Nat} {tp : Bool}  {r : Int32} {D' : am_M} (hΦ : Φ (some (.int r)) (ly tw tp D')) : ∀ (n : Nat) (x1 : Int32) (x2 : Int32) (x3 : Int32) (x4 : Int32) (D : am_M), b_X6_strike_22 n x1 x2 x3 x4 D = some (r, D') → am_Ex (am_E l m_X6_strike false h0 Φ) prog_8_method_54_code (0, 0) 22 [(0, .ref 56), (1, .int x1), (2, .int x2), (3, .int x3), (4, .int x4)] [] (ly tw tp D) := by
  intro n
  induction n with
  | zero =>
    intro x1 x2 x3 x4 D h
    exact absurd h (by simp [b_X6_strike_22])
  | succ n ih =>
    intro x1 x2 x3 x4 D h
    rw [b_X6_strike_22] at h
    refine am_iload (j := 4) (am_dk tk_X6_strike 14 rfl) rfl ?_
    refine am_bipush (v := 60) (am_dk tk_X6_strike 15 rfl) (by decide) ?_
    refine am_icmp_gt (tgt := 107) (am_dk tk_X6_strike 16 rfl) (by decide) (fun hc26 => ?_) (fun hc26 => ?_)
    · rw [if_pos hc26] at h
      refine am_iload_n (j := 1) (am_dk tk_X6_strike 56 rfl) rfl rfl ?_
      refine am_if_ne (tgt := 115) (am_dk tk_X6_strike 57 rfl) (by decide) (fun hc108 => ?_) (fun hc108 => ?_)
      · rw [if_neg hc108] at h
        refine am_iload_n (j := 3) (am_dk tk_X6_strike_1 0 rfl) rfl rfl ?_
        exact am_iret rfl (am_r2 h hΦ) ⟨Nat.le_of_ble_eq_true rfl, Nat.le_of_ble_eq_true rfl⟩ (am_dk tk_X6_strike_1 1 rfl)
      · rw [if_pos hc108] at h
        refine am_iload_n (j := 2) (am_dk tk_X6_strike 58 rfl) rfl rfl ?_
        refine am_goto (tgt := 116) (am_dk tk_X6_strike 59 rfl) (by decide) ?_
        exact am_iret rfl (am_r2 h hΦ) ⟨Nat.le_of_ble_eq_true rfl, Nat.le_of_ble_eq_true rfl⟩ (am_dk tk_X6_strike_1 1 rfl)
    · rw [if_neg hc26] at h
      refine am_aload_n (j := 0) (am_dk tk_X6_strike 17 rfl) rfl rfl ?_
      refine am_iload (j := 4) (am_dk tk_X6_strike 18 rfl) rfl ?_
      obtain ⟨q32, hq32, h⟩ := am_bind h
      refine ly_cV (M := m_X6_isCoin) (As := [.int x4]) (b := 56) (st := []) (ct_X6_isCoin hq32) rfl (by decide) rfl ml_X6_287 ld_X6_isCoin rfl ⟨Nat.le_of_ble_eq_true rfl, Nat.le_of_ble_eq_true rfl⟩ (Nat.le_of_ble_eq_true rfl) ⟨rfl, rfl⟩ ⟨Nat.le_of_ble_eq_true rfl, Nat.le_of_ble_eq_true rfl⟩ (am_dk tk_X6_strike 19 rfl) (am_kki ?_)
      refine am_if_ne (tgt := 101) (am_dk tk_X6_strike 20 rfl) (by decide) (fun hc35 => ?_) (fun hc35 => ?_)
      · rw [if_neg hc35] at h
        refine am_iinc (j := 4) (v := x4 + 1) (L' := [(4, .int (x4 + 1)), (0, .ref 56), (1, .int x1), (2, .int x2), (3, .int x3)]) (am_dk tk_X6_strike 54 rfl) rfl rfl (Nat.le_of_ble_eq_true rfl) rfl ?_
        refine am_goto (tgt := 22) (am_dk tk_X6_strike 55 rfl) (by decide) ?_
        refine am_ls [1, 2, 3, 4, 0] rfl ?_
        exact ih _ _ _ _ _ h
      · rw [if_pos hc35] at h
        refine am_aload_n (j := 0) (am_dk tk_X6_strike 21 rfl) rfl rfl ?_
        refine am_iload (j := 4) (am_dk tk_X6_strike 22 rfl) rfl ?_
        obtain ⟨q41, hq41, h⟩ := am_bind h
        refine ly_cV (M := m_X6_findFewest) (As := [.int x4]) (b := 56) (st := []) (ct_X6_findFewest hq41) rfl (by decide) rfl ml_X6_284 ld_X6_findFewest rfl ⟨Nat.le_of_ble_eq_true rfl, Nat.le_of_ble_eq_true rfl⟩ (Nat.le_of_ble_eq_true rfl) ⟨rfl, rfl⟩ ⟨Nat.le_of_ble_eq_true rfl, Nat.le_of_ble_eq_true rfl⟩ (am_dk tk_X6_strike 23 rfl) (am_kkv ?_)
        refine am_iconst (v := 0) (am_dk tk_X6_strike 24 rfl) (by decide) ?_
        refine am_istore (L' := [(5, .int 0), (0, .ref 56), (1, .int x1), (2, .int x2), (3, .int x3), (4, .int x4)]) (am_dk tk_X6_strike 25 rfl) (Nat.le_of_ble_eq_true rfl) rfl ?_
        refine am_iconst (v := 1) (am_dk tk_X6_strike 26 rfl) (by decide) ?_
        refine am_istore (L' := [(6, .int 1), (5, .int 0), (0, .ref 56), (1, .int x1), (2, .int x2), (3, .int x3), (4, .int x4)]) (am_dk tk_X6_strike 27 rfl) (Nat.le_of_ble_eq_true rfl) rfl ?_
        refine am_ls [2, 3, 4, 5, 6, 1, 0] rfl ?_
        exact bx_X6_strike_50  hΦ (ih) am_N _ _ _ _ _ _ _ h
theorem ct_X6_strike {l : Launch} {tw : Nat} {tp : Bool}  {x1 : Int32} {r : Int32} {D D' : am_M} (h : f_X6_strike x1 D = some (r, D')) : am_CT l m_X6_strike false [.ref 56, .int x1] (ly tw tp D) (am_is (some (.int r)) (ly tw tp D')) := by
  have hΦ : am_is (some (.int r)) (ly tw tp D') (some (.int r)) (ly tw tp D') := ⟨rfl, rfl⟩
  refine am_CT.of (by decide) (Nat.le_of_ble_eq_true rfl) ?_
  show am_Ex _ _ _ 0 [(0, .ref 56), (1, .int x1)] [] _
  rw [f_X6_strike] at h
  refine am_iload_n (j := 1) (am_dk tk_X6_strike 0 rfl) rfl rfl ?_
  refine am_i2l (am_dk tk_X6_strike 1 rfl) ?_
  refine am_lconst (v := 0) (am_dk tk_X6_strike 2 rfl) (by decide) ?_
  refine am_lconst (v := 1) (am_dk tk_X6_strike 3 rfl) (by decide) ?_
  refine am_cS (M := m_X6_in) (As := [.long x1.toInt64, .long 0, .long 1]) (st := []) (ct_X6_in _ _ _ _) ml_X6_99 ld_X6_in rfl ⟨Nat.le_of_ble_eq_true rfl, Nat.le_of_ble_eq_true rfl⟩ (Nat.le_of_ble_eq_true rfl) ⟨rfl, rfl⟩ ⟨Nat.le_of_ble_eq_true rfl, Nat.le_of_ble_eq_true rfl⟩ (am_dk tk_X6_strike 4 rfl) (am_kki ?_)
  refine am_if_ne (tgt := 13) (am_dk tk_X6_strike 5 rfl) (by decide) (fun hc7 => ?_) (fun hc7 => ?_)
  · rw [if_neg hc7] at h
    refine am_iconst (v := (-1)) (am_dk tk_X6_strike 8 rfl) (by decide) ?_
    refine am_istore_n (L' := [(2, .int (-1)), (0, .ref 56), (1, .int x1)]) (am_dk tk_X6_strike 9 rfl) rfl (Nat.le_of_ble_eq_true rfl) rfl ?_
    refine am_ldcw kc_X6_290 (am_dk tk_X6_strike 10 rfl) ?_
    refine am_istore_n (L' := [(3, .int 1000000), (2, .int (-1)), (0, .ref 56), (1, .int x1)]) (am_dk tk_X6_strike 11 rfl) rfl (Nat.le_of_ble_eq_true rfl) rfl ?_
    refine am_iconst (v := 2) (am_dk tk_X6_strike 12 rfl) (by decide) ?_
    refine am_istore (L' := [(4, .int 2), (3, .int 1000000), (2, .int (-1)), (0, .ref 56), (1, .int x1)]) (am_dk tk_X6_strike 13 rfl) (Nat.le_of_ble_eq_true rfl) rfl ?_
    refine am_ls [3, 4, 2, 1, 0] rfl ?_
    exact bx_X6_strike_22  hΦ am_N _ _ _ _ _ h
  · rw [if_pos hc7] at h
    refine am_ldc kc_X6_105 (am_dk tk_X6_strike 6 rfl) ?_
    exact am_iret rfl (am_r2 h hΦ) ⟨Nat.le_of_ble_eq_true rfl, Nat.le_of_ble_eq_true rfl⟩ (am_dk tk_X6_strike 7 rfl)
abbrev m_X6_tested : am_D := (yX6_tested, prog_8_method_55_code, 7, (some .long), { frames := 0, cells := 0, slots := 0, locals := 0 })
theorem ld_X6_tested : am_LD m_X6_tested 4 := ⟨(am_tb 85 (by decide +kernel) (by decide +kernel)), (am_tb 1193 (by decide +kernel) (by decide +kernel)), by decide, by decide, by decide +kernel⟩
def tb_X6_tested : List (Nat × Instr × Nat) := [(0, .ldc2_w 291, 3), (3, .iload_n 0, 1), (4, .i2l, 1), (5, .lmul, 1), (6, .ldc2_w 293, 3), (9, .ldiv, 1), (10, .lstore 4, 2), (12, .iconst 0, 1), (13, .istore 6, 2), (15, .iload 6, 2), (17, .iload_n 2, 1), (18, .if_icmp .ge 33, 3), (21, .lload 4, 2), (23, .iload 6, 2), (25, .iload_n 3, 1), (26, .if_icmp .ge 7, 3), (29, .iload_n 1, 1), (30, .goto 7, 3), (33, .bipush 100, 2), (35, .iload_n 1, 1), (36, .isub, 1), (37, .i2l, 1), (38, .lmul, 1), (39, .ldc2_w 293, 3), (42, .ldiv, 1), (43, .lstore 4, 2), (45, .iinc 6 1, 3), (48, .goto (-33), 3), (51, .lload 4, 2), (53, .lreturn, 1)]
theorem tk_X6_tested : am_tbl prog_8_method_55_code tb_X6_tested = true := by decide +kernel
def b_X6_tested_37 (k15 : Int32 → Int32 → Int32 → Int64 → Int32 → am_M → Option (Int64 × am_M)) (x1 : Int32) (x2 : Int32) (x3 : Int32) (x6 : Int32) (s0 : Int32) (s1 : Int64) (D : am_M) : Option (Int64 × am_M) := k15 x1 x2 x3 ((s1 * s0.toInt64) / 100) (x6 + 1) D
def b_X6_tested_15 : Nat → Int32 → Int32 → Int32 → Int64 → Int32 → am_M → Option (Int64 × am_M)
  | 0, _, _, _, _, _, _ => none
  | n + 1, x1, x2, x3, x4, x6, D => if x2 ≤ x6 then some (x4, D) else b_X6_tested_37 (b_X6_tested_15 n) x1 x2 x3 x6 (if x3 ≤ x6 then 100 - x1 else x1) x4 D
def f_X6_tested (x0 : Int32) (x1 : Int32) (x2 : Int32) (x3 : Int32) (D : am_M) : Option (Int64 × am_M) := b_X6_tested_15 am_N x1 x2 x3 ((1000000000 * x0.toInt64) / 100) 0 D
theorem bx_X6_tested_37 {l : Launch} {h0 : am_H} {Φ : am_Ph} {tw : Nat} {tp : Bool}  {r : Int64} {D' : am_M} (hΦ : Φ (some (.long r)) (ly tw tp D')) {k15 : Int32 → Int32 → Int32 → Int64 → Int32 → am_M → Option (Int64 × am_M)} (hk15 : ∀ (x1 : Int32) (x2 : Int32) (x3 : Int32) (x4 : Int64) (x6 : Int32) (D : am_M), k15 x1 x2 x3 x4 x6 D = some (r, D') → am_Ex (am_E l m_X6_tested false h0 Φ) prog_8_method_55_code (0, 0) 15 [(1, .int x1), (2, .int x2), (3, .int x3), (4, .long x4), (6, .int x6)] [] (ly tw tp D)) : ∀ (x1 : Int32) (x2 : Int32) (x3 : Int32) (x6 : Int32) (s0 : Int32) (s1 : Int64) (D : am_M), b_X6_tested_37 k15 x1 x2 x3 x6 s0 s1 D = some (r, D') → am_Ex (am_E l m_X6_tested false h0 Φ) prog_8_method_55_code (0, 0) 37 [(1, .int x1), (2, .int x2), (3, .int x3), (6, .int x6)] [.int s0, .long s1] (ly tw tp D) := by
  intro x1 x2 x3 x6 s0 s1 D h
  rw [b_X6_tested_37] at h
  refine am_i2l (am_dk tk_X6_tested 21 rfl) ?_
  refine am_lmul (am_dk tk_X6_tested 22 rfl) ?_
  refine am_ldc2 kl_X6_293 (am_dk tk_X6_tested 23 rfl) ?_
  refine am_ldiv (am_dk tk_X6_tested 24 rfl) (by decide) ?_
  refine am_lstore (L' := [(4, .long ((s1 * s0.toInt64) / 100)), (1, .int x1), (2, .int x2), (3, .int x3), (6, .int x6)]) (am_dk tk_X6_tested 25 rfl) (Nat.le_of_ble_eq_true rfl) rfl ?_
  refine am_iinc (j := 4) (v := x6 + 1) (L' := [(6, .int (x6 + 1)), (4, .long ((s1 * s0.toInt64) / 100)), (1, .int x1), (2, .int x2), (3, .int x3)]) (am_dk tk_X6_tested 26 rfl) rfl rfl (Nat.le_of_ble_eq_true rfl) rfl ?_
  refine am_goto (tgt := 15) (am_dk tk_X6_tested 27 rfl) (by decide) ?_
  refine am_ls [2, 3, 4, 1, 0] rfl ?_
  exact hk15 _ _ _ _ _ _ h
theorem bx_X6_tested_15 {l : Launch} {h0 : am_H} {Φ : am_Ph} {tw : Nat} {tp : Bool}  {r : Int64} {D' : am_M} (hΦ : Φ (some (.long r)) (ly tw tp D')) : ∀ (n : Nat) (x1 : Int32) (x2 : Int32) (x3 : Int32) (x4 : Int64) (x6 : Int32) (D : am_M), b_X6_tested_15 n x1 x2 x3 x4 x6 D = some (r, D') → am_Ex (am_E l m_X6_tested false h0 Φ) prog_8_method_55_code (0, 0) 15 [(1, .int x1), (2, .int x2), (3, .int x3), (4, .long x4), (6, .int x6)] [] (ly tw tp D) := by
  intro n
  induction n with
  | zero =>
    intro x1 x2 x3 x4 x6 D h
    exact absurd h (by simp [b_X6_tested_15])
  | succ n ih =>
    intro x1 x2 x3 x4 x6 D h
    rw [b_X6_tested_15] at h
    refine am_iload (j := 4) (am_dk tk_X6_tested 9 rfl) rfl ?_
    refine am_iload_n (j := 1) (am_dk tk_X6_tested 10 rfl) rfl rfl ?_
    refine am_icmp_ge (tgt := 51) (am_dk tk_X6_tested 11 rfl) (by decide) (fun hc18 => ?_) (fun hc18 => ?_)
    · rw [if_pos hc18] at h
      refine am_lload (j := 3) (am_dk tk_X6_tested 28 rfl) rfl ?_
      exact am_lret rfl (am_r2l h hΦ) ⟨Nat.le_of_ble_eq_true rfl, Nat.le_of_ble_eq_true rfl⟩ (am_dk tk_X6_tested 29 rfl)
    · rw [if_neg hc18] at h
      refine am_lload (j := 3) (am_dk tk_X6_tested 12 rfl) rfl ?_
      refine am_iload (j := 4) (am_dk tk_X6_tested 13 rfl) rfl ?_
      refine am_iload_n (j := 2) (am_dk tk_X6_tested 14 rfl) rfl rfl ?_
      refine am_icmp_ge (tgt := 33) (am_dk tk_X6_tested 15 rfl) (by decide) (fun hc26 => ?_) (fun hc26 => ?_)
      · simp only [if_pos hc26] at h
        refine am_bipush (v := 100) (am_dk tk_X6_tested 18 rfl) (by decide) ?_
        refine am_iload_n (j := 0) (am_dk tk_X6_tested 19 rfl) rfl rfl ?_
        refine am_isub (am_dk tk_X6_tested 20 rfl) ?_
        refine am_ls [0, 1, 2, 4] rfl ?_
        exact bx_X6_tested_37  hΦ (ih) _ _ _ _ _ _ _ h
      · simp only [if_neg hc26] at h
        refine am_iload_n (j := 0) (am_dk tk_X6_tested 16 rfl) rfl rfl ?_
        refine am_goto (tgt := 37) (am_dk tk_X6_tested 17 rfl) (by decide) ?_
        refine am_ls [0, 1, 2, 4] rfl ?_
        exact bx_X6_tested_37  hΦ (ih) _ _ _ _ _ _ _ h
theorem ct_X6_tested {l : Launch} {tw : Nat} {tp : Bool}  {x0 : Int32} {x1 : Int32} {x2 : Int32} {x3 : Int32} {r : Int64} {D D' : am_M} (h : f_X6_tested x0 x1 x2 x3 D = some (r, D')) : am_CT l m_X6_tested false [.int x0, .int x1, .int x2, .int x3] (ly tw tp D) (am_is (some (.long r)) (ly tw tp D')) := by
  have hΦ : am_is (some (.long r)) (ly tw tp D') (some (.long r)) (ly tw tp D') := ⟨rfl, rfl⟩
  refine am_CT.of (by decide) (Nat.le_of_ble_eq_true rfl) ?_
  show am_Ex _ _ _ 0 [(0, .int x0), (1, .int x1), (2, .int x2), (3, .int x3)] [] _
  rw [f_X6_tested] at h
  refine am_ldc2 kl_X6_291 (am_dk tk_X6_tested 0 rfl) ?_
  refine am_iload_n (j := 0) (am_dk tk_X6_tested 1 rfl) rfl rfl ?_
  refine am_i2l (am_dk tk_X6_tested 2 rfl) ?_
  refine am_lmul (am_dk tk_X6_tested 3 rfl) ?_
  refine am_ldc2 kl_X6_293 (am_dk tk_X6_tested 4 rfl) ?_
  refine am_ldiv (am_dk tk_X6_tested 5 rfl) (by decide) ?_
  refine am_lstore (L' := [(4, .long ((1000000000 * x0.toInt64) / 100)), (0, .int x0), (1, .int x1), (2, .int x2), (3, .int x3)]) (am_dk tk_X6_tested 6 rfl) (Nat.le_of_ble_eq_true rfl) rfl ?_
  refine am_iconst (v := 0) (am_dk tk_X6_tested 7 rfl) (by decide) ?_
  refine am_istore (L' := [(6, .int 0), (4, .long ((1000000000 * x0.toInt64) / 100)), (0, .int x0), (1, .int x1), (2, .int x2), (3, .int x3)]) (am_dk tk_X6_tested 8 rfl) (Nat.le_of_ble_eq_true rfl) rfl ?_
  refine am_ls [3, 4, 5, 1, 0] rfl ?_
  exact bx_X6_tested_15  hΦ am_N _ _ _ _ _ _ h
abbrev m_X6_isFalse : am_D := (yX6_isFalse, prog_8_method_56_code, 10, (some .int), { frames := 1, cells := 0, slots := 0, locals := 26 })
theorem ld_X6_isFalse : am_LD m_X6_isFalse 5 := ⟨(am_tb 85 (by decide +kernel) (by decide +kernel)), (am_tb 1188 (by decide +kernel) (by decide +kernel)), by decide, by decide, by decide +kernel⟩
def tb_X6_isFalse : List (Nat × Instr × Nat) := [(0, .iload_n 1, 1), (1, .i2l, 1), (2, .lconst 0, 1), (3, .ldc2_w 293, 3), (6, .invokestatic 99, 3), (9, .ifCond .eq 53, 3), (12, .iload_n 2, 1), (13, .i2l, 1), (14, .lconst 0, 1), (15, .ldc2_w 293, 3), (18, .invokestatic 99, 3), (21, .ifCond .eq 41, 3), (24, .iload_n 3, 1), (25, .i2l, 1), (26, .lconst 0, 1), (27, .ldc2_w 293, 3), (30, .invokestatic 99, 3), (33, .ifCond .eq 29, 3), (36, .iload 4, 2), (38, .i2l, 1), (39, .lconst 0, 1), (40, .ldc2_w 295, 3), (43, .invokestatic 99, 3), (46, .ifCond .eq 16, 3), (49, .iload 5, 2), (51, .i2l, 1), (52, .lconst 0, 1), (53, .iload 4, 2), (55, .i2l, 1), (56, .invokestatic 99, 3), (59, .ifCond .ne 6, 3), (62, .ldc 105, 2), (64, .ireturn, 1), (65, .iload_n 1, 1), (66, .iload_n 2, 1), (67, .iload 4, 2), (69, .iload 5, 2), (71, .invokestatic 297, 3), (74, .lstore 6, 2), (76, .bipush 100, 2), (78, .iload_n 1, 1), (79, .isub, 1), (80, .iload_n 3, 1), (81, .iload 4, 2), (83, .iload 5, 2), (85, .invokestatic 297, 3), (88, .lstore 8, 2), (90, .lload 6, 2), (92, .lload 8, 2), (94, .ladd, 1), (95, .lconst 0, 1), (96, .lcmp, 1), (97, .ifCond .ne 7, 3), (100, .iconst 0, 1), (101, .goto 16, 3), (104, .lload 6, 2), (106, .ldc2_w 301, 3), (109, .lmul, 1), (110, .lload 6, 2), (112, .lload 8, 2)]
theorem tk_X6_isFalse : am_tbl prog_8_method_56_code tb_X6_isFalse = true := by decide +kernel
def tb_X6_isFalse_1 : List (Nat × Instr × Nat) := [(114, .ladd, 1), (115, .ldiv, 1), (116, .l2i, 1), (117, .ireturn, 1)]
theorem tk_X6_isFalse_1 : am_tbl prog_8_method_56_code tb_X6_isFalse_1 = true := by decide +kernel
def f_X6_isFalse (x1 : Int32) (x2 : Int32) (x3 : Int32) (x4 : Int32) (x5 : Int32) (D : am_M) : Option (Int32 × am_M) := if (f_X6_in x1.toInt64 0 100) = 0 then some ((-1000000002), D) else if (f_X6_in x2.toInt64 0 100) = 0 then some ((-1000000002), D) else if (f_X6_in x3.toInt64 0 100) = 0 then some ((-1000000002), D) else if (f_X6_in x4.toInt64 0 9) = 0 then some ((-1000000002), D) else if (f_X6_in x5.toInt64 0 x4.toInt64) = 0 then some ((-1000000002), D) else (f_X6_tested x1 x2 x4 x5 D).bind fun q71 => (f_X6_tested (100 - x1) x3 x4 x5 q71.2).bind fun q85 => if (lg_cmp (q71.1 + q85.1) 0) = 0 then some (0, q85.2) else if (q71.1 + q85.1) = 0 then none else some (((q71.1 * 1000000) / (q71.1 + q85.1)).toInt32, q85.2)
theorem ct_X6_isFalse {l : Launch} {tw : Nat} {tp : Bool}  {x1 : Int32} {x2 : Int32} {x3 : Int32} {x4 : Int32} {x5 : Int32} {r : Int32} {D D' : am_M} (h : f_X6_isFalse x1 x2 x3 x4 x5 D = some (r, D')) : am_CT l m_X6_isFalse false [.ref 56, .int x1, .int x2, .int x3, .int x4, .int x5] (ly tw tp D) (am_is (some (.int r)) (ly tw tp D')) := by
  have hΦ : am_is (some (.int r)) (ly tw tp D') (some (.int r)) (ly tw tp D') := ⟨rfl, rfl⟩
  refine am_CT.of (by decide) (Nat.le_of_ble_eq_true rfl) ?_
  show am_Ex _ _ _ 0 [(0, .ref 56), (1, .int x1), (2, .int x2), (3, .int x3), (4, .int x4), (5, .int x5)] [] _
  rw [f_X6_isFalse] at h
  refine am_iload_n (j := 1) (am_dk tk_X6_isFalse 0 rfl) rfl rfl ?_
  refine am_i2l (am_dk tk_X6_isFalse 1 rfl) ?_
  refine am_lconst (v := 0) (am_dk tk_X6_isFalse 2 rfl) (by decide) ?_
  refine am_ldc2 kl_X6_293 (am_dk tk_X6_isFalse 3 rfl) ?_
  refine am_cS (M := m_X6_in) (As := [.long x1.toInt64, .long 0, .long 100]) (st := []) (ct_X6_in _ _ _ _) ml_X6_99 ld_X6_in rfl ⟨Nat.le_of_ble_eq_true rfl, Nat.le_of_ble_eq_true rfl⟩ (Nat.le_of_ble_eq_true rfl) ⟨rfl, rfl⟩ ⟨Nat.le_of_ble_eq_true rfl, Nat.le_of_ble_eq_true rfl⟩ (am_dk tk_X6_isFalse 4 rfl) (am_kki ?_)
  refine am_if_eq (tgt := 62) (am_dk tk_X6_isFalse 5 rfl) (by decide) (fun hc9 => ?_) (fun hc9 => ?_)
  · rw [if_pos hc9] at h
    refine am_ldc kc_X6_105 (am_dk tk_X6_isFalse 31 rfl) ?_
    exact am_iret rfl (am_r2 h hΦ) ⟨Nat.le_of_ble_eq_true rfl, Nat.le_of_ble_eq_true rfl⟩ (am_dk tk_X6_isFalse 32 rfl)
  · rw [if_neg hc9] at h
    refine am_iload_n (j := 2) (am_dk tk_X6_isFalse 6 rfl) rfl rfl ?_
    refine am_i2l (am_dk tk_X6_isFalse 7 rfl) ?_
    refine am_lconst (v := 0) (am_dk tk_X6_isFalse 8 rfl) (by decide) ?_
    refine am_ldc2 kl_X6_293 (am_dk tk_X6_isFalse 9 rfl) ?_
    refine am_cS (M := m_X6_in) (As := [.long x2.toInt64, .long 0, .long 100]) (st := []) (ct_X6_in _ _ _ _) ml_X6_99 ld_X6_in rfl ⟨Nat.le_of_ble_eq_true rfl, Nat.le_of_ble_eq_true rfl⟩ (Nat.le_of_ble_eq_true rfl) ⟨rfl, rfl⟩ ⟨Nat.le_of_ble_eq_true rfl, Nat.le_of_ble_eq_true rfl⟩ (am_dk tk_X6_isFalse 10 rfl) (am_kki ?_)
    refine am_if_eq (tgt := 62) (am_dk tk_X6_isFalse 11 rfl) (by decide) (fun hc21 => ?_) (fun hc21 => ?_)
    · rw [if_pos hc21] at h
      refine am_ldc kc_X6_105 (am_dk tk_X6_isFalse 31 rfl) ?_
      exact am_iret rfl (am_r2 h hΦ) ⟨Nat.le_of_ble_eq_true rfl, Nat.le_of_ble_eq_true rfl⟩ (am_dk tk_X6_isFalse 32 rfl)
    · rw [if_neg hc21] at h
      refine am_iload_n (j := 3) (am_dk tk_X6_isFalse 12 rfl) rfl rfl ?_
      refine am_i2l (am_dk tk_X6_isFalse 13 rfl) ?_
      refine am_lconst (v := 0) (am_dk tk_X6_isFalse 14 rfl) (by decide) ?_
      refine am_ldc2 kl_X6_293 (am_dk tk_X6_isFalse 15 rfl) ?_
      refine am_cS (M := m_X6_in) (As := [.long x3.toInt64, .long 0, .long 100]) (st := []) (ct_X6_in _ _ _ _) ml_X6_99 ld_X6_in rfl ⟨Nat.le_of_ble_eq_true rfl, Nat.le_of_ble_eq_true rfl⟩ (Nat.le_of_ble_eq_true rfl) ⟨rfl, rfl⟩ ⟨Nat.le_of_ble_eq_true rfl, Nat.le_of_ble_eq_true rfl⟩ (am_dk tk_X6_isFalse 16 rfl) (am_kki ?_)
      refine am_if_eq (tgt := 62) (am_dk tk_X6_isFalse 17 rfl) (by decide) (fun hc33 => ?_) (fun hc33 => ?_)
      · rw [if_pos hc33] at h
        refine am_ldc kc_X6_105 (am_dk tk_X6_isFalse 31 rfl) ?_
        exact am_iret rfl (am_r2 h hΦ) ⟨Nat.le_of_ble_eq_true rfl, Nat.le_of_ble_eq_true rfl⟩ (am_dk tk_X6_isFalse 32 rfl)
      · rw [if_neg hc33] at h
        refine am_iload (j := 4) (am_dk tk_X6_isFalse 18 rfl) rfl ?_
        refine am_i2l (am_dk tk_X6_isFalse 19 rfl) ?_
        refine am_lconst (v := 0) (am_dk tk_X6_isFalse 20 rfl) (by decide) ?_
        refine am_ldc2 kl_X6_295 (am_dk tk_X6_isFalse 21 rfl) ?_
        refine am_cS (M := m_X6_in) (As := [.long x4.toInt64, .long 0, .long 9]) (st := []) (ct_X6_in _ _ _ _) ml_X6_99 ld_X6_in rfl ⟨Nat.le_of_ble_eq_true rfl, Nat.le_of_ble_eq_true rfl⟩ (Nat.le_of_ble_eq_true rfl) ⟨rfl, rfl⟩ ⟨Nat.le_of_ble_eq_true rfl, Nat.le_of_ble_eq_true rfl⟩ (am_dk tk_X6_isFalse 22 rfl) (am_kki ?_)
        refine am_if_eq (tgt := 62) (am_dk tk_X6_isFalse 23 rfl) (by decide) (fun hc46 => ?_) (fun hc46 => ?_)
        · rw [if_pos hc46] at h
          refine am_ldc kc_X6_105 (am_dk tk_X6_isFalse 31 rfl) ?_
          exact am_iret rfl (am_r2 h hΦ) ⟨Nat.le_of_ble_eq_true rfl, Nat.le_of_ble_eq_true rfl⟩ (am_dk tk_X6_isFalse 32 rfl)
        · rw [if_neg hc46] at h
          refine am_iload (j := 5) (am_dk tk_X6_isFalse 24 rfl) rfl ?_
          refine am_i2l (am_dk tk_X6_isFalse 25 rfl) ?_
          refine am_lconst (v := 0) (am_dk tk_X6_isFalse 26 rfl) (by decide) ?_
          refine am_iload (j := 4) (am_dk tk_X6_isFalse 27 rfl) rfl ?_
          refine am_i2l (am_dk tk_X6_isFalse 28 rfl) ?_
          refine am_cS (M := m_X6_in) (As := [.long x5.toInt64, .long 0, .long x4.toInt64]) (st := []) (ct_X6_in _ _ _ _) ml_X6_99 ld_X6_in rfl ⟨Nat.le_of_ble_eq_true rfl, Nat.le_of_ble_eq_true rfl⟩ (Nat.le_of_ble_eq_true rfl) ⟨rfl, rfl⟩ ⟨Nat.le_of_ble_eq_true rfl, Nat.le_of_ble_eq_true rfl⟩ (am_dk tk_X6_isFalse 29 rfl) (am_kki ?_)
          refine am_if_ne (tgt := 65) (am_dk tk_X6_isFalse 30 rfl) (by decide) (fun hc59 => ?_) (fun hc59 => ?_)
          · rw [if_neg hc59] at h
            refine am_iload_n (j := 1) (am_dk tk_X6_isFalse 33 rfl) rfl rfl ?_
            refine am_iload_n (j := 2) (am_dk tk_X6_isFalse 34 rfl) rfl rfl ?_
            refine am_iload (j := 4) (am_dk tk_X6_isFalse 35 rfl) rfl ?_
            refine am_iload (j := 5) (am_dk tk_X6_isFalse 36 rfl) rfl ?_
            obtain ⟨q71, hq71, h⟩ := am_bind h
            refine am_cS (M := m_X6_tested) (As := [.int x1, .int x2, .int x4, .int x5]) (st := []) (ct_X6_tested hq71) ml_X6_297 ld_X6_tested rfl ⟨Nat.le_of_ble_eq_true rfl, Nat.le_of_ble_eq_true rfl⟩ (Nat.le_of_ble_eq_true rfl) ⟨rfl, rfl⟩ ⟨Nat.le_of_ble_eq_true rfl, Nat.le_of_ble_eq_true rfl⟩ (am_dk tk_X6_isFalse 37 rfl) (am_kkl ?_)
            refine am_lstore (L' := [(6, .long q71.1), (0, .ref 56), (1, .int x1), (2, .int x2), (3, .int x3), (4, .int x4), (5, .int x5)]) (am_dk tk_X6_isFalse 38 rfl) (Nat.le_of_ble_eq_true rfl) rfl ?_
            refine am_bipush (v := 100) (am_dk tk_X6_isFalse 39 rfl) (by decide) ?_
            refine am_iload_n (j := 2) (am_dk tk_X6_isFalse 40 rfl) rfl rfl ?_
            refine am_isub (am_dk tk_X6_isFalse 41 rfl) ?_
            refine am_iload_n (j := 4) (am_dk tk_X6_isFalse 42 rfl) rfl rfl ?_
            refine am_iload (j := 5) (am_dk tk_X6_isFalse 43 rfl) rfl ?_
            refine am_iload (j := 6) (am_dk tk_X6_isFalse 44 rfl) rfl ?_
            obtain ⟨q85, hq85, h⟩ := am_bind h
            refine am_cS (M := m_X6_tested) (As := [.int (100 - x1), .int x3, .int x4, .int x5]) (st := []) (ct_X6_tested hq85) ml_X6_297 ld_X6_tested rfl ⟨Nat.le_of_ble_eq_true rfl, Nat.le_of_ble_eq_true rfl⟩ (Nat.le_of_ble_eq_true rfl) ⟨rfl, rfl⟩ ⟨Nat.le_of_ble_eq_true rfl, Nat.le_of_ble_eq_true rfl⟩ (am_dk tk_X6_isFalse 45 rfl) (am_kkl ?_)
            refine am_lstore (L' := [(8, .long q85.1), (6, .long q71.1), (0, .ref 56), (1, .int x1), (2, .int x2), (3, .int x3), (4, .int x4), (5, .int x5)]) (am_dk tk_X6_isFalse 46 rfl) (Nat.le_of_ble_eq_true rfl) rfl ?_
            refine am_lload (j := 1) (am_dk tk_X6_isFalse 47 rfl) rfl ?_
            refine am_lload (j := 0) (am_dk tk_X6_isFalse 48 rfl) rfl ?_
            refine am_ladd (am_dk tk_X6_isFalse 49 rfl) ?_
            refine am_lconst (v := 0) (am_dk tk_X6_isFalse 50 rfl) (by decide) ?_
            refine am_lcmp (am_dk tk_X6_isFalse 51 rfl) ?_
            refine am_if_ne (tgt := 104) (am_dk tk_X6_isFalse 52 rfl) (by decide) (fun hc97 => ?_) (fun hc97 => ?_)
            · rw [if_neg hc97] at h
              refine am_lload (j := 1) (am_dk tk_X6_isFalse 55 rfl) rfl ?_
              refine am_ldc2 kl_X6_301 (am_dk tk_X6_isFalse 56 rfl) ?_
              refine am_lmul (am_dk tk_X6_isFalse 57 rfl) ?_
              refine am_lload (j := 1) (am_dk tk_X6_isFalse 58 rfl) rfl ?_
              refine am_lload (j := 0) (am_dk tk_X6_isFalse 59 rfl) rfl ?_
              refine am_ladd (am_dk tk_X6_isFalse_1 0 rfl) ?_
              obtain ⟨hz115, h⟩ := am_chn h
              refine am_ldiv (am_dk tk_X6_isFalse_1 1 rfl) hz115 ?_
              refine am_l2i (am_dk tk_X6_isFalse_1 2 rfl) ?_
              exact am_iret rfl (am_r2 h hΦ) ⟨Nat.le_of_ble_eq_true rfl, Nat.le_of_ble_eq_true rfl⟩ (am_dk tk_X6_isFalse_1 3 rfl)
            · rw [if_pos hc97] at h
              refine am_iconst (v := 0) (am_dk tk_X6_isFalse 53 rfl) (by decide) ?_
              refine am_goto (tgt := 117) (am_dk tk_X6_isFalse 54 rfl) (by decide) ?_
              exact am_iret rfl (am_r2 h hΦ) ⟨Nat.le_of_ble_eq_true rfl, Nat.le_of_ble_eq_true rfl⟩ (am_dk tk_X6_isFalse_1 3 rfl)
          · rw [if_pos hc59] at h
            refine am_ldc kc_X6_105 (am_dk tk_X6_isFalse 31 rfl) ?_
            exact am_iret rfl (am_r2 h hΦ) ⟨Nat.le_of_ble_eq_true rfl, Nat.le_of_ble_eq_true rfl⟩ (am_dk tk_X6_isFalse 32 rfl)
abbrev m_X6_prices : am_D := (yX6_prices, prog_8_method_57_code, 8, (some .int), { frames := 1, cells := 0, slots := 0, locals := 25 })
theorem ld_X6_prices : am_LD m_X6_prices 4 := ⟨(am_tb 85 (by decide +kernel) (by decide +kernel)), (am_tb 1199 (by decide +kernel) (by decide +kernel)), by decide, by decide, by decide +kernel⟩
def tb_X6_prices : List (Nat × Instr × Nat) := [(0, .iload_n 1, 1), (1, .i2l, 1), (2, .lconst 0, 1), (3, .ldc2_w 303, 3), (6, .invokestatic 99, 3), (9, .ifCond .eq 38, 3), (12, .iload_n 2, 1), (13, .i2l, 1), (14, .lconst 0, 1), (15, .ldc2_w 305, 3), (18, .invokestatic 99, 3), (21, .ifCond .eq 26, 3), (24, .iload_n 3, 1), (25, .i2l, 1), (26, .lconst 0, 1), (27, .ldc2_w 307, 3), (30, .invokestatic 99, 3), (33, .ifCond .eq 14, 3), (36, .iload 4, 2), (38, .i2l, 1), (39, .lconst 0, 1), (40, .lconst 1, 1), (41, .invokestatic 99, 3), (44, .ifCond .ne 6, 3), (47, .ldc 105, 2), (49, .ireturn, 1), (50, .iload_n 1, 1), (51, .istore 5, 2), (53, .iconst 0, 1), (54, .istore 6, 2), (56, .iload 6, 2), (58, .sipush 500, 3), (61, .if_icmp .gt 54, 3), (64, .iload 5, 2), (66, .iload_n 2, 1), (67, .imul, 1), (68, .bipush 100, 2), (70, .idiv, 1), (71, .iload_n 3, 1), (72, .iadd, 1), (73, .istore 7, 2), (75, .iload 7, 2), (77, .iload 5, 2), (79, .if_icmp .ne 16, 3), (82, .iload 4, 2), (84, .ifCond .ne 8, 3), (87, .iload 6, 2), (89, .goto 5, 3), (92, .iload 5, 2), (94, .ireturn, 1), (95, .iload 7, 2), (97, .ldc_w 309, 3), (100, .if_icmp .le 5, 3), (103, .iconst (-1), 1), (104, .ireturn, 1), (105, .iload 7, 2), (107, .istore 5, 2), (109, .iinc 6 1, 3), (112, .goto (-56), 3), (115, .iconst (-1), 1)]
theorem tk_X6_prices : am_tbl prog_8_method_57_code tb_X6_prices = true := by decide +kernel
def tb_X6_prices_1 : List (Nat × Instr × Nat) := [(116, .ireturn, 1)]
theorem tk_X6_prices_1 : am_tbl prog_8_method_57_code tb_X6_prices_1 = true := by decide +kernel
def b_X6_prices_56 : Nat → Int32 → Int32 → Int32 → Int32 → Int32 → am_M → Option (Int32 × am_M)
  | 0, _, _, _, _, _, _ => none
  | n + 1, x2, x3, x4, x5, x6, D => if 500 < x6 then some ((-1), D) else if (((x5 * x2) / 100) + x3) = x5 then if x4 = 0 then some (x6, D) else some (x5, D) else if (((x5 * x2) / 100) + x3) ≤ 99999 then b_X6_prices_56 n x2 x3 x4 (((x5 * x2) / 100) + x3) (x6 + 1) D else some ((-1), D)
def f_X6_prices (x1 : Int32) (x2 : Int32) (x3 : Int32) (x4 : Int32) (D : am_M) : Option (Int32 × am_M) := if (f_X6_in x1.toInt64 0 9999) = 0 then some ((-1000000002), D) else if (f_X6_in x2.toInt64 0 300) = 0 then some ((-1000000002), D) else if (f_X6_in x3.toInt64 0 99) = 0 then some ((-1000000002), D) else if (f_X6_in x4.toInt64 0 1) = 0 then some ((-1000000002), D) else b_X6_prices_56 am_N x2 x3 x4 x1 0 D
theorem bx_X6_prices_56 {l : Launch} {h0 : am_H} {Φ : am_Ph} {tw : Nat} {tp : Bool}  {r : Int32} {D' : am_M} (hΦ : Φ (some (.int r)) (ly tw tp D')) : ∀ (n : Nat) (x2 : Int32) (x3 : Int32) (x4 : Int32) (x5 : Int32) (x6 : Int32) (D : am_M), b_X6_prices_56 n x2 x3 x4 x5 x6 D = some (r, D') → am_Ex (am_E l m_X6_prices false h0 Φ) prog_8_method_57_code (0, 0) 56 [(2, .int x2), (3, .int x3), (4, .int x4), (5, .int x5), (6, .int x6)] [] (ly tw tp D) := by
  intro n
  induction n with
  | zero =>
    intro x2 x3 x4 x5 x6 D h
    exact absurd h (by simp [b_X6_prices_56])
  | succ n ih =>
    intro x2 x3 x4 x5 x6 D h
    rw [b_X6_prices_56] at h
    refine am_iload (j := 4) (am_dk tk_X6_prices 30 rfl) rfl ?_
    refine am_sipush (v := 500) (am_dk tk_X6_prices 31 rfl) (by decide) ?_
    refine am_icmp_gt (tgt := 115) (am_dk tk_X6_prices 32 rfl) (by decide) (fun hc61 => ?_) (fun hc61 => ?_)
    · rw [if_pos hc61] at h
      refine am_iconst (v := (-1)) (am_dk tk_X6_prices 59 rfl) (by decide) ?_
      exact am_iret rfl (am_r2 h hΦ) ⟨Nat.le_of_ble_eq_true rfl, Nat.le_of_ble_eq_true rfl⟩ (am_dk tk_X6_prices_1 0 rfl)
    · rw [if_neg hc61] at h
      refine am_iload (j := 3) (am_dk tk_X6_prices 33 rfl) rfl ?_
      refine am_iload_n (j := 0) (am_dk tk_X6_prices 34 rfl) rfl rfl ?_
      refine am_imul (am_dk tk_X6_prices 35 rfl) ?_
      refine am_bipush (v := 100) (am_dk tk_X6_prices 36 rfl) (by decide) ?_
      refine am_idiv (am_dk tk_X6_prices 37 rfl) (by decide) ?_
      refine am_iload_n (j := 1) (am_dk tk_X6_prices 38 rfl) rfl rfl ?_
      refine am_iadd (am_dk tk_X6_prices 39 rfl) ?_
      refine am_istore (L' := [(7, .int (((x5 * x2) / 100) + x3)), (2, .int x2), (3, .int x3), (4, .int x4), (5, .int x5), (6, .int x6)]) (am_dk tk_X6_prices 40 rfl) (Nat.le_of_ble_eq_true rfl) rfl ?_
      refine am_iload (j := 0) (am_dk tk_X6_prices 41 rfl) rfl ?_
      refine am_iload (j := 4) (am_dk tk_X6_prices 42 rfl) rfl ?_
      refine am_icmp_ne (tgt := 95) (am_dk tk_X6_prices 43 rfl) (by decide) (fun hc79 => ?_) (fun hc79 => ?_)
      · rw [if_neg hc79] at h
        refine am_iload (j := 0) (am_dk tk_X6_prices 50 rfl) rfl ?_
        refine am_ldcw kc_X6_309 (am_dk tk_X6_prices 51 rfl) ?_
        refine am_icmp_le (tgt := 105) (am_dk tk_X6_prices 52 rfl) (by decide) (fun hc100 => ?_) (fun hc100 => ?_)
        · rw [if_pos hc100] at h
          refine am_iload (j := 0) (am_dk tk_X6_prices 55 rfl) rfl ?_
          refine am_istore (L' := [(5, .int (((x5 * x2) / 100) + x3)), (7, .int (((x5 * x2) / 100) + x3)), (2, .int x2), (3, .int x3), (4, .int x4), (6, .int x6)]) (am_dk tk_X6_prices 56 rfl) (Nat.le_of_ble_eq_true rfl) rfl ?_
          refine am_iinc (j := 5) (v := x6 + 1) (L' := [(6, .int (x6 + 1)), (5, .int (((x5 * x2) / 100) + x3)), (7, .int (((x5 * x2) / 100) + x3)), (2, .int x2), (3, .int x3), (4, .int x4)]) (am_dk tk_X6_prices 57 rfl) rfl rfl (Nat.le_of_ble_eq_true rfl) rfl ?_
          refine am_goto (tgt := 56) (am_dk tk_X6_prices 58 rfl) (by decide) ?_
          refine am_ls [3, 4, 5, 1, 0] rfl ?_
          exact ih _ _ _ _ _ _ h
        · rw [if_neg hc100] at h
          refine am_iconst (v := (-1)) (am_dk tk_X6_prices 53 rfl) (by decide) ?_
          exact am_iret rfl (am_r2 h hΦ) ⟨Nat.le_of_ble_eq_true rfl, Nat.le_of_ble_eq_true rfl⟩ (am_dk tk_X6_prices 54 rfl)
      · rw [if_pos hc79] at h
        refine am_iload (j := 3) (am_dk tk_X6_prices 44 rfl) rfl ?_
        refine am_if_ne (tgt := 92) (am_dk tk_X6_prices 45 rfl) (by decide) (fun hc84 => ?_) (fun hc84 => ?_)
        · rw [if_neg hc84] at h
          refine am_iload (j := 4) (am_dk tk_X6_prices 48 rfl) rfl ?_
          exact am_iret rfl (am_r2 h hΦ) ⟨Nat.le_of_ble_eq_true rfl, Nat.le_of_ble_eq_true rfl⟩ (am_dk tk_X6_prices 49 rfl)
        · rw [if_pos hc84] at h
          refine am_iload (j := 5) (am_dk tk_X6_prices 46 rfl) rfl ?_
          refine am_goto (tgt := 94) (am_dk tk_X6_prices 47 rfl) (by decide) ?_
          exact am_iret rfl (am_r2 h hΦ) ⟨Nat.le_of_ble_eq_true rfl, Nat.le_of_ble_eq_true rfl⟩ (am_dk tk_X6_prices 49 rfl)
theorem ct_X6_prices {l : Launch} {tw : Nat} {tp : Bool}  {x1 : Int32} {x2 : Int32} {x3 : Int32} {x4 : Int32} {r : Int32} {D D' : am_M} (h : f_X6_prices x1 x2 x3 x4 D = some (r, D')) : am_CT l m_X6_prices false [.ref 56, .int x1, .int x2, .int x3, .int x4] (ly tw tp D) (am_is (some (.int r)) (ly tw tp D')) := by
  have hΦ : am_is (some (.int r)) (ly tw tp D') (some (.int r)) (ly tw tp D') := ⟨rfl, rfl⟩
  refine am_CT.of (by decide) (Nat.le_of_ble_eq_true rfl) ?_
  show am_Ex _ _ _ 0 [(0, .ref 56), (1, .int x1), (2, .int x2), (3, .int x3), (4, .int x4)] [] _
  rw [f_X6_prices] at h
  refine am_iload_n (j := 1) (am_dk tk_X6_prices 0 rfl) rfl rfl ?_
  refine am_i2l (am_dk tk_X6_prices 1 rfl) ?_
  refine am_lconst (v := 0) (am_dk tk_X6_prices 2 rfl) (by decide) ?_
  refine am_ldc2 kl_X6_303 (am_dk tk_X6_prices 3 rfl) ?_
  refine am_cS (M := m_X6_in) (As := [.long x1.toInt64, .long 0, .long 9999]) (st := []) (ct_X6_in _ _ _ _) ml_X6_99 ld_X6_in rfl ⟨Nat.le_of_ble_eq_true rfl, Nat.le_of_ble_eq_true rfl⟩ (Nat.le_of_ble_eq_true rfl) ⟨rfl, rfl⟩ ⟨Nat.le_of_ble_eq_true rfl, Nat.le_of_ble_eq_true rfl⟩ (am_dk tk_X6_prices 4 rfl) (am_kki ?_)
  refine am_if_eq (tgt := 47) (am_dk tk_X6_prices 5 rfl) (by decide) (fun hc9 => ?_) (fun hc9 => ?_)
  · rw [if_pos hc9] at h
    refine am_ldc kc_X6_105 (am_dk tk_X6_prices 24 rfl) ?_
    exact am_iret rfl (am_r2 h hΦ) ⟨Nat.le_of_ble_eq_true rfl, Nat.le_of_ble_eq_true rfl⟩ (am_dk tk_X6_prices 25 rfl)
  · rw [if_neg hc9] at h
    refine am_iload_n (j := 2) (am_dk tk_X6_prices 6 rfl) rfl rfl ?_
    refine am_i2l (am_dk tk_X6_prices 7 rfl) ?_
    refine am_lconst (v := 0) (am_dk tk_X6_prices 8 rfl) (by decide) ?_
    refine am_ldc2 kl_X6_305 (am_dk tk_X6_prices 9 rfl) ?_
    refine am_cS (M := m_X6_in) (As := [.long x2.toInt64, .long 0, .long 300]) (st := []) (ct_X6_in _ _ _ _) ml_X6_99 ld_X6_in rfl ⟨Nat.le_of_ble_eq_true rfl, Nat.le_of_ble_eq_true rfl⟩ (Nat.le_of_ble_eq_true rfl) ⟨rfl, rfl⟩ ⟨Nat.le_of_ble_eq_true rfl, Nat.le_of_ble_eq_true rfl⟩ (am_dk tk_X6_prices 10 rfl) (am_kki ?_)
    refine am_if_eq (tgt := 47) (am_dk tk_X6_prices 11 rfl) (by decide) (fun hc21 => ?_) (fun hc21 => ?_)
    · rw [if_pos hc21] at h
      refine am_ldc kc_X6_105 (am_dk tk_X6_prices 24 rfl) ?_
      exact am_iret rfl (am_r2 h hΦ) ⟨Nat.le_of_ble_eq_true rfl, Nat.le_of_ble_eq_true rfl⟩ (am_dk tk_X6_prices 25 rfl)
    · rw [if_neg hc21] at h
      refine am_iload_n (j := 3) (am_dk tk_X6_prices 12 rfl) rfl rfl ?_
      refine am_i2l (am_dk tk_X6_prices 13 rfl) ?_
      refine am_lconst (v := 0) (am_dk tk_X6_prices 14 rfl) (by decide) ?_
      refine am_ldc2 kl_X6_307 (am_dk tk_X6_prices 15 rfl) ?_
      refine am_cS (M := m_X6_in) (As := [.long x3.toInt64, .long 0, .long 99]) (st := []) (ct_X6_in _ _ _ _) ml_X6_99 ld_X6_in rfl ⟨Nat.le_of_ble_eq_true rfl, Nat.le_of_ble_eq_true rfl⟩ (Nat.le_of_ble_eq_true rfl) ⟨rfl, rfl⟩ ⟨Nat.le_of_ble_eq_true rfl, Nat.le_of_ble_eq_true rfl⟩ (am_dk tk_X6_prices 16 rfl) (am_kki ?_)
      refine am_if_eq (tgt := 47) (am_dk tk_X6_prices 17 rfl) (by decide) (fun hc33 => ?_) (fun hc33 => ?_)
      · rw [if_pos hc33] at h
        refine am_ldc kc_X6_105 (am_dk tk_X6_prices 24 rfl) ?_
        exact am_iret rfl (am_r2 h hΦ) ⟨Nat.le_of_ble_eq_true rfl, Nat.le_of_ble_eq_true rfl⟩ (am_dk tk_X6_prices 25 rfl)
      · rw [if_neg hc33] at h
        refine am_iload (j := 4) (am_dk tk_X6_prices 18 rfl) rfl ?_
        refine am_i2l (am_dk tk_X6_prices 19 rfl) ?_
        refine am_lconst (v := 0) (am_dk tk_X6_prices 20 rfl) (by decide) ?_
        refine am_lconst (v := 1) (am_dk tk_X6_prices 21 rfl) (by decide) ?_
        refine am_cS (M := m_X6_in) (As := [.long x4.toInt64, .long 0, .long 1]) (st := []) (ct_X6_in _ _ _ _) ml_X6_99 ld_X6_in rfl ⟨Nat.le_of_ble_eq_true rfl, Nat.le_of_ble_eq_true rfl⟩ (Nat.le_of_ble_eq_true rfl) ⟨rfl, rfl⟩ ⟨Nat.le_of_ble_eq_true rfl, Nat.le_of_ble_eq_true rfl⟩ (am_dk tk_X6_prices 22 rfl) (am_kki ?_)
        refine am_if_ne (tgt := 50) (am_dk tk_X6_prices 23 rfl) (by decide) (fun hc44 => ?_) (fun hc44 => ?_)
        · rw [if_neg hc44] at h
          refine am_iload_n (j := 1) (am_dk tk_X6_prices 26 rfl) rfl rfl ?_
          refine am_istore (L' := [(5, .int x1), (0, .ref 56), (1, .int x1), (2, .int x2), (3, .int x3), (4, .int x4)]) (am_dk tk_X6_prices 27 rfl) (Nat.le_of_ble_eq_true rfl) rfl ?_
          refine am_iconst (v := 0) (am_dk tk_X6_prices 28 rfl) (by decide) ?_
          refine am_istore (L' := [(6, .int 0), (5, .int x1), (0, .ref 56), (1, .int x1), (2, .int x2), (3, .int x3), (4, .int x4)]) (am_dk tk_X6_prices 29 rfl) (Nat.le_of_ble_eq_true rfl) rfl ?_
          refine am_ls [4, 5, 6, 1, 0] rfl ?_
          exact bx_X6_prices_56  hΦ am_N _ _ _ _ _ _ h
        · rw [if_pos hc44] at h
          refine am_ldc kc_X6_105 (am_dk tk_X6_prices 24 rfl) ?_
          exact am_iret rfl (am_r2 h hΦ) ⟨Nat.le_of_ble_eq_true rfl, Nat.le_of_ble_eq_true rfl⟩ (am_dk tk_X6_prices 25 rfl)
abbrev m_X6_robbed : am_D := (yX6_robbed, prog_8_method_58_code, 10, (some .int), { frames := 1, cells := 0, slots := 0, locals := 25 })
theorem ld_X6_robbed : am_LD m_X6_robbed 3 := ⟨(am_tb 85 (by decide +kernel) (by decide +kernel)), (am_tb 1207 (by decide +kernel) (by decide +kernel)), by decide, by decide, by decide +kernel⟩
def tb_X6_robbed : List (Nat × Instr × Nat) := [(0, .iload_n 1, 1), (1, .i2l, 1), (2, .lconst 0, 1), (3, .iconst 1, 1), (4, .aload_n 0, 1), (5, .getfield 96, 3), (8, .ishl, 1), (9, .iconst 1, 1), (10, .isub, 1), (11, .i2l, 1), (12, .invokestatic 99, 3), (15, .ifCond .ne 6, 3), (18, .ldc 201, 2), (20, .ireturn, 1), (21, .iload_n 2, 1), (22, .i2l, 1), (23, .lconst 0, 1), (24, .ldc2_w 237, 3), (27, .invokestatic 99, 3), (30, .ifCond .eq 15, 3), (33, .iload_n 3, 1), (34, .i2l, 1), (35, .lconst 0, 1), (36, .ldc2_w 239, 3), (39, .invokestatic 99, 3), (42, .ifCond .ne 6, 3), (45, .ldc 105, 2), (47, .ireturn, 1), (48, .iconst 0, 1), (49, .istore 4, 2), (51, .iconst (-1), 1), (52, .istore 5, 2), (54, .iconst 1, 1), (55, .aload_n 0, 1), (56, .getfield 96, 3), (59, .ishl, 1), (60, .iconst 1, 1), (61, .isub, 1), (62, .istore 6, 2), (64, .iconst 0, 1), (65, .istore 7, 2), (67, .iload 7, 2), (69, .iconst 1, 1), (70, .aload_n 0, 1), (71, .getfield 96, 3), (74, .ishl, 1), (75, .if_icmp .ge 95, 3), (78, .iconst 0, 1), (79, .istore 8, 2), (81, .iconst 0, 1), (82, .istore 9, 2), (84, .iload 9, 2), (86, .aload_n 0, 1), (87, .getfield 96, 3), (90, .if_icmp .ge 35, 3), (93, .iload 8, 2), (95, .iload 7, 2), (97, .iload 9, 2), (99, .invokestatic 154, 3), (102, .ifCond .eq 13, 3)]
theorem tk_X6_robbed : am_tbl prog_8_method_58_code tb_X6_robbed = true := by decide +kernel
def tb_X6_robbed_1 : List (Nat × Instr × Nat) := [(105, .aload_n 0, 1), (106, .getfield 7, 3), (109, .iload 9, 2), (111, .iaload, 1), (112, .goto 4, 3), (115, .iconst 0, 1), (116, .iadd, 1), (117, .istore 8, 2), (119, .iinc 9 1, 3), (122, .goto (-38), 3), (125, .iload 8, 2), (127, .iload_n 2, 1), (128, .if_icmp .ne 36, 3), (131, .iload_n 1, 1), (132, .iload 7, 2), (134, .iconst (-1), 1), (135, .ixor, 1), (136, .iand, 1), (137, .ifCond .ne 27, 3), (140, .iload 4, 2), (142, .ifCond .ne 8, 3), (145, .iload 7, 2), (147, .goto 5, 3), (150, .iload 5, 2), (152, .istore 5, 2), (154, .iload 6, 2), (156, .iload 7, 2), (158, .iand, 1), (159, .istore 6, 2), (161, .iinc 4 1, 3), (164, .iinc 7 1, 3), (167, .goto (-100), 3), (170, .iload_n 3, 1), (171, .ifCond .ne 8, 3), (174, .iload 4, 2), (176, .goto 24, 3), (179, .iload_n 3, 1), (180, .iconst 1, 1), (181, .if_icmp .ne 8, 3), (184, .iload 5, 2), (186, .goto 14, 3), (189, .iload 4, 2), (191, .ifCond .ne 7, 3), (194, .iconst 0, 1), (195, .goto 5, 3), (198, .iload 6, 2), (200, .ireturn, 1)]
theorem tk_X6_robbed_1 : am_tbl prog_8_method_58_code tb_X6_robbed_1 = true := by decide +kernel
def b_X6_robbed_152 (k67 : Int32 → Int32 → Int32 → Int32 → Int32 → Int32 → Int32 → am_M → Option (Int32 × am_M)) (x1 : Int32) (x2 : Int32) (x3 : Int32) (x4 : Int32) (x6 : Int32) (x7 : Int32) (s0 : Int32) (D : am_M) : Option (Int32 × am_M) := k67 x1 x2 x3 (x4 + 1) s0 (x6 &&& x7) (x7 + 1) D
def b_X6_robbed_84 (k67 : Int32 → Int32 → Int32 → Int32 → Int32 → Int32 → Int32 → am_M → Option (Int32 × am_M)) : Nat → Int32 → Int32 → Int32 → Int32 → Int32 → Int32 → Int32 → Int32 → Int32 → am_M → Option (Int32 × am_M)
  | 0, _, _, _, _, _, _, _, _, _, _ => none
  | n + 1, x1, x2, x3, x4, x5, x6, x7, x8, x9, D => if (D 56 3) ≤ x9 then if x8 = x2 then if (x1 &&& (x7 ^^^ (-1))) = 0 then b_X6_robbed_152 k67 x1 x2 x3 x4 x6 x7 (if x4 = 0 then x7 else x5) D else k67 x1 x2 x3 x4 x5 x6 (x7 + 1) D else k67 x1 x2 x3 x4 x5 x6 (x7 + 1) D else if (f_X6_has x7 x9) = 0 then b_X6_robbed_84 k67 n x1 x2 x3 x4 x5 x6 x7 (x8 + 0) (x9 + 1) D else if am_in x9 5 = true then b_X6_robbed_84 k67 n x1 x2 x3 x4 x5 x6 x7 (x8 + (D 57 x9.toNatClampNeg)) (x9 + 1) D else none
def b_X6_robbed_67 : Nat → Int32 → Int32 → Int32 → Int32 → Int32 → Int32 → Int32 → am_M → Option (Int32 × am_M)
  | 0, _, _, _, _, _, _, _, _ => none
  | n + 1, x1, x2, x3, x4, x5, x6, x7, D => if (1 <<< ((D 56 3) &&& 31)) ≤ x7 then if x3 = 0 then some (x4, D) else if x3 = 1 then some (x5, D) else if x4 = 0 then some (0, D) else some (x6, D) else b_X6_robbed_84 (b_X6_robbed_67 n) am_N x1 x2 x3 x4 x5 x6 x7 0 0 D
def f_X6_robbed (x1 : Int32) (x2 : Int32) (x3 : Int32) (D : am_M) : Option (Int32 × am_M) := if (f_X6_in x1.toInt64 0 (((1 <<< ((D 56 3) &&& 31)) - 1).toInt64)) = 0 then some ((-1000000001), D) else if (f_X6_in x2.toInt64 0 999) = 0 then some ((-1000000002), D) else if (f_X6_in x3.toInt64 0 2) = 0 then some ((-1000000002), D) else b_X6_robbed_67 am_N x1 x2 x3 0 (-1) ((1 <<< ((D 56 3) &&& 31)) - 1) 0 D
theorem bx_X6_robbed_152 {l : Launch} {h0 : am_H} {Φ : am_Ph} {tw : Nat} {tp : Bool}  {r : Int32} {D' : am_M} (hΦ : Φ (some (.int r)) (ly tw tp D')) {k67 : Int32 → Int32 → Int32 → Int32 → Int32 → Int32 → Int32 → am_M → Option (Int32 × am_M)} (hk67 : ∀ (x1 : Int32) (x2 : Int32) (x3 : Int32) (x4 : Int32) (x5 : Int32) (x6 : Int32) (x7 : Int32) (D : am_M), k67 x1 x2 x3 x4 x5 x6 x7 D = some (r, D') → am_Ex (am_E l m_X6_robbed false h0 Φ) prog_8_method_58_code (0, 0) 67 [(0, .ref 56), (1, .int x1), (2, .int x2), (3, .int x3), (4, .int x4), (5, .int x5), (6, .int x6), (7, .int x7)] [] (ly tw tp D)) : ∀ (x1 : Int32) (x2 : Int32) (x3 : Int32) (x4 : Int32) (x6 : Int32) (x7 : Int32) (s0 : Int32) (D : am_M), b_X6_robbed_152 k67 x1 x2 x3 x4 x6 x7 s0 D = some (r, D') → am_Ex (am_E l m_X6_robbed false h0 Φ) prog_8_method_58_code (0, 0) 152 [(0, .ref 56), (1, .int x1), (2, .int x2), (3, .int x3), (4, .int x4), (6, .int x6), (7, .int x7)] [.int s0] (ly tw tp D) := by
  intro x1 x2 x3 x4 x6 x7 s0 D h
  rw [b_X6_robbed_152] at h
  refine am_istore (L' := [(5, .int s0), (0, .ref 56), (1, .int x1), (2, .int x2), (3, .int x3), (4, .int x4), (6, .int x6), (7, .int x7)]) (am_dk tk_X6_robbed_1 24 rfl) (Nat.le_of_ble_eq_true rfl) rfl ?_
  refine am_iload (j := 6) (am_dk tk_X6_robbed_1 25 rfl) rfl ?_
  refine am_iload (j := 7) (am_dk tk_X6_robbed_1 26 rfl) rfl ?_
  refine am_iand (am_dk tk_X6_robbed_1 27 rfl) ?_
  refine am_istore (L' := [(6, .int (x6 &&& x7)), (5, .int s0), (0, .ref 56), (1, .int x1), (2, .int x2), (3, .int x3), (4, .int x4), (7, .int x7)]) (am_dk tk_X6_robbed_1 28 rfl) (Nat.le_of_ble_eq_true rfl) rfl ?_
  refine am_iinc (j := 6) (v := x4 + 1) (L' := [(4, .int (x4 + 1)), (6, .int (x6 &&& x7)), (5, .int s0), (0, .ref 56), (1, .int x1), (2, .int x2), (3, .int x3), (7, .int x7)]) (am_dk tk_X6_robbed_1 29 rfl) rfl rfl (Nat.le_of_ble_eq_true rfl) rfl ?_
  refine am_iinc (j := 7) (v := x7 + 1) (L' := [(7, .int (x7 + 1)), (4, .int (x4 + 1)), (6, .int (x6 &&& x7)), (5, .int s0), (0, .ref 56), (1, .int x1), (2, .int x2), (3, .int x3)]) (am_dk tk_X6_robbed_1 30 rfl) rfl rfl (Nat.le_of_ble_eq_true rfl) rfl ?_
  refine am_goto (tgt := 67) (am_dk tk_X6_robbed_1 31 rfl) (by decide) ?_
  refine am_ls [4, 5, 6, 7, 1, 3, 2, 0] rfl ?_
  exact hk67 _ _ _ _ _ _ _ _ h
theorem bx_X6_robbed_84 {l : Launch} {h0 : am_H} {Φ : am_Ph} {tw : Nat} {tp : Bool}  {r : Int32} {D' : am_M} (hΦ : Φ (some (.int r)) (ly tw tp D')) {k67 : Int32 → Int32 → Int32 → Int32 → Int32 → Int32 → Int32 → am_M → Option (Int32 × am_M)} (hk67 : ∀ (x1 : Int32) (x2 : Int32) (x3 : Int32) (x4 : Int32) (x5 : Int32) (x6 : Int32) (x7 : Int32) (D : am_M), k67 x1 x2 x3 x4 x5 x6 x7 D = some (r, D') → am_Ex (am_E l m_X6_robbed false h0 Φ) prog_8_method_58_code (0, 0) 67 [(0, .ref 56), (1, .int x1), (2, .int x2), (3, .int x3), (4, .int x4), (5, .int x5), (6, .int x6), (7, .int x7)] [] (ly tw tp D)) : ∀ (n : Nat) (x1 : Int32) (x2 : Int32) (x3 : Int32) (x4 : Int32) (x5 : Int32) (x6 : Int32) (x7 : Int32) (x8 : Int32) (x9 : Int32) (D : am_M), b_X6_robbed_84 k67 n x1 x2 x3 x4 x5 x6 x7 x8 x9 D = some (r, D') → am_Ex (am_E l m_X6_robbed false h0 Φ) prog_8_method_58_code (0, 0) 84 [(0, .ref 56), (1, .int x1), (2, .int x2), (3, .int x3), (4, .int x4), (5, .int x5), (6, .int x6), (7, .int x7), (8, .int x8), (9, .int x9)] [] (ly tw tp D) := by
  intro n
  induction n with
  | zero =>
    intro x1 x2 x3 x4 x5 x6 x7 x8 x9 D h
    exact absurd h (by simp [b_X6_robbed_84])
  | succ n ih =>
    intro x1 x2 x3 x4 x5 x6 x7 x8 x9 D h
    rw [b_X6_robbed_84] at h
    refine am_iload (j := 9) (am_dk tk_X6_robbed 51 rfl) rfl ?_
    refine am_aload_n (j := 0) (am_dk tk_X6_robbed 52 rfl) rfl rfl ?_
    refine ly_geti rfl fl_X6_96 rfl (am_dk tk_X6_robbed 53 rfl) ?_
    refine am_icmp_ge (tgt := 125) (am_dk tk_X6_robbed 54 rfl) (by decide) (fun hc90 => ?_) (fun hc90 => ?_)
    · rw [if_pos hc90] at h
      refine am_iload (j := 8) (am_dk tk_X6_robbed_1 10 rfl) rfl ?_
      refine am_iload_n (j := 2) (am_dk tk_X6_robbed_1 11 rfl) rfl rfl ?_
      refine am_icmp_ne (tgt := 164) (am_dk tk_X6_robbed_1 12 rfl) (by decide) (fun hc128 => ?_) (fun hc128 => ?_)
      · rw [if_neg hc128] at h
        refine am_iinc (j := 7) (v := x7 + 1) (L' := [(7, .int (x7 + 1)), (0, .ref 56), (1, .int x1), (2, .int x2), (3, .int x3), (4, .int x4), (5, .int x5), (6, .int x6), (8, .int x8), (9, .int x9)]) (am_dk tk_X6_robbed_1 30 rfl) rfl rfl (Nat.le_of_ble_eq_true rfl) rfl ?_
        refine am_goto (tgt := 67) (am_dk tk_X6_robbed_1 31 rfl) (by decide) ?_
        refine am_ls [1, 2, 3, 4, 5, 6, 7, 0] rfl ?_
        exact hk67 _ _ _ _ _ _ _ _ h
      · rw [if_pos hc128] at h
        refine am_iload_n (j := 1) (am_dk tk_X6_robbed_1 13 rfl) rfl rfl ?_
        refine am_iload (j := 7) (am_dk tk_X6_robbed_1 14 rfl) rfl ?_
        refine am_iconst (v := (-1)) (am_dk tk_X6_robbed_1 15 rfl) (by decide) ?_
        refine am_ixor (am_dk tk_X6_robbed_1 16 rfl) ?_
        refine am_iand (am_dk tk_X6_robbed_1 17 rfl) ?_
        refine am_if_ne (tgt := 164) (am_dk tk_X6_robbed_1 18 rfl) (by decide) (fun hc137 => ?_) (fun hc137 => ?_)
        · rw [if_neg hc137] at h
          refine am_iinc (j := 7) (v := x7 + 1) (L' := [(7, .int (x7 + 1)), (0, .ref 56), (1, .int x1), (2, .int x2), (3, .int x3), (4, .int x4), (5, .int x5), (6, .int x6), (8, .int x8), (9, .int x9)]) (am_dk tk_X6_robbed_1 30 rfl) rfl rfl (Nat.le_of_ble_eq_true rfl) rfl ?_
          refine am_goto (tgt := 67) (am_dk tk_X6_robbed_1 31 rfl) (by decide) ?_
          refine am_ls [1, 2, 3, 4, 5, 6, 7, 0] rfl ?_
          exact hk67 _ _ _ _ _ _ _ _ h
        · rw [if_pos hc137] at h
          refine am_iload (j := 4) (am_dk tk_X6_robbed_1 19 rfl) rfl ?_
          refine am_if_ne (tgt := 150) (am_dk tk_X6_robbed_1 20 rfl) (by decide) (fun hc142 => ?_) (fun hc142 => ?_)
          · simp only [if_neg hc142] at h
            refine am_iload (j := 5) (am_dk tk_X6_robbed_1 23 rfl) rfl ?_
            refine am_ls [0, 1, 2, 3, 4, 6, 7] rfl ?_
            exact bx_X6_robbed_152  hΦ hk67 _ _ _ _ _ _ _ _ h
          · simp only [if_pos hc142] at h
            refine am_iload (j := 7) (am_dk tk_X6_robbed_1 21 rfl) rfl ?_
            refine am_goto (tgt := 152) (am_dk tk_X6_robbed_1 22 rfl) (by decide) ?_
            refine am_ls [0, 1, 2, 3, 4, 6, 7] rfl ?_
            exact bx_X6_robbed_152  hΦ hk67 _ _ _ _ _ _ _ _ h
    · rw [if_neg hc90] at h
      refine am_iload (j := 8) (am_dk tk_X6_robbed 55 rfl) rfl ?_
      refine am_iload (j := 7) (am_dk tk_X6_robbed 56 rfl) rfl ?_
      refine am_iload (j := 9) (am_dk tk_X6_robbed 57 rfl) rfl ?_
      refine am_cS (M := m_X6_has) (As := [.int x7, .int x9]) (st := [.int x8]) (ct_X6_has _ _ _) ml_X6_154 ld_X6_has rfl ⟨Nat.le_of_ble_eq_true rfl, Nat.le_of_ble_eq_true rfl⟩ (Nat.le_of_ble_eq_true rfl) ⟨rfl, rfl⟩ ⟨Nat.le_of_ble_eq_true rfl, Nat.le_of_ble_eq_true rfl⟩ (am_dk tk_X6_robbed 58 rfl) (am_kki ?_)
      refine am_if_eq (tgt := 115) (am_dk tk_X6_robbed 59 rfl) (by decide) (fun hc102 => ?_) (fun hc102 => ?_)
      · rw [if_pos hc102] at h
        refine am_iconst (v := 0) (am_dk tk_X6_robbed_1 5 rfl) (by decide) ?_
        refine am_iadd (am_dk tk_X6_robbed_1 6 rfl) ?_
        refine am_istore (L' := [(8, .int (x8 + 0)), (0, .ref 56), (1, .int x1), (2, .int x2), (3, .int x3), (4, .int x4), (5, .int x5), (6, .int x6), (7, .int x7), (9, .int x9)]) (am_dk tk_X6_robbed_1 7 rfl) (Nat.le_of_ble_eq_true rfl) rfl ?_
        refine am_iinc (j := 9) (v := x9 + 1) (L' := [(9, .int (x9 + 1)), (8, .int (x8 + 0)), (0, .ref 56), (1, .int x1), (2, .int x2), (3, .int x3), (4, .int x4), (5, .int x5), (6, .int x6), (7, .int x7)]) (am_dk tk_X6_robbed_1 8 rfl) rfl rfl (Nat.le_of_ble_eq_true rfl) rfl ?_
        refine am_goto (tgt := 84) (am_dk tk_X6_robbed_1 9 rfl) (by decide) ?_
        refine am_ls [2, 3, 4, 5, 6, 7, 8, 9, 1, 0] rfl ?_
        exact ih _ _ _ _ _ _ _ _ _ _ h
      · rw [if_neg hc102] at h
        refine am_aload_n (j := 0) (am_dk tk_X6_robbed_1 0 rfl) rfl rfl ?_
        refine ly_getr (b := 57) rfl fl_X6_7 rfl rfl (am_dk tk_X6_robbed_1 1 rfl) ?_
        refine am_iload (j := 9) (am_dk tk_X6_robbed_1 2 rfl) rfl ?_
        obtain ⟨hi111, h⟩ := am_chk h
        refine ly_iald (k := x9.toNatClampNeg) rfl (am_in_vp hi111) rfl (am_dk tk_X6_robbed_1 3 rfl) ?_
        refine am_goto (tgt := 116) (am_dk tk_X6_robbed_1 4 rfl) (by decide) ?_
        refine am_iadd (am_dk tk_X6_robbed_1 6 rfl) ?_
        refine am_istore (L' := [(8, .int (x8 + (D 57 x9.toNatClampNeg))), (0, .ref 56), (1, .int x1), (2, .int x2), (3, .int x3), (4, .int x4), (5, .int x5), (6, .int x6), (7, .int x7), (9, .int x9)]) (am_dk tk_X6_robbed_1 7 rfl) (Nat.le_of_ble_eq_true rfl) rfl ?_
        refine am_iinc (j := 9) (v := x9 + 1) (L' := [(9, .int (x9 + 1)), (8, .int (x8 + (D 57 x9.toNatClampNeg))), (0, .ref 56), (1, .int x1), (2, .int x2), (3, .int x3), (4, .int x4), (5, .int x5), (6, .int x6), (7, .int x7)]) (am_dk tk_X6_robbed_1 8 rfl) rfl rfl (Nat.le_of_ble_eq_true rfl) rfl ?_
        refine am_goto (tgt := 84) (am_dk tk_X6_robbed_1 9 rfl) (by decide) ?_
        refine am_ls [2, 3, 4, 5, 6, 7, 8, 9, 1, 0] rfl ?_
        exact ih _ _ _ _ _ _ _ _ _ _ h
theorem bx_X6_robbed_67 {l : Launch} {h0 : am_H} {Φ : am_Ph} {tw : Nat} {tp : Bool}  {r : Int32} {D' : am_M} (hΦ : Φ (some (.int r)) (ly tw tp D')) : ∀ (n : Nat) (x1 : Int32) (x2 : Int32) (x3 : Int32) (x4 : Int32) (x5 : Int32) (x6 : Int32) (x7 : Int32) (D : am_M), b_X6_robbed_67 n x1 x2 x3 x4 x5 x6 x7 D = some (r, D') → am_Ex (am_E l m_X6_robbed false h0 Φ) prog_8_method_58_code (0, 0) 67 [(0, .ref 56), (1, .int x1), (2, .int x2), (3, .int x3), (4, .int x4), (5, .int x5), (6, .int x6), (7, .int x7)] [] (ly tw tp D) := by
  intro n
  induction n with
  | zero =>
    intro x1 x2 x3 x4 x5 x6 x7 D h
    exact absurd h (by simp [b_X6_robbed_67])
  | succ n ih =>
    intro x1 x2 x3 x4 x5 x6 x7 D h
    rw [b_X6_robbed_67] at h
    refine am_iload (j := 7) (am_dk tk_X6_robbed 41 rfl) rfl ?_
    refine am_iconst (v := 1) (am_dk tk_X6_robbed 42 rfl) (by decide) ?_
    refine am_aload_n (j := 0) (am_dk tk_X6_robbed 43 rfl) rfl rfl ?_
    refine ly_geti rfl fl_X6_96 rfl (am_dk tk_X6_robbed 44 rfl) ?_
    refine am_ishl (am_dk tk_X6_robbed 45 rfl) ?_
    refine am_icmp_ge (tgt := 170) (am_dk tk_X6_robbed 46 rfl) (by decide) (fun hc75 => ?_) (fun hc75 => ?_)
    · rw [if_pos hc75] at h
      refine am_iload_n (j := 3) (am_dk tk_X6_robbed_1 32 rfl) rfl rfl ?_
      refine am_if_ne (tgt := 179) (am_dk tk_X6_robbed_1 33 rfl) (by decide) (fun hc171 => ?_) (fun hc171 => ?_)
      · rw [if_neg hc171] at h
        refine am_iload_n (j := 3) (am_dk tk_X6_robbed_1 36 rfl) rfl rfl ?_
        refine am_iconst (v := 1) (am_dk tk_X6_robbed_1 37 rfl) (by decide) ?_
        refine am_icmp_ne (tgt := 189) (am_dk tk_X6_robbed_1 38 rfl) (by decide) (fun hc181 => ?_) (fun hc181 => ?_)
        · rw [if_neg hc181] at h
          refine am_iload (j := 4) (am_dk tk_X6_robbed_1 41 rfl) rfl ?_
          refine am_if_ne (tgt := 198) (am_dk tk_X6_robbed_1 42 rfl) (by decide) (fun hc191 => ?_) (fun hc191 => ?_)
          · rw [if_neg hc191] at h
            refine am_iload (j := 6) (am_dk tk_X6_robbed_1 45 rfl) rfl ?_
            exact am_iret rfl (am_r2 h hΦ) ⟨Nat.le_of_ble_eq_true rfl, Nat.le_of_ble_eq_true rfl⟩ (am_dk tk_X6_robbed_1 46 rfl)
          · rw [if_pos hc191] at h
            refine am_iconst (v := 0) (am_dk tk_X6_robbed_1 43 rfl) (by decide) ?_
            refine am_goto (tgt := 200) (am_dk tk_X6_robbed_1 44 rfl) (by decide) ?_
            exact am_iret rfl (am_r2 h hΦ) ⟨Nat.le_of_ble_eq_true rfl, Nat.le_of_ble_eq_true rfl⟩ (am_dk tk_X6_robbed_1 46 rfl)
        · rw [if_pos hc181] at h
          refine am_iload (j := 5) (am_dk tk_X6_robbed_1 39 rfl) rfl ?_
          refine am_goto (tgt := 200) (am_dk tk_X6_robbed_1 40 rfl) (by decide) ?_
          exact am_iret rfl (am_r2 h hΦ) ⟨Nat.le_of_ble_eq_true rfl, Nat.le_of_ble_eq_true rfl⟩ (am_dk tk_X6_robbed_1 46 rfl)
      · rw [if_pos hc171] at h
        refine am_iload (j := 4) (am_dk tk_X6_robbed_1 34 rfl) rfl ?_
        refine am_goto (tgt := 200) (am_dk tk_X6_robbed_1 35 rfl) (by decide) ?_
        exact am_iret rfl (am_r2 h hΦ) ⟨Nat.le_of_ble_eq_true rfl, Nat.le_of_ble_eq_true rfl⟩ (am_dk tk_X6_robbed_1 46 rfl)
    · rw [if_neg hc75] at h
      refine am_iconst (v := 0) (am_dk tk_X6_robbed 47 rfl) (by decide) ?_
      refine am_istore (L' := [(8, .int 0), (0, .ref 56), (1, .int x1), (2, .int x2), (3, .int x3), (4, .int x4), (5, .int x5), (6, .int x6), (7, .int x7)]) (am_dk tk_X6_robbed 48 rfl) (Nat.le_of_ble_eq_true rfl) rfl ?_
      refine am_iconst (v := 0) (am_dk tk_X6_robbed 49 rfl) (by decide) ?_
      refine am_istore (L' := [(9, .int 0), (8, .int 0), (0, .ref 56), (1, .int x1), (2, .int x2), (3, .int x3), (4, .int x4), (5, .int x5), (6, .int x6), (7, .int x7)]) (am_dk tk_X6_robbed 50 rfl) (Nat.le_of_ble_eq_true rfl) rfl ?_
      refine am_ls [2, 3, 4, 5, 6, 7, 8, 9, 1, 0] rfl ?_
      exact bx_X6_robbed_84  hΦ (ih) am_N _ _ _ _ _ _ _ _ _ _ h
theorem ct_X6_robbed {l : Launch} {tw : Nat} {tp : Bool}  {x1 : Int32} {x2 : Int32} {x3 : Int32} {r : Int32} {D D' : am_M} (h : f_X6_robbed x1 x2 x3 D = some (r, D')) : am_CT l m_X6_robbed false [.ref 56, .int x1, .int x2, .int x3] (ly tw tp D) (am_is (some (.int r)) (ly tw tp D')) := by
  have hΦ : am_is (some (.int r)) (ly tw tp D') (some (.int r)) (ly tw tp D') := ⟨rfl, rfl⟩
  refine am_CT.of (by decide) (Nat.le_of_ble_eq_true rfl) ?_
  show am_Ex _ _ _ 0 [(0, .ref 56), (1, .int x1), (2, .int x2), (3, .int x3)] [] _
  rw [f_X6_robbed] at h
  refine am_iload_n (j := 1) (am_dk tk_X6_robbed 0 rfl) rfl rfl ?_
  refine am_i2l (am_dk tk_X6_robbed 1 rfl) ?_
  refine am_lconst (v := 0) (am_dk tk_X6_robbed 2 rfl) (by decide) ?_
  refine am_iconst (v := 1) (am_dk tk_X6_robbed 3 rfl) (by decide) ?_
  refine am_aload_n (j := 0) (am_dk tk_X6_robbed 4 rfl) rfl rfl ?_
  refine ly_geti rfl fl_X6_96 rfl (am_dk tk_X6_robbed 5 rfl) ?_
  refine am_ishl (am_dk tk_X6_robbed 6 rfl) ?_
  refine am_iconst (v := 1) (am_dk tk_X6_robbed 7 rfl) (by decide) ?_
  refine am_isub (am_dk tk_X6_robbed 8 rfl) ?_
  refine am_i2l (am_dk tk_X6_robbed 9 rfl) ?_
  refine am_cS (M := m_X6_in) (As := [.long x1.toInt64, .long 0, .long (((1 <<< ((D 56 3) &&& 31)) - 1).toInt64)]) (st := []) (ct_X6_in _ _ _ _) ml_X6_99 ld_X6_in rfl ⟨Nat.le_of_ble_eq_true rfl, Nat.le_of_ble_eq_true rfl⟩ (Nat.le_of_ble_eq_true rfl) ⟨rfl, rfl⟩ ⟨Nat.le_of_ble_eq_true rfl, Nat.le_of_ble_eq_true rfl⟩ (am_dk tk_X6_robbed 10 rfl) (am_kki ?_)
  refine am_if_ne (tgt := 21) (am_dk tk_X6_robbed 11 rfl) (by decide) (fun hc15 => ?_) (fun hc15 => ?_)
  · rw [if_neg hc15] at h
    refine am_iload_n (j := 2) (am_dk tk_X6_robbed 14 rfl) rfl rfl ?_
    refine am_i2l (am_dk tk_X6_robbed 15 rfl) ?_
    refine am_lconst (v := 0) (am_dk tk_X6_robbed 16 rfl) (by decide) ?_
    refine am_ldc2 kl_X6_237 (am_dk tk_X6_robbed 17 rfl) ?_
    refine am_cS (M := m_X6_in) (As := [.long x2.toInt64, .long 0, .long 999]) (st := []) (ct_X6_in _ _ _ _) ml_X6_99 ld_X6_in rfl ⟨Nat.le_of_ble_eq_true rfl, Nat.le_of_ble_eq_true rfl⟩ (Nat.le_of_ble_eq_true rfl) ⟨rfl, rfl⟩ ⟨Nat.le_of_ble_eq_true rfl, Nat.le_of_ble_eq_true rfl⟩ (am_dk tk_X6_robbed 18 rfl) (am_kki ?_)
    refine am_if_eq (tgt := 45) (am_dk tk_X6_robbed 19 rfl) (by decide) (fun hc30 => ?_) (fun hc30 => ?_)
    · rw [if_pos hc30] at h
      refine am_ldc kc_X6_105 (am_dk tk_X6_robbed 26 rfl) ?_
      exact am_iret rfl (am_r2 h hΦ) ⟨Nat.le_of_ble_eq_true rfl, Nat.le_of_ble_eq_true rfl⟩ (am_dk tk_X6_robbed 27 rfl)
    · rw [if_neg hc30] at h
      refine am_iload_n (j := 3) (am_dk tk_X6_robbed 20 rfl) rfl rfl ?_
      refine am_i2l (am_dk tk_X6_robbed 21 rfl) ?_
      refine am_lconst (v := 0) (am_dk tk_X6_robbed 22 rfl) (by decide) ?_
      refine am_ldc2 kl_X6_239 (am_dk tk_X6_robbed 23 rfl) ?_
      refine am_cS (M := m_X6_in) (As := [.long x3.toInt64, .long 0, .long 2]) (st := []) (ct_X6_in _ _ _ _) ml_X6_99 ld_X6_in rfl ⟨Nat.le_of_ble_eq_true rfl, Nat.le_of_ble_eq_true rfl⟩ (Nat.le_of_ble_eq_true rfl) ⟨rfl, rfl⟩ ⟨Nat.le_of_ble_eq_true rfl, Nat.le_of_ble_eq_true rfl⟩ (am_dk tk_X6_robbed 24 rfl) (am_kki ?_)
      refine am_if_ne (tgt := 48) (am_dk tk_X6_robbed 25 rfl) (by decide) (fun hc42 => ?_) (fun hc42 => ?_)
      · rw [if_neg hc42] at h
        refine am_iconst (v := 0) (am_dk tk_X6_robbed 28 rfl) (by decide) ?_
        refine am_istore (L' := [(4, .int 0), (0, .ref 56), (1, .int x1), (2, .int x2), (3, .int x3)]) (am_dk tk_X6_robbed 29 rfl) (Nat.le_of_ble_eq_true rfl) rfl ?_
        refine am_iconst (v := (-1)) (am_dk tk_X6_robbed 30 rfl) (by decide) ?_
        refine am_istore (L' := [(5, .int (-1)), (4, .int 0), (0, .ref 56), (1, .int x1), (2, .int x2), (3, .int x3)]) (am_dk tk_X6_robbed 31 rfl) (Nat.le_of_ble_eq_true rfl) rfl ?_
        refine am_iconst (v := 1) (am_dk tk_X6_robbed 32 rfl) (by decide) ?_
        refine am_aload_n (j := 2) (am_dk tk_X6_robbed 33 rfl) rfl rfl ?_
        refine ly_geti rfl fl_X6_96 rfl (am_dk tk_X6_robbed 34 rfl) ?_
        refine am_ishl (am_dk tk_X6_robbed 35 rfl) ?_
        refine am_iconst (v := 1) (am_dk tk_X6_robbed 36 rfl) (by decide) ?_
        refine am_isub (am_dk tk_X6_robbed 37 rfl) ?_
        refine am_istore (L' := [(6, .int ((1 <<< ((D 56 3) &&& 31)) - 1)), (5, .int (-1)), (4, .int 0), (0, .ref 56), (1, .int x1), (2, .int x2), (3, .int x3)]) (am_dk tk_X6_robbed 38 rfl) (Nat.le_of_ble_eq_true rfl) rfl ?_
        refine am_iconst (v := 0) (am_dk tk_X6_robbed 39 rfl) (by decide) ?_
        refine am_istore (L' := [(7, .int 0), (6, .int ((1 <<< ((D 56 3) &&& 31)) - 1)), (5, .int (-1)), (4, .int 0), (0, .ref 56), (1, .int x1), (2, .int x2), (3, .int x3)]) (am_dk tk_X6_robbed 40 rfl) (Nat.le_of_ble_eq_true rfl) rfl ?_
        refine am_ls [4, 5, 6, 7, 3, 2, 1, 0] rfl ?_
        exact bx_X6_robbed_67  hΦ am_N _ _ _ _ _ _ _ _ h
      · rw [if_pos hc42] at h
        refine am_ldc kc_X6_105 (am_dk tk_X6_robbed 26 rfl) ?_
        exact am_iret rfl (am_r2 h hΦ) ⟨Nat.le_of_ble_eq_true rfl, Nat.le_of_ble_eq_true rfl⟩ (am_dk tk_X6_robbed 27 rfl)
  · rw [if_pos hc15] at h
    refine am_ldc kc_X6_201 (am_dk tk_X6_robbed 12 rfl) ?_
    exact am_iret rfl (am_r2 h hΦ) ⟨Nat.le_of_ble_eq_true rfl, Nat.le_of_ble_eq_true rfl⟩ (am_dk tk_X6_robbed 13 rfl)
abbrev m_X6_run : am_D := (yX6_run, prog_8_method_59_code, 9, (some .int), { frames := 1, cells := 0, slots := 0, locals := 25 })
theorem ld_X6_run : am_LD m_X6_run 2 := ⟨(am_tb 85 (by decide +kernel) (by decide +kernel)), (am_tb 1211 (by decide +kernel) (by decide +kernel)), by decide, by decide, by decide +kernel⟩
def tb_X6_run : List (Nat × Instr × Nat) := [(0, .iload_n 1, 1), (1, .i2l, 1), (2, .lconst 0, 1), (3, .ldc2_w 237, 3), (6, .invokestatic 99, 3), (9, .ifCond .eq 13, 3), (12, .iload_n 2, 1), (13, .i2l, 1), (14, .lconst 0, 1), (15, .lconst 1, 1), (16, .invokestatic 99, 3), (19, .ifCond .ne 6, 3), (22, .ldc 105, 2), (24, .ireturn, 1), (25, .iconst 0, 1), (26, .istore_n 3, 1), (27, .iconst 0, 1), (28, .istore 4, 2), (30, .iconst 0, 1), (31, .istore 5, 2), (33, .iload_n 1, 1), (34, .istore 6, 2), (36, .iconst 0, 1), (37, .istore 7, 2), (39, .iload 7, 2), (41, .aload_n 0, 1), (42, .getfield 96, 3), (45, .if_icmp .ge 101, 3), (48, .iload_n 3, 1), (49, .iload 7, 2), (51, .invokestatic 154, 3), (54, .ifCond .ne 86, 3), (57, .aload_n 0, 1), (58, .getfield 25, 3), (61, .iload 7, 2), (63, .iaload, 1), (64, .bipush 10, 2), (66, .idiv, 1), (67, .iload 5, 2), (69, .if_icmp .gt 71, 3), (72, .aload_n 0, 1), (73, .getfield 25, 3), (76, .bipush 10, 2), (78, .iload 7, 2), (80, .iadd, 1), (81, .iaload, 1), (82, .iload 6, 2), (84, .invokestatic 207, 3), (87, .istore 8, 2), (89, .iload 6, 2), (91, .iload 8, 2), (93, .isub, 1), (94, .istore 6, 2), (96, .iload_n 3, 1), (97, .iconst 1, 1), (98, .iload 7, 2), (100, .ishl, 1), (101, .ior, 1), (102, .istore_n 3, 1), (103, .iload 4, 2)]
theorem tk_X6_run : am_tbl prog_8_method_59_code tb_X6_run = true := by decide +kernel
def tb_X6_run_1 : List (Nat × Instr × Nat) := [(105, .iload 8, 2), (107, .aload_n 0, 1), (108, .getfield 25, 3), (111, .bipush 10, 2), (113, .iload 7, 2), (115, .iadd, 1), (116, .iaload, 1), (117, .if_icmp .ge 10, 3), (120, .iconst 1, 1), (121, .iload 7, 2), (123, .ishl, 1), (124, .goto 4, 3), (127, .iconst 0, 1), (128, .ior, 1), (129, .istore 4, 2), (131, .iinc 5 1, 3), (134, .iconst 0, 1), (135, .istore 7, 2), (137, .goto (-98), 3), (140, .iinc 7 1, 3), (143, .goto (-104), 3), (146, .iload_n 2, 1), (147, .ifCond .ne 7, 3), (150, .iload_n 3, 1), (151, .goto 5, 3), (154, .iload 4, 2), (156, .ireturn, 1)]
theorem tk_X6_run_1 : am_tbl prog_8_method_59_code tb_X6_run_1 = true := by decide +kernel
def b_X6_run_128 (k39 : Int32 → Int32 → Int32 → Int32 → Int32 → Int32 → am_M → Option (Int32 × am_M)) (x2 : Int32) (x3 : Int32) (x5 : Int32) (x6 : Int32) (s0 : Int32) (s1 : Int32) (D : am_M) : Option (Int32 × am_M) := k39 x2 x3 (s1 ||| s0) (x5 + 1) x6 0 D
def b_X6_run_39 : Nat → Int32 → Int32 → Int32 → Int32 → Int32 → Int32 → am_M → Option (Int32 × am_M)
  | 0, _, _, _, _, _, _, _ => none
  | n + 1, x2, x3, x4, x5, x6, x7, D => if (D 56 3) ≤ x7 then if x2 = 0 then some (x3, D) else some (x4, D) else if (f_X6_has x3 x7) = 0 then if am_in x7 138 = true then if x5 < ((D 62 x7.toNatClampNeg) / 10) then b_X6_run_39 n x2 x3 x4 x5 x6 (x7 + 1) D else if am_in (10 + x7) 138 = true then b_X6_run_128 (b_X6_run_39 n) x2 (x3 ||| (1 <<< (x7 &&& 31))) x5 (x6 - (f_X6_atMost (D 62 (10 + x7).toNatClampNeg) x6)) (if (D 62 (10 + x7).toNatClampNeg) ≤ (f_X6_atMost (D 62 (10 + x7).toNatClampNeg) x6) then 0 else 1 <<< (x7 &&& 31)) x4 D else none else none else b_X6_run_39 n x2 x3 x4 x5 x6 (x7 + 1) D
def f_X6_run (x1 : Int32) (x2 : Int32) (D : am_M) : Option (Int32 × am_M) := if (f_X6_in x1.toInt64 0 999) = 0 then some ((-1000000002), D) else if (f_X6_in x2.toInt64 0 1) = 0 then some ((-1000000002), D) else b_X6_run_39 am_N x2 0 0 0 x1 0 D
theorem bx_X6_run_128 {l : Launch} {h0 : am_H} {Φ : am_Ph} {tw : Nat} {tp : Bool}  {r : Int32} {D' : am_M} (hΦ : Φ (some (.int r)) (ly tw tp D')) {k39 : Int32 → Int32 → Int32 → Int32 → Int32 → Int32 → am_M → Option (Int32 × am_M)} (hk39 : ∀ (x2 : Int32) (x3 : Int32) (x4 : Int32) (x5 : Int32) (x6 : Int32) (x7 : Int32) (D : am_M), k39 x2 x3 x4 x5 x6 x7 D = some (r, D') → am_Ex (am_E l m_X6_run false h0 Φ) prog_8_method_59_code (0, 0) 39 [(0, .ref 56), (2, .int x2), (3, .int x3), (4, .int x4), (5, .int x5), (6, .int x6), (7, .int x7)] [] (ly tw tp D)) : ∀ (x2 : Int32) (x3 : Int32) (x5 : Int32) (x6 : Int32) (s0 : Int32) (s1 : Int32) (D : am_M), b_X6_run_128 k39 x2 x3 x5 x6 s0 s1 D = some (r, D') → am_Ex (am_E l m_X6_run false h0 Φ) prog_8_method_59_code (0, 0) 128 [(0, .ref 56), (2, .int x2), (3, .int x3), (5, .int x5), (6, .int x6)] [.int s0, .int s1] (ly tw tp D) := by
  intro x2 x3 x5 x6 s0 s1 D h
  rw [b_X6_run_128] at h
  refine am_ior (am_dk tk_X6_run_1 13 rfl) ?_
  refine am_istore (L' := [(4, .int (s1 ||| s0)), (0, .ref 56), (2, .int x2), (3, .int x3), (5, .int x5), (6, .int x6)]) (am_dk tk_X6_run_1 14 rfl) (Nat.le_of_ble_eq_true rfl) rfl ?_
  refine am_iinc (j := 4) (v := x5 + 1) (L' := [(5, .int (x5 + 1)), (4, .int (s1 ||| s0)), (0, .ref 56), (2, .int x2), (3, .int x3), (6, .int x6)]) (am_dk tk_X6_run_1 15 rfl) rfl rfl (Nat.le_of_ble_eq_true rfl) rfl ?_
  refine am_iconst (v := 0) (am_dk tk_X6_run_1 16 rfl) (by decide) ?_
  refine am_istore (L' := [(7, .int 0), (5, .int (x5 + 1)), (4, .int (s1 ||| s0)), (0, .ref 56), (2, .int x2), (3, .int x3), (6, .int x6)]) (am_dk tk_X6_run_1 17 rfl) (Nat.le_of_ble_eq_true rfl) rfl ?_
  refine am_goto (tgt := 39) (am_dk tk_X6_run_1 18 rfl) (by decide) ?_
  refine am_ls [3, 4, 5, 2, 1, 6, 0] rfl ?_
  exact hk39 _ _ _ _ _ _ _ h
theorem bx_X6_run_39 {l : Launch} {h0 : am_H} {Φ : am_Ph} {tw : Nat} {tp : Bool}  {r : Int32} {D' : am_M} (hΦ : Φ (some (.int r)) (ly tw tp D')) : ∀ (n : Nat) (x2 : Int32) (x3 : Int32) (x4 : Int32) (x5 : Int32) (x6 : Int32) (x7 : Int32) (D : am_M), b_X6_run_39 n x2 x3 x4 x5 x6 x7 D = some (r, D') → am_Ex (am_E l m_X6_run false h0 Φ) prog_8_method_59_code (0, 0) 39 [(0, .ref 56), (2, .int x2), (3, .int x3), (4, .int x4), (5, .int x5), (6, .int x6), (7, .int x7)] [] (ly tw tp D) := by
  intro n
  induction n with
  | zero =>
    intro x2 x3 x4 x5 x6 x7 D h
    exact absurd h (by simp [b_X6_run_39])
  | succ n ih =>
    intro x2 x3 x4 x5 x6 x7 D h
    rw [b_X6_run_39] at h
    refine am_iload (j := 6) (am_dk tk_X6_run 24 rfl) rfl ?_
    refine am_aload_n (j := 0) (am_dk tk_X6_run 25 rfl) rfl rfl ?_
    refine ly_geti rfl fl_X6_96 rfl (am_dk tk_X6_run 26 rfl) ?_
    refine am_icmp_ge (tgt := 146) (am_dk tk_X6_run 27 rfl) (by decide) (fun hc45 => ?_) (fun hc45 => ?_)
    · rw [if_pos hc45] at h
      refine am_iload_n (j := 1) (am_dk tk_X6_run_1 21 rfl) rfl rfl ?_
      refine am_if_ne (tgt := 154) (am_dk tk_X6_run_1 22 rfl) (by decide) (fun hc147 => ?_) (fun hc147 => ?_)
      · rw [if_neg hc147] at h
        refine am_iload (j := 3) (am_dk tk_X6_run_1 25 rfl) rfl ?_
        exact am_iret rfl (am_r2 h hΦ) ⟨Nat.le_of_ble_eq_true rfl, Nat.le_of_ble_eq_true rfl⟩ (am_dk tk_X6_run_1 26 rfl)
      · rw [if_pos hc147] at h
        refine am_iload_n (j := 2) (am_dk tk_X6_run_1 23 rfl) rfl rfl ?_
        refine am_goto (tgt := 156) (am_dk tk_X6_run_1 24 rfl) (by decide) ?_
        exact am_iret rfl (am_r2 h hΦ) ⟨Nat.le_of_ble_eq_true rfl, Nat.le_of_ble_eq_true rfl⟩ (am_dk tk_X6_run_1 26 rfl)
    · rw [if_neg hc45] at h
      refine am_iload_n (j := 2) (am_dk tk_X6_run 28 rfl) rfl rfl ?_
      refine am_iload (j := 6) (am_dk tk_X6_run 29 rfl) rfl ?_
      refine am_cS (M := m_X6_has) (As := [.int x3, .int x7]) (st := []) (ct_X6_has _ _ _) ml_X6_154 ld_X6_has rfl ⟨Nat.le_of_ble_eq_true rfl, Nat.le_of_ble_eq_true rfl⟩ (Nat.le_of_ble_eq_true rfl) ⟨rfl, rfl⟩ ⟨Nat.le_of_ble_eq_true rfl, Nat.le_of_ble_eq_true rfl⟩ (am_dk tk_X6_run 30 rfl) (am_kki ?_)
      refine am_if_ne (tgt := 140) (am_dk tk_X6_run 31 rfl) (by decide) (fun hc54 => ?_) (fun hc54 => ?_)
      · rw [if_neg hc54] at h
        refine am_iinc (j := 6) (v := x7 + 1) (L' := [(7, .int (x7 + 1)), (0, .ref 56), (2, .int x2), (3, .int x3), (4, .int x4), (5, .int x5), (6, .int x6)]) (am_dk tk_X6_run_1 19 rfl) rfl rfl (Nat.le_of_ble_eq_true rfl) rfl ?_
        refine am_goto (tgt := 39) (am_dk tk_X6_run_1 20 rfl) (by decide) ?_
        refine am_ls [1, 2, 3, 4, 5, 6, 0] rfl ?_
        exact ih _ _ _ _ _ _ _ h
      · rw [if_pos hc54] at h
        refine am_aload_n (j := 0) (am_dk tk_X6_run 32 rfl) rfl rfl ?_
        refine ly_getr (b := 62) rfl fl_X6_25 rfl rfl (am_dk tk_X6_run 33 rfl) ?_
        refine am_iload (j := 6) (am_dk tk_X6_run 34 rfl) rfl ?_
        obtain ⟨hi63, h⟩ := am_chk h
        refine ly_iald (k := x7.toNatClampNeg) rfl (am_in_vp hi63) rfl (am_dk tk_X6_run 35 rfl) ?_
        refine am_bipush (v := 10) (am_dk tk_X6_run 36 rfl) (by decide) ?_
        refine am_idiv (am_dk tk_X6_run 37 rfl) (by decide) ?_
        refine am_iload (j := 4) (am_dk tk_X6_run 38 rfl) rfl ?_
        refine am_icmp_gt (tgt := 140) (am_dk tk_X6_run 39 rfl) (by decide) (fun hc69 => ?_) (fun hc69 => ?_)
        · rw [if_pos hc69] at h
          refine am_iinc (j := 6) (v := x7 + 1) (L' := [(7, .int (x7 + 1)), (0, .ref 56), (2, .int x2), (3, .int x3), (4, .int x4), (5, .int x5), (6, .int x6)]) (am_dk tk_X6_run_1 19 rfl) rfl rfl (Nat.le_of_ble_eq_true rfl) rfl ?_
          refine am_goto (tgt := 39) (am_dk tk_X6_run_1 20 rfl) (by decide) ?_
          refine am_ls [1, 2, 3, 4, 5, 6, 0] rfl ?_
          exact ih _ _ _ _ _ _ _ h
        · rw [if_neg hc69] at h
          refine am_aload_n (j := 0) (am_dk tk_X6_run 40 rfl) rfl rfl ?_
          refine ly_getr (b := 62) rfl fl_X6_25 rfl rfl (am_dk tk_X6_run 41 rfl) ?_
          refine am_bipush (v := 10) (am_dk tk_X6_run 42 rfl) (by decide) ?_
          refine am_iload (j := 6) (am_dk tk_X6_run 43 rfl) rfl ?_
          refine am_iadd (am_dk tk_X6_run 44 rfl) ?_
          obtain ⟨hi81, h⟩ := am_chk h
          refine ly_iald (k := (10 + x7).toNatClampNeg) rfl (am_in_vp hi81) rfl (am_dk tk_X6_run 45 rfl) ?_
          refine am_iload (j := 5) (am_dk tk_X6_run 46 rfl) rfl ?_
          refine am_cS (M := m_X6_atMost) (As := [.int (D 62 (10 + x7).toNatClampNeg), .int x6]) (st := []) (ct_X6_atMost _ _ _) ml_X6_207 ld_X6_atMost rfl ⟨Nat.le_of_ble_eq_true rfl, Nat.le_of_ble_eq_true rfl⟩ (Nat.le_of_ble_eq_true rfl) ⟨rfl, rfl⟩ ⟨Nat.le_of_ble_eq_true rfl, Nat.le_of_ble_eq_true rfl⟩ (am_dk tk_X6_run 47 rfl) (am_kki ?_)
          refine am_istore (L' := [(8, .int (f_X6_atMost (D 62 (10 + x7).toNatClampNeg) x6)), (0, .ref 56), (2, .int x2), (3, .int x3), (4, .int x4), (5, .int x5), (6, .int x6), (7, .int x7)]) (am_dk tk_X6_run 48 rfl) (Nat.le_of_ble_eq_true rfl) rfl ?_
          refine am_iload (j := 6) (am_dk tk_X6_run 49 rfl) rfl ?_
          refine am_iload (j := 0) (am_dk tk_X6_run 50 rfl) rfl ?_
          refine am_isub (am_dk tk_X6_run 51 rfl) ?_
          refine am_istore (L' := [(6, .int (x6 - (f_X6_atMost (D 62 (10 + x7).toNatClampNeg) x6))), (8, .int (f_X6_atMost (D 62 (10 + x7).toNatClampNeg) x6)), (0, .ref 56), (2, .int x2), (3, .int x3), (4, .int x4), (5, .int x5), (7, .int x7)]) (am_dk tk_X6_run 52 rfl) (Nat.le_of_ble_eq_true rfl) rfl ?_
          refine am_iload_n (j := 4) (am_dk tk_X6_run 53 rfl) rfl rfl ?_
          refine am_iconst (v := 1) (am_dk tk_X6_run 54 rfl) (by decide) ?_
          refine am_iload (j := 7) (am_dk tk_X6_run 55 rfl) rfl ?_
          refine am_ishl (am_dk tk_X6_run 56 rfl) ?_
          refine am_ior (am_dk tk_X6_run 57 rfl) ?_
          refine am_istore_n (L' := [(3, .int (x3 ||| (1 <<< (x7 &&& 31)))), (6, .int (x6 - (f_X6_atMost (D 62 (10 + x7).toNatClampNeg) x6))), (8, .int (f_X6_atMost (D 62 (10 + x7).toNatClampNeg) x6)), (0, .ref 56), (2, .int x2), (4, .int x4), (5, .int x5), (7, .int x7)]) (am_dk tk_X6_run 58 rfl) rfl (Nat.le_of_ble_eq_true rfl) rfl ?_
          refine am_iload (j := 5) (am_dk tk_X6_run 59 rfl) rfl ?_
          refine am_iload (j := 2) (am_dk tk_X6_run_1 0 rfl) rfl ?_
          refine am_aload_n (j := 3) (am_dk tk_X6_run_1 1 rfl) rfl rfl ?_
          refine ly_getr (b := 62) rfl fl_X6_25 rfl rfl (am_dk tk_X6_run_1 2 rfl) ?_
          refine am_bipush (v := 10) (am_dk tk_X6_run_1 3 rfl) (by decide) ?_
          refine am_iload (j := 7) (am_dk tk_X6_run_1 4 rfl) rfl ?_
          refine am_iadd (am_dk tk_X6_run_1 5 rfl) ?_
          refine ly_iald (k := (10 + x7).toNatClampNeg) rfl (am_in_vp hi81) rfl (am_dk tk_X6_run_1 6 rfl) ?_
          refine am_icmp_ge (tgt := 127) (am_dk tk_X6_run_1 7 rfl) (by decide) (fun hc117 => ?_) (fun hc117 => ?_)
          · simp only [if_pos hc117] at h
            refine am_iconst (v := 0) (am_dk tk_X6_run_1 12 rfl) (by decide) ?_
            refine am_ls [3, 4, 0, 6, 1] rfl ?_
            exact bx_X6_run_128  hΦ (ih) _ _ _ _ _ _ _ h
          · simp only [if_neg hc117] at h
            refine am_iconst (v := 1) (am_dk tk_X6_run_1 8 rfl) (by decide) ?_
            refine am_iload (j := 7) (am_dk tk_X6_run_1 9 rfl) rfl ?_
            refine am_ishl (am_dk tk_X6_run_1 10 rfl) ?_
            refine am_goto (tgt := 128) (am_dk tk_X6_run_1 11 rfl) (by decide) ?_
            refine am_ls [3, 4, 0, 6, 1] rfl ?_
            exact bx_X6_run_128  hΦ (ih) _ _ _ _ _ _ _ h
theorem ct_X6_run {l : Launch} {tw : Nat} {tp : Bool}  {x1 : Int32} {x2 : Int32} {r : Int32} {D D' : am_M} (h : f_X6_run x1 x2 D = some (r, D')) : am_CT l m_X6_run false [.ref 56, .int x1, .int x2] (ly tw tp D) (am_is (some (.int r)) (ly tw tp D')) := by
  have hΦ : am_is (some (.int r)) (ly tw tp D') (some (.int r)) (ly tw tp D') := ⟨rfl, rfl⟩
  refine am_CT.of (by decide) (Nat.le_of_ble_eq_true rfl) ?_
  show am_Ex _ _ _ 0 [(0, .ref 56), (1, .int x1), (2, .int x2)] [] _
  rw [f_X6_run] at h
  refine am_iload_n (j := 1) (am_dk tk_X6_run 0 rfl) rfl rfl ?_
  refine am_i2l (am_dk tk_X6_run 1 rfl) ?_
  refine am_lconst (v := 0) (am_dk tk_X6_run 2 rfl) (by decide) ?_
  refine am_ldc2 kl_X6_237 (am_dk tk_X6_run 3 rfl) ?_
  refine am_cS (M := m_X6_in) (As := [.long x1.toInt64, .long 0, .long 999]) (st := []) (ct_X6_in _ _ _ _) ml_X6_99 ld_X6_in rfl ⟨Nat.le_of_ble_eq_true rfl, Nat.le_of_ble_eq_true rfl⟩ (Nat.le_of_ble_eq_true rfl) ⟨rfl, rfl⟩ ⟨Nat.le_of_ble_eq_true rfl, Nat.le_of_ble_eq_true rfl⟩ (am_dk tk_X6_run 4 rfl) (am_kki ?_)
  refine am_if_eq (tgt := 22) (am_dk tk_X6_run 5 rfl) (by decide) (fun hc9 => ?_) (fun hc9 => ?_)
  · rw [if_pos hc9] at h
    refine am_ldc kc_X6_105 (am_dk tk_X6_run 12 rfl) ?_
    exact am_iret rfl (am_r2 h hΦ) ⟨Nat.le_of_ble_eq_true rfl, Nat.le_of_ble_eq_true rfl⟩ (am_dk tk_X6_run 13 rfl)
  · rw [if_neg hc9] at h
    refine am_iload_n (j := 2) (am_dk tk_X6_run 6 rfl) rfl rfl ?_
    refine am_i2l (am_dk tk_X6_run 7 rfl) ?_
    refine am_lconst (v := 0) (am_dk tk_X6_run 8 rfl) (by decide) ?_
    refine am_lconst (v := 1) (am_dk tk_X6_run 9 rfl) (by decide) ?_
    refine am_cS (M := m_X6_in) (As := [.long x2.toInt64, .long 0, .long 1]) (st := []) (ct_X6_in _ _ _ _) ml_X6_99 ld_X6_in rfl ⟨Nat.le_of_ble_eq_true rfl, Nat.le_of_ble_eq_true rfl⟩ (Nat.le_of_ble_eq_true rfl) ⟨rfl, rfl⟩ ⟨Nat.le_of_ble_eq_true rfl, Nat.le_of_ble_eq_true rfl⟩ (am_dk tk_X6_run 10 rfl) (am_kki ?_)
    refine am_if_ne (tgt := 25) (am_dk tk_X6_run 11 rfl) (by decide) (fun hc19 => ?_) (fun hc19 => ?_)
    · rw [if_neg hc19] at h
      refine am_iconst (v := 0) (am_dk tk_X6_run 14 rfl) (by decide) ?_
      refine am_istore_n (L' := [(3, .int 0), (0, .ref 56), (1, .int x1), (2, .int x2)]) (am_dk tk_X6_run 15 rfl) rfl (Nat.le_of_ble_eq_true rfl) rfl ?_
      refine am_iconst (v := 0) (am_dk tk_X6_run 16 rfl) (by decide) ?_
      refine am_istore (L' := [(4, .int 0), (3, .int 0), (0, .ref 56), (1, .int x1), (2, .int x2)]) (am_dk tk_X6_run 17 rfl) (Nat.le_of_ble_eq_true rfl) rfl ?_
      refine am_iconst (v := 0) (am_dk tk_X6_run 18 rfl) (by decide) ?_
      refine am_istore (L' := [(5, .int 0), (4, .int 0), (3, .int 0), (0, .ref 56), (1, .int x1), (2, .int x2)]) (am_dk tk_X6_run 19 rfl) (Nat.le_of_ble_eq_true rfl) rfl ?_
      refine am_iload_n (j := 4) (am_dk tk_X6_run 20 rfl) rfl rfl ?_
      refine am_istore (L' := [(6, .int x1), (5, .int 0), (4, .int 0), (3, .int 0), (0, .ref 56), (1, .int x1), (2, .int x2)]) (am_dk tk_X6_run 21 rfl) (Nat.le_of_ble_eq_true rfl) rfl ?_
      refine am_iconst (v := 0) (am_dk tk_X6_run 22 rfl) (by decide) ?_
      refine am_istore (L' := [(7, .int 0), (6, .int x1), (5, .int 0), (4, .int 0), (3, .int 0), (0, .ref 56), (1, .int x1), (2, .int x2)]) (am_dk tk_X6_run 23 rfl) (Nat.le_of_ble_eq_true rfl) rfl ?_
      refine am_ls [5, 7, 4, 3, 2, 1, 0] rfl ?_
      exact bx_X6_run_39  hΦ am_N _ _ _ _ _ _ _ h
    · rw [if_pos hc19] at h
      refine am_ldc kc_X6_105 (am_dk tk_X6_run 12 rfl) ?_
      exact am_iret rfl (am_r2 h hΦ) ⟨Nat.le_of_ble_eq_true rfl, Nat.le_of_ble_eq_true rfl⟩ (am_dk tk_X6_run 13 rfl)
abbrev m_X6_write : am_D := (yX6_write, prog_8_method_60_code, 3, (some .int), { frames := 2, cells := 0, slots := 0, locals := 46 })
theorem ld_X6_write : am_LD m_X6_write 2 := ⟨(am_tb 85 (by decide +kernel) (by decide +kernel)), (am_tb 1215 (by decide +kernel) (by decide +kernel)), by decide, by decide, by decide +kernel⟩
def tb_X6_write : List (Nat × Instr × Nat) := [(0, .aload_n 0, 1), (1, .iload_n 1, 1), (2, .invokevirtual 197, 3), (5, .ifCond .ne 6, 3), (8, .ldc 201, 2), (10, .ireturn, 1), (11, .iload_n 2, 1), (12, .i2l, 1), (13, .lconst 0, 1), (14, .ldc2_w 303, 3), (17, .invokestatic 99, 3), (20, .ifCond .ne 6, 3), (23, .ldc 105, 2), (25, .ireturn, 1), (26, .aload_n 0, 1), (27, .getfield 191, 3), (30, .bipush 15, 2), (32, .if_icmp .ne 6, 3), (35, .ldc 109, 2), (37, .ireturn, 1), (38, .aload_n 0, 1), (39, .getfield 80, 3), (42, .aload_n 0, 1), (43, .getfield 191, 3), (46, .iload_n 1, 1), (47, .iastore, 1), (48, .aload_n 0, 1), (49, .getfield 83, 3), (52, .aload_n 0, 1), (53, .getfield 191, 3), (56, .iload_n 2, 1), (57, .iastore, 1), (58, .aload_n 0, 1), (59, .dup, 1), (60, .getfield 191, 3), (63, .iconst 1, 1), (64, .iadd, 1), (65, .putfield 191, 3), (68, .aload_n 0, 1), (69, .getfield 191, 3), (72, .ireturn, 1)]
theorem tk_X6_write : am_tbl prog_8_method_60_code tb_X6_write = true := by decide +kernel
def f_X6_write (x1 : Int32) (x2 : Int32) (D : am_M) : Option (Int32 × am_M) := if (f_X6_isPerson x1 D) = 0 then some ((-1000000001), D) else if (f_X6_in x2.toInt64 0 9999) = 0 then some ((-1000000002), D) else if (D 56 39) = 15 then some ((-1000000004), D) else if am_in (D 56 39) 15 = true then if am_in ((am_up D 79 (D 56 39).toNatClampNeg x1) 56 39) 15 = true then some ((am_up (am_up (am_up D 79 (D 56 39).toNatClampNeg x1) 80 ((am_up D 79 (D 56 39).toNatClampNeg x1) 56 39).toNatClampNeg x2) 56 39 (((am_up (am_up D 79 (D 56 39).toNatClampNeg x1) 80 ((am_up D 79 (D 56 39).toNatClampNeg x1) 56 39).toNatClampNeg x2) 56 39) + 1)) 56 39, am_up (am_up (am_up D 79 (D 56 39).toNatClampNeg x1) 80 ((am_up D 79 (D 56 39).toNatClampNeg x1) 56 39).toNatClampNeg x2) 56 39 (((am_up (am_up D 79 (D 56 39).toNatClampNeg x1) 80 ((am_up D 79 (D 56 39).toNatClampNeg x1) 56 39).toNatClampNeg x2) 56 39) + 1)) else none else none
theorem ct_X6_write {l : Launch} {tw : Nat} {tp : Bool}  {x1 : Int32} {x2 : Int32} {r : Int32} {D D' : am_M} (h : f_X6_write x1 x2 D = some (r, D')) : am_CT l m_X6_write false [.ref 56, .int x1, .int x2] (ly tw tp D) (am_is (some (.int r)) (ly tw tp D')) := by
  have hΦ : am_is (some (.int r)) (ly tw tp D') (some (.int r)) (ly tw tp D') := ⟨rfl, rfl⟩
  refine am_CT.of (by decide) (Nat.le_of_ble_eq_true rfl) ?_
  show am_Ex _ _ _ 0 [(0, .ref 56), (1, .int x1), (2, .int x2)] [] _
  rw [f_X6_write] at h
  refine am_aload_n (j := 0) (am_dk tk_X6_write 0 rfl) rfl rfl ?_
  refine am_iload_n (j := 1) (am_dk tk_X6_write 1 rfl) rfl rfl ?_
  refine ly_cV (M := m_X6_isPerson) (As := [.int x1]) (b := 56) (st := []) (ct_X6_isPerson _ _) rfl (by decide) rfl ml_X6_197 ld_X6_isPerson rfl ⟨Nat.le_of_ble_eq_true rfl, Nat.le_of_ble_eq_true rfl⟩ (Nat.le_of_ble_eq_true rfl) ⟨rfl, rfl⟩ ⟨Nat.le_of_ble_eq_true rfl, Nat.le_of_ble_eq_true rfl⟩ (am_dk tk_X6_write 2 rfl) (am_kki ?_)
  refine am_if_ne (tgt := 11) (am_dk tk_X6_write 3 rfl) (by decide) (fun hc5 => ?_) (fun hc5 => ?_)
  · rw [if_neg hc5] at h
    refine am_iload_n (j := 2) (am_dk tk_X6_write 6 rfl) rfl rfl ?_
    refine am_i2l (am_dk tk_X6_write 7 rfl) ?_
    refine am_lconst (v := 0) (am_dk tk_X6_write 8 rfl) (by decide) ?_
    refine am_ldc2 kl_X6_303 (am_dk tk_X6_write 9 rfl) ?_
    refine am_cS (M := m_X6_in) (As := [.long x2.toInt64, .long 0, .long 9999]) (st := []) (ct_X6_in _ _ _ _) ml_X6_99 ld_X6_in rfl ⟨Nat.le_of_ble_eq_true rfl, Nat.le_of_ble_eq_true rfl⟩ (Nat.le_of_ble_eq_true rfl) ⟨rfl, rfl⟩ ⟨Nat.le_of_ble_eq_true rfl, Nat.le_of_ble_eq_true rfl⟩ (am_dk tk_X6_write 10 rfl) (am_kki ?_)
    refine am_if_ne (tgt := 26) (am_dk tk_X6_write 11 rfl) (by decide) (fun hc20 => ?_) (fun hc20 => ?_)
    · rw [if_neg hc20] at h
      refine am_aload_n (j := 0) (am_dk tk_X6_write 14 rfl) rfl rfl ?_
      refine ly_geti rfl fl_X6_191 rfl (am_dk tk_X6_write 15 rfl) ?_
      refine am_bipush (v := 15) (am_dk tk_X6_write 16 rfl) (by decide) ?_
      refine am_icmp_ne (tgt := 38) (am_dk tk_X6_write 17 rfl) (by decide) (fun hc32 => ?_) (fun hc32 => ?_)
      · rw [if_neg hc32] at h
        refine am_aload_n (j := 0) (am_dk tk_X6_write 20 rfl) rfl rfl ?_
        refine ly_getr (b := 79) rfl fl_X6_80 rfl rfl (am_dk tk_X6_write 21 rfl) ?_
        refine am_aload_n (j := 0) (am_dk tk_X6_write 22 rfl) rfl rfl ?_
        refine ly_geti rfl fl_X6_191 rfl (am_dk tk_X6_write 23 rfl) ?_
        refine am_iload_n (j := 1) (am_dk tk_X6_write 24 rfl) rfl rfl ?_
        obtain ⟨hi47, h⟩ := am_chk h
        refine ly_iast (k := (D 56 39).toNatClampNeg) rfl (am_in_vp hi47) rfl (am_dk tk_X6_write 25 rfl) ?_
        refine am_aload_n (j := 0) (am_dk tk_X6_write 26 rfl) rfl rfl ?_
        refine ly_getr (b := 80) rfl fl_X6_83 rfl rfl (am_dk tk_X6_write 27 rfl) ?_
        refine am_aload_n (j := 0) (am_dk tk_X6_write 28 rfl) rfl rfl ?_
        refine ly_geti rfl fl_X6_191 rfl (am_dk tk_X6_write 29 rfl) ?_
        refine am_iload_n (j := 2) (am_dk tk_X6_write 30 rfl) rfl rfl ?_
        obtain ⟨hi57, h⟩ := am_chk h
        refine ly_iast (k := ((am_up D 79 (D 56 39).toNatClampNeg x1) 56 39).toNatClampNeg) rfl (am_in_vp hi57) rfl (am_dk tk_X6_write 31 rfl) ?_
        refine am_aload_n (j := 0) (am_dk tk_X6_write 32 rfl) rfl rfl ?_
        refine am_dup (am_dk tk_X6_write 33 rfl) rfl ?_
        refine ly_geti rfl fl_X6_191 rfl (am_dk tk_X6_write 34 rfl) ?_
        refine am_iconst (v := 1) (am_dk tk_X6_write 35 rfl) (by decide) ?_
        refine am_iadd (am_dk tk_X6_write 36 rfl) ?_
        refine ly_puti rfl fl_X6_191 rfl rfl (am_dk tk_X6_write 37 rfl) ?_
        refine am_aload_n (j := 0) (am_dk tk_X6_write 38 rfl) rfl rfl ?_
        refine ly_geti rfl fl_X6_191 rfl (am_dk tk_X6_write 39 rfl) ?_
        exact am_iret rfl (am_r2 h hΦ) ⟨Nat.le_of_ble_eq_true rfl, Nat.le_of_ble_eq_true rfl⟩ (am_dk tk_X6_write 40 rfl)
      · rw [if_pos hc32] at h
        refine am_ldc kc_X6_109 (am_dk tk_X6_write 18 rfl) ?_
        exact am_iret rfl (am_r2 h hΦ) ⟨Nat.le_of_ble_eq_true rfl, Nat.le_of_ble_eq_true rfl⟩ (am_dk tk_X6_write 19 rfl)
    · rw [if_pos hc20] at h
      refine am_ldc kc_X6_105 (am_dk tk_X6_write 12 rfl) ?_
      exact am_iret rfl (am_r2 h hΦ) ⟨Nat.le_of_ble_eq_true rfl, Nat.le_of_ble_eq_true rfl⟩ (am_dk tk_X6_write 13 rfl)
  · rw [if_pos hc5] at h
    refine am_ldc kc_X6_201 (am_dk tk_X6_write 4 rfl) ?_
    exact am_iret rfl (am_r2 h hΦ) ⟨Nat.le_of_ble_eq_true rfl, Nat.le_of_ble_eq_true rfl⟩ (am_dk tk_X6_write 5 rfl)
abbrev m_X6_tear : am_D := (yX6_tear, prog_8_method_61_code, 2, (some .int), { frames := 0, cells := 0, slots := 0, locals := 0 })
theorem ld_X6_tear : am_LD m_X6_tear 0 := ⟨(am_tb 85 (by decide +kernel) (by decide +kernel)), (am_tb 1219 (by decide +kernel) (by decide +kernel)), by decide, by decide, by decide +kernel⟩
def tb_X6_tear : List (Nat × Instr × Nat) := [(0, .aload_n 0, 1), (1, .getfield 191, 3), (4, .istore_n 1, 1), (5, .aload_n 0, 1), (6, .iconst 0, 1), (7, .putfield 191, 3), (10, .iload_n 1, 1), (11, .ireturn, 1)]
theorem tk_X6_tear : am_tbl prog_8_method_61_code tb_X6_tear = true := by decide +kernel
def f_X6_tear (D : am_M) : Option (Int32 × am_M) := some (D 56 39, am_up D 56 39 0)
theorem ct_X6_tear {l : Launch} {tw : Nat} {tp : Bool}  {r : Int32} {D D' : am_M} (h : f_X6_tear D = some (r, D')) : am_CT l m_X6_tear false [.ref 56] (ly tw tp D) (am_is (some (.int r)) (ly tw tp D')) := by
  have hΦ : am_is (some (.int r)) (ly tw tp D') (some (.int r)) (ly tw tp D') := ⟨rfl, rfl⟩
  refine am_CT.of (by decide) (Nat.le_of_ble_eq_true rfl) ?_
  show am_Ex _ _ _ 0 [(0, .ref 56)] [] _
  rw [f_X6_tear] at h
  refine am_aload_n (j := 0) (am_dk tk_X6_tear 0 rfl) rfl rfl ?_
  refine ly_geti rfl fl_X6_191 rfl (am_dk tk_X6_tear 1 rfl) ?_
  refine am_istore_n (L' := [(1, .int (D 56 39)), (0, .ref 56)]) (am_dk tk_X6_tear 2 rfl) rfl (Nat.le_of_ble_eq_true rfl) rfl ?_
  refine am_aload_n (j := 1) (am_dk tk_X6_tear 3 rfl) rfl rfl ?_
  refine am_iconst (v := 0) (am_dk tk_X6_tear 4 rfl) (by decide) ?_
  refine ly_puti rfl fl_X6_191 rfl rfl (am_dk tk_X6_tear 5 rfl) ?_
  refine am_iload_n (j := 0) (am_dk tk_X6_tear 6 rfl) rfl rfl ?_
  exact am_iret rfl (am_r2 h hΦ) ⟨Nat.le_of_ble_eq_true rfl, Nat.le_of_ble_eq_true rfl⟩ (am_dk tk_X6_tear 7 rfl)
abbrev m_X6_judge : am_D := (yX6_judge, prog_8_method_62_code, 2, (some .int), { frames := 0, cells := 0, slots := 0, locals := 0 })
theorem ld_X6_judge : am_LD m_X6_judge 0 := ⟨(am_tb 85 (by decide +kernel) (by decide +kernel)), (am_tb 1223 (by decide +kernel) (by decide +kernel)), by decide, by decide, by decide +kernel⟩
def tb_X6_judge : List (Nat × Instr × Nat) := [(0, .iconst 0, 1), (1, .istore_n 1, 1), (2, .iload_n 1, 1), (3, .aload_n 0, 1), (4, .getfield 191, 3), (7, .if_icmp .ge 34, 3), (10, .aload_n 0, 1), (11, .getfield 25, 3), (14, .bipush 10, 2), (16, .aload_n 0, 1), (17, .getfield 80, 3), (20, .iload_n 1, 1), (21, .iaload, 1), (22, .iadd, 1), (23, .iaload, 1), (24, .aload_n 0, 1), (25, .getfield 83, 3), (28, .iload_n 1, 1), (29, .iaload, 1), (30, .if_icmp .eq 5, 3), (33, .iload_n 1, 1), (34, .ireturn, 1), (35, .iinc 1 1, 3), (38, .goto (-36), 3), (41, .iconst (-1), 1), (42, .ireturn, 1)]
theorem tk_X6_judge : am_tbl prog_8_method_62_code tb_X6_judge = true := by decide +kernel
def b_X6_judge_2 : Nat → Int32 → am_M → Option (Int32 × am_M)
  | 0, _, _ => none
  | n + 1, x1, D => if (D 56 39) ≤ x1 then some ((-1), D) else if am_in x1 15 = true then if am_in (10 + (D 79 x1.toNatClampNeg)) 138 = true then if (D 62 (10 + (D 79 x1.toNatClampNeg)).toNatClampNeg) = (D 80 x1.toNatClampNeg) then b_X6_judge_2 n (x1 + 1) D else some (x1, D) else none else none
def f_X6_judge (D : am_M) : Option (Int32 × am_M) := b_X6_judge_2 am_N 0 D
theorem bx_X6_judge_2 {l : Launch} {h0 : am_H} {Φ : am_Ph} {tw : Nat} {tp : Bool}  {r : Int32} {D' : am_M} (hΦ : Φ (some (.int r)) (ly tw tp D')) : ∀ (n : Nat) (x1 : Int32) (D : am_M), b_X6_judge_2 n x1 D = some (r, D') → am_Ex (am_E l m_X6_judge false h0 Φ) prog_8_method_62_code (0, 0) 2 [(0, .ref 56), (1, .int x1)] [] (ly tw tp D) := by
  intro n
  induction n with
  | zero =>
    intro x1 D h
    exact absurd h (by simp [b_X6_judge_2])
  | succ n ih =>
    intro x1 D h
    rw [b_X6_judge_2] at h
    refine am_iload_n (j := 1) (am_dk tk_X6_judge 2 rfl) rfl rfl ?_
    refine am_aload_n (j := 0) (am_dk tk_X6_judge 3 rfl) rfl rfl ?_
    refine ly_geti rfl fl_X6_191 rfl (am_dk tk_X6_judge 4 rfl) ?_
    refine am_icmp_ge (tgt := 41) (am_dk tk_X6_judge 5 rfl) (by decide) (fun hc7 => ?_) (fun hc7 => ?_)
    · rw [if_pos hc7] at h
      refine am_iconst (v := (-1)) (am_dk tk_X6_judge 24 rfl) (by decide) ?_
      exact am_iret rfl (am_r2 h hΦ) ⟨Nat.le_of_ble_eq_true rfl, Nat.le_of_ble_eq_true rfl⟩ (am_dk tk_X6_judge 25 rfl)
    · rw [if_neg hc7] at h
      refine am_aload_n (j := 0) (am_dk tk_X6_judge 6 rfl) rfl rfl ?_
      refine ly_getr (b := 62) rfl fl_X6_25 rfl rfl (am_dk tk_X6_judge 7 rfl) ?_
      refine am_bipush (v := 10) (am_dk tk_X6_judge 8 rfl) (by decide) ?_
      refine am_aload_n (j := 0) (am_dk tk_X6_judge 9 rfl) rfl rfl ?_
      refine ly_getr (b := 79) rfl fl_X6_80 rfl rfl (am_dk tk_X6_judge 10 rfl) ?_
      refine am_iload_n (j := 1) (am_dk tk_X6_judge 11 rfl) rfl rfl ?_
      obtain ⟨hi21, h⟩ := am_chk h
      refine ly_iald (k := x1.toNatClampNeg) rfl (am_in_vp hi21) rfl (am_dk tk_X6_judge 12 rfl) ?_
      refine am_iadd (am_dk tk_X6_judge 13 rfl) ?_
      obtain ⟨hi23, h⟩ := am_chk h
      refine ly_iald (k := (10 + (D 79 x1.toNatClampNeg)).toNatClampNeg) rfl (am_in_vp hi23) rfl (am_dk tk_X6_judge 14 rfl) ?_
      refine am_aload_n (j := 0) (am_dk tk_X6_judge 15 rfl) rfl rfl ?_
      refine ly_getr (b := 80) rfl fl_X6_83 rfl rfl (am_dk tk_X6_judge 16 rfl) ?_
      refine am_iload_n (j := 1) (am_dk tk_X6_judge 17 rfl) rfl rfl ?_
      refine ly_iald (k := x1.toNatClampNeg) rfl (am_in_vp hi21) rfl (am_dk tk_X6_judge 18 rfl) ?_
      refine am_icmp_eq (tgt := 35) (am_dk tk_X6_judge 19 rfl) (by decide) (fun hc30 => ?_) (fun hc30 => ?_)
      · rw [if_pos hc30] at h
        refine am_iinc (j := 1) (v := x1 + 1) (L' := [(1, .int (x1 + 1)), (0, .ref 56)]) (am_dk tk_X6_judge 22 rfl) rfl rfl (Nat.le_of_ble_eq_true rfl) rfl ?_
        refine am_goto (tgt := 2) (am_dk tk_X6_judge 23 rfl) (by decide) ?_
        refine am_ls [1, 0] rfl ?_
        exact ih _ _ h
      · rw [if_neg hc30] at h
        refine am_iload_n (j := 1) (am_dk tk_X6_judge 20 rfl) rfl rfl ?_
        exact am_iret rfl (am_r2 h hΦ) ⟨Nat.le_of_ble_eq_true rfl, Nat.le_of_ble_eq_true rfl⟩ (am_dk tk_X6_judge 21 rfl)
theorem ct_X6_judge {l : Launch} {tw : Nat} {tp : Bool}  {r : Int32} {D D' : am_M} (h : f_X6_judge D = some (r, D')) : am_CT l m_X6_judge false [.ref 56] (ly tw tp D) (am_is (some (.int r)) (ly tw tp D')) := by
  have hΦ : am_is (some (.int r)) (ly tw tp D') (some (.int r)) (ly tw tp D') := ⟨rfl, rfl⟩
  refine am_CT.of (by decide) (Nat.le_of_ble_eq_true rfl) ?_
  show am_Ex _ _ _ 0 [(0, .ref 56)] [] _
  rw [f_X6_judge] at h
  refine am_iconst (v := 0) (am_dk tk_X6_judge 0 rfl) (by decide) ?_
  refine am_istore_n (L' := [(1, .int 0), (0, .ref 56)]) (am_dk tk_X6_judge 1 rfl) rfl (Nat.le_of_ble_eq_true rfl) rfl ?_
  refine am_ls [1, 0] rfl ?_
  exact bx_X6_judge_2  hΦ am_N _ _ h
abbrev m_X6_seed : am_D := (yX6_seed, prog_8_method_63_code, 3, (some .int), { frames := 0, cells := 0, slots := 0, locals := 0 })
theorem ld_X6_seed : am_LD m_X6_seed 1 := ⟨(am_tb 85 (by decide +kernel) (by decide +kernel)), (am_tb 1227 (by decide +kernel) (by decide +kernel)), by decide, by decide, by decide +kernel⟩
def tb_X6_seed : List (Nat × Instr × Nat) := [(0, .iload_n 1, 1), (1, .ifCond .ge 6, 3), (4, .ldc 105, 2), (6, .ireturn, 1), (7, .aload_n 0, 1), (8, .getfield 224, 3), (11, .istore_n 2, 1), (12, .aload_n 0, 1), (13, .iload_n 1, 1), (14, .putfield 224, 3), (17, .iload_n 2, 1), (18, .ireturn, 1)]
theorem tk_X6_seed : am_tbl prog_8_method_63_code tb_X6_seed = true := by decide +kernel
def f_X6_seed (x1 : Int32) (D : am_M) : Option (Int32 × am_M) := if 0 ≤ x1 then some (D 56 12, am_up D 56 12 x1) else some ((-1000000002), D)
theorem ct_X6_seed {l : Launch} {tw : Nat} {tp : Bool}  {x1 : Int32} {r : Int32} {D D' : am_M} (h : f_X6_seed x1 D = some (r, D')) : am_CT l m_X6_seed false [.ref 56, .int x1] (ly tw tp D) (am_is (some (.int r)) (ly tw tp D')) := by
  have hΦ : am_is (some (.int r)) (ly tw tp D') (some (.int r)) (ly tw tp D') := ⟨rfl, rfl⟩
  refine am_CT.of (by decide) (Nat.le_of_ble_eq_true rfl) ?_
  show am_Ex _ _ _ 0 [(0, .ref 56), (1, .int x1)] [] _
  rw [f_X6_seed] at h
  refine am_iload_n (j := 1) (am_dk tk_X6_seed 0 rfl) rfl rfl ?_
  refine am_if_ge (tgt := 7) (am_dk tk_X6_seed 1 rfl) (by decide) (fun hc1 => ?_) (fun hc1 => ?_)
  · rw [if_pos hc1] at h
    refine am_aload_n (j := 0) (am_dk tk_X6_seed 4 rfl) rfl rfl ?_
    refine ly_geti rfl fl_X6_224 rfl (am_dk tk_X6_seed 5 rfl) ?_
    refine am_istore_n (L' := [(2, .int (D 56 12)), (0, .ref 56), (1, .int x1)]) (am_dk tk_X6_seed 6 rfl) rfl (Nat.le_of_ble_eq_true rfl) rfl ?_
    refine am_aload_n (j := 1) (am_dk tk_X6_seed 7 rfl) rfl rfl ?_
    refine am_iload_n (j := 2) (am_dk tk_X6_seed 8 rfl) rfl rfl ?_
    refine ly_puti rfl fl_X6_224 rfl rfl (am_dk tk_X6_seed 9 rfl) ?_
    refine am_iload_n (j := 0) (am_dk tk_X6_seed 10 rfl) rfl rfl ?_
    exact am_iret rfl (am_r2 h hΦ) ⟨Nat.le_of_ble_eq_true rfl, Nat.le_of_ble_eq_true rfl⟩ (am_dk tk_X6_seed 11 rfl)
  · rw [if_neg hc1] at h
    refine am_ldc kc_X6_105 (am_dk tk_X6_seed 2 rfl) ?_
    exact am_iret rfl (am_r2 h hΦ) ⟨Nat.le_of_ble_eq_true rfl, Nat.le_of_ble_eq_true rfl⟩ (am_dk tk_X6_seed 3 rfl)
abbrev m_X6_keep : am_D := (yX6_keep, prog_8_method_64_code, 3, (some .int), { frames := 1, cells := 0, slots := 0, locals := 25 })
theorem ld_X6_keep : am_LD m_X6_keep 1 := ⟨(am_tb 85 (by decide +kernel) (by decide +kernel)), (am_tb 1231 (by decide +kernel) (by decide +kernel)), by decide, by decide, by decide +kernel⟩
def tb_X6_keep : List (Nat × Instr × Nat) := [(0, .iload_n 1, 1), (1, .i2l, 1), (2, .lconst 0, 1), (3, .lconst 1, 1), (4, .invokestatic 99, 3), (7, .ifCond .ne 6, 3), (10, .ldc 201, 2), (12, .ireturn, 1), (13, .iconst 0, 1), (14, .istore_n 2, 1), (15, .iload_n 2, 1), (16, .sipush 138, 3), (19, .if_icmp .ge 27, 3), (22, .aload_n 0, 1), (23, .getfield 86, 3), (26, .sipush 139, 3), (29, .iload_n 1, 1), (30, .imul, 1), (31, .iload_n 2, 1), (32, .iadd, 1), (33, .aload_n 0, 1), (34, .getfield 25, 3), (37, .iload_n 2, 1), (38, .iaload, 1), (39, .iastore, 1), (40, .iinc 2 1, 3), (43, .goto (-28), 3), (46, .aload_n 0, 1), (47, .getfield 86, 3), (50, .sipush 139, 3), (53, .iload_n 1, 1), (54, .imul, 1), (55, .sipush 138, 3), (58, .iadd, 1), (59, .aload_n 0, 1), (60, .getfield 224, 3), (63, .iastore, 1), (64, .aload_n 0, 1), (65, .getfield 89, 3), (68, .iload_n 1, 1), (69, .iconst 1, 1), (70, .bastore, 1), (71, .iconst 1, 1), (72, .ireturn, 1)]
theorem tk_X6_keep : am_tbl prog_8_method_64_code tb_X6_keep = true := by decide +kernel
def b_X6_keep_15 : Nat → Int32 → Int32 → am_M → Option (Int32 × am_M)
  | 0, _, _, _ => none
  | n + 1, x1, x2, D => if 138 ≤ x2 then if am_in ((139 * x1) + 138) 278 = true then if am_in x1 2 = true then some (1, am_up (am_up D 81 ((139 * x1) + 138).toNatClampNeg (D 56 12)) 82 x1.toNatClampNeg (vp_nar .boolean 1)) else none else none else if am_in x2 138 = true then if am_in ((139 * x1) + x2) 278 = true then b_X6_keep_15 n x1 (x2 + 1) (am_up D 81 ((139 * x1) + x2).toNatClampNeg (D 62 x2.toNatClampNeg)) else none else none
def f_X6_keep (x1 : Int32) (D : am_M) : Option (Int32 × am_M) := if (f_X6_in x1.toInt64 0 1) = 0 then some ((-1000000001), D) else b_X6_keep_15 am_N x1 0 D
theorem bx_X6_keep_15 {l : Launch} {h0 : am_H} {Φ : am_Ph} {tw : Nat} {tp : Bool}  {r : Int32} {D' : am_M} (hΦ : Φ (some (.int r)) (ly tw tp D')) : ∀ (n : Nat) (x1 : Int32) (x2 : Int32) (D : am_M), b_X6_keep_15 n x1 x2 D = some (r, D') → am_Ex (am_E l m_X6_keep false h0 Φ) prog_8_method_64_code (0, 0) 15 [(0, .ref 56), (1, .int x1), (2, .int x2)] [] (ly tw tp D) := by
  intro n
  induction n with
  | zero =>
    intro x1 x2 D h
    exact absurd h (by simp [b_X6_keep_15])
  | succ n ih =>
    intro x1 x2 D h
    rw [b_X6_keep_15] at h
    refine am_iload_n (j := 2) (am_dk tk_X6_keep 10 rfl) rfl rfl ?_
    refine am_sipush (v := 138) (am_dk tk_X6_keep 11 rfl) (by decide) ?_
    refine am_icmp_ge (tgt := 46) (am_dk tk_X6_keep 12 rfl) (by decide) (fun hc19 => ?_) (fun hc19 => ?_)
    · rw [if_pos hc19] at h
      refine am_aload_n (j := 0) (am_dk tk_X6_keep 27 rfl) rfl rfl ?_
      refine ly_getr (b := 81) rfl fl_X6_86 rfl rfl (am_dk tk_X6_keep 28 rfl) ?_
      refine am_sipush (v := 139) (am_dk tk_X6_keep 29 rfl) (by decide) ?_
      refine am_iload_n (j := 1) (am_dk tk_X6_keep 30 rfl) rfl rfl ?_
      refine am_imul (am_dk tk_X6_keep 31 rfl) ?_
      refine am_sipush (v := 138) (am_dk tk_X6_keep 32 rfl) (by decide) ?_
      refine am_iadd (am_dk tk_X6_keep 33 rfl) ?_
      refine am_aload_n (j := 0) (am_dk tk_X6_keep 34 rfl) rfl rfl ?_
      refine ly_geti rfl fl_X6_224 rfl (am_dk tk_X6_keep 35 rfl) ?_
      obtain ⟨hi63, h⟩ := am_chk h
      refine ly_iast (k := ((139 * x1) + 138).toNatClampNeg) rfl (am_in_vp hi63) rfl (am_dk tk_X6_keep 36 rfl) ?_
      refine am_aload_n (j := 0) (am_dk tk_X6_keep 37 rfl) rfl rfl ?_
      refine ly_getr (b := 82) rfl fl_X6_89 rfl rfl (am_dk tk_X6_keep 38 rfl) ?_
      refine am_iload_n (j := 1) (am_dk tk_X6_keep 39 rfl) rfl rfl ?_
      refine am_iconst (v := 1) (am_dk tk_X6_keep 40 rfl) (by decide) ?_
      obtain ⟨hi70, h⟩ := am_chk h
      refine ly_bast (k := x1.toNatClampNeg) rfl (am_in_vp hi70) rfl (am_dk tk_X6_keep 41 rfl) ?_
      refine am_iconst (v := 1) (am_dk tk_X6_keep 42 rfl) (by decide) ?_
      exact am_iret rfl (am_r2 h hΦ) ⟨Nat.le_of_ble_eq_true rfl, Nat.le_of_ble_eq_true rfl⟩ (am_dk tk_X6_keep 43 rfl)
    · rw [if_neg hc19] at h
      refine am_aload_n (j := 0) (am_dk tk_X6_keep 13 rfl) rfl rfl ?_
      refine ly_getr (b := 81) rfl fl_X6_86 rfl rfl (am_dk tk_X6_keep 14 rfl) ?_
      refine am_sipush (v := 139) (am_dk tk_X6_keep 15 rfl) (by decide) ?_
      refine am_iload_n (j := 1) (am_dk tk_X6_keep 16 rfl) rfl rfl ?_
      refine am_imul (am_dk tk_X6_keep 17 rfl) ?_
      refine am_iload_n (j := 2) (am_dk tk_X6_keep 18 rfl) rfl rfl ?_
      refine am_iadd (am_dk tk_X6_keep 19 rfl) ?_
      refine am_aload_n (j := 0) (am_dk tk_X6_keep 20 rfl) rfl rfl ?_
      refine ly_getr (b := 62) rfl fl_X6_25 rfl rfl (am_dk tk_X6_keep 21 rfl) ?_
      refine am_iload_n (j := 2) (am_dk tk_X6_keep 22 rfl) rfl rfl ?_
      obtain ⟨hi38, h⟩ := am_chk h
      refine ly_iald (k := x2.toNatClampNeg) rfl (am_in_vp hi38) rfl (am_dk tk_X6_keep 23 rfl) ?_
      obtain ⟨hi39, h⟩ := am_chk h
      refine ly_iast (k := ((139 * x1) + x2).toNatClampNeg) rfl (am_in_vp hi39) rfl (am_dk tk_X6_keep 24 rfl) ?_
      refine am_iinc (j := 2) (v := x2 + 1) (L' := [(2, .int (x2 + 1)), (0, .ref 56), (1, .int x1)]) (am_dk tk_X6_keep 25 rfl) rfl rfl (Nat.le_of_ble_eq_true rfl) rfl ?_
      refine am_goto (tgt := 15) (am_dk tk_X6_keep 26 rfl) (by decide) ?_
      refine am_ls [1, 2, 0] rfl ?_
      exact ih _ _ _ h
theorem ct_X6_keep {l : Launch} {tw : Nat} {tp : Bool}  {x1 : Int32} {r : Int32} {D D' : am_M} (h : f_X6_keep x1 D = some (r, D')) : am_CT l m_X6_keep false [.ref 56, .int x1] (ly tw tp D) (am_is (some (.int r)) (ly tw tp D')) := by
  have hΦ : am_is (some (.int r)) (ly tw tp D') (some (.int r)) (ly tw tp D') := ⟨rfl, rfl⟩
  refine am_CT.of (by decide) (Nat.le_of_ble_eq_true rfl) ?_
  show am_Ex _ _ _ 0 [(0, .ref 56), (1, .int x1)] [] _
  rw [f_X6_keep] at h
  refine am_iload_n (j := 1) (am_dk tk_X6_keep 0 rfl) rfl rfl ?_
  refine am_i2l (am_dk tk_X6_keep 1 rfl) ?_
  refine am_lconst (v := 0) (am_dk tk_X6_keep 2 rfl) (by decide) ?_
  refine am_lconst (v := 1) (am_dk tk_X6_keep 3 rfl) (by decide) ?_
  refine am_cS (M := m_X6_in) (As := [.long x1.toInt64, .long 0, .long 1]) (st := []) (ct_X6_in _ _ _ _) ml_X6_99 ld_X6_in rfl ⟨Nat.le_of_ble_eq_true rfl, Nat.le_of_ble_eq_true rfl⟩ (Nat.le_of_ble_eq_true rfl) ⟨rfl, rfl⟩ ⟨Nat.le_of_ble_eq_true rfl, Nat.le_of_ble_eq_true rfl⟩ (am_dk tk_X6_keep 4 rfl) (am_kki ?_)
  refine am_if_ne (tgt := 13) (am_dk tk_X6_keep 5 rfl) (by decide) (fun hc7 => ?_) (fun hc7 => ?_)
  · rw [if_neg hc7] at h
    refine am_iconst (v := 0) (am_dk tk_X6_keep 8 rfl) (by decide) ?_
    refine am_istore_n (L' := [(2, .int 0), (0, .ref 56), (1, .int x1)]) (am_dk tk_X6_keep 9 rfl) rfl (Nat.le_of_ble_eq_true rfl) rfl ?_
    refine am_ls [1, 2, 0] rfl ?_
    exact bx_X6_keep_15  hΦ am_N _ _ _ h
  · rw [if_pos hc7] at h
    refine am_ldc kc_X6_201 (am_dk tk_X6_keep 6 rfl) ?_
    exact am_iret rfl (am_r2 h hΦ) ⟨Nat.le_of_ble_eq_true rfl, Nat.le_of_ble_eq_true rfl⟩ (am_dk tk_X6_keep 7 rfl)
abbrev m_X6_goBack : am_D := (yX6_goBack, prog_8_method_65_code, 3, (some .int), { frames := 1, cells := 0, slots := 0, locals := 25 })
theorem ld_X6_goBack : am_LD m_X6_goBack 1 := ⟨(am_tb 85 (by decide +kernel) (by decide +kernel)), (am_tb 1235 (by decide +kernel) (by decide +kernel)), by decide, by decide, by decide +kernel⟩
def tb_X6_goBack : List (Nat × Instr × Nat) := [(0, .iload_n 1, 1), (1, .i2l, 1), (2, .lconst 0, 1), (3, .lconst 1, 1), (4, .invokestatic 99, 3), (7, .ifCond .ne 6, 3), (10, .ldc 201, 2), (12, .ireturn, 1), (13, .aload_n 0, 1), (14, .getfield 89, 3), (17, .iload_n 1, 1), (18, .baload, 1), (19, .ifCond .ne 6, 3), (22, .ldc 216, 2), (24, .ireturn, 1), (25, .iconst 0, 1), (26, .istore_n 2, 1), (27, .iload_n 2, 1), (28, .sipush 138, 3), (31, .if_icmp .ge 27, 3), (34, .aload_n 0, 1), (35, .getfield 25, 3), (38, .iload_n 2, 1), (39, .aload_n 0, 1), (40, .getfield 86, 3), (43, .sipush 139, 3), (46, .iload_n 1, 1), (47, .imul, 1), (48, .iload_n 2, 1), (49, .iadd, 1), (50, .iaload, 1), (51, .iastore, 1), (52, .iinc 2 1, 3), (55, .goto (-28), 3), (58, .aload_n 0, 1), (59, .aload_n 0, 1), (60, .getfield 86, 3), (63, .sipush 139, 3), (66, .iload_n 1, 1), (67, .imul, 1), (68, .sipush 138, 3), (71, .iadd, 1), (72, .iaload, 1), (73, .putfield 224, 3), (76, .iconst 1, 1), (77, .ireturn, 1)]
theorem tk_X6_goBack : am_tbl prog_8_method_65_code tb_X6_goBack = true := by decide +kernel
def b_X6_goBack_27 : Nat → Int32 → Int32 → am_M → Option (Int32 × am_M)
  | 0, _, _, _ => none
  | n + 1, x1, x2, D => if 138 ≤ x2 then if am_in ((139 * x1) + 138) 278 = true then some (1, am_up D 56 12 (D 81 ((139 * x1) + 138).toNatClampNeg)) else none else if am_in ((139 * x1) + x2) 278 = true then if am_in x2 138 = true then b_X6_goBack_27 n x1 (x2 + 1) (am_up D 62 x2.toNatClampNeg (D 81 ((139 * x1) + x2).toNatClampNeg)) else none else none
def f_X6_goBack (x1 : Int32) (D : am_M) : Option (Int32 × am_M) := if (f_X6_in x1.toInt64 0 1) = 0 then some ((-1000000001), D) else if am_in x1 2 = true then if (D 82 x1.toNatClampNeg) = 0 then some ((-1000000003), D) else b_X6_goBack_27 am_N x1 0 D else none
theorem bx_X6_goBack_27 {l : Launch} {h0 : am_H} {Φ : am_Ph} {tw : Nat} {tp : Bool}  {r : Int32} {D' : am_M} (hΦ : Φ (some (.int r)) (ly tw tp D')) : ∀ (n : Nat) (x1 : Int32) (x2 : Int32) (D : am_M), b_X6_goBack_27 n x1 x2 D = some (r, D') → am_Ex (am_E l m_X6_goBack false h0 Φ) prog_8_method_65_code (0, 0) 27 [(0, .ref 56), (1, .int x1), (2, .int x2)] [] (ly tw tp D) := by
  intro n
  induction n with
  | zero =>
    intro x1 x2 D h
    exact absurd h (by simp [b_X6_goBack_27])
  | succ n ih =>
    intro x1 x2 D h
    rw [b_X6_goBack_27] at h
    refine am_iload_n (j := 2) (am_dk tk_X6_goBack 17 rfl) rfl rfl ?_
    refine am_sipush (v := 138) (am_dk tk_X6_goBack 18 rfl) (by decide) ?_
    refine am_icmp_ge (tgt := 58) (am_dk tk_X6_goBack 19 rfl) (by decide) (fun hc31 => ?_) (fun hc31 => ?_)
    · rw [if_pos hc31] at h
      refine am_aload_n (j := 0) (am_dk tk_X6_goBack 34 rfl) rfl rfl ?_
      refine am_aload_n (j := 0) (am_dk tk_X6_goBack 35 rfl) rfl rfl ?_
      refine ly_getr (b := 81) rfl fl_X6_86 rfl rfl (am_dk tk_X6_goBack 36 rfl) ?_
      refine am_sipush (v := 139) (am_dk tk_X6_goBack 37 rfl) (by decide) ?_
      refine am_iload_n (j := 1) (am_dk tk_X6_goBack 38 rfl) rfl rfl ?_
      refine am_imul (am_dk tk_X6_goBack 39 rfl) ?_
      refine am_sipush (v := 138) (am_dk tk_X6_goBack 40 rfl) (by decide) ?_
      refine am_iadd (am_dk tk_X6_goBack 41 rfl) ?_
      obtain ⟨hi72, h⟩ := am_chk h
      refine ly_iald (k := ((139 * x1) + 138).toNatClampNeg) rfl (am_in_vp hi72) rfl (am_dk tk_X6_goBack 42 rfl) ?_
      refine ly_puti rfl fl_X6_224 rfl rfl (am_dk tk_X6_goBack 43 rfl) ?_
      refine am_iconst (v := 1) (am_dk tk_X6_goBack 44 rfl) (by decide) ?_
      exact am_iret rfl (am_r2 h hΦ) ⟨Nat.le_of_ble_eq_true rfl, Nat.le_of_ble_eq_true rfl⟩ (am_dk tk_X6_goBack 45 rfl)
    · rw [if_neg hc31] at h
      refine am_aload_n (j := 0) (am_dk tk_X6_goBack 20 rfl) rfl rfl ?_
      refine ly_getr (b := 62) rfl fl_X6_25 rfl rfl (am_dk tk_X6_goBack 21 rfl) ?_
      refine am_iload_n (j := 2) (am_dk tk_X6_goBack 22 rfl) rfl rfl ?_
      refine am_aload_n (j := 0) (am_dk tk_X6_goBack 23 rfl) rfl rfl ?_
      refine ly_getr (b := 81) rfl fl_X6_86 rfl rfl (am_dk tk_X6_goBack 24 rfl) ?_
      refine am_sipush (v := 139) (am_dk tk_X6_goBack 25 rfl) (by decide) ?_
      refine am_iload_n (j := 1) (am_dk tk_X6_goBack 26 rfl) rfl rfl ?_
      refine am_imul (am_dk tk_X6_goBack 27 rfl) ?_
      refine am_iload_n (j := 2) (am_dk tk_X6_goBack 28 rfl) rfl rfl ?_
      refine am_iadd (am_dk tk_X6_goBack 29 rfl) ?_
      obtain ⟨hi50, h⟩ := am_chk h
      refine ly_iald (k := ((139 * x1) + x2).toNatClampNeg) rfl (am_in_vp hi50) rfl (am_dk tk_X6_goBack 30 rfl) ?_
      obtain ⟨hi51, h⟩ := am_chk h
      refine ly_iast (k := x2.toNatClampNeg) rfl (am_in_vp hi51) rfl (am_dk tk_X6_goBack 31 rfl) ?_
      refine am_iinc (j := 2) (v := x2 + 1) (L' := [(2, .int (x2 + 1)), (0, .ref 56), (1, .int x1)]) (am_dk tk_X6_goBack 32 rfl) rfl rfl (Nat.le_of_ble_eq_true rfl) rfl ?_
      refine am_goto (tgt := 27) (am_dk tk_X6_goBack 33 rfl) (by decide) ?_
      refine am_ls [1, 2, 0] rfl ?_
      exact ih _ _ _ h
theorem ct_X6_goBack {l : Launch} {tw : Nat} {tp : Bool}  {x1 : Int32} {r : Int32} {D D' : am_M} (h : f_X6_goBack x1 D = some (r, D')) : am_CT l m_X6_goBack false [.ref 56, .int x1] (ly tw tp D) (am_is (some (.int r)) (ly tw tp D')) := by
  have hΦ : am_is (some (.int r)) (ly tw tp D') (some (.int r)) (ly tw tp D') := ⟨rfl, rfl⟩
  refine am_CT.of (by decide) (Nat.le_of_ble_eq_true rfl) ?_
  show am_Ex _ _ _ 0 [(0, .ref 56), (1, .int x1)] [] _
  rw [f_X6_goBack] at h
  refine am_iload_n (j := 1) (am_dk tk_X6_goBack 0 rfl) rfl rfl ?_
  refine am_i2l (am_dk tk_X6_goBack 1 rfl) ?_
  refine am_lconst (v := 0) (am_dk tk_X6_goBack 2 rfl) (by decide) ?_
  refine am_lconst (v := 1) (am_dk tk_X6_goBack 3 rfl) (by decide) ?_
  refine am_cS (M := m_X6_in) (As := [.long x1.toInt64, .long 0, .long 1]) (st := []) (ct_X6_in _ _ _ _) ml_X6_99 ld_X6_in rfl ⟨Nat.le_of_ble_eq_true rfl, Nat.le_of_ble_eq_true rfl⟩ (Nat.le_of_ble_eq_true rfl) ⟨rfl, rfl⟩ ⟨Nat.le_of_ble_eq_true rfl, Nat.le_of_ble_eq_true rfl⟩ (am_dk tk_X6_goBack 4 rfl) (am_kki ?_)
  refine am_if_ne (tgt := 13) (am_dk tk_X6_goBack 5 rfl) (by decide) (fun hc7 => ?_) (fun hc7 => ?_)
  · rw [if_neg hc7] at h
    refine am_aload_n (j := 0) (am_dk tk_X6_goBack 8 rfl) rfl rfl ?_
    refine ly_getr (b := 82) rfl fl_X6_89 rfl rfl (am_dk tk_X6_goBack 9 rfl) ?_
    refine am_iload_n (j := 1) (am_dk tk_X6_goBack 10 rfl) rfl rfl ?_
    obtain ⟨hi18, h⟩ := am_chk h
    refine ly_bald (k := x1.toNatClampNeg) rfl (am_in_vp hi18) rfl (am_dk tk_X6_goBack 11 rfl) ?_
    refine am_if_ne (tgt := 25) (am_dk tk_X6_goBack 12 rfl) (by decide) (fun hc19 => ?_) (fun hc19 => ?_)
    · rw [if_neg hc19] at h
      refine am_iconst (v := 0) (am_dk tk_X6_goBack 15 rfl) (by decide) ?_
      refine am_istore_n (L' := [(2, .int 0), (0, .ref 56), (1, .int x1)]) (am_dk tk_X6_goBack 16 rfl) rfl (Nat.le_of_ble_eq_true rfl) rfl ?_
      refine am_ls [1, 2, 0] rfl ?_
      exact bx_X6_goBack_27  hΦ am_N _ _ _ h
    · rw [if_pos hc19] at h
      refine am_ldc kc_X6_216 (am_dk tk_X6_goBack 13 rfl) ?_
      exact am_iret rfl (am_r2 h hΦ) ⟨Nat.le_of_ble_eq_true rfl, Nat.le_of_ble_eq_true rfl⟩ (am_dk tk_X6_goBack 14 rfl)
  · rw [if_pos hc7] at h
    refine am_ldc kc_X6_201 (am_dk tk_X6_goBack 6 rfl) ?_
    exact am_iret rfl (am_r2 h hΦ) ⟨Nat.le_of_ble_eq_true rfl, Nat.le_of_ble_eq_true rfl⟩ (am_dk tk_X6_goBack 7 rfl)
