abbrev m_X0_forget : am_D := (yX0_forget, prog_2_method_2_code, 1, none, { frames := 0, cells := 0, slots := 0, locals := 0 })
theorem ld_X0_forget : am_LD m_X0_forget 0 := ⟨(am_tb 84 (by decide +kernel) (by decide +kernel)), (am_tb 498 (by decide +kernel) (by decide +kernel)), by decide, by decide, by decide +kernel⟩
def tb_X0_forget : List (Nat × Instr × Nat) := [(0, .aload_n 0, 1), (1, .iconst 0, 1), (2, .putfield 22, 3), (5, .aload_n 0, 1), (6, .iconst 0, 1), (7, .putfield 26, 3), (10, .return_, 1)]
theorem tk_X0_forget : am_tbl prog_2_method_2_code tb_X0_forget = true := by decide +kernel
def f_X0_forget (D : am_M) : Option am_M := some (am_up (am_up D 50 3 0) 50 4 0)
theorem ct_X0_forget {l : Launch} {tw : Nat} {tp : Bool}  {D D' : am_M} (h : f_X0_forget D = some D') : am_CT l m_X0_forget false [.ref 50] (ly tw tp D) (am_is none (ly tw tp D')) := by
  have hΦ : am_is none (ly tw tp D') none (ly tw tp D') := ⟨rfl, rfl⟩
  refine am_CT.of (by decide) (Nat.le_of_ble_eq_true rfl) ?_
  show am_Ex _ _ _ 0 [(0, .ref 50)] [] _
  rw [f_X0_forget] at h
  refine am_aload_n (j := 0) (am_dk tk_X0_forget 0 rfl) rfl rfl ?_
  refine am_iconst (v := 0) (am_dk tk_X0_forget 1 rfl) (by decide) ?_
  refine ly_putz (Or.inl rfl) rfl fl_X0_22 rfl rfl (am_dk tk_X0_forget 2 rfl) ?_
  refine am_aload_n (j := 0) (am_dk tk_X0_forget 3 rfl) rfl rfl ?_
  refine am_iconst (v := 0) (am_dk tk_X0_forget 4 rfl) (by decide) ?_
  refine ly_putz (Or.inl rfl) rfl fl_X0_26 rfl rfl (am_dk tk_X0_forget 5 rfl) ?_
  exact am_vret rfl (am_r0 h hΦ) ⟨Nat.le_of_ble_eq_true rfl, Nat.le_of_ble_eq_true rfl⟩ (am_dk tk_X0_forget 6 rfl)
abbrev m_X0_addCoin : am_D := (yX0_addCoin, prog_2_method_4_code, 3, none, { frames := 1, cells := 0, slots := 0, locals := 15 })
theorem ld_X0_addCoin : am_LD m_X0_addCoin 1 := ⟨(am_tb 84 (by decide +kernel) (by decide +kernel)), (am_tb 741 (by decide +kernel) (by decide +kernel)), by decide, by decide, by decide +kernel⟩
def tb_X0_addCoin : List (Nat × Instr × Nat) := [(0, .aload_n 0, 1), (1, .getfield 9, 3), (4, .iload_n 1, 1), (5, .iconst 1, 1), (6, .bastore, 1), (7, .iload_n 1, 1), (8, .istore_n 2, 1), (9, .iload_n 2, 1), (10, .sipush 200, 3), (13, .if_icmp .gt 34, 3), (16, .aload_n 0, 1), (17, .getfield 15, 3), (20, .iload_n 2, 1), (21, .aload_n 0, 1), (22, .getfield 15, 3), (25, .iload_n 2, 1), (26, .iaload, 1), (27, .aload_n 0, 1), (28, .getfield 15, 3), (31, .iload_n 2, 1), (32, .iload_n 1, 1), (33, .isub, 1), (34, .iaload, 1), (35, .iconst 1, 1), (36, .iadd, 1), (37, .invokestatic 52, 3), (40, .iastore, 1), (41, .iinc 2 1, 3), (44, .goto (-35), 3), (47, .return_, 1)]
theorem tk_X0_addCoin : am_tbl prog_2_method_4_code tb_X0_addCoin = true := by decide +kernel
def b_X0_addCoin_9 : Nat → Int32 → Int32 → am_M → Option am_M
  | 0, _, _, _ => none
  | n + 1, x1, x2, D => if 200 < x2 then some D else if am_in x2 201 = true then if am_in (x2 - x1) 201 = true then b_X0_addCoin_9 n x1 (x2 + 1) (am_up D 52 x2.toNatClampNeg (am_min (D 52 x2.toNatClampNeg) ((D 52 (x2 - x1).toNatClampNeg) + 1))) else none else none
def f_X0_addCoin (x1 : Int32) (D : am_M) : Option am_M := if am_in x1 61 = true then b_X0_addCoin_9 am_N x1 x1 (am_up D 51 x1.toNatClampNeg (vp_nar .boolean 1)) else none
theorem bx_X0_addCoin_9 {l : Launch} {h0 : am_H} {Φ : am_Ph} {tw : Nat} {tp : Bool}  {D' : am_M} (hΦ : Φ none (ly tw tp D')) : ∀ (n : Nat) (x1 : Int32) (x2 : Int32) (D : am_M), b_X0_addCoin_9 n x1 x2 D = some D' → am_Ex (am_E l m_X0_addCoin false h0 Φ) prog_2_method_4_code (0, 0) 9 [(0, .ref 50), (1, .int x1), (2, .int x2)] [] (ly tw tp D) := by
  intro n
  induction n with
  | zero =>
    intro x1 x2 D h
    exact absurd h (by simp [b_X0_addCoin_9])
  | succ n ih =>
    intro x1 x2 D h
    rw [b_X0_addCoin_9] at h
    refine am_iload_n (j := 2) (am_dk tk_X0_addCoin 7 rfl) rfl rfl ?_
    refine am_sipush (v := 200) (am_dk tk_X0_addCoin 8 rfl) (by decide) ?_
    refine am_icmp_gt (tgt := 47) (am_dk tk_X0_addCoin 9 rfl) (by decide) (fun hc13 => ?_) (fun hc13 => ?_)
    · rw [if_pos hc13] at h
      exact am_vret rfl (am_r0 h hΦ) ⟨Nat.le_of_ble_eq_true rfl, Nat.le_of_ble_eq_true rfl⟩ (am_dk tk_X0_addCoin 29 rfl)
    · rw [if_neg hc13] at h
      refine am_aload_n (j := 0) (am_dk tk_X0_addCoin 10 rfl) rfl rfl ?_
      refine ly_getr (b := 52) rfl fl_X0_15 rfl rfl (am_dk tk_X0_addCoin 11 rfl) ?_
      refine am_iload_n (j := 2) (am_dk tk_X0_addCoin 12 rfl) rfl rfl ?_
      refine am_aload_n (j := 0) (am_dk tk_X0_addCoin 13 rfl) rfl rfl ?_
      refine ly_getr (b := 52) rfl fl_X0_15 rfl rfl (am_dk tk_X0_addCoin 14 rfl) ?_
      refine am_iload_n (j := 2) (am_dk tk_X0_addCoin 15 rfl) rfl rfl ?_
      obtain ⟨hi26, h⟩ := am_chk h
      refine ly_iald (k := x2.toNatClampNeg) rfl (am_in_vp hi26) rfl (am_dk tk_X0_addCoin 16 rfl) ?_
      refine am_aload_n (j := 0) (am_dk tk_X0_addCoin 17 rfl) rfl rfl ?_
      refine ly_getr (b := 52) rfl fl_X0_15 rfl rfl (am_dk tk_X0_addCoin 18 rfl) ?_
      refine am_iload_n (j := 2) (am_dk tk_X0_addCoin 19 rfl) rfl rfl ?_
      refine am_iload_n (j := 1) (am_dk tk_X0_addCoin 20 rfl) rfl rfl ?_
      refine am_isub (am_dk tk_X0_addCoin 21 rfl) ?_
      obtain ⟨hi34, h⟩ := am_chk h
      refine ly_iald (k := (x2 - x1).toNatClampNeg) rfl (am_in_vp hi34) rfl (am_dk tk_X0_addCoin 22 rfl) ?_
      refine am_iconst (v := 1) (am_dk tk_X0_addCoin 23 rfl) (by decide) ?_
      refine am_iadd (am_dk tk_X0_addCoin 24 rfl) ?_
      refine am_mmin lm_X0_52 (Nat.le_of_ble_eq_true rfl) (Nat.le_of_ble_eq_true rfl) ⟨Nat.le_of_ble_eq_true rfl, Nat.le_of_ble_eq_true rfl⟩ (am_dk tk_X0_addCoin 25 rfl) ?_
      refine ly_iast (k := x2.toNatClampNeg) rfl (am_in_vp hi26) rfl (am_dk tk_X0_addCoin 26 rfl) ?_
      refine am_iinc (j := 2) (v := x2 + 1) (L' := [(2, .int (x2 + 1)), (0, .ref 50), (1, .int x1)]) (am_dk tk_X0_addCoin 27 rfl) rfl rfl (Nat.le_of_ble_eq_true rfl) rfl ?_
      refine am_goto (tgt := 9) (am_dk tk_X0_addCoin 28 rfl) (by decide) ?_
      refine am_ls [1, 2, 0] rfl ?_
      exact ih _ _ _ h
theorem ct_X0_addCoin {l : Launch} {tw : Nat} {tp : Bool}  {x1 : Int32} {D D' : am_M} (h : f_X0_addCoin x1 D = some D') : am_CT l m_X0_addCoin false [.ref 50, .int x1] (ly tw tp D) (am_is none (ly tw tp D')) := by
  have hΦ : am_is none (ly tw tp D') none (ly tw tp D') := ⟨rfl, rfl⟩
  refine am_CT.of (by decide) (Nat.le_of_ble_eq_true rfl) ?_
  show am_Ex _ _ _ 0 [(0, .ref 50), (1, .int x1)] [] _
  rw [f_X0_addCoin] at h
  refine am_aload_n (j := 0) (am_dk tk_X0_addCoin 0 rfl) rfl rfl ?_
  refine ly_getr (b := 51) rfl fl_X0_9 rfl rfl (am_dk tk_X0_addCoin 1 rfl) ?_
  refine am_iload_n (j := 1) (am_dk tk_X0_addCoin 2 rfl) rfl rfl ?_
  refine am_iconst (v := 1) (am_dk tk_X0_addCoin 3 rfl) (by decide) ?_
  obtain ⟨hi6, h⟩ := am_chk h
  refine ly_bast (k := x1.toNatClampNeg) rfl (am_in_vp hi6) rfl (am_dk tk_X0_addCoin 4 rfl) ?_
  refine am_iload_n (j := 1) (am_dk tk_X0_addCoin 5 rfl) rfl rfl ?_
  refine am_istore_n (L' := [(2, .int x1), (0, .ref 50), (1, .int x1)]) (am_dk tk_X0_addCoin 6 rfl) rfl (Nat.le_of_ble_eq_true rfl) rfl ?_
  refine am_ls [1, 2, 0] rfl ?_
  exact bx_X0_addCoin_9  hΦ am_N _ _ _ h
abbrev m_X0_prepare : am_D := (yX0_prepare, prog_2_method_3_code, 4, none, { frames := 2, cells := 0, slots := 0, locals := 37 })
theorem ld_X0_prepare : am_LD m_X0_prepare 1 := ⟨(am_tb 84 (by decide +kernel) (by decide +kernel)), (am_tb 736 (by decide +kernel) (by decide +kernel)), by decide, by decide, by decide +kernel⟩
def tb_X0_prepare : List (Nat × Instr × Nat) := [(0, .aload_n 0, 1), (1, .getfield 22, 3), (4, .ifCond .eq 4, 3), (7, .return_, 1), (8, .aload_n 0, 1), (9, .iconst 1, 1), (10, .putfield 22, 3), (13, .iconst 1, 1), (14, .istore_n 2, 1), (15, .iload_n 2, 1), (16, .bipush 60, 2), (18, .if_icmp .gt 25, 3), (21, .aload_n 0, 1), (22, .getfield 9, 3), (25, .iload_n 2, 1), (26, .iload_n 2, 1), (27, .iconst 1, 1), (28, .if_icmp .ne 7, 3), (31, .iconst 1, 1), (32, .goto 4, 3), (35, .iconst 0, 1), (36, .bastore, 1), (37, .iinc 2 1, 3), (40, .goto (-25), 3), (43, .iconst 0, 1), (44, .istore_n 2, 1), (45, .iload_n 2, 1), (46, .sipush 200, 3), (49, .if_icmp .gt 16, 3), (52, .aload_n 0, 1), (53, .getfield 15, 3), (56, .iload_n 2, 1), (57, .iload_n 2, 1), (58, .iastore, 1), (59, .iinc 2 1, 3), (62, .goto (-17), 3), (65, .iconst 0, 1), (66, .istore_n 2, 1), (67, .iload_n 2, 1), (68, .aload_n 1, 1), (69, .getfield 36, 3), (72, .if_icmp .ge 31, 3), (75, .aload_n 1, 1), (76, .getfield 41, 3), (79, .iload_n 2, 1), (80, .iaload, 1), (81, .istore_n 3, 1), (82, .iload_n 3, 1), (83, .iconst 1, 1), (84, .bipush 60, 2), (86, .invokestatic 44, 3), (89, .ifCond .eq 8, 3), (92, .aload_n 0, 1), (93, .iload_n 3, 1), (94, .invokevirtual 48, 3), (97, .iinc 2 1, 3), (100, .goto (-33), 3), (103, .return_, 1)]
theorem tk_X0_prepare : am_tbl prog_2_method_3_code tb_X0_prepare = true := by decide +kernel
def b_X0_prepare_67 (T : Nat) : Nat → Int32 → am_M → Option am_M
  | 0, _, _ => none
  | n + 1, x2, D => if (D T 4) ≤ x2 then some D else if am_in x2 4 = true then if (f_X5_isWithin (D (T + 1) x2.toNatClampNeg) 1 60) = 0 then b_X0_prepare_67 T n (x2 + 1) D else (f_X0_addCoin (D (T + 1) x2.toNatClampNeg) D).bind fun q94 => b_X0_prepare_67 T n (x2 + 1) q94 else none
def b_X0_prepare_45 (T : Nat) : Nat → Int32 → am_M → Option am_M
  | 0, _, _ => none
  | n + 1, x2, D => if 200 < x2 then b_X0_prepare_67 T am_N 0 D else if am_in x2 201 = true then b_X0_prepare_45 T n (x2 + 1) (am_up D 52 x2.toNatClampNeg x2) else none
def b_X0_prepare_36 (T : Nat) (k15 : Int32 → am_M → Option am_M) (x2 : Int32) (s0 : Int32) (s1 : Int32) (D : am_M) : Option am_M := if am_in s1 61 = true then k15 (x2 + 1) (am_up D 51 s1.toNatClampNeg (vp_nar .boolean s0)) else none
def b_X0_prepare_15 (T : Nat) : Nat → Int32 → am_M → Option am_M
  | 0, _, _ => none
  | n + 1, x2, D => if 60 < x2 then b_X0_prepare_45 T am_N 0 D else b_X0_prepare_36 T (b_X0_prepare_15 T n) x2 (if x2 = 1 then 1 else 0) x2 D
def f_X0_prepare (T : Nat) (D : am_M) : Option am_M := if (D 50 3) = 0 then b_X0_prepare_15 T am_N 1 (am_up D 50 3 1) else some D
theorem bx_X0_prepare_67 {l : Launch} {h0 : am_H} {Φ : am_Ph} {tw : Nat} {tp : Bool} {T : Nat} (hT : lyT T) {D' : am_M} (hΦ : Φ none (ly tw tp D')) : ∀ (n : Nat) (x2 : Int32) (D : am_M), b_X0_prepare_67 T n x2 D = some D' → am_Ex (am_E l m_X0_prepare false h0 Φ) prog_2_method_3_code (0, 0) 67 [(0, .ref 50), (1, .ref T), (2, .int x2)] [] (ly tw tp D) := by
  intro n
  induction n with
  | zero =>
    intro x2 D h
    exact absurd h (by simp [b_X0_prepare_67])
  | succ n ih =>
    intro x2 D h
    rw [b_X0_prepare_67] at h
    refine am_iload_n (j := 2) (am_dk tk_X0_prepare 38 rfl) rfl rfl ?_
    refine am_aload_n (j := 1) (am_dk tk_X0_prepare 39 rfl) rfl rfl ?_
    refine ly_geti (lyT_s hT) fl_X0_36 rfl (am_dk tk_X0_prepare 40 rfl) ?_
    refine am_icmp_ge (tgt := 103) (am_dk tk_X0_prepare 41 rfl) (by decide) (fun hc72 => ?_) (fun hc72 => ?_)
    · rw [if_pos hc72] at h
      exact am_vret rfl (am_r0 h hΦ) ⟨Nat.le_of_ble_eq_true rfl, Nat.le_of_ble_eq_true rfl⟩ (am_dk tk_X0_prepare 57 rfl)
    · rw [if_neg hc72] at h
      refine am_aload_n (j := 1) (am_dk tk_X0_prepare 42 rfl) rfl rfl ?_
      refine ly_getr (b := (T + 1)) (lyT_s hT) fl_X0_41 rfl (lyT_r7 hT) (am_dk tk_X0_prepare 43 rfl) ?_
      refine am_iload_n (j := 2) (am_dk tk_X0_prepare 44 rfl) rfl rfl ?_
      obtain ⟨hi80, h⟩ := am_chk h
      refine ly_iald (k := x2.toNatClampNeg) (lyT_a7 hT) (am_in_vp hi80) rfl (am_dk tk_X0_prepare 45 rfl) ?_
      refine am_istore_n (L' := [(3, .int (D (T + 1) x2.toNatClampNeg)), (0, .ref 50), (1, .ref T), (2, .int x2)]) (am_dk tk_X0_prepare 46 rfl) rfl (Nat.le_of_ble_eq_true rfl) rfl ?_
      refine am_iload_n (j := 0) (am_dk tk_X0_prepare 47 rfl) rfl rfl ?_
      refine am_iconst (v := 1) (am_dk tk_X0_prepare 48 rfl) (by decide) ?_
      refine am_bipush (v := 60) (am_dk tk_X0_prepare 49 rfl) (by decide) ?_
      refine am_cSN (M := m_X5_isWithin) (As := [.int (D (T + 1) x2.toNatClampNeg), .int 1, .int 60]) (st := []) (ct_X5_isWithin _ _ _ _) ml_X0_44 ld_X5_isWithin rfl ⟨Nat.le_of_ble_eq_true rfl, Nat.le_of_ble_eq_true rfl⟩ (Nat.le_of_ble_eq_true rfl) ⟨rfl, rfl⟩ ⟨Nat.le_of_ble_eq_true rfl, Nat.le_of_ble_eq_true rfl⟩ (am_dk tk_X0_prepare 50 rfl) (am_kki ?_)
      refine am_if_eq (tgt := 97) (am_dk tk_X0_prepare 51 rfl) (by decide) (fun hc89 => ?_) (fun hc89 => ?_)
      · rw [if_pos hc89] at h
        refine am_iinc (j := 3) (v := x2 + 1) (L' := [(2, .int (x2 + 1)), (3, .int (D (T + 1) x2.toNatClampNeg)), (0, .ref 50), (1, .ref T)]) (am_dk tk_X0_prepare 55 rfl) rfl rfl (Nat.le_of_ble_eq_true rfl) rfl ?_
        refine am_goto (tgt := 67) (am_dk tk_X0_prepare 56 rfl) (by decide) ?_
        refine am_ls [2, 3, 0] rfl ?_
        exact ih _ _ h
      · rw [if_neg hc89] at h
        refine am_aload_n (j := 1) (am_dk tk_X0_prepare 52 rfl) rfl rfl ?_
        refine am_iload_n (j := 0) (am_dk tk_X0_prepare 53 rfl) rfl rfl ?_
        obtain ⟨q94, hq94, h⟩ := am_bind h
        refine ly_cV (M := m_X0_addCoin) (As := [.int (D (T + 1) x2.toNatClampNeg)]) (b := 50) (st := []) (ct_X0_addCoin hq94) rfl (by decide) rfl ml_X0_48 ld_X0_addCoin rfl ⟨Nat.le_of_ble_eq_true rfl, Nat.le_of_ble_eq_true rfl⟩ (Nat.le_of_ble_eq_true rfl) ⟨rfl, rfl⟩ ⟨Nat.le_of_ble_eq_true rfl, Nat.le_of_ble_eq_true rfl⟩ (am_dk tk_X0_prepare 54 rfl) (am_kkv ?_)
        refine am_iinc (j := 3) (v := x2 + 1) (L' := [(2, .int (x2 + 1)), (3, .int (D (T + 1) x2.toNatClampNeg)), (0, .ref 50), (1, .ref T)]) (am_dk tk_X0_prepare 55 rfl) rfl rfl (Nat.le_of_ble_eq_true rfl) rfl ?_
        refine am_goto (tgt := 67) (am_dk tk_X0_prepare 56 rfl) (by decide) ?_
        refine am_ls [2, 3, 0] rfl ?_
        exact ih _ _ h
theorem bx_X0_prepare_45 {l : Launch} {h0 : am_H} {Φ : am_Ph} {tw : Nat} {tp : Bool} {T : Nat} (hT : lyT T) {D' : am_M} (hΦ : Φ none (ly tw tp D')) : ∀ (n : Nat) (x2 : Int32) (D : am_M), b_X0_prepare_45 T n x2 D = some D' → am_Ex (am_E l m_X0_prepare false h0 Φ) prog_2_method_3_code (0, 0) 45 [(0, .ref 50), (1, .ref T), (2, .int x2)] [] (ly tw tp D) := by
  intro n
  induction n with
  | zero =>
    intro x2 D h
    exact absurd h (by simp [b_X0_prepare_45])
  | succ n ih =>
    intro x2 D h
    rw [b_X0_prepare_45] at h
    refine am_iload_n (j := 2) (am_dk tk_X0_prepare 26 rfl) rfl rfl ?_
    refine am_sipush (v := 200) (am_dk tk_X0_prepare 27 rfl) (by decide) ?_
    refine am_icmp_gt (tgt := 65) (am_dk tk_X0_prepare 28 rfl) (by decide) (fun hc49 => ?_) (fun hc49 => ?_)
    · rw [if_pos hc49] at h
      refine am_iconst (v := 0) (am_dk tk_X0_prepare 36 rfl) (by decide) ?_
      refine am_istore_n (L' := [(2, .int 0), (0, .ref 50), (1, .ref T)]) (am_dk tk_X0_prepare 37 rfl) rfl (Nat.le_of_ble_eq_true rfl) rfl ?_
      refine am_ls [1, 2, 0] rfl ?_
      exact bx_X0_prepare_67 hT hΦ am_N _ _ h
    · rw [if_neg hc49] at h
      refine am_aload_n (j := 0) (am_dk tk_X0_prepare 29 rfl) rfl rfl ?_
      refine ly_getr (b := 52) rfl fl_X0_15 rfl rfl (am_dk tk_X0_prepare 30 rfl) ?_
      refine am_iload_n (j := 2) (am_dk tk_X0_prepare 31 rfl) rfl rfl ?_
      refine am_iload_n (j := 2) (am_dk tk_X0_prepare 32 rfl) rfl rfl ?_
      obtain ⟨hi58, h⟩ := am_chk h
      refine ly_iast (k := x2.toNatClampNeg) rfl (am_in_vp hi58) rfl (am_dk tk_X0_prepare 33 rfl) ?_
      refine am_iinc (j := 2) (v := x2 + 1) (L' := [(2, .int (x2 + 1)), (0, .ref 50), (1, .ref T)]) (am_dk tk_X0_prepare 34 rfl) rfl rfl (Nat.le_of_ble_eq_true rfl) rfl ?_
      refine am_goto (tgt := 45) (am_dk tk_X0_prepare 35 rfl) (by decide) ?_
      refine am_ls [1, 2, 0] rfl ?_
      exact ih _ _ h
theorem bx_X0_prepare_36 {l : Launch} {h0 : am_H} {Φ : am_Ph} {tw : Nat} {tp : Bool} {T : Nat} (hT : lyT T) {D' : am_M} (hΦ : Φ none (ly tw tp D')) {k15 : Int32 → am_M → Option am_M} (hk15 : ∀ (x2 : Int32) (D : am_M), k15 x2 D = some D' → am_Ex (am_E l m_X0_prepare false h0 Φ) prog_2_method_3_code (0, 0) 15 [(0, .ref 50), (1, .ref T), (2, .int x2)] [] (ly tw tp D)) : ∀ (x2 : Int32) (s0 : Int32) (s1 : Int32) (D : am_M), b_X0_prepare_36 T k15 x2 s0 s1 D = some D' → am_Ex (am_E l m_X0_prepare false h0 Φ) prog_2_method_3_code (0, 0) 36 [(0, .ref 50), (1, .ref T), (2, .int x2)] [.int s0, .int s1, .ref 51] (ly tw tp D) := by
  intro x2 s0 s1 D h
  rw [b_X0_prepare_36] at h
  obtain ⟨hi36, h⟩ := am_chk h
  refine ly_bast (k := s1.toNatClampNeg) rfl (am_in_vp hi36) rfl (am_dk tk_X0_prepare 21 rfl) ?_
  refine am_iinc (j := 2) (v := x2 + 1) (L' := [(2, .int (x2 + 1)), (0, .ref 50), (1, .ref T)]) (am_dk tk_X0_prepare 22 rfl) rfl rfl (Nat.le_of_ble_eq_true rfl) rfl ?_
  refine am_goto (tgt := 15) (am_dk tk_X0_prepare 23 rfl) (by decide) ?_
  refine am_ls [1, 2, 0] rfl ?_
  exact hk15 _ _ h
theorem bx_X0_prepare_15 {l : Launch} {h0 : am_H} {Φ : am_Ph} {tw : Nat} {tp : Bool} {T : Nat} (hT : lyT T) {D' : am_M} (hΦ : Φ none (ly tw tp D')) : ∀ (n : Nat) (x2 : Int32) (D : am_M), b_X0_prepare_15 T n x2 D = some D' → am_Ex (am_E l m_X0_prepare false h0 Φ) prog_2_method_3_code (0, 0) 15 [(0, .ref 50), (1, .ref T), (2, .int x2)] [] (ly tw tp D) := by
  intro n
  induction n with
  | zero =>
    intro x2 D h
    exact absurd h (by simp [b_X0_prepare_15])
  | succ n ih =>
    intro x2 D h
    rw [b_X0_prepare_15] at h
    refine am_iload_n (j := 2) (am_dk tk_X0_prepare 9 rfl) rfl rfl ?_
    refine am_bipush (v := 60) (am_dk tk_X0_prepare 10 rfl) (by decide) ?_
    refine am_icmp_gt (tgt := 43) (am_dk tk_X0_prepare 11 rfl) (by decide) (fun hc18 => ?_) (fun hc18 => ?_)
    · rw [if_pos hc18] at h
      refine am_iconst (v := 0) (am_dk tk_X0_prepare 24 rfl) (by decide) ?_
      refine am_istore_n (L' := [(2, .int 0), (0, .ref 50), (1, .ref T)]) (am_dk tk_X0_prepare 25 rfl) rfl (Nat.le_of_ble_eq_true rfl) rfl ?_
      refine am_ls [1, 2, 0] rfl ?_
      exact bx_X0_prepare_45 hT hΦ am_N _ _ h
    · rw [if_neg hc18] at h
      refine am_aload_n (j := 0) (am_dk tk_X0_prepare 12 rfl) rfl rfl ?_
      refine ly_getr (b := 51) rfl fl_X0_9 rfl rfl (am_dk tk_X0_prepare 13 rfl) ?_
      refine am_iload_n (j := 2) (am_dk tk_X0_prepare 14 rfl) rfl rfl ?_
      refine am_iload_n (j := 2) (am_dk tk_X0_prepare 15 rfl) rfl rfl ?_
      refine am_iconst (v := 1) (am_dk tk_X0_prepare 16 rfl) (by decide) ?_
      refine am_icmp_ne (tgt := 35) (am_dk tk_X0_prepare 17 rfl) (by decide) (fun hc28 => ?_) (fun hc28 => ?_)
      · simp only [if_neg hc28] at h
        refine am_iconst (v := 0) (am_dk tk_X0_prepare 20 rfl) (by decide) ?_
        exact bx_X0_prepare_36 hT hΦ (ih) _ _ _ _ h
      · simp only [if_pos hc28] at h
        refine am_iconst (v := 1) (am_dk tk_X0_prepare 18 rfl) (by decide) ?_
        refine am_goto (tgt := 36) (am_dk tk_X0_prepare 19 rfl) (by decide) ?_
        exact bx_X0_prepare_36 hT hΦ (ih) _ _ _ _ h
theorem ct_X0_prepare {l : Launch} {tw : Nat} {tp : Bool} {T : Nat} (hT : lyT T) {D D' : am_M} (h : f_X0_prepare T D = some D') : am_CT l m_X0_prepare false [.ref 50, .ref T] (ly tw tp D) (am_is none (ly tw tp D')) := by
  have hΦ : am_is none (ly tw tp D') none (ly tw tp D') := ⟨rfl, rfl⟩
  refine am_CT.of (by decide) (Nat.le_of_ble_eq_true rfl) ?_
  show am_Ex _ _ _ 0 [(0, .ref 50), (1, .ref T)] [] _
  rw [f_X0_prepare] at h
  refine am_aload_n (j := 0) (am_dk tk_X0_prepare 0 rfl) rfl rfl ?_
  refine ly_geti rfl fl_X0_22 rfl (am_dk tk_X0_prepare 1 rfl) ?_
  refine am_if_eq (tgt := 8) (am_dk tk_X0_prepare 2 rfl) (by decide) (fun hc4 => ?_) (fun hc4 => ?_)
  · rw [if_pos hc4] at h
    refine am_aload_n (j := 0) (am_dk tk_X0_prepare 4 rfl) rfl rfl ?_
    refine am_iconst (v := 1) (am_dk tk_X0_prepare 5 rfl) (by decide) ?_
    refine ly_putz (Or.inr rfl) rfl fl_X0_22 rfl rfl (am_dk tk_X0_prepare 6 rfl) ?_
    refine am_iconst (v := 1) (am_dk tk_X0_prepare 7 rfl) (by decide) ?_
    refine am_istore_n (L' := [(2, .int 1), (0, .ref 50), (1, .ref T)]) (am_dk tk_X0_prepare 8 rfl) rfl (Nat.le_of_ble_eq_true rfl) rfl ?_
    refine am_ls [1, 2, 0] rfl ?_
    exact bx_X0_prepare_15 hT hΦ am_N _ _ h
  · rw [if_neg hc4] at h
    exact am_vret rfl (am_r0 h hΦ) ⟨Nat.le_of_ble_eq_true rfl, Nat.le_of_ble_eq_true rfl⟩ (am_dk tk_X0_prepare 3 rfl)
abbrev m_X0_countTaken : am_D := (yX0_countTaken, prog_2_method_6_code, 5, (some .int), { frames := 0, cells := 0, slots := 0, locals := 0 })
theorem ld_X0_countTaken : am_LD m_X0_countTaken 2 := ⟨(am_tb 84 (by decide +kernel) (by decide +kernel)), (am_tb 750 (by decide +kernel) (by decide +kernel)), by decide, by decide, by decide +kernel⟩
def tb_X0_countTaken : List (Nat × Instr × Nat) := [(0, .iload_n 2, 1), (1, .istore_n 3, 1), (2, .iconst 0, 1), (3, .istore 4, 2), (5, .iload_n 3, 1), (6, .iload_n 1, 1), (7, .if_icmp .lt 32, 3), (10, .aload_n 0, 1), (11, .getfield 15, 3), (14, .iload_n 3, 1), (15, .iload_n 1, 1), (16, .isub, 1), (17, .iaload, 1), (18, .iconst 1, 1), (19, .iadd, 1), (20, .aload_n 0, 1), (21, .getfield 15, 3), (24, .iload_n 3, 1), (25, .iaload, 1), (26, .if_icmp .ne 13, 3), (29, .iload_n 3, 1), (30, .iload_n 1, 1), (31, .isub, 1), (32, .istore_n 3, 1), (33, .iinc 4 1, 3), (36, .goto (-31), 3), (39, .iload 4, 2), (41, .ireturn, 1)]
theorem tk_X0_countTaken : am_tbl prog_2_method_6_code tb_X0_countTaken = true := by decide +kernel
def b_X0_countTaken_5 : Nat → Int32 → Int32 → Int32 → am_M → Option (Int32 × am_M)
  | 0, _, _, _, _ => none
  | n + 1, x1, x3, x4, D => if x3 < x1 then some (x4, D) else if am_in (x3 - x1) 201 = true then if am_in x3 201 = true then if ((D 52 (x3 - x1).toNatClampNeg) + 1) = (D 52 x3.toNatClampNeg) then b_X0_countTaken_5 n x1 (x3 - x1) (x4 + 1) D else some (x4, D) else none else none
def f_X0_countTaken (x1 : Int32) (x2 : Int32) (D : am_M) : Option (Int32 × am_M) := b_X0_countTaken_5 am_N x1 x2 0 D
theorem bx_X0_countTaken_5 {l : Launch} {h0 : am_H} {Φ : am_Ph} {tw : Nat} {tp : Bool}  {r : Int32} {D' : am_M} (hΦ : Φ (some (.int r)) (ly tw tp D')) : ∀ (n : Nat) (x1 : Int32) (x3 : Int32) (x4 : Int32) (D : am_M), b_X0_countTaken_5 n x1 x3 x4 D = some (r, D') → am_Ex (am_E l m_X0_countTaken false h0 Φ) prog_2_method_6_code (0, 0) 5 [(0, .ref 50), (1, .int x1), (3, .int x3), (4, .int x4)] [] (ly tw tp D) := by
  intro n
  induction n with
  | zero =>
    intro x1 x3 x4 D h
    exact absurd h (by simp [b_X0_countTaken_5])
  | succ n ih =>
    intro x1 x3 x4 D h
    rw [b_X0_countTaken_5] at h
    refine am_iload_n (j := 2) (am_dk tk_X0_countTaken 4 rfl) rfl rfl ?_
    refine am_iload_n (j := 1) (am_dk tk_X0_countTaken 5 rfl) rfl rfl ?_
    refine am_icmp_lt (tgt := 39) (am_dk tk_X0_countTaken 6 rfl) (by decide) (fun hc7 => ?_) (fun hc7 => ?_)
    · rw [if_pos hc7] at h
      refine am_iload (j := 3) (am_dk tk_X0_countTaken 26 rfl) rfl ?_
      exact am_iret rfl (am_r2 h hΦ) ⟨Nat.le_of_ble_eq_true rfl, Nat.le_of_ble_eq_true rfl⟩ (am_dk tk_X0_countTaken 27 rfl)
    · rw [if_neg hc7] at h
      refine am_aload_n (j := 0) (am_dk tk_X0_countTaken 7 rfl) rfl rfl ?_
      refine ly_getr (b := 52) rfl fl_X0_15 rfl rfl (am_dk tk_X0_countTaken 8 rfl) ?_
      refine am_iload_n (j := 2) (am_dk tk_X0_countTaken 9 rfl) rfl rfl ?_
      refine am_iload_n (j := 1) (am_dk tk_X0_countTaken 10 rfl) rfl rfl ?_
      refine am_isub (am_dk tk_X0_countTaken 11 rfl) ?_
      obtain ⟨hi17, h⟩ := am_chk h
      refine ly_iald (k := (x3 - x1).toNatClampNeg) rfl (am_in_vp hi17) rfl (am_dk tk_X0_countTaken 12 rfl) ?_
      refine am_iconst (v := 1) (am_dk tk_X0_countTaken 13 rfl) (by decide) ?_
      refine am_iadd (am_dk tk_X0_countTaken 14 rfl) ?_
      refine am_aload_n (j := 0) (am_dk tk_X0_countTaken 15 rfl) rfl rfl ?_
      refine ly_getr (b := 52) rfl fl_X0_15 rfl rfl (am_dk tk_X0_countTaken 16 rfl) ?_
      refine am_iload_n (j := 2) (am_dk tk_X0_countTaken 17 rfl) rfl rfl ?_
      obtain ⟨hi25, h⟩ := am_chk h
      refine ly_iald (k := x3.toNatClampNeg) rfl (am_in_vp hi25) rfl (am_dk tk_X0_countTaken 18 rfl) ?_
      refine am_icmp_ne (tgt := 39) (am_dk tk_X0_countTaken 19 rfl) (by decide) (fun hc26 => ?_) (fun hc26 => ?_)
      · rw [if_neg hc26] at h
        refine am_iload (j := 3) (am_dk tk_X0_countTaken 26 rfl) rfl ?_
        exact am_iret rfl (am_r2 h hΦ) ⟨Nat.le_of_ble_eq_true rfl, Nat.le_of_ble_eq_true rfl⟩ (am_dk tk_X0_countTaken 27 rfl)
      · rw [if_pos hc26] at h
        refine am_iload_n (j := 2) (am_dk tk_X0_countTaken 20 rfl) rfl rfl ?_
        refine am_iload_n (j := 1) (am_dk tk_X0_countTaken 21 rfl) rfl rfl ?_
        refine am_isub (am_dk tk_X0_countTaken 22 rfl) ?_
        refine am_istore_n (L' := [(3, .int (x3 - x1)), (0, .ref 50), (1, .int x1), (4, .int x4)]) (am_dk tk_X0_countTaken 23 rfl) rfl (Nat.le_of_ble_eq_true rfl) rfl ?_
        refine am_iinc (j := 3) (v := x4 + 1) (L' := [(4, .int (x4 + 1)), (3, .int (x3 - x1)), (0, .ref 50), (1, .int x1)]) (am_dk tk_X0_countTaken 24 rfl) rfl rfl (Nat.le_of_ble_eq_true rfl) rfl ?_
        refine am_goto (tgt := 5) (am_dk tk_X0_countTaken 25 rfl) (by decide) ?_
        refine am_ls [2, 3, 1, 0] rfl ?_
        exact ih _ _ _ _ h
theorem ct_X0_countTaken {l : Launch} {tw : Nat} {tp : Bool}  {x1 : Int32} {x2 : Int32} {r : Int32} {D D' : am_M} (h : f_X0_countTaken x1 x2 D = some (r, D')) : am_CT l m_X0_countTaken false [.ref 50, .int x1, .int x2] (ly tw tp D) (am_is (some (.int r)) (ly tw tp D')) := by
  have hΦ : am_is (some (.int r)) (ly tw tp D') (some (.int r)) (ly tw tp D') := ⟨rfl, rfl⟩
  refine am_CT.of (by decide) (Nat.le_of_ble_eq_true rfl) ?_
  show am_Ex _ _ _ 0 [(0, .ref 50), (1, .int x1), (2, .int x2)] [] _
  rw [f_X0_countTaken] at h
  refine am_iload_n (j := 2) (am_dk tk_X0_countTaken 0 rfl) rfl rfl ?_
  refine am_istore_n (L' := [(3, .int x2), (0, .ref 50), (1, .int x1), (2, .int x2)]) (am_dk tk_X0_countTaken 1 rfl) rfl (Nat.le_of_ble_eq_true rfl) rfl ?_
  refine am_iconst (v := 0) (am_dk tk_X0_countTaken 2 rfl) (by decide) ?_
  refine am_istore (L' := [(4, .int 0), (3, .int x2), (0, .ref 50), (1, .int x1), (2, .int x2)]) (am_dk tk_X0_countTaken 3 rfl) (Nat.le_of_ble_eq_true rfl) rfl ?_
  refine am_ls [2, 3, 1, 0] rfl ?_
  exact bx_X0_countTaken_5  hΦ am_N _ _ _ _ h
abbrev m_X0_countOf : am_D := (yX0_countOf, prog_2_method_5_code, 6, (some .int), { frames := 1, cells := 0, slots := 0, locals := 24 })
theorem ld_X0_countOf : am_LD m_X0_countOf 2 := ⟨(am_tb 84 (by decide +kernel) (by decide +kernel)), (am_tb 746 (by decide +kernel) (by decide +kernel)), by decide, by decide, by decide +kernel⟩
def tb_X0_countOf : List (Nat × Instr × Nat) := [(0, .iload_n 1, 1), (1, .iconst 1, 1), (2, .bipush 60, 2), (4, .invokestatic 44, 3), (7, .ifCond .eq 12, 3), (10, .aload_n 0, 1), (11, .getfield 9, 3), (14, .iload_n 1, 1), (15, .baload, 1), (16, .ifCond .ne 5, 3), (19, .iconst 0, 1), (20, .ireturn, 1), (21, .iload_n 2, 1), (22, .istore_n 3, 1), (23, .iconst 0, 1), (24, .istore 4, 2), (26, .bipush 60, 2), (28, .istore 5, 2), (30, .iload 5, 2), (32, .iload_n 1, 1), (33, .if_icmp .lt 40, 3), (36, .aload_n 0, 1), (37, .getfield 9, 3), (40, .iload 5, 2), (42, .baload, 1), (43, .ifCond .eq 13, 3), (46, .aload_n 0, 1), (47, .iload 5, 2), (49, .iload_n 3, 1), (50, .invokevirtual 58, 3), (53, .goto 4, 3), (56, .iconst 0, 1), (57, .istore 4, 2), (59, .iload_n 3, 1), (60, .iload 4, 2), (62, .iload 5, 2), (64, .imul, 1), (65, .isub, 1), (66, .istore_n 3, 1), (67, .iinc 5 (-1), 3), (70, .goto (-40), 3), (73, .iload 4, 2), (75, .ireturn, 1)]
theorem tk_X0_countOf : am_tbl prog_2_method_5_code tb_X0_countOf = true := by decide +kernel
def b_X0_countOf_57 (k30 : Int32 → Int32 → Int32 → Int32 → am_M → Option (Int32 × am_M)) (x1 : Int32) (x3 : Int32) (x5 : Int32) (s0 : Int32) (D : am_M) : Option (Int32 × am_M) := k30 x1 (x3 - (s0 * x5)) s0 (x5 + (-1)) D
def b_X0_countOf_30 : Nat → Int32 → Int32 → Int32 → Int32 → am_M → Option (Int32 × am_M)
  | 0, _, _, _, _, _ => none
  | n + 1, x1, x3, x4, x5, D => if x5 < x1 then some (x4, D) else if am_in x5 61 = true then if (D 51 x5.toNatClampNeg) = 0 then b_X0_countOf_57 (b_X0_countOf_30 n) x1 x3 x5 0 D else (f_X0_countTaken x5 x3 D).bind fun q50 => b_X0_countOf_57 (b_X0_countOf_30 n) x1 x3 x5 q50.1 q50.2 else none
def f_X0_countOf (x1 : Int32) (x2 : Int32) (D : am_M) : Option (Int32 × am_M) := if (f_X5_isWithin x1 1 60) = 0 then some (0, D) else if am_in x1 61 = true then if (D 51 x1.toNatClampNeg) = 0 then some (0, D) else b_X0_countOf_30 am_N x1 x2 0 60 D else none
theorem bx_X0_countOf_57 {l : Launch} {h0 : am_H} {Φ : am_Ph} {tw : Nat} {tp : Bool}  {r : Int32} {D' : am_M} (hΦ : Φ (some (.int r)) (ly tw tp D')) {k30 : Int32 → Int32 → Int32 → Int32 → am_M → Option (Int32 × am_M)} (hk30 : ∀ (x1 : Int32) (x3 : Int32) (x4 : Int32) (x5 : Int32) (D : am_M), k30 x1 x3 x4 x5 D = some (r, D') → am_Ex (am_E l m_X0_countOf false h0 Φ) prog_2_method_5_code (0, 0) 30 [(0, .ref 50), (1, .int x1), (3, .int x3), (4, .int x4), (5, .int x5)] [] (ly tw tp D)) : ∀ (x1 : Int32) (x3 : Int32) (x5 : Int32) (s0 : Int32) (D : am_M), b_X0_countOf_57 k30 x1 x3 x5 s0 D = some (r, D') → am_Ex (am_E l m_X0_countOf false h0 Φ) prog_2_method_5_code (0, 0) 57 [(0, .ref 50), (1, .int x1), (3, .int x3), (5, .int x5)] [.int s0] (ly tw tp D) := by
  intro x1 x3 x5 s0 D h
  rw [b_X0_countOf_57] at h
  refine am_istore (L' := [(4, .int s0), (0, .ref 50), (1, .int x1), (3, .int x3), (5, .int x5)]) (am_dk tk_X0_countOf 32 rfl) (Nat.le_of_ble_eq_true rfl) rfl ?_
  refine am_iload_n (j := 3) (am_dk tk_X0_countOf 33 rfl) rfl rfl ?_
  refine am_iload (j := 0) (am_dk tk_X0_countOf 34 rfl) rfl ?_
  refine am_iload (j := 4) (am_dk tk_X0_countOf 35 rfl) rfl ?_
  refine am_imul (am_dk tk_X0_countOf 36 rfl) ?_
  refine am_isub (am_dk tk_X0_countOf 37 rfl) ?_
  refine am_istore_n (L' := [(3, .int (x3 - (s0 * x5))), (4, .int s0), (0, .ref 50), (1, .int x1), (5, .int x5)]) (am_dk tk_X0_countOf 38 rfl) rfl (Nat.le_of_ble_eq_true rfl) rfl ?_
  refine am_iinc (j := 4) (v := x5 + (-1)) (L' := [(5, .int (x5 + (-1))), (3, .int (x3 - (s0 * x5))), (4, .int s0), (0, .ref 50), (1, .int x1)]) (am_dk tk_X0_countOf 39 rfl) rfl rfl (Nat.le_of_ble_eq_true rfl) rfl ?_
  refine am_goto (tgt := 30) (am_dk tk_X0_countOf 40 rfl) (by decide) ?_
  refine am_ls [3, 4, 1, 2, 0] rfl ?_
  exact hk30 _ _ _ _ _ h
theorem bx_X0_countOf_30 {l : Launch} {h0 : am_H} {Φ : am_Ph} {tw : Nat} {tp : Bool}  {r : Int32} {D' : am_M} (hΦ : Φ (some (.int r)) (ly tw tp D')) : ∀ (n : Nat) (x1 : Int32) (x3 : Int32) (x4 : Int32) (x5 : Int32) (D : am_M), b_X0_countOf_30 n x1 x3 x4 x5 D = some (r, D') → am_Ex (am_E l m_X0_countOf false h0 Φ) prog_2_method_5_code (0, 0) 30 [(0, .ref 50), (1, .int x1), (3, .int x3), (4, .int x4), (5, .int x5)] [] (ly tw tp D) := by
  intro n
  induction n with
  | zero =>
    intro x1 x3 x4 x5 D h
    exact absurd h (by simp [b_X0_countOf_30])
  | succ n ih =>
    intro x1 x3 x4 x5 D h
    rw [b_X0_countOf_30] at h
    refine am_iload (j := 4) (am_dk tk_X0_countOf 18 rfl) rfl ?_
    refine am_iload_n (j := 1) (am_dk tk_X0_countOf 19 rfl) rfl rfl ?_
    refine am_icmp_lt (tgt := 73) (am_dk tk_X0_countOf 20 rfl) (by decide) (fun hc33 => ?_) (fun hc33 => ?_)
    · rw [if_pos hc33] at h
      refine am_iload (j := 3) (am_dk tk_X0_countOf 41 rfl) rfl ?_
      exact am_iret rfl (am_r2 h hΦ) ⟨Nat.le_of_ble_eq_true rfl, Nat.le_of_ble_eq_true rfl⟩ (am_dk tk_X0_countOf 42 rfl)
    · rw [if_neg hc33] at h
      refine am_aload_n (j := 0) (am_dk tk_X0_countOf 21 rfl) rfl rfl ?_
      refine ly_getr (b := 51) rfl fl_X0_9 rfl rfl (am_dk tk_X0_countOf 22 rfl) ?_
      refine am_iload (j := 4) (am_dk tk_X0_countOf 23 rfl) rfl ?_
      obtain ⟨hi42, h⟩ := am_chk h
      refine ly_bald (k := x5.toNatClampNeg) rfl (am_in_vp hi42) rfl (am_dk tk_X0_countOf 24 rfl) ?_
      refine am_if_eq (tgt := 56) (am_dk tk_X0_countOf 25 rfl) (by decide) (fun hc43 => ?_) (fun hc43 => ?_)
      · rw [if_pos hc43] at h
        refine am_iconst (v := 0) (am_dk tk_X0_countOf 31 rfl) (by decide) ?_
        refine am_ls [0, 1, 2, 4] rfl ?_
        exact bx_X0_countOf_57  hΦ (ih) _ _ _ _ _ h
      · rw [if_neg hc43] at h
        refine am_aload_n (j := 0) (am_dk tk_X0_countOf 26 rfl) rfl rfl ?_
        refine am_iload (j := 4) (am_dk tk_X0_countOf 27 rfl) rfl ?_
        refine am_iload_n (j := 2) (am_dk tk_X0_countOf 28 rfl) rfl rfl ?_
        obtain ⟨q50, hq50, h⟩ := am_bind h
        refine ly_cV (M := m_X0_countTaken) (As := [.int x5, .int x3]) (b := 50) (st := []) (ct_X0_countTaken hq50) rfl (by decide) rfl ml_X0_58 ld_X0_countTaken rfl ⟨Nat.le_of_ble_eq_true rfl, Nat.le_of_ble_eq_true rfl⟩ (Nat.le_of_ble_eq_true rfl) ⟨rfl, rfl⟩ ⟨Nat.le_of_ble_eq_true rfl, Nat.le_of_ble_eq_true rfl⟩ (am_dk tk_X0_countOf 29 rfl) (am_kki ?_)
        refine am_goto (tgt := 57) (am_dk tk_X0_countOf 30 rfl) (by decide) ?_
        refine am_ls [0, 1, 2, 4] rfl ?_
        exact bx_X0_countOf_57  hΦ (ih) _ _ _ _ _ h
theorem ct_X0_countOf {l : Launch} {tw : Nat} {tp : Bool}  {x1 : Int32} {x2 : Int32} {r : Int32} {D D' : am_M} (h : f_X0_countOf x1 x2 D = some (r, D')) : am_CT l m_X0_countOf false [.ref 50, .int x1, .int x2] (ly tw tp D) (am_is (some (.int r)) (ly tw tp D')) := by
  have hΦ : am_is (some (.int r)) (ly tw tp D') (some (.int r)) (ly tw tp D') := ⟨rfl, rfl⟩
  refine am_CT.of (by decide) (Nat.le_of_ble_eq_true rfl) ?_
  show am_Ex _ _ _ 0 [(0, .ref 50), (1, .int x1), (2, .int x2)] [] _
  rw [f_X0_countOf] at h
  refine am_iload_n (j := 1) (am_dk tk_X0_countOf 0 rfl) rfl rfl ?_
  refine am_iconst (v := 1) (am_dk tk_X0_countOf 1 rfl) (by decide) ?_
  refine am_bipush (v := 60) (am_dk tk_X0_countOf 2 rfl) (by decide) ?_
  refine am_cSN (M := m_X5_isWithin) (As := [.int x1, .int 1, .int 60]) (st := []) (ct_X5_isWithin _ _ _ _) ml_X0_44 ld_X5_isWithin rfl ⟨Nat.le_of_ble_eq_true rfl, Nat.le_of_ble_eq_true rfl⟩ (Nat.le_of_ble_eq_true rfl) ⟨rfl, rfl⟩ ⟨Nat.le_of_ble_eq_true rfl, Nat.le_of_ble_eq_true rfl⟩ (am_dk tk_X0_countOf 3 rfl) (am_kki ?_)
  refine am_if_eq (tgt := 19) (am_dk tk_X0_countOf 4 rfl) (by decide) (fun hc7 => ?_) (fun hc7 => ?_)
  · rw [if_pos hc7] at h
    refine am_iconst (v := 0) (am_dk tk_X0_countOf 10 rfl) (by decide) ?_
    exact am_iret rfl (am_r2 h hΦ) ⟨Nat.le_of_ble_eq_true rfl, Nat.le_of_ble_eq_true rfl⟩ (am_dk tk_X0_countOf 11 rfl)
  · rw [if_neg hc7] at h
    refine am_aload_n (j := 0) (am_dk tk_X0_countOf 5 rfl) rfl rfl ?_
    refine ly_getr (b := 51) rfl fl_X0_9 rfl rfl (am_dk tk_X0_countOf 6 rfl) ?_
    refine am_iload_n (j := 1) (am_dk tk_X0_countOf 7 rfl) rfl rfl ?_
    obtain ⟨hi15, h⟩ := am_chk h
    refine ly_bald (k := x1.toNatClampNeg) rfl (am_in_vp hi15) rfl (am_dk tk_X0_countOf 8 rfl) ?_
    refine am_if_ne (tgt := 21) (am_dk tk_X0_countOf 9 rfl) (by decide) (fun hc16 => ?_) (fun hc16 => ?_)
    · rw [if_neg hc16] at h
      refine am_iload_n (j := 2) (am_dk tk_X0_countOf 12 rfl) rfl rfl ?_
      refine am_istore_n (L' := [(3, .int x2), (0, .ref 50), (1, .int x1), (2, .int x2)]) (am_dk tk_X0_countOf 13 rfl) rfl (Nat.le_of_ble_eq_true rfl) rfl ?_
      refine am_iconst (v := 0) (am_dk tk_X0_countOf 14 rfl) (by decide) ?_
      refine am_istore (L' := [(4, .int 0), (3, .int x2), (0, .ref 50), (1, .int x1), (2, .int x2)]) (am_dk tk_X0_countOf 15 rfl) (Nat.le_of_ble_eq_true rfl) rfl ?_
      refine am_bipush (v := 60) (am_dk tk_X0_countOf 16 rfl) (by decide) ?_
      refine am_istore (L' := [(5, .int 60), (4, .int 0), (3, .int x2), (0, .ref 50), (1, .int x1), (2, .int x2)]) (am_dk tk_X0_countOf 17 rfl) (Nat.le_of_ble_eq_true rfl) rfl ?_
      refine am_ls [3, 4, 2, 1, 0] rfl ?_
      exact bx_X0_countOf_30  hΦ am_N _ _ _ _ _ h
    · rw [if_pos hc16] at h
      refine am_iconst (v := 0) (am_dk tk_X0_countOf 10 rfl) (by decide) ?_
      exact am_iret rfl (am_r2 h hΦ) ⟨Nat.le_of_ble_eq_true rfl, Nat.le_of_ble_eq_true rfl⟩ (am_dk tk_X0_countOf 11 rfl)
abbrev m_X0_totalWith : am_D := (yX0_totalWith, prog_2_method_8_code, 5, (some .int), { frames := 1, cells := 0, slots := 0, locals := 13 })
theorem ld_X0_totalWith : am_LD m_X0_totalWith 1 := ⟨(am_tb 84 (by decide +kernel) (by decide +kernel)), (am_tb 762 (by decide +kernel) (by decide +kernel)), by decide, by decide, by decide +kernel⟩
def tb_X0_totalWith : List (Nat × Instr × Nat) := [(0, .iconst 0, 1), (1, .istore_n 2, 1), (2, .iconst 1, 1), (3, .istore_n 3, 1), (4, .iload_n 3, 1), (5, .bipush 60, 2), (7, .if_icmp .gt 52, 3), (10, .aload_n 0, 1), (11, .getfield 15, 3), (14, .iload_n 3, 1), (15, .iaload, 1), (16, .istore 4, 2), (18, .iload_n 3, 1), (19, .iload_n 1, 1), (20, .if_icmp .lt 20, 3), (23, .iload 4, 2), (25, .aload_n 0, 1), (26, .getfield 19, 3), (29, .iload_n 3, 1), (30, .iload_n 1, 1), (31, .isub, 1), (32, .iaload, 1), (33, .iconst 1, 1), (34, .iadd, 1), (35, .invokestatic 52, 3), (38, .istore 4, 2), (40, .aload_n 0, 1), (41, .getfield 19, 3), (44, .iload_n 3, 1), (45, .iload 4, 2), (47, .iastore, 1), (48, .iload_n 2, 1), (49, .iload 4, 2), (51, .iadd, 1), (52, .istore_n 2, 1), (53, .iinc 3 1, 3), (56, .goto (-52), 3), (59, .iload_n 2, 1), (60, .ireturn, 1)]
theorem tk_X0_totalWith : am_tbl prog_2_method_8_code tb_X0_totalWith = true := by decide +kernel
def b_X0_totalWith_40 (k4 : Int32 → Int32 → Int32 → am_M → Option (Int32 × am_M)) (x1 : Int32) (x2 : Int32) (x3 : Int32) (x4 : Int32) (D : am_M) : Option (Int32 × am_M) := if am_in x3 61 = true then k4 x1 (x2 + x4) (x3 + 1) (am_up D 53 x3.toNatClampNeg x4) else none
def b_X0_totalWith_4 : Nat → Int32 → Int32 → Int32 → am_M → Option (Int32 × am_M)
  | 0, _, _, _, _ => none
  | n + 1, x1, x2, x3, D => if 60 < x3 then some (x2, D) else if am_in x3 201 = true then if x3 < x1 then b_X0_totalWith_40 (b_X0_totalWith_4 n) x1 x2 x3 (D 52 x3.toNatClampNeg) D else if am_in (x3 - x1) 61 = true then b_X0_totalWith_40 (b_X0_totalWith_4 n) x1 x2 x3 (am_min (D 52 x3.toNatClampNeg) ((D 53 (x3 - x1).toNatClampNeg) + 1)) D else none else none
def f_X0_totalWith (x1 : Int32) (D : am_M) : Option (Int32 × am_M) := b_X0_totalWith_4 am_N x1 0 1 D
theorem bx_X0_totalWith_40 {l : Launch} {h0 : am_H} {Φ : am_Ph} {tw : Nat} {tp : Bool}  {r : Int32} {D' : am_M} (hΦ : Φ (some (.int r)) (ly tw tp D')) {k4 : Int32 → Int32 → Int32 → am_M → Option (Int32 × am_M)} (hk4 : ∀ (x1 : Int32) (x2 : Int32) (x3 : Int32) (D : am_M), k4 x1 x2 x3 D = some (r, D') → am_Ex (am_E l m_X0_totalWith false h0 Φ) prog_2_method_8_code (0, 0) 4 [(0, .ref 50), (1, .int x1), (2, .int x2), (3, .int x3)] [] (ly tw tp D)) : ∀ (x1 : Int32) (x2 : Int32) (x3 : Int32) (x4 : Int32) (D : am_M), b_X0_totalWith_40 k4 x1 x2 x3 x4 D = some (r, D') → am_Ex (am_E l m_X0_totalWith false h0 Φ) prog_2_method_8_code (0, 0) 40 [(0, .ref 50), (1, .int x1), (2, .int x2), (3, .int x3), (4, .int x4)] [] (ly tw tp D) := by
  intro x1 x2 x3 x4 D h
  rw [b_X0_totalWith_40] at h
  refine am_aload_n (j := 0) (am_dk tk_X0_totalWith 26 rfl) rfl rfl ?_
  refine ly_getr (b := 53) rfl fl_X0_19 rfl rfl (am_dk tk_X0_totalWith 27 rfl) ?_
  refine am_iload_n (j := 3) (am_dk tk_X0_totalWith 28 rfl) rfl rfl ?_
  refine am_iload (j := 4) (am_dk tk_X0_totalWith 29 rfl) rfl ?_
  obtain ⟨hi47, h⟩ := am_chk h
  refine ly_iast (k := x3.toNatClampNeg) rfl (am_in_vp hi47) rfl (am_dk tk_X0_totalWith 30 rfl) ?_
  refine am_iload_n (j := 2) (am_dk tk_X0_totalWith 31 rfl) rfl rfl ?_
  refine am_iload (j := 4) (am_dk tk_X0_totalWith 32 rfl) rfl ?_
  refine am_iadd (am_dk tk_X0_totalWith 33 rfl) ?_
  refine am_istore_n (L' := [(2, .int (x2 + x4)), (0, .ref 50), (1, .int x1), (3, .int x3), (4, .int x4)]) (am_dk tk_X0_totalWith 34 rfl) rfl (Nat.le_of_ble_eq_true rfl) rfl ?_
  refine am_iinc (j := 3) (v := x3 + 1) (L' := [(3, .int (x3 + 1)), (2, .int (x2 + x4)), (0, .ref 50), (1, .int x1), (4, .int x4)]) (am_dk tk_X0_totalWith 35 rfl) rfl rfl (Nat.le_of_ble_eq_true rfl) rfl ?_
  refine am_goto (tgt := 4) (am_dk tk_X0_totalWith 36 rfl) (by decide) ?_
  refine am_ls [2, 3, 1, 0] rfl ?_
  exact hk4 _ _ _ _ h
theorem bx_X0_totalWith_4 {l : Launch} {h0 : am_H} {Φ : am_Ph} {tw : Nat} {tp : Bool}  {r : Int32} {D' : am_M} (hΦ : Φ (some (.int r)) (ly tw tp D')) : ∀ (n : Nat) (x1 : Int32) (x2 : Int32) (x3 : Int32) (D : am_M), b_X0_totalWith_4 n x1 x2 x3 D = some (r, D') → am_Ex (am_E l m_X0_totalWith false h0 Φ) prog_2_method_8_code (0, 0) 4 [(0, .ref 50), (1, .int x1), (2, .int x2), (3, .int x3)] [] (ly tw tp D) := by
  intro n
  induction n with
  | zero =>
    intro x1 x2 x3 D h
    exact absurd h (by simp [b_X0_totalWith_4])
  | succ n ih =>
    intro x1 x2 x3 D h
    rw [b_X0_totalWith_4] at h
    refine am_iload_n (j := 3) (am_dk tk_X0_totalWith 4 rfl) rfl rfl ?_
    refine am_bipush (v := 60) (am_dk tk_X0_totalWith 5 rfl) (by decide) ?_
    refine am_icmp_gt (tgt := 59) (am_dk tk_X0_totalWith 6 rfl) (by decide) (fun hc7 => ?_) (fun hc7 => ?_)
    · rw [if_pos hc7] at h
      refine am_iload_n (j := 2) (am_dk tk_X0_totalWith 37 rfl) rfl rfl ?_
      exact am_iret rfl (am_r2 h hΦ) ⟨Nat.le_of_ble_eq_true rfl, Nat.le_of_ble_eq_true rfl⟩ (am_dk tk_X0_totalWith 38 rfl)
    · rw [if_neg hc7] at h
      refine am_aload_n (j := 0) (am_dk tk_X0_totalWith 7 rfl) rfl rfl ?_
      refine ly_getr (b := 52) rfl fl_X0_15 rfl rfl (am_dk tk_X0_totalWith 8 rfl) ?_
      refine am_iload_n (j := 3) (am_dk tk_X0_totalWith 9 rfl) rfl rfl ?_
      obtain ⟨hi15, h⟩ := am_chk h
      refine ly_iald (k := x3.toNatClampNeg) rfl (am_in_vp hi15) rfl (am_dk tk_X0_totalWith 10 rfl) ?_
      refine am_istore (L' := [(4, .int (D 52 x3.toNatClampNeg)), (0, .ref 50), (1, .int x1), (2, .int x2), (3, .int x3)]) (am_dk tk_X0_totalWith 11 rfl) (Nat.le_of_ble_eq_true rfl) rfl ?_
      refine am_iload_n (j := 4) (am_dk tk_X0_totalWith 12 rfl) rfl rfl ?_
      refine am_iload_n (j := 2) (am_dk tk_X0_totalWith 13 rfl) rfl rfl ?_
      refine am_icmp_lt (tgt := 40) (am_dk tk_X0_totalWith 14 rfl) (by decide) (fun hc20 => ?_) (fun hc20 => ?_)
      · rw [if_pos hc20] at h
        refine am_ls [1, 2, 3, 4, 0] rfl ?_
        exact bx_X0_totalWith_40  hΦ (ih) _ _ _ _ _ h
      · rw [if_neg hc20] at h
        refine am_iload (j := 0) (am_dk tk_X0_totalWith 15 rfl) rfl ?_
        refine am_aload_n (j := 1) (am_dk tk_X0_totalWith 16 rfl) rfl rfl ?_
        refine ly_getr (b := 53) rfl fl_X0_19 rfl rfl (am_dk tk_X0_totalWith 17 rfl) ?_
        refine am_iload_n (j := 4) (am_dk tk_X0_totalWith 18 rfl) rfl rfl ?_
        refine am_iload_n (j := 2) (am_dk tk_X0_totalWith 19 rfl) rfl rfl ?_
        refine am_isub (am_dk tk_X0_totalWith 20 rfl) ?_
        obtain ⟨hi32, h⟩ := am_chk h
        refine ly_iald (k := (x3 - x1).toNatClampNeg) rfl (am_in_vp hi32) rfl (am_dk tk_X0_totalWith 21 rfl) ?_
        refine am_iconst (v := 1) (am_dk tk_X0_totalWith 22 rfl) (by decide) ?_
        refine am_iadd (am_dk tk_X0_totalWith 23 rfl) ?_
        refine am_mmin lm_X0_52 (Nat.le_of_ble_eq_true rfl) (Nat.le_of_ble_eq_true rfl) ⟨Nat.le_of_ble_eq_true rfl, Nat.le_of_ble_eq_true rfl⟩ (am_dk tk_X0_totalWith 24 rfl) ?_
        refine am_istore (L' := [(4, .int (am_min (D 52 x3.toNatClampNeg) ((D 53 (x3 - x1).toNatClampNeg) + 1))), (0, .ref 50), (1, .int x1), (2, .int x2), (3, .int x3)]) (am_dk tk_X0_totalWith 25 rfl) (Nat.le_of_ble_eq_true rfl) rfl ?_
        refine am_ls [1, 2, 3, 4, 0] rfl ?_
        exact bx_X0_totalWith_40  hΦ (ih) _ _ _ _ _ h
theorem ct_X0_totalWith {l : Launch} {tw : Nat} {tp : Bool}  {x1 : Int32} {r : Int32} {D D' : am_M} (h : f_X0_totalWith x1 D = some (r, D')) : am_CT l m_X0_totalWith false [.ref 50, .int x1] (ly tw tp D) (am_is (some (.int r)) (ly tw tp D')) := by
  have hΦ : am_is (some (.int r)) (ly tw tp D') (some (.int r)) (ly tw tp D') := ⟨rfl, rfl⟩
  refine am_CT.of (by decide) (Nat.le_of_ble_eq_true rfl) ?_
  show am_Ex _ _ _ 0 [(0, .ref 50), (1, .int x1)] [] _
  rw [f_X0_totalWith] at h
  refine am_iconst (v := 0) (am_dk tk_X0_totalWith 0 rfl) (by decide) ?_
  refine am_istore_n (L' := [(2, .int 0), (0, .ref 50), (1, .int x1)]) (am_dk tk_X0_totalWith 1 rfl) rfl (Nat.le_of_ble_eq_true rfl) rfl ?_
  refine am_iconst (v := 1) (am_dk tk_X0_totalWith 2 rfl) (by decide) ?_
  refine am_istore_n (L' := [(3, .int 1), (2, .int 0), (0, .ref 50), (1, .int x1)]) (am_dk tk_X0_totalWith 3 rfl) rfl (Nat.le_of_ble_eq_true rfl) rfl ?_
  refine am_ls [2, 3, 1, 0] rfl ?_
  exact bx_X0_totalWith_4  hΦ am_N _ _ _ _ h
abbrev m_X0_findStrike : am_D := (yX0_findStrike, prog_2_method_7_code, 3, none, { frames := 2, cells := 0, slots := 0, locals := 37 })
theorem ld_X0_findStrike : am_LD m_X0_findStrike 0 := ⟨(am_tb 84 (by decide +kernel) (by decide +kernel)), (am_tb 758 (by decide +kernel) (by decide +kernel)), by decide, by decide, by decide +kernel⟩
def tb_X0_findStrike : List (Nat × Instr × Nat) := [(0, .aload_n 0, 1), (1, .getfield 26, 3), (4, .ifCond .eq 4, 3), (7, .return_, 1), (8, .aload_n 0, 1), (9, .iconst 1, 1), (10, .putfield 26, 3), (13, .aload_n 0, 1), (14, .iconst (-1), 1), (15, .putfield 29, 3), (18, .iconst 2, 1), (19, .istore_n 1, 1), (20, .iload_n 1, 1), (21, .bipush 60, 2), (23, .if_icmp .gt 56, 3), (26, .aload_n 0, 1), (27, .getfield 9, 3), (30, .iload_n 1, 1), (31, .baload, 1), (32, .ifCond .eq 6, 3), (35, .goto 38, 3), (38, .aload_n 0, 1), (39, .iload_n 1, 1), (40, .invokevirtual 61, 3), (43, .istore_n 2, 1), (44, .aload_n 0, 1), (45, .getfield 29, 3), (48, .iconst (-1), 1), (49, .if_icmp .eq 14, 3), (52, .iload_n 2, 1), (53, .aload_n 0, 1), (54, .getfield 33, 3), (57, .if_icmp .lt 6, 3), (60, .goto 13, 3), (63, .aload_n 0, 1), (64, .iload_n 1, 1), (65, .putfield 29, 3), (68, .aload_n 0, 1), (69, .iload_n 2, 1), (70, .putfield 33, 3), (73, .iinc 1 1, 3), (76, .goto (-56), 3), (79, .return_, 1)]
theorem tk_X0_findStrike : am_tbl prog_2_method_7_code tb_X0_findStrike = true := by decide +kernel
def b_X0_findStrike_63 (k20 : Int32 → am_M → Option am_M) (x1 : Int32) (x2 : Int32) (D : am_M) : Option am_M := k20 (x1 + 1) (am_up (am_up D 50 5 x1) 50 6 x2)
def b_X0_findStrike_20 : Nat → Int32 → am_M → Option am_M
  | 0, _, _ => none
  | n + 1, x1, D => if 60 < x1 then some D else if am_in x1 61 = true then if (D 51 x1.toNatClampNeg) = 0 then (f_X0_totalWith x1 D).bind fun q40 => if (q40.2 50 5) = (-1) then b_X0_findStrike_63 (b_X0_findStrike_20 n) x1 q40.1 q40.2 else if q40.1 < (q40.2 50 6) then b_X0_findStrike_63 (b_X0_findStrike_20 n) x1 q40.1 q40.2 else b_X0_findStrike_20 n (x1 + 1) q40.2 else b_X0_findStrike_20 n (x1 + 1) D else none
def f_X0_findStrike (D : am_M) : Option am_M := if (D 50 4) = 0 then b_X0_findStrike_20 am_N 2 (am_up (am_up D 50 4 1) 50 5 (-1)) else some D
theorem bx_X0_findStrike_63 {l : Launch} {h0 : am_H} {Φ : am_Ph} {tw : Nat} {tp : Bool}  {D' : am_M} (hΦ : Φ none (ly tw tp D')) {k20 : Int32 → am_M → Option am_M} (hk20 : ∀ (x1 : Int32) (D : am_M), k20 x1 D = some D' → am_Ex (am_E l m_X0_findStrike false h0 Φ) prog_2_method_7_code (0, 0) 20 [(0, .ref 50), (1, .int x1)] [] (ly tw tp D)) : ∀ (x1 : Int32) (x2 : Int32) (D : am_M), b_X0_findStrike_63 k20 x1 x2 D = some D' → am_Ex (am_E l m_X0_findStrike false h0 Φ) prog_2_method_7_code (0, 0) 63 [(0, .ref 50), (1, .int x1), (2, .int x2)] [] (ly tw tp D) := by
  intro x1 x2 D h
  rw [b_X0_findStrike_63] at h
  refine am_aload_n (j := 0) (am_dk tk_X0_findStrike 34 rfl) rfl rfl ?_
  refine am_iload_n (j := 1) (am_dk tk_X0_findStrike 35 rfl) rfl rfl ?_
  refine ly_puti rfl fl_X0_29 rfl rfl (am_dk tk_X0_findStrike 36 rfl) ?_
  refine am_aload_n (j := 0) (am_dk tk_X0_findStrike 37 rfl) rfl rfl ?_
  refine am_iload_n (j := 2) (am_dk tk_X0_findStrike 38 rfl) rfl rfl ?_
  refine ly_puti rfl fl_X0_33 rfl rfl (am_dk tk_X0_findStrike 39 rfl) ?_
  refine am_iinc (j := 1) (v := x1 + 1) (L' := [(1, .int (x1 + 1)), (0, .ref 50), (2, .int x2)]) (am_dk tk_X0_findStrike 40 rfl) rfl rfl (Nat.le_of_ble_eq_true rfl) rfl ?_
  refine am_goto (tgt := 20) (am_dk tk_X0_findStrike 41 rfl) (by decide) ?_
  refine am_ls [1, 0] rfl ?_
  exact hk20 _ _ h
theorem bx_X0_findStrike_20 {l : Launch} {h0 : am_H} {Φ : am_Ph} {tw : Nat} {tp : Bool}  {D' : am_M} (hΦ : Φ none (ly tw tp D')) : ∀ (n : Nat) (x1 : Int32) (D : am_M), b_X0_findStrike_20 n x1 D = some D' → am_Ex (am_E l m_X0_findStrike false h0 Φ) prog_2_method_7_code (0, 0) 20 [(0, .ref 50), (1, .int x1)] [] (ly tw tp D) := by
  intro n
  induction n with
  | zero =>
    intro x1 D h
    exact absurd h (by simp [b_X0_findStrike_20])
  | succ n ih =>
    intro x1 D h
    rw [b_X0_findStrike_20] at h
    refine am_iload_n (j := 1) (am_dk tk_X0_findStrike 12 rfl) rfl rfl ?_
    refine am_bipush (v := 60) (am_dk tk_X0_findStrike 13 rfl) (by decide) ?_
    refine am_icmp_gt (tgt := 79) (am_dk tk_X0_findStrike 14 rfl) (by decide) (fun hc23 => ?_) (fun hc23 => ?_)
    · rw [if_pos hc23] at h
      exact am_vret rfl (am_r0 h hΦ) ⟨Nat.le_of_ble_eq_true rfl, Nat.le_of_ble_eq_true rfl⟩ (am_dk tk_X0_findStrike 42 rfl)
    · rw [if_neg hc23] at h
      refine am_aload_n (j := 0) (am_dk tk_X0_findStrike 15 rfl) rfl rfl ?_
      refine ly_getr (b := 51) rfl fl_X0_9 rfl rfl (am_dk tk_X0_findStrike 16 rfl) ?_
      refine am_iload_n (j := 1) (am_dk tk_X0_findStrike 17 rfl) rfl rfl ?_
      obtain ⟨hi31, h⟩ := am_chk h
      refine ly_bald (k := x1.toNatClampNeg) rfl (am_in_vp hi31) rfl (am_dk tk_X0_findStrike 18 rfl) ?_
      refine am_if_eq (tgt := 38) (am_dk tk_X0_findStrike 19 rfl) (by decide) (fun hc32 => ?_) (fun hc32 => ?_)
      · rw [if_pos hc32] at h
        refine am_aload_n (j := 0) (am_dk tk_X0_findStrike 21 rfl) rfl rfl ?_
        refine am_iload_n (j := 1) (am_dk tk_X0_findStrike 22 rfl) rfl rfl ?_
        obtain ⟨q40, hq40, h⟩ := am_bind h
        refine ly_cV (M := m_X0_totalWith) (As := [.int x1]) (b := 50) (st := []) (ct_X0_totalWith hq40) rfl (by decide) rfl ml_X0_61 ld_X0_totalWith rfl ⟨Nat.le_of_ble_eq_true rfl, Nat.le_of_ble_eq_true rfl⟩ (Nat.le_of_ble_eq_true rfl) ⟨rfl, rfl⟩ ⟨Nat.le_of_ble_eq_true rfl, Nat.le_of_ble_eq_true rfl⟩ (am_dk tk_X0_findStrike 23 rfl) (am_kki ?_)
        refine am_istore_n (L' := [(2, .int q40.1), (0, .ref 50), (1, .int x1)]) (am_dk tk_X0_findStrike 24 rfl) rfl (Nat.le_of_ble_eq_true rfl) rfl ?_
        refine am_aload_n (j := 1) (am_dk tk_X0_findStrike 25 rfl) rfl rfl ?_
        refine ly_geti rfl fl_X0_29 rfl (am_dk tk_X0_findStrike 26 rfl) ?_
        refine am_iconst (v := (-1)) (am_dk tk_X0_findStrike 27 rfl) (by decide) ?_
        refine am_icmp_eq (tgt := 63) (am_dk tk_X0_findStrike 28 rfl) (by decide) (fun hc49 => ?_) (fun hc49 => ?_)
        · rw [if_pos hc49] at h
          refine am_ls [1, 2, 0] rfl ?_
          exact bx_X0_findStrike_63  hΦ (ih) _ _ _ h
        · rw [if_neg hc49] at h
          refine am_iload_n (j := 0) (am_dk tk_X0_findStrike 29 rfl) rfl rfl ?_
          refine am_aload_n (j := 1) (am_dk tk_X0_findStrike 30 rfl) rfl rfl ?_
          refine ly_geti rfl fl_X0_33 rfl (am_dk tk_X0_findStrike 31 rfl) ?_
          refine am_icmp_lt (tgt := 63) (am_dk tk_X0_findStrike 32 rfl) (by decide) (fun hc57 => ?_) (fun hc57 => ?_)
          · rw [if_pos hc57] at h
            refine am_ls [1, 2, 0] rfl ?_
            exact bx_X0_findStrike_63  hΦ (ih) _ _ _ h
          · rw [if_neg hc57] at h
            refine am_goto (tgt := 73) (am_dk tk_X0_findStrike 33 rfl) (by decide) ?_
            refine am_iinc (j := 2) (v := x1 + 1) (L' := [(1, .int (x1 + 1)), (2, .int q40.1), (0, .ref 50)]) (am_dk tk_X0_findStrike 40 rfl) rfl rfl (Nat.le_of_ble_eq_true rfl) rfl ?_
            refine am_goto (tgt := 20) (am_dk tk_X0_findStrike 41 rfl) (by decide) ?_
            refine am_ls [2, 0] rfl ?_
            exact ih _ _ h
      · rw [if_neg hc32] at h
        refine am_goto (tgt := 73) (am_dk tk_X0_findStrike 20 rfl) (by decide) ?_
        refine am_iinc (j := 1) (v := x1 + 1) (L' := [(1, .int (x1 + 1)), (0, .ref 50)]) (am_dk tk_X0_findStrike 40 rfl) rfl rfl (Nat.le_of_ble_eq_true rfl) rfl ?_
        refine am_goto (tgt := 20) (am_dk tk_X0_findStrike 41 rfl) (by decide) ?_
        refine am_ls [1, 0] rfl ?_
        exact ih _ _ h
theorem ct_X0_findStrike {l : Launch} {tw : Nat} {tp : Bool}  {D D' : am_M} (h : f_X0_findStrike D = some D') : am_CT l m_X0_findStrike false [.ref 50] (ly tw tp D) (am_is none (ly tw tp D')) := by
  have hΦ : am_is none (ly tw tp D') none (ly tw tp D') := ⟨rfl, rfl⟩
  refine am_CT.of (by decide) (Nat.le_of_ble_eq_true rfl) ?_
  show am_Ex _ _ _ 0 [(0, .ref 50)] [] _
  rw [f_X0_findStrike] at h
  refine am_aload_n (j := 0) (am_dk tk_X0_findStrike 0 rfl) rfl rfl ?_
  refine ly_geti rfl fl_X0_26 rfl (am_dk tk_X0_findStrike 1 rfl) ?_
  refine am_if_eq (tgt := 8) (am_dk tk_X0_findStrike 2 rfl) (by decide) (fun hc4 => ?_) (fun hc4 => ?_)
  · rw [if_pos hc4] at h
    refine am_aload_n (j := 0) (am_dk tk_X0_findStrike 4 rfl) rfl rfl ?_
    refine am_iconst (v := 1) (am_dk tk_X0_findStrike 5 rfl) (by decide) ?_
    refine ly_putz (Or.inr rfl) rfl fl_X0_26 rfl rfl (am_dk tk_X0_findStrike 6 rfl) ?_
    refine am_aload_n (j := 0) (am_dk tk_X0_findStrike 7 rfl) rfl rfl ?_
    refine am_iconst (v := (-1)) (am_dk tk_X0_findStrike 8 rfl) (by decide) ?_
    refine ly_puti rfl fl_X0_29 rfl rfl (am_dk tk_X0_findStrike 9 rfl) ?_
    refine am_iconst (v := 2) (am_dk tk_X0_findStrike 10 rfl) (by decide) ?_
    refine am_istore_n (L' := [(1, .int 2), (0, .ref 50)]) (am_dk tk_X0_findStrike 11 rfl) rfl (Nat.le_of_ble_eq_true rfl) rfl ?_
    refine am_ls [1, 0] rfl ?_
    exact bx_X0_findStrike_20  hΦ am_N _ _ h
  · rw [if_neg hc4] at h
    exact am_vret rfl (am_r0 h hΦ) ⟨Nat.le_of_ble_eq_true rfl, Nat.le_of_ble_eq_true rfl⟩ (am_dk tk_X0_findStrike 3 rfl)
