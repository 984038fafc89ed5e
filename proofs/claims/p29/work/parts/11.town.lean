abbrev m_X4_clear : am_D := (yX4_clear, prog_6_method_2_code, 1, none, { frames := 1, cells := 0, slots := 0, locals := 23 })
theorem ld_X4_clear : am_LD m_X4_clear 0 := ⟨(am_tb 80 (by decide +kernel) (by decide +kernel)), (am_tb 417 (by decide +kernel) (by decide +kernel)), by decide, by decide, by decide +kernel⟩
def tb_X4_clear : List (Nat × Instr × Nat) := [(0, .aload_n 0, 1), (1, .iconst 0, 1), (2, .putfield 34, 3), (5, .aload_n 0, 1), (6, .iconst 0, 1), (7, .putfield 38, 3), (10, .aload_n 0, 1), (11, .iconst 0, 1), (12, .putfield 41, 3), (15, .aload_n 0, 1), (16, .iconst 0, 1), (17, .putfield 44, 3), (20, .aload_n 0, 1), (21, .iconst 0, 1), (22, .putfield 47, 3), (25, .aload_n 0, 1), (26, .iconst 0, 1), (27, .putfield 50, 3), (30, .aload_n 0, 1), (31, .iconst 0, 1), (32, .putfield 53, 3), (35, .aload_n 0, 1), (36, .getfield 24, 3), (39, .iconst 1, 1), (40, .invokestatic 56, 3), (43, .return_, 1)]
theorem tk_X4_clear : am_tbl prog_6_method_2_code tb_X4_clear = true := by decide +kernel
def f_X4_clear (T : Nat) (D : am_M) : Option am_M := (f_J7_fill (T + 5) 5 1 (am_up (am_up (am_up (am_up (am_up (am_up (am_up D T 0 0) T 1 0) T 2 0) T 3 0) T 4 0) T 5 0) T 6 0)).bind fun q40 => some q40
theorem ct_X4_clear {l : Launch} {tw : Nat} {tp : Bool} {T : Nat} (hT : lyT T) {D D' : am_M} (h : f_X4_clear T D = some D') : am_CT l m_X4_clear false [.ref T] (ly tw tp D) (am_is none (ly tw tp D')) := by
  have hΦ : am_is none (ly tw tp D') none (ly tw tp D') := ⟨rfl, rfl⟩
  refine am_CT.of (by decide) (Nat.le_of_ble_eq_true rfl) ?_
  show am_Ex _ _ _ 0 [(0, .ref T)] [] _
  rw [f_X4_clear] at h
  refine am_aload_n (j := 0) (am_dk tk_X4_clear 0 rfl) rfl rfl ?_
  refine am_iconst (v := 0) (am_dk tk_X4_clear 1 rfl) (by decide) ?_
  refine ly_puti (lyT_s hT) fl_X4_34 rfl rfl (am_dk tk_X4_clear 2 rfl) ?_
  refine am_aload_n (j := 0) (am_dk tk_X4_clear 3 rfl) rfl rfl ?_
  refine am_iconst (v := 0) (am_dk tk_X4_clear 4 rfl) (by decide) ?_
  refine ly_puti (lyT_s hT) fl_X4_38 rfl rfl (am_dk tk_X4_clear 5 rfl) ?_
  refine am_aload_n (j := 0) (am_dk tk_X4_clear 6 rfl) rfl rfl ?_
  refine am_iconst (v := 0) (am_dk tk_X4_clear 7 rfl) (by decide) ?_
  refine ly_puti (lyT_s hT) fl_X4_41 rfl rfl (am_dk tk_X4_clear 8 rfl) ?_
  refine am_aload_n (j := 0) (am_dk tk_X4_clear 9 rfl) rfl rfl ?_
  refine am_iconst (v := 0) (am_dk tk_X4_clear 10 rfl) (by decide) ?_
  refine ly_puti (lyT_s hT) fl_X4_44 rfl rfl (am_dk tk_X4_clear 11 rfl) ?_
  refine am_aload_n (j := 0) (am_dk tk_X4_clear 12 rfl) rfl rfl ?_
  refine am_iconst (v := 0) (am_dk tk_X4_clear 13 rfl) (by decide) ?_
  refine ly_puti (lyT_s hT) fl_X4_47 rfl rfl (am_dk tk_X4_clear 14 rfl) ?_
  refine am_aload_n (j := 0) (am_dk tk_X4_clear 15 rfl) rfl rfl ?_
  refine am_iconst (v := 0) (am_dk tk_X4_clear 16 rfl) (by decide) ?_
  refine ly_puti (lyT_s hT) fl_X4_50 rfl rfl (am_dk tk_X4_clear 17 rfl) ?_
  refine am_aload_n (j := 0) (am_dk tk_X4_clear 18 rfl) rfl rfl ?_
  refine am_iconst (v := 0) (am_dk tk_X4_clear 19 rfl) (by decide) ?_
  refine ly_puti (lyT_s hT) fl_X4_53 rfl rfl (am_dk tk_X4_clear 20 rfl) ?_
  refine am_aload_n (j := 0) (am_dk tk_X4_clear 21 rfl) rfl rfl ?_
  refine ly_getr (b := (T + 5)) (lyT_s hT) fl_X4_24 rfl (lyT_r11 hT) (am_dk tk_X4_clear 22 rfl) ?_
  refine am_iconst (v := 1) (am_dk tk_X4_clear 23 rfl) (by decide) ?_
  obtain ⟨q40, hq40, h⟩ := am_bind h
  refine am_cS (M := m_J7_fill) (As := [.ref (T + 5), .int 1]) (st := []) (ct_J7_fill (lyT_a11 hT) hq40) ml_X4_56 ld_J7_fill rfl ⟨Nat.le_of_ble_eq_true rfl, Nat.le_of_ble_eq_true rfl⟩ (Nat.le_of_ble_eq_true rfl) ⟨rfl, rfl⟩ ⟨Nat.le_of_ble_eq_true rfl, Nat.le_of_ble_eq_true rfl⟩ (am_dk tk_X4_clear 24 rfl) (am_kkv ?_)
  exact am_vret rfl (am_r0 h hΦ) ⟨Nat.le_of_ble_eq_true rfl, Nat.le_of_ble_eq_true rfl⟩ (am_dk tk_X4_clear 25 rfl)
abbrev m_X4_hasCoin : am_D := (yX4_hasCoin, prog_6_method_3_code, 3, (some .boolean), { frames := 0, cells := 0, slots := 0, locals := 0 })
theorem ld_X4_hasCoin : am_LD m_X4_hasCoin 1 := ⟨(am_tb 80 (by decide +kernel) (by decide +kernel)), (am_tb 468 (by decide +kernel) (by decide +kernel)), by decide, by decide, by decide +kernel⟩
def tb_X4_hasCoin : List (Nat × Instr × Nat) := [(0, .iconst 0, 1), (1, .istore_n 2, 1), (2, .iload_n 2, 1), (3, .aload_n 0, 1), (4, .getfield 47, 3), (7, .if_icmp .ge 21, 3), (10, .aload_n 0, 1), (11, .getfield 9, 3), (14, .iload_n 2, 1), (15, .iaload, 1), (16, .iload_n 1, 1), (17, .if_icmp .ne 5, 3), (20, .iconst 1, 1), (21, .ireturn, 1), (22, .iinc 2 1, 3), (25, .goto (-23), 3), (28, .iconst 0, 1), (29, .ireturn, 1)]
theorem tk_X4_hasCoin : am_tbl prog_6_method_3_code tb_X4_hasCoin = true := by decide +kernel
def b_X4_hasCoin_2 (T : Nat) : Nat → Int32 → Int32 → am_M → Option (Int32 × am_M)
  | 0, _, _, _ => none
  | n + 1, x1, x2, D => if (D T 4) ≤ x2 then some (0, D) else if am_in x2 4 = true then if (D (T + 1) x2.toNatClampNeg) = x1 then some (1, D) else b_X4_hasCoin_2 T n x1 (x2 + 1) D else none
def f_X4_hasCoin (T : Nat) (x1 : Int32) (D : am_M) : Option (Int32 × am_M) := b_X4_hasCoin_2 T am_N x1 0 D
theorem bx_X4_hasCoin_2 {l : Launch} {h0 : am_H} {Φ : am_Ph} {tw : Nat} {tp : Bool} {T : Nat} (hT : lyT T) {r : Int32} {D' : am_M} (hΦ : Φ (some (.int r)) (ly tw tp D')) : ∀ (n : Nat) (x1 : Int32) (x2 : Int32) (D : am_M), b_X4_hasCoin_2 T n x1 x2 D = some (r, D') → am_Ex (am_E l m_X4_hasCoin false h0 Φ) prog_6_method_3_code (0, 0) 2 [(0, .ref T), (1, .int x1), (2, .int x2)] [] (ly tw tp D) := by
  intro n
  induction n with
  | zero =>
    intro x1 x2 D h
    exact absurd h (by simp [b_X4_hasCoin_2])
  | succ n ih =>
    intro x1 x2 D h
    rw [b_X4_hasCoin_2] at h
    refine am_iload_n (j := 2) (am_dk tk_X4_hasCoin 2 rfl) rfl rfl ?_
    refine am_aload_n (j := 0) (am_dk tk_X4_hasCoin 3 rfl) rfl rfl ?_
    refine ly_geti (lyT_s hT) fl_X4_47 rfl (am_dk tk_X4_hasCoin 4 rfl) ?_
    refine am_icmp_ge (tgt := 28) (am_dk tk_X4_hasCoin 5 rfl) (by decide) (fun hc7 => ?_) (fun hc7 => ?_)
    · rw [if_pos hc7] at h
      refine am_iconst (v := 0) (am_dk tk_X4_hasCoin 16 rfl) (by decide) ?_
      exact am_zret (Or.inl rfl) rfl (am_r2 h hΦ) ⟨Nat.le_of_ble_eq_true rfl, Nat.le_of_ble_eq_true rfl⟩ (am_dk tk_X4_hasCoin 17 rfl)
    · rw [if_neg hc7] at h
      refine am_aload_n (j := 0) (am_dk tk_X4_hasCoin 6 rfl) rfl rfl ?_
      refine ly_getr (b := (T + 1)) (lyT_s hT) fl_X4_9 rfl (lyT_r7 hT) (am_dk tk_X4_hasCoin 7 rfl) ?_
      refine am_iload_n (j := 2) (am_dk tk_X4_hasCoin 8 rfl) rfl rfl ?_
      obtain ⟨hi15, h⟩ := am_chk h
      refine ly_iald (k := x2.toNatClampNeg) (lyT_a7 hT) (am_in_vp hi15) rfl (am_dk tk_X4_hasCoin 9 rfl) ?_
      refine am_iload_n (j := 1) (am_dk tk_X4_hasCoin 10 rfl) rfl rfl ?_
      refine am_icmp_ne (tgt := 22) (am_dk tk_X4_hasCoin 11 rfl) (by decide) (fun hc17 => ?_) (fun hc17 => ?_)
      · rw [if_neg hc17] at h
        refine am_iinc (j := 2) (v := x2 + 1) (L' := [(2, .int (x2 + 1)), (0, .ref T), (1, .int x1)]) (am_dk tk_X4_hasCoin 14 rfl) rfl rfl (Nat.le_of_ble_eq_true rfl) rfl ?_
        refine am_goto (tgt := 2) (am_dk tk_X4_hasCoin 15 rfl) (by decide) ?_
        refine am_ls [1, 2, 0] rfl ?_
        exact ih _ _ _ h
      · rw [if_pos hc17] at h
        refine am_iconst (v := 1) (am_dk tk_X4_hasCoin 12 rfl) (by decide) ?_
        exact am_zret (Or.inr rfl) rfl (am_r2 h hΦ) ⟨Nat.le_of_ble_eq_true rfl, Nat.le_of_ble_eq_true rfl⟩ (am_dk tk_X4_hasCoin 13 rfl)
theorem ct_X4_hasCoin {l : Launch} {tw : Nat} {tp : Bool} {T : Nat} (hT : lyT T) {x1 : Int32} {r : Int32} {D D' : am_M} (h : f_X4_hasCoin T x1 D = some (r, D')) : am_CT l m_X4_hasCoin false [.ref T, .int x1] (ly tw tp D) (am_is (some (.int r)) (ly tw tp D')) := by
  have hΦ : am_is (some (.int r)) (ly tw tp D') (some (.int r)) (ly tw tp D') := ⟨rfl, rfl⟩
  refine am_CT.of (by decide) (Nat.le_of_ble_eq_true rfl) ?_
  show am_Ex _ _ _ 0 [(0, .ref T), (1, .int x1)] [] _
  rw [f_X4_hasCoin] at h
  refine am_iconst (v := 0) (am_dk tk_X4_hasCoin 0 rfl) (by decide) ?_
  refine am_istore_n (L' := [(2, .int 0), (0, .ref T), (1, .int x1)]) (am_dk tk_X4_hasCoin 1 rfl) rfl (Nat.le_of_ble_eq_true rfl) rfl ?_
  refine am_ls [1, 2, 0] rfl ?_
  exact bx_X4_hasCoin_2 hT hΦ am_N _ _ _ h
abbrev m_X4_yawnsOf : am_D := (yX4_yawnsOf, prog_6_method_4_code, 4, (some .int), { frames := 1, cells := 0, slots := 0, locals := 21 })
theorem ld_X4_yawnsOf : am_LD m_X4_yawnsOf 1 := ⟨(am_tb 80 (by decide +kernel) (by decide +kernel)), (am_tb 785 (by decide +kernel) (by decide +kernel)), by decide, by decide, by decide +kernel⟩
def tb_X4_yawnsOf : List (Nat × Instr × Nat) := [(0, .iconst 0, 1), (1, .istore_n 2, 1), (2, .iconst 0, 1), (3, .istore_n 3, 1), (4, .iload_n 3, 1), (5, .aload_n 0, 1), (6, .getfield 44, 3), (9, .if_icmp .ge 26, 3), (12, .iload_n 1, 1), (13, .iload_n 3, 1), (14, .invokestatic 62, 3), (17, .ifCond .eq 12, 3), (20, .iload_n 2, 1), (21, .aload_n 0, 1), (22, .getfield 24, 3), (25, .iload_n 3, 1), (26, .iaload, 1), (27, .iadd, 1), (28, .istore_n 2, 1), (29, .iinc 3 1, 3), (32, .goto (-28), 3), (35, .iload_n 2, 1), (36, .ireturn, 1)]
theorem tk_X4_yawnsOf : am_tbl prog_6_method_4_code tb_X4_yawnsOf = true := by decide +kernel
def b_X4_yawnsOf_4 (T : Nat) : Nat → Int32 → Int32 → Int32 → am_M → Option (Int32 × am_M)
  | 0, _, _, _, _ => none
  | n + 1, x1, x2, x3, D => if (D T 3) ≤ x3 then some (x2, D) else if (f_X5_isIn x1 x3) = 0 then b_X4_yawnsOf_4 T n x1 x2 (x3 + 1) D else if am_in x3 5 = true then b_X4_yawnsOf_4 T n x1 (x2 + (D (T + 5) x3.toNatClampNeg)) (x3 + 1) D else none
def f_X4_yawnsOf (T : Nat) (x1 : Int32) (D : am_M) : Option (Int32 × am_M) := b_X4_yawnsOf_4 T am_N x1 0 0 D
theorem bx_X4_yawnsOf_4 {l : Launch} {h0 : am_H} {Φ : am_Ph} {tw : Nat} {tp : Bool} {T : Nat} (hT : lyT T) {r : Int32} {D' : am_M} (hΦ : Φ (some (.int r)) (ly tw tp D')) : ∀ (n : Nat) (x1 : Int32) (x2 : Int32) (x3 : Int32) (D : am_M), b_X4_yawnsOf_4 T n x1 x2 x3 D = some (r, D') → am_Ex (am_E l m_X4_yawnsOf false h0 Φ) prog_6_method_4_code (0, 0) 4 [(0, .ref T), (1, .int x1), (2, .int x2), (3, .int x3)] [] (ly tw tp D) := by
  intro n
  induction n with
  | zero =>
    intro x1 x2 x3 D h
    exact absurd h (by simp [b_X4_yawnsOf_4])
  | succ n ih =>
    intro x1 x2 x3 D h
    rw [b_X4_yawnsOf_4] at h
    refine am_iload_n (j := 3) (am_dk tk_X4_yawnsOf 4 rfl) rfl rfl ?_
    refine am_aload_n (j := 0) (am_dk tk_X4_yawnsOf 5 rfl) rfl rfl ?_
    refine ly_geti (lyT_s hT) fl_X4_44 rfl (am_dk tk_X4_yawnsOf 6 rfl) ?_
    refine am_icmp_ge (tgt := 35) (am_dk tk_X4_yawnsOf 7 rfl) (by decide) (fun hc9 => ?_) (fun hc9 => ?_)
    · rw [if_pos hc9] at h
      refine am_iload_n (j := 2) (am_dk tk_X4_yawnsOf 21 rfl) rfl rfl ?_
      exact am_iret rfl (am_r2 h hΦ) ⟨Nat.le_of_ble_eq_true rfl, Nat.le_of_ble_eq_true rfl⟩ (am_dk tk_X4_yawnsOf 22 rfl)
    · rw [if_neg hc9] at h
      refine am_iload_n (j := 1) (am_dk tk_X4_yawnsOf 8 rfl) rfl rfl ?_
      refine am_iload_n (j := 3) (am_dk tk_X4_yawnsOf 9 rfl) rfl rfl ?_
      refine am_cSN (M := m_X5_isIn) (As := [.int x1, .int x3]) (st := []) (ct_X5_isIn _ _ _) ml_X4_62 ld_X5_isIn rfl ⟨Nat.le_of_ble_eq_true rfl, Nat.le_of_ble_eq_true rfl⟩ (Nat.le_of_ble_eq_true rfl) ⟨rfl, rfl⟩ ⟨Nat.le_of_ble_eq_true rfl, Nat.le_of_ble_eq_true rfl⟩ (am_dk tk_X4_yawnsOf 10 rfl) (am_kki ?_)
      refine am_if_eq (tgt := 29) (am_dk tk_X4_yawnsOf 11 rfl) (by decide) (fun hc17 => ?_) (fun hc17 => ?_)
      · rw [if_pos hc17] at h
        refine am_iinc (j := 3) (v := x3 + 1) (L' := [(3, .int (x3 + 1)), (0, .ref T), (1, .int x1), (2, .int x2)]) (am_dk tk_X4_yawnsOf 19 rfl) rfl rfl (Nat.le_of_ble_eq_true rfl) rfl ?_
        refine am_goto (tgt := 4) (am_dk tk_X4_yawnsOf 20 rfl) (by decide) ?_
        refine am_ls [1, 2, 3, 0] rfl ?_
        exact ih _ _ _ _ h
      · rw [if_neg hc17] at h
        refine am_iload_n (j := 2) (am_dk tk_X4_yawnsOf 12 rfl) rfl rfl ?_
        refine am_aload_n (j := 0) (am_dk tk_X4_yawnsOf 13 rfl) rfl rfl ?_
        refine ly_getr (b := (T + 5)) (lyT_s hT) fl_X4_24 rfl (lyT_r11 hT) (am_dk tk_X4_yawnsOf 14 rfl) ?_
        refine am_iload_n (j := 3) (am_dk tk_X4_yawnsOf 15 rfl) rfl rfl ?_
        obtain ⟨hi26, h⟩ := am_chk h
        refine ly_iald (k := x3.toNatClampNeg) (lyT_a11 hT) (am_in_vp hi26) rfl (am_dk tk_X4_yawnsOf 16 rfl) ?_
        refine am_iadd (am_dk tk_X4_yawnsOf 17 rfl) ?_
        refine am_istore_n (L' := [(2, .int (x2 + (D (T + 5) x3.toNatClampNeg))), (0, .ref T), (1, .int x1), (3, .int x3)]) (am_dk tk_X4_yawnsOf 18 rfl) rfl (Nat.le_of_ble_eq_true rfl) rfl ?_
        refine am_iinc (j := 3) (v := x3 + 1) (L' := [(3, .int (x3 + 1)), (2, .int (x2 + (D (T + 5) x3.toNatClampNeg))), (0, .ref T), (1, .int x1)]) (am_dk tk_X4_yawnsOf 19 rfl) rfl rfl (Nat.le_of_ble_eq_true rfl) rfl ?_
        refine am_goto (tgt := 4) (am_dk tk_X4_yawnsOf 20 rfl) (by decide) ?_
        refine am_ls [2, 3, 1, 0] rfl ?_
        exact ih _ _ _ _ h
theorem ct_X4_yawnsOf {l : Launch} {tw : Nat} {tp : Bool} {T : Nat} (hT : lyT T) {x1 : Int32} {r : Int32} {D D' : am_M} (h : f_X4_yawnsOf T x1 D = some (r, D')) : am_CT l m_X4_yawnsOf false [.ref T, .int x1] (ly tw tp D) (am_is (some (.int r)) (ly tw tp D')) := by
  have hΦ : am_is (some (.int r)) (ly tw tp D') (some (.int r)) (ly tw tp D') := ⟨rfl, rfl⟩
  refine am_CT.of (by decide) (Nat.le_of_ble_eq_true rfl) ?_
  show am_Ex _ _ _ 0 [(0, .ref T), (1, .int x1)] [] _
  rw [f_X4_yawnsOf] at h
  refine am_iconst (v := 0) (am_dk tk_X4_yawnsOf 0 rfl) (by decide) ?_
  refine am_istore_n (L' := [(2, .int 0), (0, .ref T), (1, .int x1)]) (am_dk tk_X4_yawnsOf 1 rfl) rfl (Nat.le_of_ble_eq_true rfl) rfl ?_
  refine am_iconst (v := 0) (am_dk tk_X4_yawnsOf 2 rfl) (by decide) ?_
  refine am_istore_n (L' := [(3, .int 0), (2, .int 0), (0, .ref T), (1, .int x1)]) (am_dk tk_X4_yawnsOf 3 rfl) rfl (Nat.le_of_ble_eq_true rfl) rfl ?_
  refine am_ls [2, 3, 1, 0] rfl ?_
  exact bx_X4_yawnsOf_4 hT hΦ am_N _ _ _ _ h
