abbrev m_X2_copyFrom : am_D := (yX2_copyFrom, prog_4_method_2_code, 2, none, { frames := 1, cells := 0, slots := 0, locals := 30 })
theorem ld_X2_copyFrom : am_LD m_X2_copyFrom 1 := ⟨(am_tb 81 (by decide +kernel) (by decide +kernel)), (am_tb 487 (by decide +kernel) (by decide +kernel)), by decide, by decide, by decide +kernel⟩
def tb_X2_copyFrom : List (Nat × Instr × Nat) := [(0, .aload_n 1, 1), (1, .getfield 9, 3), (4, .iconst 0, 1), (5, .aload_n 0, 1), (6, .getfield 9, 3), (9, .iconst 0, 1), (10, .iconst 5, 1), (11, .invokestatic 24, 3), (14, .aload_n 1, 1), (15, .getfield 15, 3), (18, .iconst 0, 1), (19, .aload_n 0, 1), (20, .getfield 15, 3), (23, .iconst 0, 1), (24, .iconst 5, 1), (25, .invokestatic 24, 3), (28, .aload_n 1, 1), (29, .getfield 18, 3), (32, .iconst 0, 1), (33, .aload_n 0, 1), (34, .getfield 18, 3), (37, .iconst 0, 1), (38, .iconst 5, 1), (39, .invokestatic 24, 3), (42, .aload_n 1, 1), (43, .getfield 21, 3), (46, .iconst 0, 1), (47, .aload_n 0, 1), (48, .getfield 21, 3), (51, .iconst 0, 1), (52, .bipush 120, 2), (54, .invokestatic 24, 3), (57, .aload_n 0, 1), (58, .aload_n 1, 1), (59, .getfield 30, 3), (62, .putfield 30, 3), (65, .aload_n 0, 1), (66, .aload_n 1, 1), (67, .getfield 34, 3), (70, .putfield 34, 3), (73, .aload_n 0, 1), (74, .aload_n 1, 1), (75, .getfield 37, 3), (78, .putfield 37, 3), (81, .aload_n 0, 1), (82, .aload_n 1, 1), (83, .getfield 40, 3), (86, .putfield 40, 3), (89, .return_, 1)]
theorem tk_X2_copyFrom : am_tbl prog_4_method_2_code tb_X2_copyFrom = true := by decide +kernel
def b_X2_copyFrom_73 (M N : Nat) (D : am_M) : Option am_M := some (am_up (am_up D M 6 (D N 6)) M 7 ((am_up D M 6 (D N 6)) N 7))
def b_X2_copyFrom_42 (M N : Nat) (D : am_M) : Option am_M := b_X2_copyFrom_73 M N (am_up (am_up (am_row D (M + 4) (va_cpy (D (N + 4)) (D (M + 4)) 0 0 120)) M 4 ((am_row D (M + 4) (va_cpy (D (N + 4)) (D (M + 4)) 0 0 120)) N 4)) M 5 ((am_up (am_row D (M + 4) (va_cpy (D (N + 4)) (D (M + 4)) 0 0 120)) M 4 ((am_row D (M + 4) (va_cpy (D (N + 4)) (D (M + 4)) 0 0 120)) N 4)) N 5))
def f_X2_copyFrom (M N : Nat) (D : am_M) : Option am_M := b_X2_copyFrom_42 M N (am_row (am_row (am_row D (M + 1) (va_cpy (D (N + 1)) (D (M + 1)) 0 0 5)) (M + 2) (va_cpy ((am_row D (M + 1) (va_cpy (D (N + 1)) (D (M + 1)) 0 0 5)) (N + 2)) ((am_row D (M + 1) (va_cpy (D (N + 1)) (D (M + 1)) 0 0 5)) (M + 2)) 0 0 5)) (M + 3) (va_cpy ((am_row (am_row D (M + 1) (va_cpy (D (N + 1)) (D (M + 1)) 0 0 5)) (M + 2) (va_cpy ((am_row D (M + 1) (va_cpy (D (N + 1)) (D (M + 1)) 0 0 5)) (N + 2)) ((am_row D (M + 1) (va_cpy (D (N + 1)) (D (M + 1)) 0 0 5)) (M + 2)) 0 0 5)) (N + 3)) ((am_row (am_row D (M + 1) (va_cpy (D (N + 1)) (D (M + 1)) 0 0 5)) (M + 2) (va_cpy ((am_row D (M + 1) (va_cpy (D (N + 1)) (D (M + 1)) 0 0 5)) (N + 2)) ((am_row D (M + 1) (va_cpy (D (N + 1)) (D (M + 1)) 0 0 5)) (M + 2)) 0 0 5)) (M + 3)) 0 0 5))
theorem bx_X2_copyFrom_73 {l : Launch} {h0 : am_H} {Φ : am_Ph} {tw : Nat} {tp : Bool} {M : Nat} (hM : lyM M) {N : Nat} (hN : lyM N) {D' : am_M} (hΦ : Φ none (ly tw tp D')) : ∀ (D : am_M), b_X2_copyFrom_73 M N D = some D' → am_Ex (am_E l m_X2_copyFrom false h0 Φ) prog_4_method_2_code (0, 0) 73 [(0, .ref M), (1, .ref N)] [] (ly tw tp D) := by
  intro  D h
  rw [b_X2_copyFrom_73] at h
  refine am_aload_n (j := 0) (am_dk tk_X2_copyFrom 40 rfl) rfl rfl ?_
  refine am_aload_n (j := 1) (am_dk tk_X2_copyFrom 41 rfl) rfl rfl ?_
  refine ly_geti (lyM_s hN) fl_X2_37 rfl (am_dk tk_X2_copyFrom 42 rfl) ?_
  refine ly_puti (lyM_s hM) fl_X2_37 rfl rfl (am_dk tk_X2_copyFrom 43 rfl) ?_
  refine am_aload_n (j := 0) (am_dk tk_X2_copyFrom 44 rfl) rfl rfl ?_
  refine am_aload_n (j := 1) (am_dk tk_X2_copyFrom 45 rfl) rfl rfl ?_
  refine ly_geti (lyM_s hN) fl_X2_40 rfl (am_dk tk_X2_copyFrom 46 rfl) ?_
  refine ly_puti (lyM_s hM) fl_X2_40 rfl rfl (am_dk tk_X2_copyFrom 47 rfl) ?_
  exact am_vret rfl (am_r0 h hΦ) ⟨Nat.le_of_ble_eq_true rfl, Nat.le_of_ble_eq_true rfl⟩ (am_dk tk_X2_copyFrom 48 rfl)
theorem bx_X2_copyFrom_42 {l : Launch} {h0 : am_H} {Φ : am_Ph} {tw : Nat} {tp : Bool} {M : Nat} (hM : lyM M) {N : Nat} (hN : lyM N) {D' : am_M} (hΦ : Φ none (ly tw tp D')) : ∀ (D : am_M), b_X2_copyFrom_42 M N D = some D' → am_Ex (am_E l m_X2_copyFrom false h0 Φ) prog_4_method_2_code (0, 0) 42 [(0, .ref M), (1, .ref N)] [] (ly tw tp D) := by
  intro  D h
  rw [b_X2_copyFrom_42] at h
  refine am_aload_n (j := 1) (am_dk tk_X2_copyFrom 24 rfl) rfl rfl ?_
  refine ly_getr (b := (N + 4)) (lyM_s hN) fl_X2_21 rfl (lyM_r3 hN) (am_dk tk_X2_copyFrom 25 rfl) ?_
  refine am_iconst (v := 0) (am_dk tk_X2_copyFrom 26 rfl) (by decide) ?_
  refine am_aload_n (j := 0) (am_dk tk_X2_copyFrom 27 rfl) rfl rfl ?_
  refine ly_getr (b := (M + 4)) (lyM_s hM) fl_X2_21 rfl (lyM_r3 hM) (am_dk tk_X2_copyFrom 28 rfl) ?_
  refine am_iconst (v := 0) (am_dk tk_X2_copyFrom 29 rfl) (by decide) ?_
  refine am_bipush (v := 120) (am_dk tk_X2_copyFrom 30 rfl) (by decide) ?_
  refine ly_copy lc_X2_24 (lyM_a3 hN) (lyM_a3 hM) (by decide) (by decide) (by decide) (Nat.le_of_ble_eq_true rfl) (Nat.le_of_ble_eq_true rfl) rfl (am_dk tk_X2_copyFrom 31 rfl) ?_
  refine am_aload_n (j := 0) (am_dk tk_X2_copyFrom 32 rfl) rfl rfl ?_
  refine am_aload_n (j := 1) (am_dk tk_X2_copyFrom 33 rfl) rfl rfl ?_
  refine ly_geti (lyM_s hN) fl_X2_30 rfl (am_dk tk_X2_copyFrom 34 rfl) ?_
  refine ly_puti (lyM_s hM) fl_X2_30 rfl rfl (am_dk tk_X2_copyFrom 35 rfl) ?_
  refine am_aload_n (j := 0) (am_dk tk_X2_copyFrom 36 rfl) rfl rfl ?_
  refine am_aload_n (j := 1) (am_dk tk_X2_copyFrom 37 rfl) rfl rfl ?_
  refine ly_geti (lyM_s hN) fl_X2_34 rfl (am_dk tk_X2_copyFrom 38 rfl) ?_
  refine ly_puti (lyM_s hM) fl_X2_34 rfl rfl (am_dk tk_X2_copyFrom 39 rfl) ?_
  exact bx_X2_copyFrom_73 hM hN hΦ _ h
theorem ct_X2_copyFrom {l : Launch} {tw : Nat} {tp : Bool} {M : Nat} (hM : lyM M) {N : Nat} (hN : lyM N) {D D' : am_M} (h : f_X2_copyFrom M N D = some D') : am_CT l m_X2_copyFrom false [.ref M, .ref N] (ly tw tp D) (am_is none (ly tw tp D')) := by
  have hΦ : am_is none (ly tw tp D') none (ly tw tp D') := ⟨rfl, rfl⟩
  refine am_CT.of (by decide) (Nat.le_of_ble_eq_true rfl) ?_
  show am_Ex _ _ _ 0 [(0, .ref M), (1, .ref N)] [] _
  rw [f_X2_copyFrom] at h
  refine am_aload_n (j := 1) (am_dk tk_X2_copyFrom 0 rfl) rfl rfl ?_
  refine ly_getr (b := (N + 1)) (lyM_s hN) fl_X2_9 rfl (lyM_r0 hN) (am_dk tk_X2_copyFrom 1 rfl) ?_
  refine am_iconst (v := 0) (am_dk tk_X2_copyFrom 2 rfl) (by decide) ?_
  refine am_aload_n (j := 0) (am_dk tk_X2_copyFrom 3 rfl) rfl rfl ?_
  refine ly_getr (b := (M + 1)) (lyM_s hM) fl_X2_9 rfl (lyM_r0 hM) (am_dk tk_X2_copyFrom 4 rfl) ?_
  refine am_iconst (v := 0) (am_dk tk_X2_copyFrom 5 rfl) (by decide) ?_
  refine am_iconst (v := 5) (am_dk tk_X2_copyFrom 6 rfl) (by decide) ?_
  refine ly_copy lc_X2_24 (lyM_a0 hN) (lyM_a0 hM) (by decide) (by decide) (by decide) (Nat.le_of_ble_eq_true rfl) (Nat.le_of_ble_eq_true rfl) rfl (am_dk tk_X2_copyFrom 7 rfl) ?_
  refine am_aload_n (j := 1) (am_dk tk_X2_copyFrom 8 rfl) rfl rfl ?_
  refine ly_getr (b := (N + 2)) (lyM_s hN) fl_X2_15 rfl (lyM_r1 hN) (am_dk tk_X2_copyFrom 9 rfl) ?_
  refine am_iconst (v := 0) (am_dk tk_X2_copyFrom 10 rfl) (by decide) ?_
  refine am_aload_n (j := 0) (am_dk tk_X2_copyFrom 11 rfl) rfl rfl ?_
  refine ly_getr (b := (M + 2)) (lyM_s hM) fl_X2_15 rfl (lyM_r1 hM) (am_dk tk_X2_copyFrom 12 rfl) ?_
  refine am_iconst (v := 0) (am_dk tk_X2_copyFrom 13 rfl) (by decide) ?_
  refine am_iconst (v := 5) (am_dk tk_X2_copyFrom 14 rfl) (by decide) ?_
  refine ly_copy lc_X2_24 (lyM_a1 hN) (lyM_a1 hM) (by decide) (by decide) (by decide) (Nat.le_of_ble_eq_true rfl) (Nat.le_of_ble_eq_true rfl) rfl (am_dk tk_X2_copyFrom 15 rfl) ?_
  refine am_aload_n (j := 1) (am_dk tk_X2_copyFrom 16 rfl) rfl rfl ?_
  refine ly_getr (b := (N + 3)) (lyM_s hN) fl_X2_18 rfl (lyM_r2 hN) (am_dk tk_X2_copyFrom 17 rfl) ?_
  refine am_iconst (v := 0) (am_dk tk_X2_copyFrom 18 rfl) (by decide) ?_
  refine am_aload_n (j := 0) (am_dk tk_X2_copyFrom 19 rfl) rfl rfl ?_
  refine ly_getr (b := (M + 3)) (lyM_s hM) fl_X2_18 rfl (lyM_r2 hM) (am_dk tk_X2_copyFrom 20 rfl) ?_
  refine am_iconst (v := 0) (am_dk tk_X2_copyFrom 21 rfl) (by decide) ?_
  refine am_iconst (v := 5) (am_dk tk_X2_copyFrom 22 rfl) (by decide) ?_
  refine ly_copy lc_X2_24 (lyM_a2 hN) (lyM_a2 hM) (by decide) (by decide) (by decide) (Nat.le_of_ble_eq_true rfl) (Nat.le_of_ble_eq_true rfl) rfl (am_dk tk_X2_copyFrom 23 rfl) ?_
  exact bx_X2_copyFrom_42 hM hN hΦ _ h
abbrev m_X2_sleepers : am_D := (yX2_sleepers, prog_4_method_3_code, 4, (some .int), { frames := 0, cells := 0, slots := 0, locals := 0 })
theorem ld_X2_sleepers : am_LD m_X2_sleepers 1 := ⟨(am_tb 81 (by decide +kernel) (by decide +kernel)), (am_tb 510 (by decide +kernel) (by decide +kernel)), by decide, by decide, by decide +kernel⟩
def tb_X2_sleepers : List (Nat × Instr × Nat) := [(0, .iconst 0, 1), (1, .istore_n 2, 1), (2, .iconst 0, 1), (3, .istore_n 3, 1), (4, .iload_n 3, 1), (5, .iload_n 1, 1), (6, .if_icmp .ge 24, 3), (9, .aload_n 0, 1), (10, .getfield 15, 3), (13, .iload_n 3, 1), (14, .iaload, 1), (15, .ifCond .le 9, 3), (18, .iload_n 2, 1), (19, .iconst 1, 1), (20, .iload_n 3, 1), (21, .ishl, 1), (22, .ior, 1), (23, .istore_n 2, 1), (24, .iinc 3 1, 3), (27, .goto (-23), 3), (30, .iload_n 2, 1), (31, .ireturn, 1)]
theorem tk_X2_sleepers : am_tbl prog_4_method_3_code tb_X2_sleepers = true := by decide +kernel
def b_X2_sleepers_4 (M : Nat) : Nat → Int32 → Int32 → Int32 → am_M → Option (Int32 × am_M)
  | 0, _, _, _, _ => none
  | n + 1, x1, x2, x3, D => if x1 ≤ x3 then some (x2, D) else if am_in x3 5 = true then b_X2_sleepers_4 M n x1 (if (D (M + 2) x3.toNatClampNeg) ≤ 0 then x2 else x2 ||| (1 <<< (x3 &&& 31))) (x3 + 1) D else none
def f_X2_sleepers (M : Nat) (x1 : Int32) (D : am_M) : Option (Int32 × am_M) := b_X2_sleepers_4 M am_N x1 0 0 D
theorem bx_X2_sleepers_4 {l : Launch} {h0 : am_H} {Φ : am_Ph} {tw : Nat} {tp : Bool} {M : Nat} (hM : lyM M) {r : Int32} {D' : am_M} (hΦ : Φ (some (.int r)) (ly tw tp D')) : ∀ (n : Nat) (x1 : Int32) (x2 : Int32) (x3 : Int32) (D : am_M), b_X2_sleepers_4 M n x1 x2 x3 D = some (r, D') → am_Ex (am_E l m_X2_sleepers false h0 Φ) prog_4_method_3_code (0, 0) 4 [(0, .ref M), (1, .int x1), (2, .int x2), (3, .int x3)] [] (ly tw tp D) := by
  intro n
  induction n with
  | zero =>
    intro x1 x2 x3 D h
    exact absurd h (by simp [b_X2_sleepers_4])
  | succ n ih =>
    intro x1 x2 x3 D h
    rw [b_X2_sleepers_4] at h
    refine am_iload_n (j := 3) (am_dk tk_X2_sleepers 4 rfl) rfl rfl ?_
    refine am_iload_n (j := 1) (am_dk tk_X2_sleepers 5 rfl) rfl rfl ?_
    refine am_icmp_ge (tgt := 30) (am_dk tk_X2_sleepers 6 rfl) (by decide) (fun hc6 => ?_) (fun hc6 => ?_)
    · rw [if_pos hc6] at h
      refine am_iload_n (j := 2) (am_dk tk_X2_sleepers 20 rfl) rfl rfl ?_
      exact am_iret rfl (am_r2 h hΦ) ⟨Nat.le_of_ble_eq_true rfl, Nat.le_of_ble_eq_true rfl⟩ (am_dk tk_X2_sleepers 21 rfl)
    · rw [if_neg hc6] at h
      refine am_aload_n (j := 0) (am_dk tk_X2_sleepers 7 rfl) rfl rfl ?_
      refine ly_getr (b := (M + 2)) (lyM_s hM) fl_X2_15 rfl (lyM_r1 hM) (am_dk tk_X2_sleepers 8 rfl) ?_
      refine am_iload_n (j := 3) (am_dk tk_X2_sleepers 9 rfl) rfl rfl ?_
      obtain ⟨hi14, h⟩ := am_chk h
      refine ly_iald (k := x3.toNatClampNeg) (lyM_a1 hM) (am_in_vp hi14) rfl (am_dk tk_X2_sleepers 10 rfl) ?_
      refine am_if_le (tgt := 24) (am_dk tk_X2_sleepers 11 rfl) (by decide) (fun hc15 => ?_) (fun hc15 => ?_)
      · simp only [if_pos hc15] at h
        refine am_iinc (j := 3) (v := x3 + 1) (L' := [(3, .int (x3 + 1)), (0, .ref M), (1, .int x1), (2, .int x2)]) (am_dk tk_X2_sleepers 18 rfl) rfl rfl (Nat.le_of_ble_eq_true rfl) rfl ?_
        refine am_goto (tgt := 4) (am_dk tk_X2_sleepers 19 rfl) (by decide) ?_
        refine am_ls [1, 2, 3, 0] rfl ?_
        exact ih _ _ _ _ h
      · simp only [if_neg hc15] at h
        refine am_iload_n (j := 2) (am_dk tk_X2_sleepers 12 rfl) rfl rfl ?_
        refine am_iconst (v := 1) (am_dk tk_X2_sleepers 13 rfl) (by decide) ?_
        refine am_iload_n (j := 3) (am_dk tk_X2_sleepers 14 rfl) rfl rfl ?_
        refine am_ishl (am_dk tk_X2_sleepers 15 rfl) ?_
        refine am_ior (am_dk tk_X2_sleepers 16 rfl) ?_
        refine am_istore_n (L' := [(2, .int (x2 ||| (1 <<< (x3 &&& 31)))), (0, .ref M), (1, .int x1), (3, .int x3)]) (am_dk tk_X2_sleepers 17 rfl) rfl (Nat.le_of_ble_eq_true rfl) rfl ?_
        refine am_iinc (j := 3) (v := x3 + 1) (L' := [(3, .int (x3 + 1)), (2, .int (x2 ||| (1 <<< (x3 &&& 31)))), (0, .ref M), (1, .int x1)]) (am_dk tk_X2_sleepers 18 rfl) rfl rfl (Nat.le_of_ble_eq_true rfl) rfl ?_
        refine am_goto (tgt := 4) (am_dk tk_X2_sleepers 19 rfl) (by decide) ?_
        refine am_ls [2, 3, 1, 0] rfl ?_
        exact ih _ _ _ _ h
theorem ct_X2_sleepers {l : Launch} {tw : Nat} {tp : Bool} {M : Nat} (hM : lyM M) {x1 : Int32} {r : Int32} {D D' : am_M} (h : f_X2_sleepers M x1 D = some (r, D')) : am_CT l m_X2_sleepers false [.ref M, .int x1] (ly tw tp D) (am_is (some (.int r)) (ly tw tp D')) := by
  have hΦ : am_is (some (.int r)) (ly tw tp D') (some (.int r)) (ly tw tp D') := ⟨rfl, rfl⟩
  refine am_CT.of (by decide) (Nat.le_of_ble_eq_true rfl) ?_
  show am_Ex _ _ _ 0 [(0, .ref M), (1, .int x1)] [] _
  rw [f_X2_sleepers] at h
  refine am_iconst (v := 0) (am_dk tk_X2_sleepers 0 rfl) (by decide) ?_
  refine am_istore_n (L' := [(2, .int 0), (0, .ref M), (1, .int x1)]) (am_dk tk_X2_sleepers 1 rfl) rfl (Nat.le_of_ble_eq_true rfl) rfl ?_
  refine am_iconst (v := 0) (am_dk tk_X2_sleepers 2 rfl) (by decide) ?_
  refine am_istore_n (L' := [(3, .int 0), (2, .int 0), (0, .ref M), (1, .int x1)]) (am_dk tk_X2_sleepers 3 rfl) rfl (Nat.le_of_ble_eq_true rfl) rfl ?_
  refine am_ls [2, 3, 1, 0] rfl ?_
  exact bx_X2_sleepers_4 hM hΦ am_N _ _ _ _ h
abbrev m_X2_lie : am_D := (yX2_lie, prog_4_method_6_code, 4, none, { frames := 1, cells := 0, slots := 0, locals := 15 })
theorem ld_X2_lie : am_LD m_X2_lie 2 := ⟨(am_tb 81 (by decide +kernel) (by decide +kernel)), (am_tb 558 (by decide +kernel) (by decide +kernel)), by decide, by decide, by decide +kernel⟩
def tb_X2_lie : List (Nat × Instr × Nat) := [(0, .aload_n 0, 1), (1, .getfield 15, 3), (4, .iload_n 1, 1), (5, .dup2, 1), (6, .iaload, 1), (7, .iconst 1, 1), (8, .iadd, 1), (9, .iastore, 1), (10, .aload_n 0, 1), (11, .getfield 9, 3), (14, .iload_n 1, 1), (15, .aload_n 0, 1), (16, .getfield 9, 3), (19, .iload_n 1, 1), (20, .iaload, 1), (21, .iconst 4, 1), (22, .isub, 1), (23, .iconst 0, 1), (24, .invokestatic 66, 3), (27, .iastore, 1), (28, .aload_n 0, 1), (29, .getfield 15, 3), (32, .iload_n 1, 1), (33, .iaload, 1), (34, .aload_n 2, 1), (35, .getfield 72, 3), (38, .if_icmp .lt 10, 3), (41, .aload_n 2, 1), (42, .getfield 75, 3), (45, .goto 4, 3), (48, .iconst 1, 1), (49, .istore_n 3, 1), (50, .aload_n 0, 1), (51, .getfield 18, 3), (54, .iload_n 1, 1), (55, .aload_n 0, 1), (56, .getfield 18, 3), (59, .iload_n 1, 1), (60, .iaload, 1), (61, .iload_n 3, 1), (62, .iadd, 1), (63, .sipush 9999, 3), (66, .invokestatic 78, 3), (69, .iastore, 1), (70, .return_, 1)]
theorem tk_X2_lie : am_tbl prog_4_method_6_code tb_X2_lie = true := by decide +kernel
def b_X2_lie_49 (M T : Nat) (x1 : Int32) (s0 : Int32) (D : am_M) : Option am_M := if am_in x1 5 = true then some (am_up D (M + 3) x1.toNatClampNeg (am_min ((D (M + 3) x1.toNatClampNeg) + s0) 9999)) else none
def f_X2_lie (M T : Nat) (x1 : Int32) (D : am_M) : Option am_M := if am_in x1 5 = true then b_X2_lie_49 M T x1 (if ((am_up (am_up D (M + 2) x1.toNatClampNeg ((D (M + 2) x1.toNatClampNeg) + 1)) (M + 1) x1.toNatClampNeg (am_max (((am_up D (M + 2) x1.toNatClampNeg ((D (M + 2) x1.toNatClampNeg) + 1)) (M + 1) x1.toNatClampNeg) - 4) 0)) (M + 2) x1.toNatClampNeg) < ((am_up (am_up D (M + 2) x1.toNatClampNeg ((D (M + 2) x1.toNatClampNeg) + 1)) (M + 1) x1.toNatClampNeg (am_max (((am_up D (M + 2) x1.toNatClampNeg ((D (M + 2) x1.toNatClampNeg) + 1)) (M + 1) x1.toNatClampNeg) - 4) 0)) T 1) then 1 else (am_up (am_up D (M + 2) x1.toNatClampNeg ((D (M + 2) x1.toNatClampNeg) + 1)) (M + 1) x1.toNatClampNeg (am_max (((am_up D (M + 2) x1.toNatClampNeg ((D (M + 2) x1.toNatClampNeg) + 1)) (M + 1) x1.toNatClampNeg) - 4) 0)) T 2) (am_up (am_up D (M + 2) x1.toNatClampNeg ((D (M + 2) x1.toNatClampNeg) + 1)) (M + 1) x1.toNatClampNeg (am_max (((am_up D (M + 2) x1.toNatClampNeg ((D (M + 2) x1.toNatClampNeg) + 1)) (M + 1) x1.toNatClampNeg) - 4) 0)) else none
theorem bx_X2_lie_49 {l : Launch} {h0 : am_H} {Φ : am_Ph} {tw : Nat} {tp : Bool} {M : Nat} (hM : lyM M) {T : Nat} (hT : lyT T) {D' : am_M} (hΦ : Φ none (ly tw tp D')) : ∀ (x1 : Int32) (s0 : Int32) (D : am_M), b_X2_lie_49 M T x1 s0 D = some D' → am_Ex (am_E l m_X2_lie false h0 Φ) prog_4_method_6_code (0, 0) 49 [(0, .ref M), (1, .int x1)] [.int s0] (ly tw tp D) := by
  intro x1 s0 D h
  rw [b_X2_lie_49] at h
  refine am_istore_n (L' := [(3, .int s0), (0, .ref M), (1, .int x1)]) (am_dk tk_X2_lie 31 rfl) rfl (Nat.le_of_ble_eq_true rfl) rfl ?_
  refine am_aload_n (j := 1) (am_dk tk_X2_lie 32 rfl) rfl rfl ?_
  refine ly_getr (b := (M + 3)) (lyM_s hM) fl_X2_18 rfl (lyM_r2 hM) (am_dk tk_X2_lie 33 rfl) ?_
  refine am_iload_n (j := 2) (am_dk tk_X2_lie 34 rfl) rfl rfl ?_
  refine am_aload_n (j := 1) (am_dk tk_X2_lie 35 rfl) rfl rfl ?_
  refine ly_getr (b := (M + 3)) (lyM_s hM) fl_X2_18 rfl (lyM_r2 hM) (am_dk tk_X2_lie 36 rfl) ?_
  refine am_iload_n (j := 2) (am_dk tk_X2_lie 37 rfl) rfl rfl ?_
  obtain ⟨hi60, h⟩ := am_chk h
  refine ly_iald (k := x1.toNatClampNeg) (lyM_a2 hM) (am_in_vp hi60) rfl (am_dk tk_X2_lie 38 rfl) ?_
  refine am_iload_n (j := 0) (am_dk tk_X2_lie 39 rfl) rfl rfl ?_
  refine am_iadd (am_dk tk_X2_lie 40 rfl) ?_
  refine am_sipush (v := 9999) (am_dk tk_X2_lie 41 rfl) (by decide) ?_
  refine am_mmin lm_X2_78 (Nat.le_of_ble_eq_true rfl) (Nat.le_of_ble_eq_true rfl) ⟨Nat.le_of_ble_eq_true rfl, Nat.le_of_ble_eq_true rfl⟩ (am_dk tk_X2_lie 42 rfl) ?_
  refine ly_iast (k := x1.toNatClampNeg) (lyM_a2 hM) (am_in_vp hi60) rfl (am_dk tk_X2_lie 43 rfl) ?_
  exact am_vret rfl (am_r0 h hΦ) ⟨Nat.le_of_ble_eq_true rfl, Nat.le_of_ble_eq_true rfl⟩ (am_dk tk_X2_lie 44 rfl)
theorem ct_X2_lie {l : Launch} {tw : Nat} {tp : Bool} {M : Nat} (hM : lyM M) {T : Nat} (hT : lyT T) {x1 : Int32} {D D' : am_M} (h : f_X2_lie M T x1 D = some D') : am_CT l m_X2_lie false [.ref M, .int x1, .ref T] (ly tw tp D) (am_is none (ly tw tp D')) := by
  have hΦ : am_is none (ly tw tp D') none (ly tw tp D') := ⟨rfl, rfl⟩
  refine am_CT.of (by decide) (Nat.le_of_ble_eq_true rfl) ?_
  show am_Ex _ _ _ 0 [(0, .ref M), (1, .int x1), (2, .ref T)] [] _
  rw [f_X2_lie] at h
  refine am_aload_n (j := 0) (am_dk tk_X2_lie 0 rfl) rfl rfl ?_
  refine ly_getr (b := (M + 2)) (lyM_s hM) fl_X2_15 rfl (lyM_r1 hM) (am_dk tk_X2_lie 1 rfl) ?_
  refine am_iload_n (j := 1) (am_dk tk_X2_lie 2 rfl) rfl rfl ?_
  refine am_dup2 (am_dk tk_X2_lie 3 rfl) rfl rfl ?_
  obtain ⟨hi6, h⟩ := am_chk h
  refine ly_iald (k := x1.toNatClampNeg) (lyM_a1 hM) (am_in_vp hi6) rfl (am_dk tk_X2_lie 4 rfl) ?_
  refine am_iconst (v := 1) (am_dk tk_X2_lie 5 rfl) (by decide) ?_
  refine am_iadd (am_dk tk_X2_lie 6 rfl) ?_
  refine ly_iast (k := x1.toNatClampNeg) (lyM_a1 hM) (am_in_vp hi6) rfl (am_dk tk_X2_lie 7 rfl) ?_
  refine am_aload_n (j := 0) (am_dk tk_X2_lie 8 rfl) rfl rfl ?_
  refine ly_getr (b := (M + 1)) (lyM_s hM) fl_X2_9 rfl (lyM_r0 hM) (am_dk tk_X2_lie 9 rfl) ?_
  refine am_iload_n (j := 1) (am_dk tk_X2_lie 10 rfl) rfl rfl ?_
  refine am_aload_n (j := 0) (am_dk tk_X2_lie 11 rfl) rfl rfl ?_
  refine ly_getr (b := (M + 1)) (lyM_s hM) fl_X2_9 rfl (lyM_r0 hM) (am_dk tk_X2_lie 12 rfl) ?_
  refine am_iload_n (j := 1) (am_dk tk_X2_lie 13 rfl) rfl rfl ?_
  refine ly_iald (k := x1.toNatClampNeg) (lyM_a0 hM) (am_in_vp hi6) rfl (am_dk tk_X2_lie 14 rfl) ?_
  refine am_iconst (v := 4) (am_dk tk_X2_lie 15 rfl) (by decide) ?_
  refine am_isub (am_dk tk_X2_lie 16 rfl) ?_
  refine am_iconst (v := 0) (am_dk tk_X2_lie 17 rfl) (by decide) ?_
  refine am_mmax lm_X2_66 (Nat.le_of_ble_eq_true rfl) (Nat.le_of_ble_eq_true rfl) ⟨Nat.le_of_ble_eq_true rfl, Nat.le_of_ble_eq_true rfl⟩ (am_dk tk_X2_lie 18 rfl) ?_
  refine ly_iast (k := x1.toNatClampNeg) (lyM_a0 hM) (am_in_vp hi6) rfl (am_dk tk_X2_lie 19 rfl) ?_
  refine am_aload_n (j := 0) (am_dk tk_X2_lie 20 rfl) rfl rfl ?_
  refine ly_getr (b := (M + 2)) (lyM_s hM) fl_X2_15 rfl (lyM_r1 hM) (am_dk tk_X2_lie 21 rfl) ?_
  refine am_iload_n (j := 1) (am_dk tk_X2_lie 22 rfl) rfl rfl ?_
  refine ly_iald (k := x1.toNatClampNeg) (lyM_a1 hM) (am_in_vp hi6) rfl (am_dk tk_X2_lie 23 rfl) ?_
  refine am_aload_n (j := 2) (am_dk tk_X2_lie 24 rfl) rfl rfl ?_
  refine ly_geti (lyT_s hT) fl_X2_72 rfl (am_dk tk_X2_lie 25 rfl) ?_
  refine am_icmp_lt (tgt := 48) (am_dk tk_X2_lie 26 rfl) (by decide) (fun hc38 => ?_) (fun hc38 => ?_)
  · simp only [if_pos hc38] at h
    refine am_iconst (v := 1) (am_dk tk_X2_lie 30 rfl) (by decide) ?_
    refine am_ls [0, 1] rfl ?_
    exact bx_X2_lie_49 hM hT hΦ _ _ _ h
  · simp only [if_neg hc38] at h
    refine am_aload_n (j := 2) (am_dk tk_X2_lie 27 rfl) rfl rfl ?_
    refine ly_geti (lyT_s hT) fl_X2_75 rfl (am_dk tk_X2_lie 28 rfl) ?_
    refine am_goto (tgt := 49) (am_dk tk_X2_lie 29 rfl) (by decide) ?_
    refine am_ls [0, 1] rfl ?_
    exact bx_X2_lie_49 hM hT hΦ _ _ _ h
abbrev m_X2_tire : am_D := (yX2_tire, prog_4_method_7_code, 3, none, { frames := 1, cells := 0, slots := 0, locals := 15 })
theorem ld_X2_tire : am_LD m_X2_tire 2 := ⟨(am_tb 81 (by decide +kernel) (by decide +kernel)), (am_tb 568 (by decide +kernel) (by decide +kernel)), by decide, by decide, by decide +kernel⟩
def tb_X2_tire : List (Nat × Instr × Nat) := [(0, .aload_n 0, 1), (1, .getfield 9, 3), (4, .iload_n 1, 1), (5, .aload_n 0, 1), (6, .getfield 9, 3), (9, .iload_n 1, 1), (10, .iaload, 1), (11, .iload_n 2, 1), (12, .iadd, 1), (13, .bipush 99, 2), (15, .invokestatic 78, 3), (18, .iastore, 1), (19, .return_, 1)]
theorem tk_X2_tire : am_tbl prog_4_method_7_code tb_X2_tire = true := by decide +kernel
def f_X2_tire (M : Nat) (x1 : Int32) (x2 : Int32) (D : am_M) : Option am_M := if am_in x1 5 = true then some (am_up D (M + 1) x1.toNatClampNeg (am_min ((D (M + 1) x1.toNatClampNeg) + x2) 99)) else none
theorem ct_X2_tire {l : Launch} {tw : Nat} {tp : Bool} {M : Nat} (hM : lyM M) {x1 : Int32} {x2 : Int32} {D D' : am_M} (h : f_X2_tire M x1 x2 D = some D') : am_CT l m_X2_tire false [.ref M, .int x1, .int x2] (ly tw tp D) (am_is none (ly tw tp D')) := by
  have hΦ : am_is none (ly tw tp D') none (ly tw tp D') := ⟨rfl, rfl⟩
  refine am_CT.of (by decide) (Nat.le_of_ble_eq_true rfl) ?_
  show am_Ex _ _ _ 0 [(0, .ref M), (1, .int x1), (2, .int x2)] [] _
  rw [f_X2_tire] at h
  refine am_aload_n (j := 0) (am_dk tk_X2_tire 0 rfl) rfl rfl ?_
  refine ly_getr (b := (M + 1)) (lyM_s hM) fl_X2_9 rfl (lyM_r0 hM) (am_dk tk_X2_tire 1 rfl) ?_
  refine am_iload_n (j := 1) (am_dk tk_X2_tire 2 rfl) rfl rfl ?_
  refine am_aload_n (j := 0) (am_dk tk_X2_tire 3 rfl) rfl rfl ?_
  refine ly_getr (b := (M + 1)) (lyM_s hM) fl_X2_9 rfl (lyM_r0 hM) (am_dk tk_X2_tire 4 rfl) ?_
  refine am_iload_n (j := 1) (am_dk tk_X2_tire 5 rfl) rfl rfl ?_
  obtain ⟨hi10, h⟩ := am_chk h
  refine ly_iald (k := x1.toNatClampNeg) (lyM_a0 hM) (am_in_vp hi10) rfl (am_dk tk_X2_tire 6 rfl) ?_
  refine am_iload_n (j := 2) (am_dk tk_X2_tire 7 rfl) rfl rfl ?_
  refine am_iadd (am_dk tk_X2_tire 8 rfl) ?_
  refine am_bipush (v := 99) (am_dk tk_X2_tire 9 rfl) (by decide) ?_
  refine am_mmin lm_X2_78 (Nat.le_of_ble_eq_true rfl) (Nat.le_of_ble_eq_true rfl) ⟨Nat.le_of_ble_eq_true rfl, Nat.le_of_ble_eq_true rfl⟩ (am_dk tk_X2_tire 10 rfl) ?_
  refine ly_iast (k := x1.toNatClampNeg) (lyM_a0 hM) (am_in_vp hi10) rfl (am_dk tk_X2_tire 11 rfl) ?_
  exact am_vret rfl (am_r0 h hΦ) ⟨Nat.le_of_ble_eq_true rfl, Nat.le_of_ble_eq_true rfl⟩ (am_dk tk_X2_tire 12 rfl)
abbrev m_X2_callDebts : am_D := (yX2_callDebts, prog_4_method_8_code, 4, none, { frames := 0, cells := 0, slots := 0, locals := 0 })
theorem ld_X2_callDebts : am_LD m_X2_callDebts 1 := ⟨(am_tb 81 (by decide +kernel) (by decide +kernel)), (am_tb 572 (by decide +kernel) (by decide +kernel)), by decide, by decide, by decide +kernel⟩
def tb_X2_callDebts : List (Nat × Instr × Nat) := [(0, .iconst 0, 1), (1, .istore_n 2, 1), (2, .iload_n 2, 1), (3, .aload_n 1, 1), (4, .getfield 81, 3), (7, .if_icmp .ge 89, 3), (10, .aload_n 1, 1), (11, .getfield 84, 3), (14, .iload_n 2, 1), (15, .iaload, 1), (16, .aload_n 0, 1), (17, .getfield 37, 3), (20, .if_icmp .eq 6, 3), (23, .goto 67, 3), (26, .aload_n 1, 1), (27, .getfield 87, 3), (30, .iload_n 2, 1), (31, .iaload, 1), (32, .istore_n 3, 1), (33, .aload_n 0, 1), (34, .getfield 18, 3), (37, .iload_n 3, 1), (38, .iaload, 1), (39, .aload_n 1, 1), (40, .getfield 90, 3), (43, .iload_n 2, 1), (44, .iaload, 1), (45, .if_icmp .lt 33, 3), (48, .aload_n 0, 1), (49, .getfield 18, 3), (52, .iload_n 3, 1), (53, .dup2, 1), (54, .iaload, 1), (55, .aload_n 1, 1), (56, .getfield 90, 3), (59, .iload_n 2, 1), (60, .iaload, 1), (61, .isub, 1), (62, .iastore, 1), (63, .aload_n 0, 1), (64, .dup, 1), (65, .getfield 30, 3), (68, .iconst 1, 1), (69, .iload_n 2, 1), (70, .ishl, 1), (71, .ior, 1), (72, .putfield 30, 3), (75, .goto 15, 3), (78, .aload_n 0, 1), (79, .dup, 1), (80, .getfield 34, 3), (83, .iconst 1, 1), (84, .iload_n 2, 1), (85, .ishl, 1), (86, .ior, 1), (87, .putfield 34, 3), (90, .iinc 2 1, 3), (93, .goto (-91), 3), (96, .return_, 1)]
theorem tk_X2_callDebts : am_tbl prog_4_method_8_code tb_X2_callDebts = true := by decide +kernel
def b_X2_callDebts_75 (M T : Nat) (k2 : Int32 → am_M → Option am_M) (x2 : Int32) (D : am_M) : Option am_M := k2 (x2 + 1) D
def b_X2_callDebts_2 (M T : Nat) : Nat → Int32 → am_M → Option am_M
  | 0, _, _ => none
  | n + 1, x2, D => if (D T 5) ≤ x2 then some D else if am_in x2 8 = true then if (D (T + 3) x2.toNatClampNeg) = (D M 6) then if am_in (D (T + 2) x2.toNatClampNeg) 5 = true then if (D (M + 3) (D (T + 2) x2.toNatClampNeg).toNatClampNeg) < (D (T + 4) x2.toNatClampNeg) then b_X2_callDebts_2 M T n (x2 + 1) (am_up D M 5 ((D M 5) ||| (1 <<< (x2 &&& 31)))) else b_X2_callDebts_75 M T (b_X2_callDebts_2 M T n) x2 (am_up (am_up D (M + 3) (D (T + 2) x2.toNatClampNeg).toNatClampNeg ((D (M + 3) (D (T + 2) x2.toNatClampNeg).toNatClampNeg) - (D (T + 4) x2.toNatClampNeg))) M 4 (((am_up D (M + 3) (D (T + 2) x2.toNatClampNeg).toNatClampNeg ((D (M + 3) (D (T + 2) x2.toNatClampNeg).toNatClampNeg) - (D (T + 4) x2.toNatClampNeg))) M 4) ||| (1 <<< (x2 &&& 31)))) else none else b_X2_callDebts_2 M T n (x2 + 1) D else none
def f_X2_callDebts (M T : Nat) (D : am_M) : Option am_M := b_X2_callDebts_2 M T am_N 0 D
theorem bx_X2_callDebts_75 {l : Launch} {h0 : am_H} {Φ : am_Ph} {tw : Nat} {tp : Bool} {M : Nat} (hM : lyM M) {T : Nat} (hT : lyT T) {D' : am_M} (hΦ : Φ none (ly tw tp D')) {k2 : Int32 → am_M → Option am_M} (hk2 : ∀ (x2 : Int32) (D : am_M), k2 x2 D = some D' → am_Ex (am_E l m_X2_callDebts false h0 Φ) prog_4_method_8_code (0, 0) 2 [(0, .ref M), (1, .ref T), (2, .int x2)] [] (ly tw tp D)) : ∀ (x2 : Int32) (D : am_M), b_X2_callDebts_75 M T k2 x2 D = some D' → am_Ex (am_E l m_X2_callDebts false h0 Φ) prog_4_method_8_code (0, 0) 75 [(0, .ref M), (1, .ref T), (2, .int x2)] [] (ly tw tp D) := by
  intro x2 D h
  rw [b_X2_callDebts_75] at h
  refine am_goto (tgt := 90) (am_dk tk_X2_callDebts 47 rfl) (by decide) ?_
  refine am_iinc (j := 2) (v := x2 + 1) (L' := [(2, .int (x2 + 1)), (0, .ref M), (1, .ref T)]) (am_dk tk_X2_callDebts 56 rfl) rfl rfl (Nat.le_of_ble_eq_true rfl) rfl ?_
  refine am_goto (tgt := 2) (am_dk tk_X2_callDebts 57 rfl) (by decide) ?_
  refine am_ls [1, 2, 0] rfl ?_
  exact hk2 _ _ h
theorem bx_X2_callDebts_2 {l : Launch} {h0 : am_H} {Φ : am_Ph} {tw : Nat} {tp : Bool} {M : Nat} (hM : lyM M) {T : Nat} (hT : lyT T) {D' : am_M} (hΦ : Φ none (ly tw tp D')) : ∀ (n : Nat) (x2 : Int32) (D : am_M), b_X2_callDebts_2 M T n x2 D = some D' → am_Ex (am_E l m_X2_callDebts false h0 Φ) prog_4_method_8_code (0, 0) 2 [(0, .ref M), (1, .ref T), (2, .int x2)] [] (ly tw tp D) := by
  intro n
  induction n with
  | zero =>
    intro x2 D h
    exact absurd h (by simp [b_X2_callDebts_2])
  | succ n ih =>
    intro x2 D h
    rw [b_X2_callDebts_2] at h
    refine am_iload_n (j := 2) (am_dk tk_X2_callDebts 2 rfl) rfl rfl ?_
    refine am_aload_n (j := 1) (am_dk tk_X2_callDebts 3 rfl) rfl rfl ?_
    refine ly_geti (lyT_s hT) fl_X2_81 rfl (am_dk tk_X2_callDebts 4 rfl) ?_
    refine am_icmp_ge (tgt := 96) (am_dk tk_X2_callDebts 5 rfl) (by decide) (fun hc7 => ?_) (fun hc7 => ?_)
    · rw [if_pos hc7] at h
      exact am_vret rfl (am_r0 h hΦ) ⟨Nat.le_of_ble_eq_true rfl, Nat.le_of_ble_eq_true rfl⟩ (am_dk tk_X2_callDebts 58 rfl)
    · rw [if_neg hc7] at h
      refine am_aload_n (j := 1) (am_dk tk_X2_callDebts 6 rfl) rfl rfl ?_
      refine ly_getr (b := (T + 3)) (lyT_s hT) fl_X2_84 rfl (lyT_r9 hT) (am_dk tk_X2_callDebts 7 rfl) ?_
      refine am_iload_n (j := 2) (am_dk tk_X2_callDebts 8 rfl) rfl rfl ?_
      obtain ⟨hi15, h⟩ := am_chk h
      refine ly_iald (k := x2.toNatClampNeg) (lyT_a9 hT) (am_in_vp hi15) rfl (am_dk tk_X2_callDebts 9 rfl) ?_
      refine am_aload_n (j := 0) (am_dk tk_X2_callDebts 10 rfl) rfl rfl ?_
      refine ly_geti (lyM_s hM) fl_X2_37 rfl (am_dk tk_X2_callDebts 11 rfl) ?_
      refine am_icmp_eq (tgt := 26) (am_dk tk_X2_callDebts 12 rfl) (by decide) (fun hc20 => ?_) (fun hc20 => ?_)
      · rw [if_pos hc20] at h
        refine am_aload_n (j := 1) (am_dk tk_X2_callDebts 14 rfl) rfl rfl ?_
        refine ly_getr (b := (T + 2)) (lyT_s hT) fl_X2_87 rfl (lyT_r8 hT) (am_dk tk_X2_callDebts 15 rfl) ?_
        refine am_iload_n (j := 2) (am_dk tk_X2_callDebts 16 rfl) rfl rfl ?_
        refine ly_iald (k := x2.toNatClampNeg) (lyT_a8 hT) (am_in_vp hi15) rfl (am_dk tk_X2_callDebts 17 rfl) ?_
        refine am_istore_n (L' := [(3, .int (D (T + 2) x2.toNatClampNeg)), (0, .ref M), (1, .ref T), (2, .int x2)]) (am_dk tk_X2_callDebts 18 rfl) rfl (Nat.le_of_ble_eq_true rfl) rfl ?_
        refine am_aload_n (j := 1) (am_dk tk_X2_callDebts 19 rfl) rfl rfl ?_
        refine ly_getr (b := (M + 3)) (lyM_s hM) fl_X2_18 rfl (lyM_r2 hM) (am_dk tk_X2_callDebts 20 rfl) ?_
        refine am_iload_n (j := 0) (am_dk tk_X2_callDebts 21 rfl) rfl rfl ?_
        obtain ⟨hi38, h⟩ := am_chk h
        refine ly_iald (k := (D (T + 2) x2.toNatClampNeg).toNatClampNeg) (lyM_a2 hM) (am_in_vp hi38) rfl (am_dk tk_X2_callDebts 22 rfl) ?_
        refine am_aload_n (j := 2) (am_dk tk_X2_callDebts 23 rfl) rfl rfl ?_
        refine ly_getr (b := (T + 4)) (lyT_s hT) fl_X2_90 rfl (lyT_r10 hT) (am_dk tk_X2_callDebts 24 rfl) ?_
        refine am_iload_n (j := 3) (am_dk tk_X2_callDebts 25 rfl) rfl rfl ?_
        refine ly_iald (k := x2.toNatClampNeg) (lyT_a10 hT) (am_in_vp hi15) rfl (am_dk tk_X2_callDebts 26 rfl) ?_
        refine am_icmp_lt (tgt := 78) (am_dk tk_X2_callDebts 27 rfl) (by decide) (fun hc45 => ?_) (fun hc45 => ?_)
        · rw [if_pos hc45] at h
          refine am_aload_n (j := 1) (am_dk tk_X2_callDebts 48 rfl) rfl rfl ?_
          refine am_dup (am_dk tk_X2_callDebts 49 rfl) rfl ?_
          refine ly_geti (lyM_s hM) fl_X2_34 rfl (am_dk tk_X2_callDebts 50 rfl) ?_
          refine am_iconst (v := 1) (am_dk tk_X2_callDebts 51 rfl) (by decide) ?_
          refine am_iload_n (j := 3) (am_dk tk_X2_callDebts 52 rfl) rfl rfl ?_
          refine am_ishl (am_dk tk_X2_callDebts 53 rfl) ?_
          refine am_ior (am_dk tk_X2_callDebts 54 rfl) ?_
          refine ly_puti (lyM_s hM) fl_X2_34 rfl rfl (am_dk tk_X2_callDebts 55 rfl) ?_
          refine am_iinc (j := 3) (v := x2 + 1) (L' := [(2, .int (x2 + 1)), (3, .int (D (T + 2) x2.toNatClampNeg)), (0, .ref M), (1, .ref T)]) (am_dk tk_X2_callDebts 56 rfl) rfl rfl (Nat.le_of_ble_eq_true rfl) rfl ?_
          refine am_goto (tgt := 2) (am_dk tk_X2_callDebts 57 rfl) (by decide) ?_
          refine am_ls [2, 3, 0] rfl ?_
          exact ih _ _ h
        · rw [if_neg hc45] at h
          refine am_aload_n (j := 1) (am_dk tk_X2_callDebts 28 rfl) rfl rfl ?_
          refine ly_getr (b := (M + 3)) (lyM_s hM) fl_X2_18 rfl (lyM_r2 hM) (am_dk tk_X2_callDebts 29 rfl) ?_
          refine am_iload_n (j := 0) (am_dk tk_X2_callDebts 30 rfl) rfl rfl ?_
          refine am_dup2 (am_dk tk_X2_callDebts 31 rfl) rfl rfl ?_
          refine ly_iald (k := (D (T + 2) x2.toNatClampNeg).toNatClampNeg) (lyM_a2 hM) (am_in_vp hi38) rfl (am_dk tk_X2_callDebts 32 rfl) ?_
          refine am_aload_n (j := 2) (am_dk tk_X2_callDebts 33 rfl) rfl rfl ?_
          refine ly_getr (b := (T + 4)) (lyT_s hT) fl_X2_90 rfl (lyT_r10 hT) (am_dk tk_X2_callDebts 34 rfl) ?_
          refine am_iload_n (j := 3) (am_dk tk_X2_callDebts 35 rfl) rfl rfl ?_
          refine ly_iald (k := x2.toNatClampNeg) (lyT_a10 hT) (am_in_vp hi15) rfl (am_dk tk_X2_callDebts 36 rfl) ?_
          refine am_isub (am_dk tk_X2_callDebts 37 rfl) ?_
          refine ly_iast (k := (D (T + 2) x2.toNatClampNeg).toNatClampNeg) (lyM_a2 hM) (am_in_vp hi38) rfl (am_dk tk_X2_callDebts 38 rfl) ?_
          refine am_aload_n (j := 1) (am_dk tk_X2_callDebts 39 rfl) rfl rfl ?_
          refine am_dup (am_dk tk_X2_callDebts 40 rfl) rfl ?_
          refine ly_geti (lyM_s hM) fl_X2_30 rfl (am_dk tk_X2_callDebts 41 rfl) ?_
          refine am_iconst (v := 1) (am_dk tk_X2_callDebts 42 rfl) (by decide) ?_
          refine am_iload_n (j := 3) (am_dk tk_X2_callDebts 43 rfl) rfl rfl ?_
          refine am_ishl (am_dk tk_X2_callDebts 44 rfl) ?_
          refine am_ior (am_dk tk_X2_callDebts 45 rfl) ?_
          refine ly_puti (lyM_s hM) fl_X2_30 rfl rfl (am_dk tk_X2_callDebts 46 rfl) ?_
          refine am_ls [1, 2, 3] rfl ?_
          exact bx_X2_callDebts_75 hM hT hΦ (ih) _ _ h
      · rw [if_neg hc20] at h
        refine am_goto (tgt := 90) (am_dk tk_X2_callDebts 13 rfl) (by decide) ?_
        refine am_iinc (j := 2) (v := x2 + 1) (L' := [(2, .int (x2 + 1)), (0, .ref M), (1, .ref T)]) (am_dk tk_X2_callDebts 56 rfl) rfl rfl (Nat.le_of_ble_eq_true rfl) rfl ?_
        refine am_goto (tgt := 2) (am_dk tk_X2_callDebts 57 rfl) (by decide) ?_
        refine am_ls [1, 2, 0] rfl ?_
        exact ih _ _ h
theorem ct_X2_callDebts {l : Launch} {tw : Nat} {tp : Bool} {M : Nat} (hM : lyM M) {T : Nat} (hT : lyT T) {D D' : am_M} (h : f_X2_callDebts M T D = some D') : am_CT l m_X2_callDebts false [.ref M, .ref T] (ly tw tp D) (am_is none (ly tw tp D')) := by
  have hΦ : am_is none (ly tw tp D') none (ly tw tp D') := ⟨rfl, rfl⟩
  refine am_CT.of (by decide) (Nat.le_of_ble_eq_true rfl) ?_
  show am_Ex _ _ _ 0 [(0, .ref M), (1, .ref T)] [] _
  rw [f_X2_callDebts] at h
  refine am_iconst (v := 0) (am_dk tk_X2_callDebts 0 rfl) (by decide) ?_
  refine am_istore_n (L' := [(2, .int 0), (0, .ref M), (1, .ref T)]) (am_dk tk_X2_callDebts 1 rfl) rfl (Nat.le_of_ble_eq_true rfl) rfl ?_
  refine am_ls [1, 2, 0] rfl ?_
  exact bx_X2_callDebts_2 hM hT hΦ am_N _ _ h
abbrev m_X2_passHour : am_D := (yX2_passHour, prog_4_method_5_code, 6, none, { frames := 2, cells := 0, slots := 0, locals := 38 })
theorem ld_X2_passHour : am_LD m_X2_passHour 1 := ⟨(am_tb 81 (by decide +kernel) (by decide +kernel)), (am_tb 554 (by decide +kernel) (by decide +kernel)), by decide, by decide, by decide +kernel⟩
def tb_X2_passHour : List (Nat × Instr × Nat) := [(0, .aload_n 0, 1), (1, .getfield 37, 3), (4, .bipush 24, 2), (6, .irem, 1), (7, .istore_n 2, 1), (8, .aload_n 1, 1), (9, .getfield 47, 3), (12, .istore_n 3, 1), (13, .iconst 0, 1), (14, .istore 4, 2), (16, .iload 4, 2), (18, .aload_n 1, 1), (19, .getfield 52, 3), (22, .if_icmp .ge 80, 3), (25, .aload_n 0, 1), (26, .getfield 21, 3), (29, .iload 4, 2), (31, .bipush 24, 2), (33, .imul, 1), (34, .iload_n 2, 1), (35, .iadd, 1), (36, .iaload, 1), (37, .istore 5, 2), (39, .iload 5, 2), (41, .ifCond .ne 30, 3), (44, .aload_n 0, 1), (45, .getfield 9, 3), (48, .iload 4, 2), (50, .iaload, 1), (51, .ifCond .le 20, 3), (54, .iload_n 3, 1), (55, .ifCond .le 16, 3), (58, .iinc 3 (-1), 3), (61, .aload_n 0, 1), (62, .iload 4, 2), (64, .aload_n 1, 1), (65, .invokevirtual 55, 3), (68, .goto 28, 3), (71, .aload_n 0, 1), (72, .getfield 15, 3), (75, .iload 4, 2), (77, .iconst 0, 1), (78, .iastore, 1), (79, .aload_n 0, 1), (80, .iload 4, 2), (82, .iload 5, 2), (84, .iconst 1, 1), (85, .if_icmp .ne 7, 3), (88, .iconst 3, 1), (89, .goto 4, 3), (92, .iconst 1, 1), (93, .invokevirtual 59, 3), (96, .iinc 4 1, 3), (99, .goto (-83), 3), (102, .aload_n 0, 1), (103, .getfield 37, 3), (106, .bipush 71, 2), (108, .if_icmp .gt 8, 3), (111, .aload_n 0, 1), (112, .aload_n 1, 1)]
theorem tk_X2_passHour : am_tbl prog_4_method_5_code tb_X2_passHour = true := by decide +kernel
def tb_X2_passHour_1 : List (Nat × Instr × Nat) := [(113, .invokevirtual 63, 3), (116, .aload_n 0, 1), (117, .dup, 1), (118, .getfield 37, 3), (121, .iconst 1, 1), (122, .iadd, 1), (123, .putfield 37, 3), (126, .return_, 1)]
theorem tk_X2_passHour_1 : am_tbl prog_4_method_5_code tb_X2_passHour_1 = true := by decide +kernel
def b_X2_passHour_116 (M T : Nat) (D : am_M) : Option am_M := some (am_up D M 6 ((D M 6) + 1))
def b_X2_passHour_93 (M T : Nat) (k16 : Int32 → Int32 → Int32 → am_M → Option am_M) (x2 : Int32) (x3 : Int32) (x4 : Int32) (s0 : Int32) (s1 : Int32) (D : am_M) : Option am_M := (f_X2_tire M s1 s0 D).bind fun q93 => k16 x2 x3 (x4 + 1) q93
def b_X2_passHour_71 (M T : Nat) (k16 : Int32 → Int32 → Int32 → am_M → Option am_M) (x2 : Int32) (x3 : Int32) (x4 : Int32) (x5 : Int32) (D : am_M) : Option am_M := if am_in x4 5 = true then b_X2_passHour_93 M T k16 x2 x3 x4 (if x5 = 1 then 3 else 1) x4 (am_up D (M + 2) x4.toNatClampNeg 0) else none
def b_X2_passHour_16 (M T : Nat) : Nat → Int32 → Int32 → Int32 → am_M → Option am_M
  | 0, _, _, _, _ => none
  | n + 1, x2, x3, x4, D => if (D T 3) ≤ x4 then if 71 < (D M 6) then b_X2_passHour_116 M T D else (f_X2_callDebts M T D).bind fun q113 => b_X2_passHour_116 M T q113 else if am_in ((x4 * 24) + x2) 120 = true then if (D (M + 4) ((x4 * 24) + x2).toNatClampNeg) = 0 then if am_in x4 5 = true then if (D (M + 1) x4.toNatClampNeg) ≤ 0 then b_X2_passHour_71 M T (b_X2_passHour_16 M T n) x2 x3 x4 (D (M + 4) ((x4 * 24) + x2).toNatClampNeg) D else if x3 ≤ 0 then b_X2_passHour_71 M T (b_X2_passHour_16 M T n) x2 x3 x4 (D (M + 4) ((x4 * 24) + x2).toNatClampNeg) D else (f_X2_lie M T x4 D).bind fun q65 => b_X2_passHour_16 M T n x2 (x3 + (-1)) (x4 + 1) q65 else none else b_X2_passHour_71 M T (b_X2_passHour_16 M T n) x2 x3 x4 (D (M + 4) ((x4 * 24) + x2).toNatClampNeg) D else none
def f_X2_passHour (M T : Nat) (D : am_M) : Option am_M := b_X2_passHour_16 M T am_N ((D M 6) - (D M 6) / 24 * 24) (D T 0) 0 D
theorem bx_X2_passHour_116 {l : Launch} {h0 : am_H} {Φ : am_Ph} {tw : Nat} {tp : Bool} {M : Nat} (hM : lyM M) {T : Nat} (hT : lyT T) {D' : am_M} (hΦ : Φ none (ly tw tp D')) : ∀ (D : am_M), b_X2_passHour_116 M T D = some D' → am_Ex (am_E l m_X2_passHour false h0 Φ) prog_4_method_5_code (0, 0) 116 [(0, .ref M)] [] (ly tw tp D) := by
  intro  D h
  rw [b_X2_passHour_116] at h
  refine am_aload_n (j := 0) (am_dk tk_X2_passHour_1 1 rfl) rfl rfl ?_
  refine am_dup (am_dk tk_X2_passHour_1 2 rfl) rfl ?_
  refine ly_geti (lyM_s hM) fl_X2_37 rfl (am_dk tk_X2_passHour_1 3 rfl) ?_
  refine am_iconst (v := 1) (am_dk tk_X2_passHour_1 4 rfl) (by decide) ?_
  refine am_iadd (am_dk tk_X2_passHour_1 5 rfl) ?_
  refine ly_puti (lyM_s hM) fl_X2_37 rfl rfl (am_dk tk_X2_passHour_1 6 rfl) ?_
  exact am_vret rfl (am_r0 h hΦ) ⟨Nat.le_of_ble_eq_true rfl, Nat.le_of_ble_eq_true rfl⟩ (am_dk tk_X2_passHour_1 7 rfl)
theorem bx_X2_passHour_93 {l : Launch} {h0 : am_H} {Φ : am_Ph} {tw : Nat} {tp : Bool} {M : Nat} (hM : lyM M) {T : Nat} (hT : lyT T) {D' : am_M} (hΦ : Φ none (ly tw tp D')) {k16 : Int32 → Int32 → Int32 → am_M → Option am_M} (hk16 : ∀ (x2 : Int32) (x3 : Int32) (x4 : Int32) (D : am_M), k16 x2 x3 x4 D = some D' → am_Ex (am_E l m_X2_passHour false h0 Φ) prog_4_method_5_code (0, 0) 16 [(0, .ref M), (1, .ref T), (2, .int x2), (3, .int x3), (4, .int x4)] [] (ly tw tp D)) : ∀ (x2 : Int32) (x3 : Int32) (x4 : Int32) (s0 : Int32) (s1 : Int32) (D : am_M), b_X2_passHour_93 M T k16 x2 x3 x4 s0 s1 D = some D' → am_Ex (am_E l m_X2_passHour false h0 Φ) prog_4_method_5_code (0, 0) 93 [(0, .ref M), (1, .ref T), (2, .int x2), (3, .int x3), (4, .int x4)] [.int s0, .int s1, .ref M] (ly tw tp D) := by
  intro x2 x3 x4 s0 s1 D h
  rw [b_X2_passHour_93] at h
  obtain ⟨q93, hq93, h⟩ := am_bind h
  refine ly_cV (M := m_X2_tire) (As := [.int s1, .int s0]) (b := M) (st := []) (ct_X2_tire hM hq93) (lyM_s hM) (by decide) rfl ml_X2_59 ld_X2_tire rfl ⟨Nat.le_of_ble_eq_true rfl, Nat.le_of_ble_eq_true rfl⟩ (Nat.le_of_ble_eq_true rfl) ⟨rfl, rfl⟩ ⟨Nat.le_of_ble_eq_true rfl, Nat.le_of_ble_eq_true rfl⟩ (am_dk tk_X2_passHour 51 rfl) (am_kkv ?_)
  refine am_iinc (j := 4) (v := x4 + 1) (L' := [(4, .int (x4 + 1)), (0, .ref M), (1, .ref T), (2, .int x2), (3, .int x3)]) (am_dk tk_X2_passHour 52 rfl) rfl rfl (Nat.le_of_ble_eq_true rfl) rfl ?_
  refine am_goto (tgt := 16) (am_dk tk_X2_passHour 53 rfl) (by decide) ?_
  refine am_ls [1, 2, 3, 4, 0] rfl ?_
  exact hk16 _ _ _ _ h
theorem bx_X2_passHour_71 {l : Launch} {h0 : am_H} {Φ : am_Ph} {tw : Nat} {tp : Bool} {M : Nat} (hM : lyM M) {T : Nat} (hT : lyT T) {D' : am_M} (hΦ : Φ none (ly tw tp D')) {k16 : Int32 → Int32 → Int32 → am_M → Option am_M} (hk16 : ∀ (x2 : Int32) (x3 : Int32) (x4 : Int32) (D : am_M), k16 x2 x3 x4 D = some D' → am_Ex (am_E l m_X2_passHour false h0 Φ) prog_4_method_5_code (0, 0) 16 [(0, .ref M), (1, .ref T), (2, .int x2), (3, .int x3), (4, .int x4)] [] (ly tw tp D)) : ∀ (x2 : Int32) (x3 : Int32) (x4 : Int32) (x5 : Int32) (D : am_M), b_X2_passHour_71 M T k16 x2 x3 x4 x5 D = some D' → am_Ex (am_E l m_X2_passHour false h0 Φ) prog_4_method_5_code (0, 0) 71 [(0, .ref M), (1, .ref T), (2, .int x2), (3, .int x3), (4, .int x4), (5, .int x5)] [] (ly tw tp D) := by
  intro x2 x3 x4 x5 D h
  rw [b_X2_passHour_71] at h
  refine am_aload_n (j := 0) (am_dk tk_X2_passHour 38 rfl) rfl rfl ?_
  refine ly_getr (b := (M + 2)) (lyM_s hM) fl_X2_15 rfl (lyM_r1 hM) (am_dk tk_X2_passHour 39 rfl) ?_
  refine am_iload (j := 4) (am_dk tk_X2_passHour 40 rfl) rfl ?_
  refine am_iconst (v := 0) (am_dk tk_X2_passHour 41 rfl) (by decide) ?_
  obtain ⟨hi78, h⟩ := am_chk h
  refine ly_iast (k := x4.toNatClampNeg) (lyM_a1 hM) (am_in_vp hi78) rfl (am_dk tk_X2_passHour 42 rfl) ?_
  refine am_aload_n (j := 0) (am_dk tk_X2_passHour 43 rfl) rfl rfl ?_
  refine am_iload (j := 4) (am_dk tk_X2_passHour 44 rfl) rfl ?_
  refine am_iload (j := 5) (am_dk tk_X2_passHour 45 rfl) rfl ?_
  refine am_iconst (v := 1) (am_dk tk_X2_passHour 46 rfl) (by decide) ?_
  refine am_icmp_ne (tgt := 92) (am_dk tk_X2_passHour 47 rfl) (by decide) (fun hc85 => ?_) (fun hc85 => ?_)
  · simp only [if_neg hc85] at h
    refine am_iconst (v := 1) (am_dk tk_X2_passHour 50 rfl) (by decide) ?_
    refine am_ls [0, 1, 2, 3, 4] rfl ?_
    exact bx_X2_passHour_93 hM hT hΦ hk16 _ _ _ _ _ _ h
  · simp only [if_pos hc85] at h
    refine am_iconst (v := 3) (am_dk tk_X2_passHour 48 rfl) (by decide) ?_
    refine am_goto (tgt := 93) (am_dk tk_X2_passHour 49 rfl) (by decide) ?_
    refine am_ls [0, 1, 2, 3, 4] rfl ?_
    exact bx_X2_passHour_93 hM hT hΦ hk16 _ _ _ _ _ _ h
theorem bx_X2_passHour_16 {l : Launch} {h0 : am_H} {Φ : am_Ph} {tw : Nat} {tp : Bool} {M : Nat} (hM : lyM M) {T : Nat} (hT : lyT T) {D' : am_M} (hΦ : Φ none (ly tw tp D')) : ∀ (n : Nat) (x2 : Int32) (x3 : Int32) (x4 : Int32) (D : am_M), b_X2_passHour_16 M T n x2 x3 x4 D = some D' → am_Ex (am_E l m_X2_passHour false h0 Φ) prog_4_method_5_code (0, 0) 16 [(0, .ref M), (1, .ref T), (2, .int x2), (3, .int x3), (4, .int x4)] [] (ly tw tp D) := by
  intro n
  induction n with
  | zero =>
    intro x2 x3 x4 D h
    exact absurd h (by simp [b_X2_passHour_16])
  | succ n ih =>
    intro x2 x3 x4 D h
    rw [b_X2_passHour_16] at h
    refine am_iload (j := 4) (am_dk tk_X2_passHour 10 rfl) rfl ?_
    refine am_aload_n (j := 1) (am_dk tk_X2_passHour 11 rfl) rfl rfl ?_
    refine ly_geti (lyT_s hT) fl_X2_52 rfl (am_dk tk_X2_passHour 12 rfl) ?_
    refine am_icmp_ge (tgt := 102) (am_dk tk_X2_passHour 13 rfl) (by decide) (fun hc22 => ?_) (fun hc22 => ?_)
    · rw [if_pos hc22] at h
      refine am_aload_n (j := 0) (am_dk tk_X2_passHour 54 rfl) rfl rfl ?_
      refine ly_geti (lyM_s hM) fl_X2_37 rfl (am_dk tk_X2_passHour 55 rfl) ?_
      refine am_bipush (v := 71) (am_dk tk_X2_passHour 56 rfl) (by decide) ?_
      refine am_icmp_gt (tgt := 116) (am_dk tk_X2_passHour 57 rfl) (by decide) (fun hc108 => ?_) (fun hc108 => ?_)
      · rw [if_pos hc108] at h
        refine am_ls [0] rfl ?_
        exact bx_X2_passHour_116 hM hT hΦ _ h
      · rw [if_neg hc108] at h
        refine am_aload_n (j := 0) (am_dk tk_X2_passHour 58 rfl) rfl rfl ?_
        refine am_aload_n (j := 1) (am_dk tk_X2_passHour 59 rfl) rfl rfl ?_
        obtain ⟨q113, hq113, h⟩ := am_bind h
        refine ly_cV (M := m_X2_callDebts) (As := [.ref T]) (b := M) (st := []) (ct_X2_callDebts hM hT hq113) (lyM_s hM) (by decide) rfl ml_X2_63 ld_X2_callDebts rfl ⟨Nat.le_of_ble_eq_true rfl, Nat.le_of_ble_eq_true rfl⟩ (Nat.le_of_ble_eq_true rfl) ⟨rfl, rfl⟩ ⟨Nat.le_of_ble_eq_true rfl, Nat.le_of_ble_eq_true rfl⟩ (am_dk tk_X2_passHour_1 0 rfl) (am_kkv ?_)
        refine am_ls [0] rfl ?_
        exact bx_X2_passHour_116 hM hT hΦ _ h
    · rw [if_neg hc22] at h
      refine am_aload_n (j := 0) (am_dk tk_X2_passHour 14 rfl) rfl rfl ?_
      refine ly_getr (b := (M + 4)) (lyM_s hM) fl_X2_21 rfl (lyM_r3 hM) (am_dk tk_X2_passHour 15 rfl) ?_
      refine am_iload (j := 4) (am_dk tk_X2_passHour 16 rfl) rfl ?_
      refine am_bipush (v := 24) (am_dk tk_X2_passHour 17 rfl) (by decide) ?_
      refine am_imul (am_dk tk_X2_passHour 18 rfl) ?_
      refine am_iload_n (j := 2) (am_dk tk_X2_passHour 19 rfl) rfl rfl ?_
      refine am_iadd (am_dk tk_X2_passHour 20 rfl) ?_
      obtain ⟨hi36, h⟩ := am_chk h
      refine ly_iald (k := ((x4 * 24) + x2).toNatClampNeg) (lyM_a3 hM) (am_in_vp hi36) rfl (am_dk tk_X2_passHour 21 rfl) ?_
      refine am_istore (L' := [(5, .int (D (M + 4) ((x4 * 24) + x2).toNatClampNeg)), (0, .ref M), (1, .ref T), (2, .int x2), (3, .int x3), (4, .int x4)]) (am_dk tk_X2_passHour 22 rfl) (Nat.le_of_ble_eq_true rfl) rfl ?_
      refine am_iload (j := 0) (am_dk tk_X2_passHour 23 rfl) rfl ?_
      refine am_if_ne (tgt := 71) (am_dk tk_X2_passHour 24 rfl) (by decide) (fun hc41 => ?_) (fun hc41 => ?_)
      · rw [if_neg hc41] at h
        refine am_ls [1, 2, 3, 4, 5, 0] rfl ?_
        exact bx_X2_passHour_71 hM hT hΦ (ih) _ _ _ _ _ h
      · rw [if_pos hc41] at h
        refine am_aload_n (j := 1) (am_dk tk_X2_passHour 25 rfl) rfl rfl ?_
        refine ly_getr (b := (M + 1)) (lyM_s hM) fl_X2_9 rfl (lyM_r0 hM) (am_dk tk_X2_passHour 26 rfl) ?_
        refine am_iload (j := 5) (am_dk tk_X2_passHour 27 rfl) rfl ?_
        obtain ⟨hi50, h⟩ := am_chk h
        refine ly_iald (k := x4.toNatClampNeg) (lyM_a0 hM) (am_in_vp hi50) rfl (am_dk tk_X2_passHour 28 rfl) ?_
        refine am_if_le (tgt := 71) (am_dk tk_X2_passHour 29 rfl) (by decide) (fun hc51 => ?_) (fun hc51 => ?_)
        · rw [if_pos hc51] at h
          refine am_ls [1, 2, 3, 4, 5, 0] rfl ?_
          exact bx_X2_passHour_71 hM hT hΦ (ih) _ _ _ _ _ h
        · rw [if_neg hc51] at h
          refine am_iload_n (j := 4) (am_dk tk_X2_passHour 30 rfl) rfl rfl ?_
          refine am_if_le (tgt := 71) (am_dk tk_X2_passHour 31 rfl) (by decide) (fun hc55 => ?_) (fun hc55 => ?_)
          · rw [if_pos hc55] at h
            refine am_ls [1, 2, 3, 4, 5, 0] rfl ?_
            exact bx_X2_passHour_71 hM hT hΦ (ih) _ _ _ _ _ h
          · rw [if_neg hc55] at h
            refine am_iinc (j := 4) (v := x3 + (-1)) (L' := [(3, .int (x3 + (-1))), (5, .int (D (M + 4) ((x4 * 24) + x2).toNatClampNeg)), (0, .ref M), (1, .ref T), (2, .int x2), (4, .int x4)]) (am_dk tk_X2_passHour 32 rfl) rfl rfl (Nat.le_of_ble_eq_true rfl) rfl ?_
            refine am_aload_n (j := 2) (am_dk tk_X2_passHour 33 rfl) rfl rfl ?_
            refine am_iload (j := 5) (am_dk tk_X2_passHour 34 rfl) rfl ?_
            refine am_aload_n (j := 3) (am_dk tk_X2_passHour 35 rfl) rfl rfl ?_
            obtain ⟨q65, hq65, h⟩ := am_bind h
            refine ly_cV (M := m_X2_lie) (As := [.int x4, .ref T]) (b := M) (st := []) (ct_X2_lie hM hT hq65) (lyM_s hM) (by decide) rfl ml_X2_55 ld_X2_lie rfl ⟨Nat.le_of_ble_eq_true rfl, Nat.le_of_ble_eq_true rfl⟩ (Nat.le_of_ble_eq_true rfl) ⟨rfl, rfl⟩ ⟨Nat.le_of_ble_eq_true rfl, Nat.le_of_ble_eq_true rfl⟩ (am_dk tk_X2_passHour 36 rfl) (am_kkv ?_)
            refine am_goto (tgt := 96) (am_dk tk_X2_passHour 37 rfl) (by decide) ?_
            refine am_iinc (j := 5) (v := x4 + 1) (L' := [(4, .int (x4 + 1)), (3, .int (x3 + (-1))), (5, .int (D (M + 4) ((x4 * 24) + x2).toNatClampNeg)), (0, .ref M), (1, .ref T), (2, .int x2)]) (am_dk tk_X2_passHour 52 rfl) rfl rfl (Nat.le_of_ble_eq_true rfl) rfl ?_
            refine am_goto (tgt := 16) (am_dk tk_X2_passHour 53 rfl) (by decide) ?_
            refine am_ls [3, 4, 5, 1, 0] rfl ?_
            exact ih _ _ _ _ h
theorem ct_X2_passHour {l : Launch} {tw : Nat} {tp : Bool} {M : Nat} (hM : lyM M) {T : Nat} (hT : lyT T) {D D' : am_M} (h : f_X2_passHour M T D = some D') : am_CT l m_X2_passHour false [.ref M, .ref T] (ly tw tp D) (am_is none (ly tw tp D')) := by
  have hΦ : am_is none (ly tw tp D') none (ly tw tp D') := ⟨rfl, rfl⟩
  refine am_CT.of (by decide) (Nat.le_of_ble_eq_true rfl) ?_
  show am_Ex _ _ _ 0 [(0, .ref M), (1, .ref T)] [] _
  rw [f_X2_passHour] at h
  refine am_aload_n (j := 0) (am_dk tk_X2_passHour 0 rfl) rfl rfl ?_
  refine ly_geti (lyM_s hM) fl_X2_37 rfl (am_dk tk_X2_passHour 1 rfl) ?_
  refine am_bipush (v := 24) (am_dk tk_X2_passHour 2 rfl) (by decide) ?_
  refine am_irem (am_dk tk_X2_passHour 3 rfl) (by decide) ?_
  refine am_istore_n (L' := [(2, .int ((D M 6) - (D M 6) / 24 * 24)), (0, .ref M), (1, .ref T)]) (am_dk tk_X2_passHour 4 rfl) rfl (Nat.le_of_ble_eq_true rfl) rfl ?_
  refine am_aload_n (j := 2) (am_dk tk_X2_passHour 5 rfl) rfl rfl ?_
  refine ly_geti (lyT_s hT) fl_X2_47 rfl (am_dk tk_X2_passHour 6 rfl) ?_
  refine am_istore_n (L' := [(3, .int (D T 0)), (2, .int ((D M 6) - (D M 6) / 24 * 24)), (0, .ref M), (1, .ref T)]) (am_dk tk_X2_passHour 7 rfl) rfl (Nat.le_of_ble_eq_true rfl) rfl ?_
  refine am_iconst (v := 0) (am_dk tk_X2_passHour 8 rfl) (by decide) ?_
  refine am_istore (L' := [(4, .int 0), (3, .int (D T 0)), (2, .int ((D M 6) - (D M 6) / 24 * 24)), (0, .ref M), (1, .ref T)]) (am_dk tk_X2_passHour 9 rfl) (Nat.le_of_ble_eq_true rfl) rfl ?_
  refine am_ls [3, 4, 2, 1, 0] rfl ?_
  exact bx_X2_passHour_16 hM hT hΦ am_N _ _ _ _ h
abbrev m_X2_passHours : am_D := (yX2_passHours, prog_4_method_4_code, 4, none, { frames := 3, cells := 0, slots := 0, locals := 63 })
theorem ld_X2_passHours : am_LD m_X2_passHours 2 := ⟨(am_tb 81 (by decide +kernel) (by decide +kernel)), (am_tb 550 (by decide +kernel) (by decide +kernel)), by decide, by decide, by decide +kernel⟩
def tb_X2_passHours : List (Nat × Instr × Nat) := [(0, .iconst 0, 1), (1, .istore_n 3, 1), (2, .iload_n 3, 1), (3, .iload_n 2, 1), (4, .if_icmp .ge 14, 3), (7, .aload_n 0, 1), (8, .aload_n 1, 1), (9, .invokevirtual 43, 3), (12, .iinc 3 1, 3), (15, .goto (-13), 3), (18, .return_, 1)]
theorem tk_X2_passHours : am_tbl prog_4_method_4_code tb_X2_passHours = true := by decide +kernel
def b_X2_passHours_2 (M T : Nat) : Nat → Int32 → Int32 → am_M → Option am_M
  | 0, _, _, _ => none
  | n + 1, x2, x3, D => if x2 ≤ x3 then some D else (f_X2_passHour M T D).bind fun q9 => b_X2_passHours_2 M T n x2 (x3 + 1) q9
def f_X2_passHours (M T : Nat) (x2 : Int32) (D : am_M) : Option am_M := b_X2_passHours_2 M T am_N x2 0 D
theorem bx_X2_passHours_2 {l : Launch} {h0 : am_H} {Φ : am_Ph} {tw : Nat} {tp : Bool} {M : Nat} (hM : lyM M) {T : Nat} (hT : lyT T) {D' : am_M} (hΦ : Φ none (ly tw tp D')) : ∀ (n : Nat) (x2 : Int32) (x3 : Int32) (D : am_M), b_X2_passHours_2 M T n x2 x3 D = some D' → am_Ex (am_E l m_X2_passHours false h0 Φ) prog_4_method_4_code (0, 0) 2 [(0, .ref M), (1, .ref T), (2, .int x2), (3, .int x3)] [] (ly tw tp D) := by
  intro n
  induction n with
  | zero =>
    intro x2 x3 D h
    exact absurd h (by simp [b_X2_passHours_2])
  | succ n ih =>
    intro x2 x3 D h
    rw [b_X2_passHours_2] at h
    refine am_iload_n (j := 3) (am_dk tk_X2_passHours 2 rfl) rfl rfl ?_
    refine am_iload_n (j := 2) (am_dk tk_X2_passHours 3 rfl) rfl rfl ?_
    refine am_icmp_ge (tgt := 18) (am_dk tk_X2_passHours 4 rfl) (by decide) (fun hc4 => ?_) (fun hc4 => ?_)
    · rw [if_pos hc4] at h
      exact am_vret rfl (am_r0 h hΦ) ⟨Nat.le_of_ble_eq_true rfl, Nat.le_of_ble_eq_true rfl⟩ (am_dk tk_X2_passHours 10 rfl)
    · rw [if_neg hc4] at h
      refine am_aload_n (j := 0) (am_dk tk_X2_passHours 5 rfl) rfl rfl ?_
      refine am_aload_n (j := 1) (am_dk tk_X2_passHours 6 rfl) rfl rfl ?_
      obtain ⟨q9, hq9, h⟩ := am_bind h
      refine ly_cV (M := m_X2_passHour) (As := [.ref T]) (b := M) (st := []) (ct_X2_passHour hM hT hq9) (lyM_s hM) (by decide) rfl ml_X2_43 ld_X2_passHour rfl ⟨Nat.le_of_ble_eq_true rfl, Nat.le_of_ble_eq_true rfl⟩ (Nat.le_of_ble_eq_true rfl) ⟨rfl, rfl⟩ ⟨Nat.le_of_ble_eq_true rfl, Nat.le_of_ble_eq_true rfl⟩ (am_dk tk_X2_passHours 7 rfl) (am_kkv ?_)
      refine am_iinc (j := 3) (v := x3 + 1) (L' := [(3, .int (x3 + 1)), (0, .ref M), (1, .ref T), (2, .int x2)]) (am_dk tk_X2_passHours 8 rfl) rfl rfl (Nat.le_of_ble_eq_true rfl) rfl ?_
      refine am_goto (tgt := 2) (am_dk tk_X2_passHours 9 rfl) (by decide) ?_
      refine am_ls [1, 2, 3, 0] rfl ?_
      exact ih _ _ _ h
theorem ct_X2_passHours {l : Launch} {tw : Nat} {tp : Bool} {M : Nat} (hM : lyM M) {T : Nat} (hT : lyT T) {x2 : Int32} {D D' : am_M} (h : f_X2_passHours M T x2 D = some D') : am_CT l m_X2_passHours false [.ref M, .ref T, .int x2] (ly tw tp D) (am_is none (ly tw tp D')) := by
  have hΦ : am_is none (ly tw tp D') none (ly tw tp D') := ⟨rfl, rfl⟩
  refine am_CT.of (by decide) (Nat.le_of_ble_eq_true rfl) ?_
  show am_Ex _ _ _ 0 [(0, .ref M), (1, .ref T), (2, .int x2)] [] _
  rw [f_X2_passHours] at h
  refine am_iconst (v := 0) (am_dk tk_X2_passHours 0 rfl) (by decide) ?_
  refine am_istore_n (L' := [(3, .int 0), (0, .ref M), (1, .ref T), (2, .int x2)]) (am_dk tk_X2_passHours 1 rfl) rfl (Nat.le_of_ble_eq_true rfl) rfl ?_
  refine am_ls [1, 2, 3, 0] rfl ?_
  exact bx_X2_passHours_2 hM hT hΦ am_N _ _ _ h
abbrev m_X2_draw : am_D := (yX2_draw, prog_4_method_10_code, 2, (some .int), { frames := 0, cells := 0, slots := 0, locals := 0 })
theorem ld_X2_draw : am_LD m_X2_draw 1 := ⟨(am_tb 81 (by decide +kernel) (by decide +kernel)), (am_tb 584 (by decide +kernel) (by decide +kernel)), by decide, by decide, by decide +kernel⟩
def tb_X2_draw : List (Nat × Instr × Nat) := [(0, .aload_n 0, 1), (1, .aload_n 0, 1), (2, .getfield 40, 3), (5, .i2l, 1), (6, .ldc2_w 97, 3), (9, .lmul, 1), (10, .ldc2_w 99, 3), (13, .ladd, 1), (14, .ldc2_w 101, 3), (17, .land, 1), (18, .l2i, 1), (19, .putfield 40, 3), (22, .iload_n 1, 1), (23, .iconst 1, 1), (24, .if_icmp .ge 7, 3), (27, .iconst 0, 1), (28, .goto 12, 3), (31, .aload_n 0, 1), (32, .getfield 40, 3), (35, .ldc 103, 2), (37, .idiv, 1), (38, .iload_n 1, 1), (39, .irem, 1), (40, .ireturn, 1)]
theorem tk_X2_draw : am_tbl prog_4_method_10_code tb_X2_draw = true := by decide +kernel
def f_X2_draw (M : Nat) (x1 : Int32) (D : am_M) : Option (Int32 × am_M) := if 1 ≤ x1 then if x1 = 0 then none else some ((((am_up D M 7 ((((((D M 7).toInt64) * 1103515245) + 12345) &&& 2147483647).toInt32)) M 7) / 65536) - (((am_up D M 7 ((((((D M 7).toInt64) * 1103515245) + 12345) &&& 2147483647).toInt32)) M 7) / 65536) / x1 * x1, am_up D M 7 ((((((D M 7).toInt64) * 1103515245) + 12345) &&& 2147483647).toInt32)) else some (0, am_up D M 7 ((((((D M 7).toInt64) * 1103515245) + 12345) &&& 2147483647).toInt32))
theorem ct_X2_draw {l : Launch} {tw : Nat} {tp : Bool} {M : Nat} (hM : lyM M) {x1 : Int32} {r : Int32} {D D' : am_M} (h : f_X2_draw M x1 D = some (r, D')) : am_CT l m_X2_draw false [.ref M, .int x1] (ly tw tp D) (am_is (some (.int r)) (ly tw tp D')) := by
  have hΦ : am_is (some (.int r)) (ly tw tp D') (some (.int r)) (ly tw tp D') := ⟨rfl, rfl⟩
  refine am_CT.of (by decide) (Nat.le_of_ble_eq_true rfl) ?_
  show am_Ex _ _ _ 0 [(0, .ref M), (1, .int x1)] [] _
  rw [f_X2_draw] at h
  refine am_aload_n (j := 0) (am_dk tk_X2_draw 0 rfl) rfl rfl ?_
  refine am_aload_n (j := 0) (am_dk tk_X2_draw 1 rfl) rfl rfl ?_
  refine ly_geti (lyM_s hM) fl_X2_40 rfl (am_dk tk_X2_draw 2 rfl) ?_
  refine am_i2l (am_dk tk_X2_draw 3 rfl) ?_
  refine am_ldc2 kl_X2_97 (am_dk tk_X2_draw 4 rfl) ?_
  refine am_lmul (am_dk tk_X2_draw 5 rfl) ?_
  refine am_ldc2 kl_X2_99 (am_dk tk_X2_draw 6 rfl) ?_
  refine am_ladd (am_dk tk_X2_draw 7 rfl) ?_
  refine am_ldc2 kl_X2_101 (am_dk tk_X2_draw 8 rfl) ?_
  refine am_land (am_dk tk_X2_draw 9 rfl) ?_
  refine am_l2i (am_dk tk_X2_draw 10 rfl) ?_
  refine ly_puti (lyM_s hM) fl_X2_40 rfl rfl (am_dk tk_X2_draw 11 rfl) ?_
  refine am_iload_n (j := 1) (am_dk tk_X2_draw 12 rfl) rfl rfl ?_
  refine am_iconst (v := 1) (am_dk tk_X2_draw 13 rfl) (by decide) ?_
  refine am_icmp_ge (tgt := 31) (am_dk tk_X2_draw 14 rfl) (by decide) (fun hc24 => ?_) (fun hc24 => ?_)
  · rw [if_pos hc24] at h
    refine am_aload_n (j := 0) (am_dk tk_X2_draw 17 rfl) rfl rfl ?_
    refine ly_geti (lyM_s hM) fl_X2_40 rfl (am_dk tk_X2_draw 18 rfl) ?_
    refine am_ldc kc_X2_103 (am_dk tk_X2_draw 19 rfl) ?_
    refine am_idiv (am_dk tk_X2_draw 20 rfl) (by decide) ?_
    refine am_iload_n (j := 1) (am_dk tk_X2_draw 21 rfl) rfl rfl ?_
    obtain ⟨hz39, h⟩ := am_chn h
    refine am_irem (am_dk tk_X2_draw 22 rfl) hz39 ?_
    exact am_iret rfl (am_r2 h hΦ) ⟨Nat.le_of_ble_eq_true rfl, Nat.le_of_ble_eq_true rfl⟩ (am_dk tk_X2_draw 23 rfl)
  · rw [if_neg hc24] at h
    refine am_iconst (v := 0) (am_dk tk_X2_draw 15 rfl) (by decide) ?_
    refine am_goto (tgt := 40) (am_dk tk_X2_draw 16 rfl) (by decide) ?_
    exact am_iret rfl (am_r2 h hΦ) ⟨Nat.le_of_ble_eq_true rfl, Nat.le_of_ble_eq_true rfl⟩ (am_dk tk_X2_draw 23 rfl)
abbrev m_X2_wakeByDraw : am_D := (yX2_wakeByDraw, prog_4_method_9_code, 3, none, { frames := 2, cells := 0, slots := 0, locals := 37 })
theorem ld_X2_wakeByDraw : am_LD m_X2_wakeByDraw 1 := ⟨(am_tb 81 (by decide +kernel) (by decide +kernel)), (am_tb 580 (by decide +kernel) (by decide +kernel)), by decide, by decide, by decide +kernel⟩
def tb_X2_wakeByDraw : List (Nat × Instr × Nat) := [(0, .aload_n 0, 1), (1, .bipush 6, 2), (3, .invokevirtual 93, 3), (6, .ifCond .ne 7, 3), (9, .iload_n 1, 1), (10, .ifCond .ne 4, 3), (13, .return_, 1), (14, .aload_n 0, 1), (15, .iload_n 1, 1), (16, .invokevirtual 93, 3), (19, .istore_n 2, 1), (20, .aload_n 0, 1), (21, .getfield 15, 3), (24, .iload_n 2, 1), (25, .iconst 0, 1), (26, .iastore, 1), (27, .aload_n 0, 1), (28, .iload_n 2, 1), (29, .iconst 5, 1), (30, .invokevirtual 59, 3), (33, .return_, 1)]
theorem tk_X2_wakeByDraw : am_tbl prog_4_method_9_code tb_X2_wakeByDraw = true := by decide +kernel
def f_X2_wakeByDraw (M : Nat) (x1 : Int32) (D : am_M) : Option am_M := (f_X2_draw M 6 D).bind fun q3 => if q3.1 = 0 then if x1 = 0 then some q3.2 else (f_X2_draw M x1 q3.2).bind fun q16 => if am_in q16.1 5 = true then (f_X2_tire M q16.1 5 (am_up q16.2 (M + 2) q16.1.toNatClampNeg 0)).bind fun q30 => some q30 else none else some q3.2
theorem ct_X2_wakeByDraw {l : Launch} {tw : Nat} {tp : Bool} {M : Nat} (hM : lyM M) {x1 : Int32} {D D' : am_M} (h : f_X2_wakeByDraw M x1 D = some D') : am_CT l m_X2_wakeByDraw false [.ref M, .int x1] (ly tw tp D) (am_is none (ly tw tp D')) := by
  have hΦ : am_is none (ly tw tp D') none (ly tw tp D') := ⟨rfl, rfl⟩
  refine am_CT.of (by decide) (Nat.le_of_ble_eq_true rfl) ?_
  show am_Ex _ _ _ 0 [(0, .ref M), (1, .int x1)] [] _
  rw [f_X2_wakeByDraw] at h
  refine am_aload_n (j := 0) (am_dk tk_X2_wakeByDraw 0 rfl) rfl rfl ?_
  refine am_bipush (v := 6) (am_dk tk_X2_wakeByDraw 1 rfl) (by decide) ?_
  obtain ⟨q3, hq3, h⟩ := am_bind h
  refine ly_cV (M := m_X2_draw) (As := [.int 6]) (b := M) (st := []) (ct_X2_draw hM hq3) (lyM_s hM) (by decide) rfl ml_X2_93 ld_X2_draw rfl ⟨Nat.le_of_ble_eq_true rfl, Nat.le_of_ble_eq_true rfl⟩ (Nat.le_of_ble_eq_true rfl) ⟨rfl, rfl⟩ ⟨Nat.le_of_ble_eq_true rfl, Nat.le_of_ble_eq_true rfl⟩ (am_dk tk_X2_wakeByDraw 2 rfl) (am_kki ?_)
  refine am_if_ne (tgt := 13) (am_dk tk_X2_wakeByDraw 3 rfl) (by decide) (fun hc6 => ?_) (fun hc6 => ?_)
  · rw [if_neg hc6] at h
    exact am_vret rfl (am_r0 h hΦ) ⟨Nat.le_of_ble_eq_true rfl, Nat.le_of_ble_eq_true rfl⟩ (am_dk tk_X2_wakeByDraw 6 rfl)
  · rw [if_pos hc6] at h
    refine am_iload_n (j := 1) (am_dk tk_X2_wakeByDraw 4 rfl) rfl rfl ?_
    refine am_if_ne (tgt := 14) (am_dk tk_X2_wakeByDraw 5 rfl) (by decide) (fun hc10 => ?_) (fun hc10 => ?_)
    · rw [if_neg hc10] at h
      refine am_aload_n (j := 0) (am_dk tk_X2_wakeByDraw 7 rfl) rfl rfl ?_
      refine am_iload_n (j := 1) (am_dk tk_X2_wakeByDraw 8 rfl) rfl rfl ?_
      obtain ⟨q16, hq16, h⟩ := am_bind h
      refine ly_cV (M := m_X2_draw) (As := [.int x1]) (b := M) (st := []) (ct_X2_draw hM hq16) (lyM_s hM) (by decide) rfl ml_X2_93 ld_X2_draw rfl ⟨Nat.le_of_ble_eq_true rfl, Nat.le_of_ble_eq_true rfl⟩ (Nat.le_of_ble_eq_true rfl) ⟨rfl, rfl⟩ ⟨Nat.le_of_ble_eq_true rfl, Nat.le_of_ble_eq_true rfl⟩ (am_dk tk_X2_wakeByDraw 9 rfl) (am_kki ?_)
      refine am_istore_n (L' := [(2, .int q16.1), (0, .ref M), (1, .int x1)]) (am_dk tk_X2_wakeByDraw 10 rfl) rfl (Nat.le_of_ble_eq_true rfl) rfl ?_
      refine am_aload_n (j := 1) (am_dk tk_X2_wakeByDraw 11 rfl) rfl rfl ?_
      refine ly_getr (b := (M + 2)) (lyM_s hM) fl_X2_15 rfl (lyM_r1 hM) (am_dk tk_X2_wakeByDraw 12 rfl) ?_
      refine am_iload_n (j := 0) (am_dk tk_X2_wakeByDraw 13 rfl) rfl rfl ?_
      refine am_iconst (v := 0) (am_dk tk_X2_wakeByDraw 14 rfl) (by decide) ?_
      obtain ⟨hi26, h⟩ := am_chk h
      refine ly_iast (k := q16.1.toNatClampNeg) (lyM_a1 hM) (am_in_vp hi26) rfl (am_dk tk_X2_wakeByDraw 15 rfl) ?_
      refine am_aload_n (j := 1) (am_dk tk_X2_wakeByDraw 16 rfl) rfl rfl ?_
      refine am_iload_n (j := 0) (am_dk tk_X2_wakeByDraw 17 rfl) rfl rfl ?_
      refine am_iconst (v := 5) (am_dk tk_X2_wakeByDraw 18 rfl) (by decide) ?_
      obtain ⟨q30, hq30, h⟩ := am_bind h
      refine ly_cV (M := m_X2_tire) (As := [.int q16.1, .int 5]) (b := M) (st := []) (ct_X2_tire hM hq30) (lyM_s hM) (by decide) rfl ml_X2_59 ld_X2_tire rfl ⟨Nat.le_of_ble_eq_true rfl, Nat.le_of_ble_eq_true rfl⟩ (Nat.le_of_ble_eq_true rfl) ⟨rfl, rfl⟩ ⟨Nat.le_of_ble_eq_true rfl, Nat.le_of_ble_eq_true rfl⟩ (am_dk tk_X2_wakeByDraw 19 rfl) (am_kkv ?_)
      exact am_vret rfl (am_r0 h hΦ) ⟨Nat.le_of_ble_eq_true rfl, Nat.le_of_ble_eq_true rfl⟩ (am_dk tk_X2_wakeByDraw 20 rfl)
    · rw [if_pos hc10] at h
      exact am_vret rfl (am_r0 h hΦ) ⟨Nat.le_of_ble_eq_true rfl, Nat.le_of_ble_eq_true rfl⟩ (am_dk tk_X2_wakeByDraw 6 rfl)
