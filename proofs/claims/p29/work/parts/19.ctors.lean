def am_addn (h : am_H) (n : Nat) (k : Nat × Nat) : am_H := (h.1 ++ [k], (fun a j => if a = n then none else h.2.1 a j), am_row h.2.2 n (fun _ => 0))
theorem am_add_n {h : am_H} {n : Nat} (hn : h.1.length = n) (k : Nat × Nat) : am_add h k = am_addn h n k := by subst hn; rfl
def am_put (h : am_H) (a j b : Nat) : am_H := (h.1, am_upR h.2.1 a j (some b), h.2.2)
def am_pui (h : am_H) (a j : Nat) (x : Int32) : am_H := (h.1, h.2.1, am_up h.2.2 a j x)
def am_ext (h h' : am_H) (n n' : Nat) : Prop := h.1.length = n ∧ h'.1.length = n' ∧ n ≤ n' ∧ ∀ (a : Nat) (k : Nat × Nat), h.1[a]? = some k → h'.1[a]? = some k
theorem am_ext.rf {h : am_H} {n : Nat} (hn : h.1.length = n) : am_ext h h n n := ⟨hn, hn, Nat.le_refl _, fun _ _ q => q⟩
theorem am_ext.add {h h' : am_H} {n n' : Nat} (e : am_ext h h' n n') (k : Nat × Nat) : am_ext h (am_addn h' n' k) n (n' + 1) := by
  refine ⟨e.1, by simp [am_addn, e.2.1], by have := e.2.2.1; omega, fun a k' hk => ?_⟩
  have h1 := e.2.2.2 a k' hk
  show (h'.1 ++ [k])[a]? = _
  rw [List.getElem?_append_left (List.getElem?_eq_some_iff.mp h1).1]
  exact h1
theorem am_ext.put {h h' : am_H} {n n' : Nat} (e : am_ext h h' n n') (a j b : Nat) : am_ext h (am_put h' a j b) n n' := ⟨e.1, e.2.1, e.2.2.1, e.2.2.2⟩
theorem am_ext.pui {h h' : am_H} {n n' : Nat} (e : am_ext h h' n n') (a j : Nat) (x : Int32) : am_ext h (am_pui h' a j x) n n' := ⟨e.1, e.2.1, e.2.2.1, e.2.2.2⟩
theorem am_ext.tr {h h' h2 : am_H} {n n' n2 : Nat} (e : am_ext h h' n n') (e2 : am_ext h' h2 n' n2) : am_ext h h2 n n2 := ⟨e.1, e2.2.1, Nat.le_trans e.2.2.1 e2.2.2.1, fun a k hk => e2.2.2.2 a k (e.2.2.2 a k hk)⟩
theorem am_addn_new {h : am_H} {n : Nat} (hn : h.1.length = n) (k : Nat × Nat) : (am_addn h n k).1[n]? = some k := by
  subst hn
  show (h.1 ++ [k])[h.1.length]? = some k
  simp
theorem am_okR {n b : Nat} (h : b < n) : am_ok n (.ref b) = true := by simp [am_ok, h]
theorem am_okL1 {n b : Nat} (h : b < n) : ([(0, Value.ref b)] : List (Nat × Value)).all (fun q => am_ok n q.2) = true := by simp [am_okR h]
theorem am_okS1 {n b : Nat} (h : b < n) : ([Value.ref b] : List Value).all (am_ok n) = true := by simp [am_okR h]
theorem am_okS2 {n a b : Nat} (h : a < n) (h2 : b < n) : ([Value.ref a, Value.ref b] : List Value).all (am_ok n) = true := by simp [am_okR h, am_okR h2]
theorem am_at_lt {h : am_H} {n b : Nat} {k : Nat × Nat} (hn : h.1.length = n) (hb : h.1[b]? = some k) : b < n := by rw [← hn]; exact (List.getElem?_eq_some_iff.mp hb).1
section AMNN
variable {E : am_EV} {cc : ByteArray} {cs : Nat × Nat} {pc : Nat} {L : List (Nat × Value)} {st : List Value} {h : am_H}
theorem am_newaN {t N p0 : Nat} {n : Int32} {atype : ArrayType} {ty : FieldType} (hp : h.1.length = p0) (hty : newarray.typeOf atype = ty) (htt : (t = 0 ∧ ty = .int) ∨ (t = 1 ∧ ty = .boolean)) (hal : am_ea E = true) (hle : (am_eh E).1.length ≤ p0) (hm : p0 < 1000000) (hL : L.all (fun q => am_ok p0 q.2) = true) (hst : st.all (am_ok p0) = true) (hw : Cond.arrayClass ty ∈ am_TB) (hn : ¬ n < 0) (hN : n.toNatClampNeg = N) (hby : N ≤ 100000) (hcs : cs.1 + 1 ≤ (am_er E).cells ∧ cs.2 + N ≤ (am_er E).slots) (hd : decode cc pc = .ok (.newarray atype, 2)) (kk : am_Ex E cc (cs.1 + 1, cs.2 + N) (pc + 2) L (.ref p0 :: st) (am_addn h p0 (t, N))) : am_Ex E cc cs pc L (.int n :: st) h := by
  subst hp
  exact am_newa hty htt hal hle hm hL hst hw hn hN hby hcs hd kk
theorem am_newN {c idx p0 : Nat} (hp : h.1.length = p0) (hc : c < 7) (hal : am_ea E = true) (hle : (am_eh E).1.length ≤ p0) (hm : p0 < 1000000) (hL : L.all (fun q => am_ok p0 q.2) = true) (hst : st.all (am_ok p0) = true) (hw : Cond.classLink (am_eo E) idx (am_cn c) ∈ am_TB ∧ Cond.instantiable (am_cn c) (am_nf c) ∈ am_TB ∧ Cond.initialized (am_cn c) ∈ am_TB) (hcs : cs.1 + 1 ≤ (am_er E).cells ∧ cs.2 + am_nf c ≤ (am_er E).slots) (hdv : ∀ j, j < am_nf c → defaultValue (am_cy c j) = if am_isr (am_cy c j) = true then .null else .int 0) (hd : decode cc pc = .ok (.new idx, 3)) (kk : am_Ex E cc (cs.1 + 1, cs.2 + am_nf c) (pc + 3) L (.ref p0 :: st) (am_addn h p0 (c + 2, 0))) : am_Ex E cc cs pc L st h := by
  subst hp
  exact am_new hc hal hle hm hL hst hw hcs hdv hd kk
end AMNN
theorem am_dv : ∀ c, c < 7 → ∀ j, j < am_nf c → defaultValue (am_cy c j) = if am_isr (am_cy c j) = true then .null else .int 0 := am_cases7 (by decide +kernel) (by decide +kernel) (by decide +kernel) (by decide +kernel) (by decide +kernel) (by decide +kernel) (by decide +kernel)
theorem nw_X5_7 : Cond.classLink RX5 7 (am_cn 4) ∈ am_TB ∧ Cond.instantiable (am_cn 4) (am_nf 4) ∈ am_TB ∧ Cond.initialized (am_cn 4) ∈ am_TB := ⟨(am_tb 97 (by decide +kernel) (by decide +kernel)), (am_tb 98 (by decide +kernel) (by decide +kernel)), (am_tb 80 (by decide +kernel) (by decide +kernel))⟩
theorem nw_X5_16 : Cond.classLink RX5 16 (am_cn 3) ∈ am_TB ∧ Cond.instantiable (am_cn 3) (am_nf 3) ∈ am_TB ∧ Cond.initialized (am_cn 3) ∈ am_TB := ⟨(am_tb 231 (by decide +kernel) (by decide +kernel)), (am_tb 232 (by decide +kernel) (by decide +kernel)), (am_tb 82 (by decide +kernel) (by decide +kernel))⟩
theorem nw_X5_23 : Cond.classLink RX5 23 (am_cn 2) ∈ am_TB ∧ Cond.instantiable (am_cn 2) (am_nf 2) ∈ am_TB ∧ Cond.initialized (am_cn 2) ∈ am_TB := ⟨(am_tb 265 (by decide +kernel) (by decide +kernel)), (am_tb 104 (by decide +kernel) (by decide +kernel)), (am_tb 81 (by decide +kernel) (by decide +kernel))⟩
theorem nw_X5_43 : Cond.classLink RX5 43 (am_cn 1) ∈ am_TB ∧ Cond.instantiable (am_cn 1) (am_nf 1) ∈ am_TB ∧ Cond.initialized (am_cn 1) ∈ am_TB := ⟨(am_tb 267 (by decide +kernel) (by decide +kernel)), (am_tb 268 (by decide +kernel) (by decide +kernel)), (am_tb 83 (by decide +kernel) (by decide +kernel))⟩
theorem nw_X5_50 : Cond.classLink RX5 50 (am_cn 0) ∈ am_TB ∧ Cond.instantiable (am_cn 0) (am_nf 0) ∈ am_TB ∧ Cond.initialized (am_cn 0) ∈ am_TB := ⟨(am_tb 324 (by decide +kernel) (by decide +kernel)), (am_tb 325 (by decide +kernel) (by decide +kernel)), (am_tb 84 (by decide +kernel) (by decide +kernel))⟩
theorem nw_X3_22 : Cond.classLink RX3 22 (am_cn 4) ∈ am_TB ∧ Cond.instantiable (am_cn 4) (am_nf 4) ∈ am_TB ∧ Cond.initialized (am_cn 4) ∈ am_TB := ⟨(am_tb 237 (by decide +kernel) (by decide +kernel)), (am_tb 98 (by decide +kernel) (by decide +kernel)), (am_tb 80 (by decide +kernel) (by decide +kernel))⟩
theorem nw_X4_27 : Cond.classLink RX4 27 (am_cn 2) ∈ am_TB ∧ Cond.instantiable (am_cn 2) (am_nf 2) ∈ am_TB ∧ Cond.initialized (am_cn 2) ∈ am_TB := ⟨(am_tb 103 (by decide +kernel) (by decide +kernel)), (am_tb 104 (by decide +kernel) (by decide +kernel)), (am_tb 81 (by decide +kernel) (by decide +kernel))⟩
abbrev m_X2_init : am_D := (yX2_init, prog_4_method_1_code, 1, none, { frames := 1, cells := 4, slots := 135, locals := 14 })
theorem ld_X2_init : am_LD m_X2_init 0 := ⟨(am_tb 81 (by decide +kernel) (by decide +kernel)), (am_tb 107 (by decide +kernel) (by decide +kernel)), by decide, by decide, by decide +kernel⟩
def tb_X2_init : List (Nat × Instr × Nat) := [(0, .aload_n 0, 1), (1, .invokespecial 3, 3), (4, .aload_n 0, 1), (5, .iconst 5, 1), (6, .newarray .int, 2), (8, .putfield 9, 3), (11, .aload_n 0, 1), (12, .iconst 5, 1), (13, .newarray .int, 2), (15, .putfield 15, 3), (18, .aload_n 0, 1), (19, .iconst 5, 1), (20, .newarray .int, 2), (22, .putfield 18, 3), (25, .aload_n 0, 1), (26, .bipush 120, 2), (28, .newarray .int, 2), (30, .putfield 21, 3), (33, .return_, 1)]
theorem tk_X2_init : am_tbl prog_4_method_1_code tb_X2_init = true := by decide +kernel
def k_X2_init_1 (h : am_H) (b n : Nat) : am_H := am_addn (h) n (0, 5)
theorem kx_X2_init_1 {h : am_H} (b : Nat) {n : Nat} (hn : h.1.length = n) : am_ext h (k_X2_init_1 h b n) n (n + 1) := (am_ext.rf hn).add _
def k_X2_init_2 (h : am_H) (b n : Nat) : am_H := am_put (k_X2_init_1 h b n) b 0 n
theorem kx_X2_init_2 {h : am_H} (b : Nat) {n : Nat} (hn : h.1.length = n) : am_ext h (k_X2_init_2 h b n) n (n + 1) := (kx_X2_init_1 b hn).put _ _ _
def k_X2_init_3 (h : am_H) (b n : Nat) : am_H := am_addn (k_X2_init_2 h b n) (n + 1) (0, 5)
theorem kx_X2_init_3 {h : am_H} (b : Nat) {n : Nat} (hn : h.1.length = n) : am_ext h (k_X2_init_3 h b n) n (n + 2) := (kx_X2_init_2 b hn).add _
def k_X2_init_4 (h : am_H) (b n : Nat) : am_H := am_put (k_X2_init_3 h b n) b 1 (n + 1)
theorem kx_X2_init_4 {h : am_H} (b : Nat) {n : Nat} (hn : h.1.length = n) : am_ext h (k_X2_init_4 h b n) n (n + 2) := (kx_X2_init_3 b hn).put _ _ _
def k_X2_init_5 (h : am_H) (b n : Nat) : am_H := am_addn (k_X2_init_4 h b n) (n + 2) (0, 5)
theorem kx_X2_init_5 {h : am_H} (b : Nat) {n : Nat} (hn : h.1.length = n) : am_ext h (k_X2_init_5 h b n) n (n + 3) := (kx_X2_init_4 b hn).add _
def k_X2_init_6 (h : am_H) (b n : Nat) : am_H := am_put (k_X2_init_5 h b n) b 2 (n + 2)
theorem kx_X2_init_6 {h : am_H} (b : Nat) {n : Nat} (hn : h.1.length = n) : am_ext h (k_X2_init_6 h b n) n (n + 3) := (kx_X2_init_5 b hn).put _ _ _
def k_X2_init_7 (h : am_H) (b n : Nat) : am_H := am_addn (k_X2_init_6 h b n) (n + 3) (0, 120)
theorem kx_X2_init_7 {h : am_H} (b : Nat) {n : Nat} (hn : h.1.length = n) : am_ext h (k_X2_init_7 h b n) n (n + 4) := (kx_X2_init_6 b hn).add _
def k_X2_init_8 (h : am_H) (b n : Nat) : am_H := am_put (k_X2_init_7 h b n) b 3 (n + 3)
theorem kx_X2_init_8 {h : am_H} (b : Nat) {n : Nat} (hn : h.1.length = n) : am_ext h (k_X2_init_8 h b n) n (n + 4) := (kx_X2_init_7 b hn).put _ _ _
def k_X2_init (h : am_H) (b n : Nat) : am_H := k_X2_init_8 h b n
theorem kx_X2_init {h : am_H} (b : Nat) {n : Nat} (hn : h.1.length = n) : am_ext h (k_X2_init h b n) n (n + 4) := kx_X2_init_8 b hn
theorem ct_X2_init {l : Launch} {h : am_H} {b n : Nat} (hn : h.1.length = n) (hm : n + 5 ≤ 900000) (hb : h.1[b]? = some (4, 0)) : am_CT l m_X2_init true [.ref b] h (am_is none (k_X2_init h b n)) := by
  refine am_CT.of (by decide) (Nat.le_of_ble_eq_true rfl) ?_
  show am_Ex _ _ _ 0 [(0, .ref b)] [] _
  refine am_aload_n (j := 0) (am_dk tk_X2_init 0 rfl) rfl rfl ?_
  refine am_obj lo_X2_3 (Nat.le_of_ble_eq_true rfl) (Nat.le_of_ble_eq_true rfl) (am_dk tk_X2_init 1 rfl) ?_
  refine am_aload_n (j := 0) (am_dk tk_X2_init 2 rfl) rfl rfl ?_
  refine am_iconst (v := 5) (am_dk tk_X2_init 3 rfl) (by decide) ?_
  refine am_newaN (p0 := n) (t := 0) (N := 5) (ty := .int) (am_ext.rf hn).2.1 rfl (Or.inl ⟨rfl, rfl⟩) rfl (by have q1 : h.1.length = n := hn; show h.1.length ≤ _; omega) (by omega) (am_okL1 (Nat.lt_of_lt_of_le (am_at_lt hn hb) (am_ext.rf hn).2.2.1)) (am_okS1 (Nat.lt_of_lt_of_le (am_at_lt hn hb) (am_ext.rf hn).2.2.1)) (am_tb 149 (by decide +kernel) (by decide +kernel)) (by decide) (by decide) (by decide) ⟨Nat.le_of_ble_eq_true rfl, Nat.le_of_ble_eq_true rfl⟩ (am_dk tk_X2_init 4 rfl) ?_
  refine am_h (h' := k_X2_init_1 h b n) rfl ?_
  refine am_putF (c := 2) (z := 0) (k := 0) (b := n) (fun _ _ _ _ _ _ q => q.2.2) (by rw [(kx_X2_init_1 b hn).2.1]; omega) ((kx_X2_init_1 b hn).2.2.2 _ _ hb) fl_X2_9 rfl rfl rfl rfl (am_dk tk_X2_init 5 rfl) ?_
  refine am_h (h' := k_X2_init_2 h b n) rfl ?_
  refine am_aload_n (j := 0) (am_dk tk_X2_init 6 rfl) rfl rfl ?_
  refine am_iconst (v := 5) (am_dk tk_X2_init 7 rfl) (by decide) ?_
  refine am_newaN (p0 := (n + 1)) (t := 0) (N := 5) (ty := .int) (kx_X2_init_2 b hn).2.1 rfl (Or.inl ⟨rfl, rfl⟩) rfl (by have q1 : h.1.length = n := hn; show h.1.length ≤ _; omega) (by omega) (am_okL1 (Nat.lt_of_lt_of_le (am_at_lt hn hb) (kx_X2_init_2 b hn).2.2.1)) (am_okS1 (Nat.lt_of_lt_of_le (am_at_lt hn hb) (kx_X2_init_2 b hn).2.2.1)) (am_tb 149 (by decide +kernel) (by decide +kernel)) (by decide) (by decide) (by decide) ⟨Nat.le_of_ble_eq_true rfl, Nat.le_of_ble_eq_true rfl⟩ (am_dk tk_X2_init 8 rfl) ?_
  refine am_h (h' := k_X2_init_3 h b n) rfl ?_
  refine am_putF (c := 2) (z := 0) (k := 1) (b := (n + 1)) (fun _ _ _ _ _ _ q => q.2.2) (by rw [(kx_X2_init_3 b hn).2.1]; omega) ((kx_X2_init_3 b hn).2.2.2 _ _ hb) fl_X2_15 rfl rfl rfl rfl (am_dk tk_X2_init 9 rfl) ?_
  refine am_h (h' := k_X2_init_4 h b n) rfl ?_
  refine am_aload_n (j := 0) (am_dk tk_X2_init 10 rfl) rfl rfl ?_
  refine am_iconst (v := 5) (am_dk tk_X2_init 11 rfl) (by decide) ?_
  refine am_newaN (p0 := (n + 2)) (t := 0) (N := 5) (ty := .int) (kx_X2_init_4 b hn).2.1 rfl (Or.inl ⟨rfl, rfl⟩) rfl (by have q1 : h.1.length = n := hn; show h.1.length ≤ _; omega) (by omega) (am_okL1 (Nat.lt_of_lt_of_le (am_at_lt hn hb) (kx_X2_init_4 b hn).2.2.1)) (am_okS1 (Nat.lt_of_lt_of_le (am_at_lt hn hb) (kx_X2_init_4 b hn).2.2.1)) (am_tb 149 (by decide +kernel) (by decide +kernel)) (by decide) (by decide) (by decide) ⟨Nat.le_of_ble_eq_true rfl, Nat.le_of_ble_eq_true rfl⟩ (am_dk tk_X2_init 12 rfl) ?_
  refine am_h (h' := k_X2_init_5 h b n) rfl ?_
  refine am_putF (c := 2) (z := 0) (k := 2) (b := (n + 2)) (fun _ _ _ _ _ _ q => q.2.2) (by rw [(kx_X2_init_5 b hn).2.1]; omega) ((kx_X2_init_5 b hn).2.2.2 _ _ hb) fl_X2_18 rfl rfl rfl rfl (am_dk tk_X2_init 13 rfl) ?_
  refine am_h (h' := k_X2_init_6 h b n) rfl ?_
  refine am_aload_n (j := 0) (am_dk tk_X2_init 14 rfl) rfl rfl ?_
  refine am_bipush (v := 120) (am_dk tk_X2_init 15 rfl) (by decide) ?_
  refine am_newaN (p0 := (n + 3)) (t := 0) (N := 120) (ty := .int) (kx_X2_init_6 b hn).2.1 rfl (Or.inl ⟨rfl, rfl⟩) rfl (by have q1 : h.1.length = n := hn; show h.1.length ≤ _; omega) (by omega) (am_okL1 (Nat.lt_of_lt_of_le (am_at_lt hn hb) (kx_X2_init_6 b hn).2.2.1)) (am_okS1 (Nat.lt_of_lt_of_le (am_at_lt hn hb) (kx_X2_init_6 b hn).2.2.1)) (am_tb 149 (by decide +kernel) (by decide +kernel)) (by decide) (by decide) (by decide) ⟨Nat.le_of_ble_eq_true rfl, Nat.le_of_ble_eq_true rfl⟩ (am_dk tk_X2_init 16 rfl) ?_
  refine am_h (h' := k_X2_init_7 h b n) rfl ?_
  refine am_putF (c := 2) (z := 0) (k := 3) (b := (n + 3)) (fun _ _ _ _ _ _ q => q.2.2) (by rw [(kx_X2_init_7 b hn).2.1]; omega) ((kx_X2_init_7 b hn).2.2.2 _ _ hb) fl_X2_21 rfl rfl rfl rfl (am_dk tk_X2_init 17 rfl) ?_
  refine am_h (h' := k_X2_init_8 h b n) rfl ?_
  exact am_vret rfl ⟨rfl, rfl⟩ ⟨Nat.le_of_ble_eq_true rfl, Nat.le_of_ble_eq_true rfl⟩ (am_dk tk_X2_init 18 rfl)
abbrev m_X4_init : am_D := (yX4_init, prog_6_method_1_code, 1, none, { frames := 2, cells := 10, slots := 176, locals := 34 })
theorem ld_X4_init : am_LD m_X4_init 0 := ⟨(am_tb 80 (by decide +kernel) (by decide +kernel)), (am_tb 101 (by decide +kernel) (by decide +kernel)), by decide, by decide, by decide +kernel⟩
def tb_X4_init : List (Nat × Instr × Nat) := [(0, .aload_n 0, 1), (1, .invokespecial 3, 3), (4, .aload_n 0, 1), (5, .iconst 4, 1), (6, .newarray .int, 2), (8, .putfield 9, 3), (11, .aload_n 0, 1), (12, .bipush 8, 2), (14, .newarray .int, 2), (16, .putfield 15, 3), (19, .aload_n 0, 1), (20, .bipush 8, 2), (22, .newarray .int, 2), (24, .putfield 18, 3), (27, .aload_n 0, 1), (28, .bipush 8, 2), (30, .newarray .int, 2), (32, .putfield 21, 3), (35, .aload_n 0, 1), (36, .iconst 5, 1), (37, .newarray .int, 2), (39, .putfield 24, 3), (42, .aload_n 0, 1), (43, .new 27, 3), (46, .dup, 1), (47, .invokespecial 29, 3), (50, .putfield 30, 3), (53, .return_, 1)]
theorem tk_X4_init : am_tbl prog_6_method_1_code tb_X4_init = true := by decide +kernel
def k_X4_init_1 (h : am_H) (b n : Nat) : am_H := am_addn (h) n (0, 4)
theorem kx_X4_init_1 {h : am_H} (b : Nat) {n : Nat} (hn : h.1.length = n) : am_ext h (k_X4_init_1 h b n) n (n + 1) := (am_ext.rf hn).add _
def k_X4_init_2 (h : am_H) (b n : Nat) : am_H := am_put (k_X4_init_1 h b n) b 7 n
theorem kx_X4_init_2 {h : am_H} (b : Nat) {n : Nat} (hn : h.1.length = n) : am_ext h (k_X4_init_2 h b n) n (n + 1) := (kx_X4_init_1 b hn).put _ _ _
def k_X4_init_3 (h : am_H) (b n : Nat) : am_H := am_addn (k_X4_init_2 h b n) (n + 1) (0, 8)
theorem kx_X4_init_3 {h : am_H} (b : Nat) {n : Nat} (hn : h.1.length = n) : am_ext h (k_X4_init_3 h b n) n (n + 2) := (kx_X4_init_2 b hn).add _
def k_X4_init_4 (h : am_H) (b n : Nat) : am_H := am_put (k_X4_init_3 h b n) b 8 (n + 1)
theorem kx_X4_init_4 {h : am_H} (b : Nat) {n : Nat} (hn : h.1.length = n) : am_ext h (k_X4_init_4 h b n) n (n + 2) := (kx_X4_init_3 b hn).put _ _ _
def k_X4_init_5 (h : am_H) (b n : Nat) : am_H := am_addn (k_X4_init_4 h b n) (n + 2) (0, 8)
theorem kx_X4_init_5 {h : am_H} (b : Nat) {n : Nat} (hn : h.1.length = n) : am_ext h (k_X4_init_5 h b n) n (n + 3) := (kx_X4_init_4 b hn).add _
def k_X4_init_6 (h : am_H) (b n : Nat) : am_H := am_put (k_X4_init_5 h b n) b 9 (n + 2)
theorem kx_X4_init_6 {h : am_H} (b : Nat) {n : Nat} (hn : h.1.length = n) : am_ext h (k_X4_init_6 h b n) n (n + 3) := (kx_X4_init_5 b hn).put _ _ _
def k_X4_init_7 (h : am_H) (b n : Nat) : am_H := am_addn (k_X4_init_6 h b n) (n + 3) (0, 8)
theorem kx_X4_init_7 {h : am_H} (b : Nat) {n : Nat} (hn : h.1.length = n) : am_ext h (k_X4_init_7 h b n) n (n + 4) := (kx_X4_init_6 b hn).add _
def k_X4_init_8 (h : am_H) (b n : Nat) : am_H := am_put (k_X4_init_7 h b n) b 10 (n + 3)
theorem kx_X4_init_8 {h : am_H} (b : Nat) {n : Nat} (hn : h.1.length = n) : am_ext h (k_X4_init_8 h b n) n (n + 4) := (kx_X4_init_7 b hn).put _ _ _
def k_X4_init_9 (h : am_H) (b n : Nat) : am_H := am_addn (k_X4_init_8 h b n) (n + 4) (0, 5)
theorem kx_X4_init_9 {h : am_H} (b : Nat) {n : Nat} (hn : h.1.length = n) : am_ext h (k_X4_init_9 h b n) n (n + 5) := (kx_X4_init_8 b hn).add _
def k_X4_init_10 (h : am_H) (b n : Nat) : am_H := am_put (k_X4_init_9 h b n) b 11 (n + 4)
theorem kx_X4_init_10 {h : am_H} (b : Nat) {n : Nat} (hn : h.1.length = n) : am_ext h (k_X4_init_10 h b n) n (n + 5) := (kx_X4_init_9 b hn).put _ _ _
def k_X4_init_11 (h : am_H) (b n : Nat) : am_H := am_addn (k_X4_init_10 h b n) (n + 5) (4, 0)
theorem kx_X4_init_11 {h : am_H} (b : Nat) {n : Nat} (hn : h.1.length = n) : am_ext h (k_X4_init_11 h b n) n (n + 6) := (kx_X4_init_10 b hn).add _
def k_X4_init_12 (h : am_H) (b n : Nat) : am_H := k_X2_init (k_X4_init_11 h b n) (n + 5) (n + 6)
theorem kx_X4_init_12 {h : am_H} (b : Nat) {n : Nat} (hn : h.1.length = n) : am_ext h (k_X4_init_12 h b n) n (n + 10) := by
  have q := (kx_X4_init_11 b hn).tr (kx_X2_init (n + 5) (kx_X4_init_11 b hn).2.1)
  exact q
def k_X4_init_13 (h : am_H) (b n : Nat) : am_H := am_put (k_X4_init_12 h b n) b 12 (n + 5)
theorem kx_X4_init_13 {h : am_H} (b : Nat) {n : Nat} (hn : h.1.length = n) : am_ext h (k_X4_init_13 h b n) n (n + 10) := (kx_X4_init_12 b hn).put _ _ _
def k_X4_init (h : am_H) (b n : Nat) : am_H := k_X4_init_13 h b n
theorem kx_X4_init {h : am_H} (b : Nat) {n : Nat} (hn : h.1.length = n) : am_ext h (k_X4_init h b n) n (n + 10) := kx_X4_init_13 b hn
theorem ct_X4_init {l : Launch} {h : am_H} {b n : Nat} (hn : h.1.length = n) (hm : n + 11 ≤ 900000) (hb : h.1[b]? = some (6, 0)) : am_CT l m_X4_init true [.ref b] h (am_is none (k_X4_init h b n)) := by
  refine am_CT.of (by decide) (Nat.le_of_ble_eq_true rfl) ?_
  show am_Ex _ _ _ 0 [(0, .ref b)] [] _
  refine am_aload_n (j := 0) (am_dk tk_X4_init 0 rfl) rfl rfl ?_
  refine am_obj lo_X4_3 (Nat.le_of_ble_eq_true rfl) (Nat.le_of_ble_eq_true rfl) (am_dk tk_X4_init 1 rfl) ?_
  refine am_aload_n (j := 0) (am_dk tk_X4_init 2 rfl) rfl rfl ?_
  refine am_iconst (v := 4) (am_dk tk_X4_init 3 rfl) (by decide) ?_
  refine am_newaN (p0 := n) (t := 0) (N := 4) (ty := .int) (am_ext.rf hn).2.1 rfl (Or.inl ⟨rfl, rfl⟩) rfl (by have q1 : h.1.length = n := hn; show h.1.length ≤ _; omega) (by omega) (am_okL1 (Nat.lt_of_lt_of_le (am_at_lt hn hb) (am_ext.rf hn).2.2.1)) (am_okS1 (Nat.lt_of_lt_of_le (am_at_lt hn hb) (am_ext.rf hn).2.2.1)) (am_tb 149 (by decide +kernel) (by decide +kernel)) (by decide) (by decide) (by decide) ⟨Nat.le_of_ble_eq_true rfl, Nat.le_of_ble_eq_true rfl⟩ (am_dk tk_X4_init 4 rfl) ?_
  refine am_h (h' := k_X4_init_1 h b n) rfl ?_
  refine am_putF (c := 4) (z := 0) (k := 7) (b := n) (fun _ _ _ _ _ _ q => q.2.2) (by rw [(kx_X4_init_1 b hn).2.1]; omega) ((kx_X4_init_1 b hn).2.2.2 _ _ hb) fl_X4_9 rfl rfl rfl rfl (am_dk tk_X4_init 5 rfl) ?_
  refine am_h (h' := k_X4_init_2 h b n) rfl ?_
  refine am_aload_n (j := 0) (am_dk tk_X4_init 6 rfl) rfl rfl ?_
  refine am_bipush (v := 8) (am_dk tk_X4_init 7 rfl) (by decide) ?_
  refine am_newaN (p0 := (n + 1)) (t := 0) (N := 8) (ty := .int) (kx_X4_init_2 b hn).2.1 rfl (Or.inl ⟨rfl, rfl⟩) rfl (by have q1 : h.1.length = n := hn; show h.1.length ≤ _; omega) (by omega) (am_okL1 (Nat.lt_of_lt_of_le (am_at_lt hn hb) (kx_X4_init_2 b hn).2.2.1)) (am_okS1 (Nat.lt_of_lt_of_le (am_at_lt hn hb) (kx_X4_init_2 b hn).2.2.1)) (am_tb 149 (by decide +kernel) (by decide +kernel)) (by decide) (by decide) (by decide) ⟨Nat.le_of_ble_eq_true rfl, Nat.le_of_ble_eq_true rfl⟩ (am_dk tk_X4_init 8 rfl) ?_
  refine am_h (h' := k_X4_init_3 h b n) rfl ?_
  refine am_putF (c := 4) (z := 0) (k := 8) (b := (n + 1)) (fun _ _ _ _ _ _ q => q.2.2) (by rw [(kx_X4_init_3 b hn).2.1]; omega) ((kx_X4_init_3 b hn).2.2.2 _ _ hb) fl_X4_15 rfl rfl rfl rfl (am_dk tk_X4_init 9 rfl) ?_
  refine am_h (h' := k_X4_init_4 h b n) rfl ?_
  refine am_aload_n (j := 0) (am_dk tk_X4_init 10 rfl) rfl rfl ?_
  refine am_bipush (v := 8) (am_dk tk_X4_init 11 rfl) (by decide) ?_
  refine am_newaN (p0 := (n + 2)) (t := 0) (N := 8) (ty := .int) (kx_X4_init_4 b hn).2.1 rfl (Or.inl ⟨rfl, rfl⟩) rfl (by have q1 : h.1.length = n := hn; show h.1.length ≤ _; omega) (by omega) (am_okL1 (Nat.lt_of_lt_of_le (am_at_lt hn hb) (kx_X4_init_4 b hn).2.2.1)) (am_okS1 (Nat.lt_of_lt_of_le (am_at_lt hn hb) (kx_X4_init_4 b hn).2.2.1)) (am_tb 149 (by decide +kernel) (by decide +kernel)) (by decide) (by decide) (by decide) ⟨Nat.le_of_ble_eq_true rfl, Nat.le_of_ble_eq_true rfl⟩ (am_dk tk_X4_init 12 rfl) ?_
  refine am_h (h' := k_X4_init_5 h b n) rfl ?_
  refine am_putF (c := 4) (z := 0) (k := 9) (b := (n + 2)) (fun _ _ _ _ _ _ q => q.2.2) (by rw [(kx_X4_init_5 b hn).2.1]; omega) ((kx_X4_init_5 b hn).2.2.2 _ _ hb) fl_X4_18 rfl rfl rfl rfl (am_dk tk_X4_init 13 rfl) ?_
  refine am_h (h' := k_X4_init_6 h b n) rfl ?_
  refine am_aload_n (j := 0) (am_dk tk_X4_init 14 rfl) rfl rfl ?_
  refine am_bipush (v := 8) (am_dk tk_X4_init 15 rfl) (by decide) ?_
  refine am_newaN (p0 := (n + 3)) (t := 0) (N := 8) (ty := .int) (kx_X4_init_6 b hn).2.1 rfl (Or.inl ⟨rfl, rfl⟩) rfl (by have q1 : h.1.length = n := hn; show h.1.length ≤ _; omega) (by omega) (am_okL1 (Nat.lt_of_lt_of_le (am_at_lt hn hb) (kx_X4_init_6 b hn).2.2.1)) (am_okS1 (Nat.lt_of_lt_of_le (am_at_lt hn hb) (kx_X4_init_6 b hn).2.2.1)) (am_tb 149 (by decide +kernel) (by decide +kernel)) (by decide) (by decide) (by decide) ⟨Nat.le_of_ble_eq_true rfl, Nat.le_of_ble_eq_true rfl⟩ (am_dk tk_X4_init 16 rfl) ?_
  refine am_h (h' := k_X4_init_7 h b n) rfl ?_
  refine am_putF (c := 4) (z := 0) (k := 10) (b := (n + 3)) (fun _ _ _ _ _ _ q => q.2.2) (by rw [(kx_X4_init_7 b hn).2.1]; omega) ((kx_X4_init_7 b hn).2.2.2 _ _ hb) fl_X4_21 rfl rfl rfl rfl (am_dk tk_X4_init 17 rfl) ?_
  refine am_h (h' := k_X4_init_8 h b n) rfl ?_
  refine am_aload_n (j := 0) (am_dk tk_X4_init 18 rfl) rfl rfl ?_
  refine am_iconst (v := 5) (am_dk tk_X4_init 19 rfl) (by decide) ?_
  refine am_newaN (p0 := (n + 4)) (t := 0) (N := 5) (ty := .int) (kx_X4_init_8 b hn).2.1 rfl (Or.inl ⟨rfl, rfl⟩) rfl (by have q1 : h.1.length = n := hn; show h.1.length ≤ _; omega) (by omega) (am_okL1 (Nat.lt_of_lt_of_le (am_at_lt hn hb) (kx_X4_init_8 b hn).2.2.1)) (am_okS1 (Nat.lt_of_lt_of_le (am_at_lt hn hb) (kx_X4_init_8 b hn).2.2.1)) (am_tb 149 (by decide +kernel) (by decide +kernel)) (by decide) (by decide) (by decide) ⟨Nat.le_of_ble_eq_true rfl, Nat.le_of_ble_eq_true rfl⟩ (am_dk tk_X4_init 20 rfl) ?_
  refine am_h (h' := k_X4_init_9 h b n) rfl ?_
  refine am_putF (c := 4) (z := 0) (k := 11) (b := (n + 4)) (fun _ _ _ _ _ _ q => q.2.2) (by rw [(kx_X4_init_9 b hn).2.1]; omega) ((kx_X4_init_9 b hn).2.2.2 _ _ hb) fl_X4_24 rfl rfl rfl rfl (am_dk tk_X4_init 21 rfl) ?_
  refine am_h (h' := k_X4_init_10 h b n) rfl ?_
  refine am_aload_n (j := 0) (am_dk tk_X4_init 22 rfl) rfl rfl ?_
  refine am_newN (c := 2) (p0 := (n + 5)) (kx_X4_init_10 b hn).2.1 (by decide) rfl (by have q1 : h.1.length = n := hn; show h.1.length ≤ _; omega) (by omega) (am_okL1 (Nat.lt_of_lt_of_le (am_at_lt hn hb) (kx_X4_init_10 b hn).2.2.1)) (am_okS1 (Nat.lt_of_lt_of_le (am_at_lt hn hb) (kx_X4_init_10 b hn).2.2.1)) nw_X4_27 ⟨Nat.le_of_ble_eq_true rfl, Nat.le_of_ble_eq_true rfl⟩ (am_dv 2 (by decide)) (am_dk tk_X4_init 23 rfl) ?_
  refine am_h (h' := k_X4_init_11 h b n) rfl ?_
  refine am_dup (am_dk tk_X4_init 24 rfl) rfl ?_
  refine am_callIN (M := m_X2_init) (b := (n + 5)) (n := 0) (st := [.ref (n + 5), .ref b]) rfl (by have q1 : h.1.length = n := hn; have q2 := (kx_X4_init_11 b hn).2.1; show h.1.length ≤ _; omega) (by rw [(kx_X4_init_11 b hn).2.1]; exact am_okL1 (Nat.lt_of_lt_of_le (am_at_lt hn hb) (kx_X4_init_11 b hn).2.2.1)) (by rw [(kx_X4_init_11 b hn).2.1]; exact am_okS2 (by omega) (Nat.lt_of_lt_of_le (am_at_lt hn hb) (kx_X4_init_11 b hn).2.2.1)) rfl rfl (ct_X2_init (kx_X4_init_11 b hn).2.1 (by omega) (am_addn_new (kx_X4_init_10 b hn).2.1 _)) ml_X4_29 ld_X2_init ⟨Nat.le_of_ble_eq_true rfl, Nat.le_of_ble_eq_true rfl⟩ (Nat.le_of_ble_eq_true rfl) ⟨Nat.le_of_ble_eq_true rfl, Nat.le_of_ble_eq_true rfl⟩ (am_dk tk_X4_init 25 rfl) (am_kkv ?_)
  refine am_h (h' := k_X4_init_12 h b n) rfl ?_
  refine am_putF (c := 4) (z := 0) (k := 12) (b := (n + 5)) (fun _ _ _ _ _ _ q => q.2.2) (by rw [(kx_X4_init_12 b hn).2.1]; omega) ((kx_X4_init_12 b hn).2.2.2 _ _ hb) fl_X4_30 rfl rfl rfl rfl (am_dk tk_X4_init 26 rfl) ?_
  refine am_h (h' := k_X4_init_13 h b n) rfl ?_
  exact am_vret rfl ⟨rfl, rfl⟩ ⟨Nat.le_of_ble_eq_true rfl, Nat.le_of_ble_eq_true rfl⟩ (am_dk tk_X4_init 27 rfl)
abbrev m_X3_init : am_D := (yX3_init, prog_5_method_1_code, 1, none, { frames := 3, cells := 12, slots := 439, locals := 54 })
theorem ld_X3_init : am_LD m_X3_init 0 := ⟨(am_tb 82 (by decide +kernel) (by decide +kernel)), (am_tb 235 (by decide +kernel) (by decide +kernel)), by decide, by decide, by decide +kernel⟩
def tb_X3_init : List (Nat × Instr × Nat) := [(0, .aload_n 0, 1), (1, .invokespecial 3, 3), (4, .aload_n 0, 1), (5, .sipush 250, 3), (8, .newarray .int, 2), (10, .putfield 9, 3), (13, .aload_n 0, 1), (14, .iconst 0, 1), (15, .putfield 15, 3), (18, .aload_n 0, 1), (19, .iconst 0, 1), (20, .putfield 19, 3), (23, .aload_n 0, 1), (24, .new 22, 3), (27, .dup, 1), (28, .invokespecial 24, 3), (31, .putfield 25, 3), (34, .aload_n 0, 1), (35, .iconst 0, 1), (36, .putfield 29, 3), (39, .aload_n 0, 1), (40, .iconst 0, 1), (41, .putfield 32, 3), (44, .aload_n 0, 1), (45, .iconst (-1), 1), (46, .putfield 35, 3), (49, .return_, 1)]
theorem tk_X3_init : am_tbl prog_5_method_1_code tb_X3_init = true := by decide +kernel
def k_X3_init_1 (h : am_H) (b n : Nat) : am_H := am_addn (h) n (0, 250)
theorem kx_X3_init_1 {h : am_H} (b : Nat) {n : Nat} (hn : h.1.length = n) : am_ext h (k_X3_init_1 h b n) n (n + 1) := (am_ext.rf hn).add _
def k_X3_init_2 (h : am_H) (b n : Nat) : am_H := am_put (k_X3_init_1 h b n) b 0 n
theorem kx_X3_init_2 {h : am_H} (b : Nat) {n : Nat} (hn : h.1.length = n) : am_ext h (k_X3_init_2 h b n) n (n + 1) := (kx_X3_init_1 b hn).put _ _ _
def k_X3_init_3 (h : am_H) (b n : Nat) : am_H := am_pui (k_X3_init_2 h b n) b 1 0
theorem kx_X3_init_3 {h : am_H} (b : Nat) {n : Nat} (hn : h.1.length = n) : am_ext h (k_X3_init_3 h b n) n (n + 1) := (kx_X3_init_2 b hn).pui _ _ _
def k_X3_init_4 (h : am_H) (b n : Nat) : am_H := am_pui (k_X3_init_3 h b n) b 2 0
theorem kx_X3_init_4 {h : am_H} (b : Nat) {n : Nat} (hn : h.1.length = n) : am_ext h (k_X3_init_4 h b n) n (n + 1) := (kx_X3_init_3 b hn).pui _ _ _
def k_X3_init_5 (h : am_H) (b n : Nat) : am_H := am_addn (k_X3_init_4 h b n) (n + 1) (6, 0)
theorem kx_X3_init_5 {h : am_H} (b : Nat) {n : Nat} (hn : h.1.length = n) : am_ext h (k_X3_init_5 h b n) n (n + 2) := (kx_X3_init_4 b hn).add _
def k_X3_init_6 (h : am_H) (b n : Nat) : am_H := k_X4_init (k_X3_init_5 h b n) (n + 1) (n + 2)
theorem kx_X3_init_6 {h : am_H} (b : Nat) {n : Nat} (hn : h.1.length = n) : am_ext h (k_X3_init_6 h b n) n (n + 12) := by
  have q := (kx_X3_init_5 b hn).tr (kx_X4_init (n + 1) (kx_X3_init_5 b hn).2.1)
  exact q
def k_X3_init_7 (h : am_H) (b n : Nat) : am_H := am_put (k_X3_init_6 h b n) b 3 (n + 1)
theorem kx_X3_init_7 {h : am_H} (b : Nat) {n : Nat} (hn : h.1.length = n) : am_ext h (k_X3_init_7 h b n) n (n + 12) := (kx_X3_init_6 b hn).put _ _ _
def k_X3_init_8 (h : am_H) (b n : Nat) : am_H := am_pui (k_X3_init_7 h b n) b 4 0
theorem kx_X3_init_8 {h : am_H} (b : Nat) {n : Nat} (hn : h.1.length = n) : am_ext h (k_X3_init_8 h b n) n (n + 12) := (kx_X3_init_7 b hn).pui _ _ _
def k_X3_init_9 (h : am_H) (b n : Nat) : am_H := am_pui (k_X3_init_8 h b n) b 5 0
theorem kx_X3_init_9 {h : am_H} (b : Nat) {n : Nat} (hn : h.1.length = n) : am_ext h (k_X3_init_9 h b n) n (n + 12) := (kx_X3_init_8 b hn).pui _ _ _
def k_X3_init_10 (h : am_H) (b n : Nat) : am_H := am_pui (k_X3_init_9 h b n) b 6 (-1)
theorem kx_X3_init_10 {h : am_H} (b : Nat) {n : Nat} (hn : h.1.length = n) : am_ext h (k_X3_init_10 h b n) n (n + 12) := (kx_X3_init_9 b hn).pui _ _ _
def k_X3_init (h : am_H) (b n : Nat) : am_H := k_X3_init_10 h b n
theorem kx_X3_init {h : am_H} (b : Nat) {n : Nat} (hn : h.1.length = n) : am_ext h (k_X3_init h b n) n (n + 12) := kx_X3_init_10 b hn
theorem ct_X3_init {l : Launch} {h : am_H} {b n : Nat} (hn : h.1.length = n) (hm : n + 13 ≤ 900000) (hb : h.1[b]? = some (5, 0)) : am_CT l m_X3_init true [.ref b] h (am_is none (k_X3_init h b n)) := by
  refine am_CT.of (by decide) (Nat.le_of_ble_eq_true rfl) ?_
  show am_Ex _ _ _ 0 [(0, .ref b)] [] _
  refine am_aload_n (j := 0) (am_dk tk_X3_init 0 rfl) rfl rfl ?_
  refine am_obj lo_X3_3 (Nat.le_of_ble_eq_true rfl) (Nat.le_of_ble_eq_true rfl) (am_dk tk_X3_init 1 rfl) ?_
  refine am_aload_n (j := 0) (am_dk tk_X3_init 2 rfl) rfl rfl ?_
  refine am_sipush (v := 250) (am_dk tk_X3_init 3 rfl) (by decide) ?_
  refine am_newaN (p0 := n) (t := 0) (N := 250) (ty := .int) (am_ext.rf hn).2.1 rfl (Or.inl ⟨rfl, rfl⟩) rfl (by have q1 : h.1.length = n := hn; show h.1.length ≤ _; omega) (by omega) (am_okL1 (Nat.lt_of_lt_of_le (am_at_lt hn hb) (am_ext.rf hn).2.2.1)) (am_okS1 (Nat.lt_of_lt_of_le (am_at_lt hn hb) (am_ext.rf hn).2.2.1)) (am_tb 149 (by decide +kernel) (by decide +kernel)) (by decide) (by decide) (by decide) ⟨Nat.le_of_ble_eq_true rfl, Nat.le_of_ble_eq_true rfl⟩ (am_dk tk_X3_init 4 rfl) ?_
  refine am_h (h' := k_X3_init_1 h b n) rfl ?_
  refine am_putF (c := 3) (z := 0) (k := 0) (b := n) (fun _ _ _ _ _ _ q => q.2.2) (by rw [(kx_X3_init_1 b hn).2.1]; omega) ((kx_X3_init_1 b hn).2.2.2 _ _ hb) fl_X3_9 rfl rfl rfl rfl (am_dk tk_X3_init 5 rfl) ?_
  refine am_h (h' := k_X3_init_2 h b n) rfl ?_
  refine am_aload_n (j := 0) (am_dk tk_X3_init 6 rfl) rfl rfl ?_
  refine am_iconst (v := 0) (am_dk tk_X3_init 7 rfl) (by decide) ?_
  refine am_puti (c := 3) (z := 0) (k := 1) ((kx_X3_init_2 b hn).2.2.2 _ _ hb) fl_X3_15 rfl rfl (am_dk tk_X3_init 8 rfl) ?_
  refine am_h (h' := k_X3_init_3 h b n) rfl ?_
  refine am_aload_n (j := 0) (am_dk tk_X3_init 9 rfl) rfl rfl ?_
  refine am_iconst (v := 0) (am_dk tk_X3_init 10 rfl) (by decide) ?_
  refine am_puti (c := 3) (z := 0) (k := 2) ((kx_X3_init_3 b hn).2.2.2 _ _ hb) fl_X3_19 rfl rfl (am_dk tk_X3_init 11 rfl) ?_
  refine am_h (h' := k_X3_init_4 h b n) rfl ?_
  refine am_aload_n (j := 0) (am_dk tk_X3_init 12 rfl) rfl rfl ?_
  refine am_newN (c := 4) (p0 := (n + 1)) (kx_X3_init_4 b hn).2.1 (by decide) rfl (by have q1 : h.1.length = n := hn; show h.1.length ≤ _; omega) (by omega) (am_okL1 (Nat.lt_of_lt_of_le (am_at_lt hn hb) (kx_X3_init_4 b hn).2.2.1)) (am_okS1 (Nat.lt_of_lt_of_le (am_at_lt hn hb) (kx_X3_init_4 b hn).2.2.1)) nw_X3_22 ⟨Nat.le_of_ble_eq_true rfl, Nat.le_of_ble_eq_true rfl⟩ (am_dv 4 (by decide)) (am_dk tk_X3_init 13 rfl) ?_
  refine am_h (h' := k_X3_init_5 h b n) rfl ?_
  refine am_dup (am_dk tk_X3_init 14 rfl) rfl ?_
  refine am_callIN (M := m_X4_init) (b := (n + 1)) (n := 0) (st := [.ref (n + 1), .ref b]) rfl (by have q1 : h.1.length = n := hn; have q2 := (kx_X3_init_5 b hn).2.1; show h.1.length ≤ _; omega) (by rw [(kx_X3_init_5 b hn).2.1]; exact am_okL1 (Nat.lt_of_lt_of_le (am_at_lt hn hb) (kx_X3_init_5 b hn).2.2.1)) (by rw [(kx_X3_init_5 b hn).2.1]; exact am_okS2 (by omega) (Nat.lt_of_lt_of_le (am_at_lt hn hb) (kx_X3_init_5 b hn).2.2.1)) rfl rfl (ct_X4_init (kx_X3_init_5 b hn).2.1 (by omega) (am_addn_new (kx_X3_init_4 b hn).2.1 _)) ml_X3_24 ld_X4_init ⟨Nat.le_of_ble_eq_true rfl, Nat.le_of_ble_eq_true rfl⟩ (Nat.le_of_ble_eq_true rfl) ⟨Nat.le_of_ble_eq_true rfl, Nat.le_of_ble_eq_true rfl⟩ (am_dk tk_X3_init 15 rfl) (am_kkv ?_)
  refine am_h (h' := k_X3_init_6 h b n) rfl ?_
  refine am_putr (c := 3) (z := 0) (k := 3) (b := (n + 1)) (by rw [(kx_X3_init_6 b hn).2.1]; omega) ((kx_X3_init_6 b hn).2.2.2 _ _ hb) fl_X3_25 rfl rfl rfl (am_dk tk_X3_init 16 rfl) ?_
  refine am_h (h' := k_X3_init_7 h b n) rfl ?_
  refine am_aload_n (j := 0) (am_dk tk_X3_init 17 rfl) rfl rfl ?_
  refine am_iconst (v := 0) (am_dk tk_X3_init 18 rfl) (by decide) ?_
  refine am_puti (c := 3) (z := 0) (k := 4) ((kx_X3_init_7 b hn).2.2.2 _ _ hb) fl_X3_29 rfl rfl (am_dk tk_X3_init 19 rfl) ?_
  refine am_h (h' := k_X3_init_8 h b n) rfl ?_
  refine am_aload_n (j := 0) (am_dk tk_X3_init 20 rfl) rfl rfl ?_
  refine am_iconst (v := 0) (am_dk tk_X3_init 21 rfl) (by decide) ?_
  refine am_puti (c := 3) (z := 0) (k := 5) ((kx_X3_init_8 b hn).2.2.2 _ _ hb) fl_X3_32 rfl rfl (am_dk tk_X3_init 22 rfl) ?_
  refine am_h (h' := k_X3_init_9 h b n) rfl ?_
  refine am_aload_n (j := 0) (am_dk tk_X3_init 23 rfl) rfl rfl ?_
  refine am_iconst (v := (-1)) (am_dk tk_X3_init 24 rfl) (by decide) ?_
  refine am_puti (c := 3) (z := 0) (k := 6) ((kx_X3_init_9 b hn).2.2.2 _ _ hb) fl_X3_35 rfl rfl (am_dk tk_X3_init 25 rfl) ?_
  refine am_h (h' := k_X3_init_10 h b n) rfl ?_
  exact am_vret rfl ⟨rfl, rfl⟩ ⟨Nat.le_of_ble_eq_true rfl, Nat.le_of_ble_eq_true rfl⟩ (am_dk tk_X3_init 26 rfl)
abbrev m_X1_init : am_D := (yX1_init, prog_3_method_1_code, 1, none, { frames := 1, cells := 4, slots := 96, locals := 14 })
theorem ld_X1_init : am_LD m_X1_init 0 := ⟨(am_tb 83 (by decide +kernel) (by decide +kernel)), (am_tb 271 (by decide +kernel) (by decide +kernel)), by decide, by decide, by decide +kernel⟩
def tb_X1_init : List (Nat × Instr × Nat) := [(0, .aload_n 0, 1), (1, .invokespecial 3, 3), (4, .aload_n 0, 1), (5, .iconst 0, 1), (6, .newarray .int, 2), (8, .putfield 9, 3), (11, .aload_n 0, 1), (12, .iconst 0, 1), (13, .newarray .int, 2), (15, .putfield 15, 3), (18, .aload_n 0, 1), (19, .iconst 0, 1), (20, .putfield 18, 3), (23, .aload_n 0, 1), (24, .bipush 48, 2), (26, .newarray .int, 2), (28, .putfield 22, 3), (31, .aload_n 0, 1), (32, .bipush 48, 2), (34, .newarray .int, 2), (36, .putfield 25, 3), (39, .aload_n 0, 1), (40, .iconst (-1), 1), (41, .putfield 28, 3), (44, .aload_n 0, 1), (45, .iconst (-1), 1), (46, .putfield 31, 3), (49, .return_, 1)]
theorem tk_X1_init : am_tbl prog_3_method_1_code tb_X1_init = true := by decide +kernel
def k_X1_init_1 (h : am_H) (b n : Nat) : am_H := am_addn (h) n (0, 0)
theorem kx_X1_init_1 {h : am_H} (b : Nat) {n : Nat} (hn : h.1.length = n) : am_ext h (k_X1_init_1 h b n) n (n + 1) := (am_ext.rf hn).add _
def k_X1_init_2 (h : am_H) (b n : Nat) : am_H := am_put (k_X1_init_1 h b n) b 0 n
theorem kx_X1_init_2 {h : am_H} (b : Nat) {n : Nat} (hn : h.1.length = n) : am_ext h (k_X1_init_2 h b n) n (n + 1) := (kx_X1_init_1 b hn).put _ _ _
def k_X1_init_3 (h : am_H) (b n : Nat) : am_H := am_addn (k_X1_init_2 h b n) (n + 1) (0, 0)
theorem kx_X1_init_3 {h : am_H} (b : Nat) {n : Nat} (hn : h.1.length = n) : am_ext h (k_X1_init_3 h b n) n (n + 2) := (kx_X1_init_2 b hn).add _
def k_X1_init_4 (h : am_H) (b n : Nat) : am_H := am_put (k_X1_init_3 h b n) b 1 (n + 1)
theorem kx_X1_init_4 {h : am_H} (b : Nat) {n : Nat} (hn : h.1.length = n) : am_ext h (k_X1_init_4 h b n) n (n + 2) := (kx_X1_init_3 b hn).put _ _ _
def k_X1_init_5 (h : am_H) (b n : Nat) : am_H := am_pui (k_X1_init_4 h b n) b 2 0
theorem kx_X1_init_5 {h : am_H} (b : Nat) {n : Nat} (hn : h.1.length = n) : am_ext h (k_X1_init_5 h b n) n (n + 2) := (kx_X1_init_4 b hn).pui _ _ _
def k_X1_init_6 (h : am_H) (b n : Nat) : am_H := am_addn (k_X1_init_5 h b n) (n + 2) (0, 48)
theorem kx_X1_init_6 {h : am_H} (b : Nat) {n : Nat} (hn : h.1.length = n) : am_ext h (k_X1_init_6 h b n) n (n + 3) := (kx_X1_init_5 b hn).add _
def k_X1_init_7 (h : am_H) (b n : Nat) : am_H := am_put (k_X1_init_6 h b n) b 3 (n + 2)
theorem kx_X1_init_7 {h : am_H} (b : Nat) {n : Nat} (hn : h.1.length = n) : am_ext h (k_X1_init_7 h b n) n (n + 3) := (kx_X1_init_6 b hn).put _ _ _
def k_X1_init_8 (h : am_H) (b n : Nat) : am_H := am_addn (k_X1_init_7 h b n) (n + 3) (0, 48)
theorem kx_X1_init_8 {h : am_H} (b : Nat) {n : Nat} (hn : h.1.length = n) : am_ext h (k_X1_init_8 h b n) n (n + 4) := (kx_X1_init_7 b hn).add _
def k_X1_init_9 (h : am_H) (b n : Nat) : am_H := am_put (k_X1_init_8 h b n) b 4 (n + 3)
theorem kx_X1_init_9 {h : am_H} (b : Nat) {n : Nat} (hn : h.1.length = n) : am_ext h (k_X1_init_9 h b n) n (n + 4) := (kx_X1_init_8 b hn).put _ _ _
def k_X1_init_10 (h : am_H) (b n : Nat) : am_H := am_pui (k_X1_init_9 h b n) b 5 (-1)
theorem kx_X1_init_10 {h : am_H} (b : Nat) {n : Nat} (hn : h.1.length = n) : am_ext h (k_X1_init_10 h b n) n (n + 4) := (kx_X1_init_9 b hn).pui _ _ _
def k_X1_init_11 (h : am_H) (b n : Nat) : am_H := am_pui (k_X1_init_10 h b n) b 6 (-1)
theorem kx_X1_init_11 {h : am_H} (b : Nat) {n : Nat} (hn : h.1.length = n) : am_ext h (k_X1_init_11 h b n) n (n + 4) := (kx_X1_init_10 b hn).pui _ _ _
def k_X1_init (h : am_H) (b n : Nat) : am_H := k_X1_init_11 h b n
theorem kx_X1_init {h : am_H} (b : Nat) {n : Nat} (hn : h.1.length = n) : am_ext h (k_X1_init h b n) n (n + 4) := kx_X1_init_11 b hn
theorem ct_X1_init {l : Launch} {h : am_H} {b n : Nat} (hn : h.1.length = n) (hm : n + 5 ≤ 900000) (hb : h.1[b]? = some (3, 0)) : am_CT l m_X1_init true [.ref b] h (am_is none (k_X1_init h b n)) := by
  refine am_CT.of (by decide) (Nat.le_of_ble_eq_true rfl) ?_
  show am_Ex _ _ _ 0 [(0, .ref b)] [] _
  refine am_aload_n (j := 0) (am_dk tk_X1_init 0 rfl) rfl rfl ?_
  refine am_obj lo_X1_3 (Nat.le_of_ble_eq_true rfl) (Nat.le_of_ble_eq_true rfl) (am_dk tk_X1_init 1 rfl) ?_
  refine am_aload_n (j := 0) (am_dk tk_X1_init 2 rfl) rfl rfl ?_
  refine am_iconst (v := 0) (am_dk tk_X1_init 3 rfl) (by decide) ?_
  refine am_newaN (p0 := n) (t := 0) (N := 0) (ty := .int) (am_ext.rf hn).2.1 rfl (Or.inl ⟨rfl, rfl⟩) rfl (by have q1 : h.1.length = n := hn; show h.1.length ≤ _; omega) (by omega) (am_okL1 (Nat.lt_of_lt_of_le (am_at_lt hn hb) (am_ext.rf hn).2.2.1)) (am_okS1 (Nat.lt_of_lt_of_le (am_at_lt hn hb) (am_ext.rf hn).2.2.1)) (am_tb 149 (by decide +kernel) (by decide +kernel)) (by decide) (by decide) (by decide) ⟨Nat.le_of_ble_eq_true rfl, Nat.le_of_ble_eq_true rfl⟩ (am_dk tk_X1_init 4 rfl) ?_
  refine am_h (h' := k_X1_init_1 h b n) rfl ?_
  refine am_putr (c := 1) (z := 0) (k := 0) (b := n) (by rw [(kx_X1_init_1 b hn).2.1]; omega) ((kx_X1_init_1 b hn).2.2.2 _ _ hb) fl_X1_9 rfl rfl rfl (am_dk tk_X1_init 5 rfl) ?_
  refine am_h (h' := k_X1_init_2 h b n) rfl ?_
  refine am_aload_n (j := 0) (am_dk tk_X1_init 6 rfl) rfl rfl ?_
  refine am_iconst (v := 0) (am_dk tk_X1_init 7 rfl) (by decide) ?_
  refine am_newaN (p0 := (n + 1)) (t := 0) (N := 0) (ty := .int) (kx_X1_init_2 b hn).2.1 rfl (Or.inl ⟨rfl, rfl⟩) rfl (by have q1 : h.1.length = n := hn; show h.1.length ≤ _; omega) (by omega) (am_okL1 (Nat.lt_of_lt_of_le (am_at_lt hn hb) (kx_X1_init_2 b hn).2.2.1)) (am_okS1 (Nat.lt_of_lt_of_le (am_at_lt hn hb) (kx_X1_init_2 b hn).2.2.1)) (am_tb 149 (by decide +kernel) (by decide +kernel)) (by decide) (by decide) (by decide) ⟨Nat.le_of_ble_eq_true rfl, Nat.le_of_ble_eq_true rfl⟩ (am_dk tk_X1_init 8 rfl) ?_
  refine am_h (h' := k_X1_init_3 h b n) rfl ?_
  refine am_putr (c := 1) (z := 0) (k := 1) (b := (n + 1)) (by rw [(kx_X1_init_3 b hn).2.1]; omega) ((kx_X1_init_3 b hn).2.2.2 _ _ hb) fl_X1_15 rfl rfl rfl (am_dk tk_X1_init 9 rfl) ?_
  refine am_h (h' := k_X1_init_4 h b n) rfl ?_
  refine am_aload_n (j := 0) (am_dk tk_X1_init 10 rfl) rfl rfl ?_
  refine am_iconst (v := 0) (am_dk tk_X1_init 11 rfl) (by decide) ?_
  refine am_puti (c := 1) (z := 0) (k := 2) ((kx_X1_init_4 b hn).2.2.2 _ _ hb) fl_X1_18 rfl rfl (am_dk tk_X1_init 12 rfl) ?_
  refine am_h (h' := k_X1_init_5 h b n) rfl ?_
  refine am_aload_n (j := 0) (am_dk tk_X1_init 13 rfl) rfl rfl ?_
  refine am_bipush (v := 48) (am_dk tk_X1_init 14 rfl) (by decide) ?_
  refine am_newaN (p0 := (n + 2)) (t := 0) (N := 48) (ty := .int) (kx_X1_init_5 b hn).2.1 rfl (Or.inl ⟨rfl, rfl⟩) rfl (by have q1 : h.1.length = n := hn; show h.1.length ≤ _; omega) (by omega) (am_okL1 (Nat.lt_of_lt_of_le (am_at_lt hn hb) (kx_X1_init_5 b hn).2.2.1)) (am_okS1 (Nat.lt_of_lt_of_le (am_at_lt hn hb) (kx_X1_init_5 b hn).2.2.1)) (am_tb 149 (by decide +kernel) (by decide +kernel)) (by decide) (by decide) (by decide) ⟨Nat.le_of_ble_eq_true rfl, Nat.le_of_ble_eq_true rfl⟩ (am_dk tk_X1_init 15 rfl) ?_
  refine am_h (h' := k_X1_init_6 h b n) rfl ?_
  refine am_putF (c := 1) (z := 0) (k := 3) (b := (n + 2)) (fun _ _ _ _ _ _ q => q.2.2) (by rw [(kx_X1_init_6 b hn).2.1]; omega) ((kx_X1_init_6 b hn).2.2.2 _ _ hb) fl_X1_22 rfl rfl rfl rfl (am_dk tk_X1_init 16 rfl) ?_
  refine am_h (h' := k_X1_init_7 h b n) rfl ?_
  refine am_aload_n (j := 0) (am_dk tk_X1_init 17 rfl) rfl rfl ?_
  refine am_bipush (v := 48) (am_dk tk_X1_init 18 rfl) (by decide) ?_
  refine am_newaN (p0 := (n + 3)) (t := 0) (N := 48) (ty := .int) (kx_X1_init_7 b hn).2.1 rfl (Or.inl ⟨rfl, rfl⟩) rfl (by have q1 : h.1.length = n := hn; show h.1.length ≤ _; omega) (by omega) (am_okL1 (Nat.lt_of_lt_of_le (am_at_lt hn hb) (kx_X1_init_7 b hn).2.2.1)) (am_okS1 (Nat.lt_of_lt_of_le (am_at_lt hn hb) (kx_X1_init_7 b hn).2.2.1)) (am_tb 149 (by decide +kernel) (by decide +kernel)) (by decide) (by decide) (by decide) ⟨Nat.le_of_ble_eq_true rfl, Nat.le_of_ble_eq_true rfl⟩ (am_dk tk_X1_init 19 rfl) ?_
  refine am_h (h' := k_X1_init_8 h b n) rfl ?_
  refine am_putF (c := 1) (z := 0) (k := 4) (b := (n + 3)) (fun _ _ _ _ _ _ q => q.2.2) (by rw [(kx_X1_init_8 b hn).2.1]; omega) ((kx_X1_init_8 b hn).2.2.2 _ _ hb) fl_X1_25 rfl rfl rfl rfl (am_dk tk_X1_init 20 rfl) ?_
  refine am_h (h' := k_X1_init_9 h b n) rfl ?_
  refine am_aload_n (j := 0) (am_dk tk_X1_init 21 rfl) rfl rfl ?_
  refine am_iconst (v := (-1)) (am_dk tk_X1_init 22 rfl) (by decide) ?_
  refine am_puti (c := 1) (z := 0) (k := 5) ((kx_X1_init_9 b hn).2.2.2 _ _ hb) fl_X1_28 rfl rfl (am_dk tk_X1_init 23 rfl) ?_
  refine am_h (h' := k_X1_init_10 h b n) rfl ?_
  refine am_aload_n (j := 0) (am_dk tk_X1_init 24 rfl) rfl rfl ?_
  refine am_iconst (v := (-1)) (am_dk tk_X1_init 25 rfl) (by decide) ?_
  refine am_puti (c := 1) (z := 0) (k := 6) ((kx_X1_init_10 b hn).2.2.2 _ _ hb) fl_X1_31 rfl rfl (am_dk tk_X1_init 26 rfl) ?_
  refine am_h (h' := k_X1_init_11 h b n) rfl ?_
  exact am_vret rfl ⟨rfl, rfl⟩ ⟨Nat.le_of_ble_eq_true rfl, Nat.le_of_ble_eq_true rfl⟩ (am_dk tk_X1_init 27 rfl)
abbrev m_X0_init : am_D := (yX0_init, prog_2_method_1_code, 1, none, { frames := 1, cells := 3, slots := 323, locals := 14 })
theorem ld_X0_init : am_LD m_X0_init 0 := ⟨(am_tb 84 (by decide +kernel) (by decide +kernel)), (am_tb 328 (by decide +kernel) (by decide +kernel)), by decide, by decide, by decide +kernel⟩
def tb_X0_init : List (Nat × Instr × Nat) := [(0, .aload_n 0, 1), (1, .invokespecial 3, 3), (4, .aload_n 0, 1), (5, .bipush 61, 2), (7, .newarray .boolean, 2), (9, .putfield 9, 3), (12, .aload_n 0, 1), (13, .sipush 201, 3), (16, .newarray .int, 2), (18, .putfield 15, 3), (21, .aload_n 0, 1), (22, .bipush 61, 2), (24, .newarray .int, 2), (26, .putfield 19, 3), (29, .aload_n 0, 1), (30, .iconst 0, 1), (31, .putfield 22, 3), (34, .aload_n 0, 1), (35, .iconst 0, 1), (36, .putfield 26, 3), (39, .aload_n 0, 1), (40, .iconst (-1), 1), (41, .putfield 29, 3), (44, .aload_n 0, 1), (45, .iconst (-1), 1), (46, .putfield 33, 3), (49, .return_, 1)]
theorem tk_X0_init : am_tbl prog_2_method_1_code tb_X0_init = true := by decide +kernel
def k_X0_init_1 (h : am_H) (b n : Nat) : am_H := am_addn (h) n (1, 61)
theorem kx_X0_init_1 {h : am_H} (b : Nat) {n : Nat} (hn : h.1.length = n) : am_ext h (k_X0_init_1 h b n) n (n + 1) := (am_ext.rf hn).add _
def k_X0_init_2 (h : am_H) (b n : Nat) : am_H := am_put (k_X0_init_1 h b n) b 0 n
theorem kx_X0_init_2 {h : am_H} (b : Nat) {n : Nat} (hn : h.1.length = n) : am_ext h (k_X0_init_2 h b n) n (n + 1) := (kx_X0_init_1 b hn).put _ _ _
def k_X0_init_3 (h : am_H) (b n : Nat) : am_H := am_addn (k_X0_init_2 h b n) (n + 1) (0, 201)
theorem kx_X0_init_3 {h : am_H} (b : Nat) {n : Nat} (hn : h.1.length = n) : am_ext h (k_X0_init_3 h b n) n (n + 2) := (kx_X0_init_2 b hn).add _
def k_X0_init_4 (h : am_H) (b n : Nat) : am_H := am_put (k_X0_init_3 h b n) b 1 (n + 1)
theorem kx_X0_init_4 {h : am_H} (b : Nat) {n : Nat} (hn : h.1.length = n) : am_ext h (k_X0_init_4 h b n) n (n + 2) := (kx_X0_init_3 b hn).put _ _ _
def k_X0_init_5 (h : am_H) (b n : Nat) : am_H := am_addn (k_X0_init_4 h b n) (n + 2) (0, 61)
theorem kx_X0_init_5 {h : am_H} (b : Nat) {n : Nat} (hn : h.1.length = n) : am_ext h (k_X0_init_5 h b n) n (n + 3) := (kx_X0_init_4 b hn).add _
def k_X0_init_6 (h : am_H) (b n : Nat) : am_H := am_put (k_X0_init_5 h b n) b 2 (n + 2)
theorem kx_X0_init_6 {h : am_H} (b : Nat) {n : Nat} (hn : h.1.length = n) : am_ext h (k_X0_init_6 h b n) n (n + 3) := (kx_X0_init_5 b hn).put _ _ _
def k_X0_init_7 (h : am_H) (b n : Nat) : am_H := am_pui (k_X0_init_6 h b n) b 3 0
theorem kx_X0_init_7 {h : am_H} (b : Nat) {n : Nat} (hn : h.1.length = n) : am_ext h (k_X0_init_7 h b n) n (n + 3) := (kx_X0_init_6 b hn).pui _ _ _
def k_X0_init_8 (h : am_H) (b n : Nat) : am_H := am_pui (k_X0_init_7 h b n) b 4 0
theorem kx_X0_init_8 {h : am_H} (b : Nat) {n : Nat} (hn : h.1.length = n) : am_ext h (k_X0_init_8 h b n) n (n + 3) := (kx_X0_init_7 b hn).pui _ _ _
def k_X0_init_9 (h : am_H) (b n : Nat) : am_H := am_pui (k_X0_init_8 h b n) b 5 (-1)
theorem kx_X0_init_9 {h : am_H} (b : Nat) {n : Nat} (hn : h.1.length = n) : am_ext h (k_X0_init_9 h b n) n (n + 3) := (kx_X0_init_8 b hn).pui _ _ _
def k_X0_init_10 (h : am_H) (b n : Nat) : am_H := am_pui (k_X0_init_9 h b n) b 6 (-1)
theorem kx_X0_init_10 {h : am_H} (b : Nat) {n : Nat} (hn : h.1.length = n) : am_ext h (k_X0_init_10 h b n) n (n + 3) := (kx_X0_init_9 b hn).pui _ _ _
def k_X0_init (h : am_H) (b n : Nat) : am_H := k_X0_init_10 h b n
theorem kx_X0_init {h : am_H} (b : Nat) {n : Nat} (hn : h.1.length = n) : am_ext h (k_X0_init h b n) n (n + 3) := kx_X0_init_10 b hn
theorem ct_X0_init {l : Launch} {h : am_H} {b n : Nat} (hn : h.1.length = n) (hm : n + 4 ≤ 900000) (hb : h.1[b]? = some (2, 0)) : am_CT l m_X0_init true [.ref b] h (am_is none (k_X0_init h b n)) := by
  refine am_CT.of (by decide) (Nat.le_of_ble_eq_true rfl) ?_
  show am_Ex _ _ _ 0 [(0, .ref b)] [] _
  refine am_aload_n (j := 0) (am_dk tk_X0_init 0 rfl) rfl rfl ?_
  refine am_obj lo_X0_3 (Nat.le_of_ble_eq_true rfl) (Nat.le_of_ble_eq_true rfl) (am_dk tk_X0_init 1 rfl) ?_
  refine am_aload_n (j := 0) (am_dk tk_X0_init 2 rfl) rfl rfl ?_
  refine am_bipush (v := 61) (am_dk tk_X0_init 3 rfl) (by decide) ?_
  refine am_newaN (p0 := n) (t := 1) (N := 61) (ty := .boolean) (am_ext.rf hn).2.1 rfl (Or.inr ⟨rfl, rfl⟩) rfl (by have q1 : h.1.length = n := hn; show h.1.length ≤ _; omega) (by omega) (am_okL1 (Nat.lt_of_lt_of_le (am_at_lt hn hb) (am_ext.rf hn).2.2.1)) (am_okS1 (Nat.lt_of_lt_of_le (am_at_lt hn hb) (am_ext.rf hn).2.2.1)) (am_tb 355 (by decide +kernel) (by decide +kernel)) (by decide) (by decide) (by decide) ⟨Nat.le_of_ble_eq_true rfl, Nat.le_of_ble_eq_true rfl⟩ (am_dk tk_X0_init 4 rfl) ?_
  refine am_h (h' := k_X0_init_1 h b n) rfl ?_
  refine am_putF (c := 0) (z := 0) (k := 0) (b := n) (fun _ _ _ _ _ _ q => q.2.2) (by rw [(kx_X0_init_1 b hn).2.1]; omega) ((kx_X0_init_1 b hn).2.2.2 _ _ hb) fl_X0_9 rfl rfl rfl rfl (am_dk tk_X0_init 5 rfl) ?_
  refine am_h (h' := k_X0_init_2 h b n) rfl ?_
  refine am_aload_n (j := 0) (am_dk tk_X0_init 6 rfl) rfl rfl ?_
  refine am_sipush (v := 201) (am_dk tk_X0_init 7 rfl) (by decide) ?_
  refine am_newaN (p0 := (n + 1)) (t := 0) (N := 201) (ty := .int) (kx_X0_init_2 b hn).2.1 rfl (Or.inl ⟨rfl, rfl⟩) rfl (by have q1 : h.1.length = n := hn; show h.1.length ≤ _; omega) (by omega) (am_okL1 (Nat.lt_of_lt_of_le (am_at_lt hn hb) (kx_X0_init_2 b hn).2.2.1)) (am_okS1 (Nat.lt_of_lt_of_le (am_at_lt hn hb) (kx_X0_init_2 b hn).2.2.1)) (am_tb 149 (by decide +kernel) (by decide +kernel)) (by decide) (by decide) (by decide) ⟨Nat.le_of_ble_eq_true rfl, Nat.le_of_ble_eq_true rfl⟩ (am_dk tk_X0_init 8 rfl) ?_
  refine am_h (h' := k_X0_init_3 h b n) rfl ?_
  refine am_putF (c := 0) (z := 0) (k := 1) (b := (n + 1)) (fun _ _ _ _ _ _ q => q.2.2) (by rw [(kx_X0_init_3 b hn).2.1]; omega) ((kx_X0_init_3 b hn).2.2.2 _ _ hb) fl_X0_15 rfl rfl rfl rfl (am_dk tk_X0_init 9 rfl) ?_
  refine am_h (h' := k_X0_init_4 h b n) rfl ?_
  refine am_aload_n (j := 0) (am_dk tk_X0_init 10 rfl) rfl rfl ?_
  refine am_bipush (v := 61) (am_dk tk_X0_init 11 rfl) (by decide) ?_
  refine am_newaN (p0 := (n + 2)) (t := 0) (N := 61) (ty := .int) (kx_X0_init_4 b hn).2.1 rfl (Or.inl ⟨rfl, rfl⟩) rfl (by have q1 : h.1.length = n := hn; show h.1.length ≤ _; omega) (by omega) (am_okL1 (Nat.lt_of_lt_of_le (am_at_lt hn hb) (kx_X0_init_4 b hn).2.2.1)) (am_okS1 (Nat.lt_of_lt_of_le (am_at_lt hn hb) (kx_X0_init_4 b hn).2.2.1)) (am_tb 149 (by decide +kernel) (by decide +kernel)) (by decide) (by decide) (by decide) ⟨Nat.le_of_ble_eq_true rfl, Nat.le_of_ble_eq_true rfl⟩ (am_dk tk_X0_init 12 rfl) ?_
  refine am_h (h' := k_X0_init_5 h b n) rfl ?_
  refine am_putF (c := 0) (z := 0) (k := 2) (b := (n + 2)) (fun _ _ _ _ _ _ q => q.2.2) (by rw [(kx_X0_init_5 b hn).2.1]; omega) ((kx_X0_init_5 b hn).2.2.2 _ _ hb) fl_X0_19 rfl rfl rfl rfl (am_dk tk_X0_init 13 rfl) ?_
  refine am_h (h' := k_X0_init_6 h b n) rfl ?_
  refine am_aload_n (j := 0) (am_dk tk_X0_init 14 rfl) rfl rfl ?_
  refine am_iconst (v := 0) (am_dk tk_X0_init 15 rfl) (by decide) ?_
  refine am_putz (c := 0) (z := 0) (k := 3) (Or.inl rfl) ((kx_X0_init_6 b hn).2.2.2 _ _ hb) fl_X0_22 rfl rfl (am_dk tk_X0_init 16 rfl) ?_
  refine am_h (h' := k_X0_init_7 h b n) rfl ?_
  refine am_aload_n (j := 0) (am_dk tk_X0_init 17 rfl) rfl rfl ?_
  refine am_iconst (v := 0) (am_dk tk_X0_init 18 rfl) (by decide) ?_
  refine am_putz (c := 0) (z := 0) (k := 4) (Or.inl rfl) ((kx_X0_init_7 b hn).2.2.2 _ _ hb) fl_X0_26 rfl rfl (am_dk tk_X0_init 19 rfl) ?_
  refine am_h (h' := k_X0_init_8 h b n) rfl ?_
  refine am_aload_n (j := 0) (am_dk tk_X0_init 20 rfl) rfl rfl ?_
  refine am_iconst (v := (-1)) (am_dk tk_X0_init 21 rfl) (by decide) ?_
  refine am_puti (c := 0) (z := 0) (k := 5) ((kx_X0_init_8 b hn).2.2.2 _ _ hb) fl_X0_29 rfl rfl (am_dk tk_X0_init 22 rfl) ?_
  refine am_h (h' := k_X0_init_9 h b n) rfl ?_
  refine am_aload_n (j := 0) (am_dk tk_X0_init 23 rfl) rfl rfl ?_
  refine am_iconst (v := (-1)) (am_dk tk_X0_init 24 rfl) (by decide) ?_
  refine am_puti (c := 0) (z := 0) (k := 6) ((kx_X0_init_9 b hn).2.2.2 _ _ hb) fl_X0_33 rfl rfl (am_dk tk_X0_init 25 rfl) ?_
  refine am_h (h' := k_X0_init_10 h b n) rfl ?_
  exact am_vret rfl ⟨rfl, rfl⟩ ⟨Nat.le_of_ble_eq_true rfl, Nat.le_of_ble_eq_true rfl⟩ (am_dk tk_X0_init 26 rfl)
abbrev m_X5_init : am_D := (yX5_init, prog_1_method_1_code, 1, none, { frames := 4, cells := 55, slots := 1679, locals := 74 })
theorem ld_X5_init : am_LD m_X5_init 0 := ⟨(am_tb 79 (by decide +kernel) (by decide +kernel)), (am_tb 93 (by decide +kernel) (by decide +kernel)), by decide, by decide, by decide +kernel⟩
def tb_X5_init : List (Nat × Instr × Nat) := [(0, .aload_n 0, 1), (1, .invokespecial 1, 3), (4, .aload_n 0, 1), (5, .new 7, 3), (8, .dup, 1), (9, .invokespecial 9, 3), (12, .putfield 10, 3), (15, .aload_n 0, 1), (16, .new 16, 3), (19, .dup, 1), (20, .invokespecial 18, 3), (23, .putfield 19, 3), (26, .aload_n 0, 1), (27, .new 23, 3), (30, .dup, 1), (31, .invokespecial 25, 3), (34, .putfield 26, 3), (37, .aload_n 0, 1), (38, .new 23, 3), (41, .dup, 1), (42, .invokespecial 25, 3), (45, .putfield 30, 3), (48, .aload_n 0, 1), (49, .new 23, 3), (52, .dup, 1), (53, .invokespecial 25, 3), (56, .putfield 33, 3), (59, .aload_n 0, 1), (60, .new 23, 3), (63, .dup, 1), (64, .invokespecial 25, 3), (67, .putfield 36, 3), (70, .aload_n 0, 1), (71, .iconst 0, 1), (72, .putfield 39, 3), (75, .aload_n 0, 1), (76, .new 43, 3), (79, .dup, 1), (80, .invokespecial 45, 3), (83, .putfield 46, 3), (86, .aload_n 0, 1), (87, .new 50, 3), (90, .dup, 1), (91, .invokespecial 52, 3), (94, .putfield 53, 3), (97, .aload_n 0, 1), (98, .bipush 15, 2), (100, .newarray .int, 2), (102, .putfield 57, 3), (105, .aload_n 0, 1), (106, .bipush 15, 2), (108, .newarray .int, 2), (110, .putfield 61, 3), (113, .aload_n 0, 1), (114, .iconst 0, 1), (115, .putfield 64, 3), (118, .return_, 1)]
theorem tk_X5_init : am_tbl prog_1_method_1_code tb_X5_init = true := by decide +kernel
def k_X5_init_1 (h : am_H) (b n : Nat) : am_H := am_addn (h) n (6, 0)
theorem kx_X5_init_1 {h : am_H} (b : Nat) {n : Nat} (hn : h.1.length = n) : am_ext h (k_X5_init_1 h b n) n (n + 1) := (am_ext.rf hn).add _
def k_X5_init_2 (h : am_H) (b n : Nat) : am_H := k_X4_init (k_X5_init_1 h b n) n (n + 1)
theorem kx_X5_init_2 {h : am_H} (b : Nat) {n : Nat} (hn : h.1.length = n) : am_ext h (k_X5_init_2 h b n) n (n + 11) := by
  have q := (kx_X5_init_1 b hn).tr (kx_X4_init n (kx_X5_init_1 b hn).2.1)
  exact q
def k_X5_init_3 (h : am_H) (b n : Nat) : am_H := am_put (k_X5_init_2 h b n) b 0 n
theorem kx_X5_init_3 {h : am_H} (b : Nat) {n : Nat} (hn : h.1.length = n) : am_ext h (k_X5_init_3 h b n) n (n + 11) := (kx_X5_init_2 b hn).put _ _ _
def k_X5_init_4 (h : am_H) (b n : Nat) : am_H := am_addn (k_X5_init_3 h b n) (n + 11) (5, 0)
theorem kx_X5_init_4 {h : am_H} (b : Nat) {n : Nat} (hn : h.1.length = n) : am_ext h (k_X5_init_4 h b n) n (n + 12) := (kx_X5_init_3 b hn).add _
def k_X5_init_5 (h : am_H) (b n : Nat) : am_H := k_X3_init (k_X5_init_4 h b n) (n + 11) (n + 12)
theorem kx_X5_init_5 {h : am_H} (b : Nat) {n : Nat} (hn : h.1.length = n) : am_ext h (k_X5_init_5 h b n) n (n + 24) := by
  have q := (kx_X5_init_4 b hn).tr (kx_X3_init (n + 11) (kx_X5_init_4 b hn).2.1)
  exact q
def k_X5_init_6 (h : am_H) (b n : Nat) : am_H := am_put (k_X5_init_5 h b n) b 1 (n + 11)
theorem kx_X5_init_6 {h : am_H} (b : Nat) {n : Nat} (hn : h.1.length = n) : am_ext h (k_X5_init_6 h b n) n (n + 24) := (kx_X5_init_5 b hn).put _ _ _
def k_X5_init_7 (h : am_H) (b n : Nat) : am_H := am_addn (k_X5_init_6 h b n) (n + 24) (4, 0)
theorem kx_X5_init_7 {h : am_H} (b : Nat) {n : Nat} (hn : h.1.length = n) : am_ext h (k_X5_init_7 h b n) n (n + 25) := (kx_X5_init_6 b hn).add _
def k_X5_init_8 (h : am_H) (b n : Nat) : am_H := k_X2_init (k_X5_init_7 h b n) (n + 24) (n + 25)
theorem kx_X5_init_8 {h : am_H} (b : Nat) {n : Nat} (hn : h.1.length = n) : am_ext h (k_X5_init_8 h b n) n (n + 29) := by
  have q := (kx_X5_init_7 b hn).tr (kx_X2_init (n + 24) (kx_X5_init_7 b hn).2.1)
  exact q
def k_X5_init_9 (h : am_H) (b n : Nat) : am_H := am_put (k_X5_init_8 h b n) b 2 (n + 24)
theorem kx_X5_init_9 {h : am_H} (b : Nat) {n : Nat} (hn : h.1.length = n) : am_ext h (k_X5_init_9 h b n) n (n + 29) := (kx_X5_init_8 b hn).put _ _ _
def k_X5_init_10 (h : am_H) (b n : Nat) : am_H := am_addn (k_X5_init_9 h b n) (n + 29) (4, 0)
theorem kx_X5_init_10 {h : am_H} (b : Nat) {n : Nat} (hn : h.1.length = n) : am_ext h (k_X5_init_10 h b n) n (n + 30) := (kx_X5_init_9 b hn).add _
def k_X5_init_11 (h : am_H) (b n : Nat) : am_H := k_X2_init (k_X5_init_10 h b n) (n + 29) (n + 30)
theorem kx_X5_init_11 {h : am_H} (b : Nat) {n : Nat} (hn : h.1.length = n) : am_ext h (k_X5_init_11 h b n) n (n + 34) := by
  have q := (kx_X5_init_10 b hn).tr (kx_X2_init (n + 29) (kx_X5_init_10 b hn).2.1)
  exact q
def k_X5_init_12 (h : am_H) (b n : Nat) : am_H := am_put (k_X5_init_11 h b n) b 3 (n + 29)
theorem kx_X5_init_12 {h : am_H} (b : Nat) {n : Nat} (hn : h.1.length = n) : am_ext h (k_X5_init_12 h b n) n (n + 34) := (kx_X5_init_11 b hn).put _ _ _
def k_X5_init_13 (h : am_H) (b n : Nat) : am_H := am_addn (k_X5_init_12 h b n) (n + 34) (4, 0)
theorem kx_X5_init_13 {h : am_H} (b : Nat) {n : Nat} (hn : h.1.length = n) : am_ext h (k_X5_init_13 h b n) n (n + 35) := (kx_X5_init_12 b hn).add _
def k_X5_init_14 (h : am_H) (b n : Nat) : am_H := k_X2_init (k_X5_init_13 h b n) (n + 34) (n + 35)
theorem kx_X5_init_14 {h : am_H} (b : Nat) {n : Nat} (hn : h.1.length = n) : am_ext h (k_X5_init_14 h b n) n (n + 39) := by
  have q := (kx_X5_init_13 b hn).tr (kx_X2_init (n + 34) (kx_X5_init_13 b hn).2.1)
  exact q
def k_X5_init_15 (h : am_H) (b n : Nat) : am_H := am_put (k_X5_init_14 h b n) b 4 (n + 34)
theorem kx_X5_init_15 {h : am_H} (b : Nat) {n : Nat} (hn : h.1.length = n) : am_ext h (k_X5_init_15 h b n) n (n + 39) := (kx_X5_init_14 b hn).put _ _ _
def k_X5_init_16 (h : am_H) (b n : Nat) : am_H := am_addn (k_X5_init_15 h b n) (n + 39) (4, 0)
theorem kx_X5_init_16 {h : am_H} (b : Nat) {n : Nat} (hn : h.1.length = n) : am_ext h (k_X5_init_16 h b n) n (n + 40) := (kx_X5_init_15 b hn).add _
def k_X5_init_17 (h : am_H) (b n : Nat) : am_H := k_X2_init (k_X5_init_16 h b n) (n + 39) (n + 40)
theorem kx_X5_init_17 {h : am_H} (b : Nat) {n : Nat} (hn : h.1.length = n) : am_ext h (k_X5_init_17 h b n) n (n + 44) := by
  have q := (kx_X5_init_16 b hn).tr (kx_X2_init (n + 39) (kx_X5_init_16 b hn).2.1)
  exact q
def k_X5_init_18 (h : am_H) (b n : Nat) : am_H := am_put (k_X5_init_17 h b n) b 5 (n + 39)
theorem kx_X5_init_18 {h : am_H} (b : Nat) {n : Nat} (hn : h.1.length = n) : am_ext h (k_X5_init_18 h b n) n (n + 44) := (kx_X5_init_17 b hn).put _ _ _
def k_X5_init_19 (h : am_H) (b n : Nat) : am_H := am_pui (k_X5_init_18 h b n) b 6 0
theorem kx_X5_init_19 {h : am_H} (b : Nat) {n : Nat} (hn : h.1.length = n) : am_ext h (k_X5_init_19 h b n) n (n + 44) := (kx_X5_init_18 b hn).pui _ _ _
def k_X5_init_20 (h : am_H) (b n : Nat) : am_H := am_addn (k_X5_init_19 h b n) (n + 44) (3, 0)
theorem kx_X5_init_20 {h : am_H} (b : Nat) {n : Nat} (hn : h.1.length = n) : am_ext h (k_X5_init_20 h b n) n (n + 45) := (kx_X5_init_19 b hn).add _
def k_X5_init_21 (h : am_H) (b n : Nat) : am_H := k_X1_init (k_X5_init_20 h b n) (n + 44) (n + 45)
theorem kx_X5_init_21 {h : am_H} (b : Nat) {n : Nat} (hn : h.1.length = n) : am_ext h (k_X5_init_21 h b n) n (n + 49) := by
  have q := (kx_X5_init_20 b hn).tr (kx_X1_init (n + 44) (kx_X5_init_20 b hn).2.1)
  exact q
def k_X5_init_22 (h : am_H) (b n : Nat) : am_H := am_put (k_X5_init_21 h b n) b 7 (n + 44)
theorem kx_X5_init_22 {h : am_H} (b : Nat) {n : Nat} (hn : h.1.length = n) : am_ext h (k_X5_init_22 h b n) n (n + 49) := (kx_X5_init_21 b hn).put _ _ _
def k_X5_init_23 (h : am_H) (b n : Nat) : am_H := am_addn (k_X5_init_22 h b n) (n + 49) (2, 0)
theorem kx_X5_init_23 {h : am_H} (b : Nat) {n : Nat} (hn : h.1.length = n) : am_ext h (k_X5_init_23 h b n) n (n + 50) := (kx_X5_init_22 b hn).add _
def k_X5_init_24 (h : am_H) (b n : Nat) : am_H := k_X0_init (k_X5_init_23 h b n) (n + 49) (n + 50)
theorem kx_X5_init_24 {h : am_H} (b : Nat) {n : Nat} (hn : h.1.length = n) : am_ext h (k_X5_init_24 h b n) n (n + 53) := by
  have q := (kx_X5_init_23 b hn).tr (kx_X0_init (n + 49) (kx_X5_init_23 b hn).2.1)
  exact q
def k_X5_init_25 (h : am_H) (b n : Nat) : am_H := am_put (k_X5_init_24 h b n) b 8 (n + 49)
theorem kx_X5_init_25 {h : am_H} (b : Nat) {n : Nat} (hn : h.1.length = n) : am_ext h (k_X5_init_25 h b n) n (n + 53) := (kx_X5_init_24 b hn).put _ _ _
def k_X5_init_26 (h : am_H) (b n : Nat) : am_H := am_addn (k_X5_init_25 h b n) (n + 53) (0, 15)
theorem kx_X5_init_26 {h : am_H} (b : Nat) {n : Nat} (hn : h.1.length = n) : am_ext h (k_X5_init_26 h b n) n (n + 54) := (kx_X5_init_25 b hn).add _
def k_X5_init_27 (h : am_H) (b n : Nat) : am_H := am_put (k_X5_init_26 h b n) b 9 (n + 53)
theorem kx_X5_init_27 {h : am_H} (b : Nat) {n : Nat} (hn : h.1.length = n) : am_ext h (k_X5_init_27 h b n) n (n + 54) := (kx_X5_init_26 b hn).put _ _ _
def k_X5_init_28 (h : am_H) (b n : Nat) : am_H := am_addn (k_X5_init_27 h b n) (n + 54) (0, 15)
theorem kx_X5_init_28 {h : am_H} (b : Nat) {n : Nat} (hn : h.1.length = n) : am_ext h (k_X5_init_28 h b n) n (n + 55) := (kx_X5_init_27 b hn).add _
def k_X5_init_29 (h : am_H) (b n : Nat) : am_H := am_put (k_X5_init_28 h b n) b 10 (n + 54)
theorem kx_X5_init_29 {h : am_H} (b : Nat) {n : Nat} (hn : h.1.length = n) : am_ext h (k_X5_init_29 h b n) n (n + 55) := (kx_X5_init_28 b hn).put _ _ _
def k_X5_init_30 (h : am_H) (b n : Nat) : am_H := am_pui (k_X5_init_29 h b n) b 11 0
theorem kx_X5_init_30 {h : am_H} (b : Nat) {n : Nat} (hn : h.1.length = n) : am_ext h (k_X5_init_30 h b n) n (n + 55) := (kx_X5_init_29 b hn).pui _ _ _
def k_X5_init (h : am_H) (b n : Nat) : am_H := k_X5_init_30 h b n
theorem kx_X5_init {h : am_H} (b : Nat) {n : Nat} (hn : h.1.length = n) : am_ext h (k_X5_init h b n) n (n + 55) := kx_X5_init_30 b hn
theorem ct_X5_init {l : Launch} {h : am_H} {b n : Nat} (hn : h.1.length = n) (hm : n + 56 ≤ 900000) (hb : h.1[b]? = some (7, 0)) : am_CT l m_X5_init true [.ref b] h (am_is none (k_X5_init h b n)) := by
  refine am_CT.of (by decide) (Nat.le_of_ble_eq_true rfl) ?_
  show am_Ex _ _ _ 0 [(0, .ref b)] [] _
  refine am_aload_n (j := 0) (am_dk tk_X5_init 0 rfl) rfl rfl ?_
  refine am_obj lo_X5_1 (Nat.le_of_ble_eq_true rfl) (Nat.le_of_ble_eq_true rfl) (am_dk tk_X5_init 1 rfl) ?_
  refine am_aload_n (j := 0) (am_dk tk_X5_init 2 rfl) rfl rfl ?_
  refine am_newN (c := 4) (p0 := n) (am_ext.rf hn).2.1 (by decide) rfl (by have q1 : h.1.length = n := hn; show h.1.length ≤ _; omega) (by omega) (am_okL1 (Nat.lt_of_lt_of_le (am_at_lt hn hb) (am_ext.rf hn).2.2.1)) (am_okS1 (Nat.lt_of_lt_of_le (am_at_lt hn hb) (am_ext.rf hn).2.2.1)) nw_X5_7 ⟨Nat.le_of_ble_eq_true rfl, Nat.le_of_ble_eq_true rfl⟩ (am_dv 4 (by decide)) (am_dk tk_X5_init 3 rfl) ?_
  refine am_h (h' := k_X5_init_1 h b n) rfl ?_
  refine am_dup (am_dk tk_X5_init 4 rfl) rfl ?_
  refine am_callIN (M := m_X4_init) (b := n) (n := 0) (st := [.ref n, .ref b]) rfl (by have q1 : h.1.length = n := hn; have q2 := (kx_X5_init_1 b hn).2.1; show h.1.length ≤ _; omega) (by rw [(kx_X5_init_1 b hn).2.1]; exact am_okL1 (Nat.lt_of_lt_of_le (am_at_lt hn hb) (kx_X5_init_1 b hn).2.2.1)) (by rw [(kx_X5_init_1 b hn).2.1]; exact am_okS2 (by omega) (Nat.lt_of_lt_of_le (am_at_lt hn hb) (kx_X5_init_1 b hn).2.2.1)) rfl rfl (ct_X4_init (kx_X5_init_1 b hn).2.1 (by omega) (am_addn_new (am_ext.rf hn).2.1 _)) ml_X5_9 ld_X4_init ⟨Nat.le_of_ble_eq_true rfl, Nat.le_of_ble_eq_true rfl⟩ (Nat.le_of_ble_eq_true rfl) ⟨Nat.le_of_ble_eq_true rfl, Nat.le_of_ble_eq_true rfl⟩ (am_dk tk_X5_init 5 rfl) (am_kkv ?_)
  refine am_h (h' := k_X5_init_2 h b n) rfl ?_
  refine am_putr (c := 5) (z := 0) (k := 0) (b := n) (by rw [(kx_X5_init_2 b hn).2.1]; omega) ((kx_X5_init_2 b hn).2.2.2 _ _ hb) fl_X5_10 rfl rfl rfl (am_dk tk_X5_init 6 rfl) ?_
  refine am_h (h' := k_X5_init_3 h b n) rfl ?_
  refine am_aload_n (j := 0) (am_dk tk_X5_init 7 rfl) rfl rfl ?_
  refine am_newN (c := 3) (p0 := (n + 11)) (kx_X5_init_3 b hn).2.1 (by decide) rfl (by have q1 : h.1.length = n := hn; show h.1.length ≤ _; omega) (by omega) (am_okL1 (Nat.lt_of_lt_of_le (am_at_lt hn hb) (kx_X5_init_3 b hn).2.2.1)) (am_okS1 (Nat.lt_of_lt_of_le (am_at_lt hn hb) (kx_X5_init_3 b hn).2.2.1)) nw_X5_16 ⟨Nat.le_of_ble_eq_true rfl, Nat.le_of_ble_eq_true rfl⟩ (am_dv 3 (by decide)) (am_dk tk_X5_init 8 rfl) ?_
  refine am_h (h' := k_X5_init_4 h b n) rfl ?_
  refine am_dup (am_dk tk_X5_init 9 rfl) rfl ?_
  refine am_callIN (M := m_X3_init) (b := (n + 11)) (n := 0) (st := [.ref (n + 11), .ref b]) rfl (by have q1 : h.1.length = n := hn; have q2 := (kx_X5_init_4 b hn).2.1; show h.1.length ≤ _; omega) (by rw [(kx_X5_init_4 b hn).2.1]; exact am_okL1 (Nat.lt_of_lt_of_le (am_at_lt hn hb) (kx_X5_init_4 b hn).2.2.1)) (by rw [(kx_X5_init_4 b hn).2.1]; exact am_okS2 (by omega) (Nat.lt_of_lt_of_le (am_at_lt hn hb) (kx_X5_init_4 b hn).2.2.1)) rfl rfl (ct_X3_init (kx_X5_init_4 b hn).2.1 (by omega) (am_addn_new (kx_X5_init_3 b hn).2.1 _)) ml_X5_18 ld_X3_init ⟨Nat.le_of_ble_eq_true rfl, Nat.le_of_ble_eq_true rfl⟩ (Nat.le_of_ble_eq_true rfl) ⟨Nat.le_of_ble_eq_true rfl, Nat.le_of_ble_eq_true rfl⟩ (am_dk tk_X5_init 10 rfl) (am_kkv ?_)
  refine am_h (h' := k_X5_init_5 h b n) rfl ?_
  refine am_putF (c := 5) (z := 0) (k := 1) (b := (n + 11)) (fun _ _ _ _ _ _ q => q.2.2) (by rw [(kx_X5_init_5 b hn).2.1]; omega) ((kx_X5_init_5 b hn).2.2.2 _ _ hb) fl_X5_19 rfl rfl rfl rfl (am_dk tk_X5_init 11 rfl) ?_
  refine am_h (h' := k_X5_init_6 h b n) rfl ?_
  refine am_aload_n (j := 0) (am_dk tk_X5_init 12 rfl) rfl rfl ?_
  refine am_newN (c := 2) (p0 := (n + 24)) (kx_X5_init_6 b hn).2.1 (by decide) rfl (by have q1 : h.1.length = n := hn; show h.1.length ≤ _; omega) (by omega) (am_okL1 (Nat.lt_of_lt_of_le (am_at_lt hn hb) (kx_X5_init_6 b hn).2.2.1)) (am_okS1 (Nat.lt_of_lt_of_le (am_at_lt hn hb) (kx_X5_init_6 b hn).2.2.1)) nw_X5_23 ⟨Nat.le_of_ble_eq_true rfl, Nat.le_of_ble_eq_true rfl⟩ (am_dv 2 (by decide)) (am_dk tk_X5_init 13 rfl) ?_
  refine am_h (h' := k_X5_init_7 h b n) rfl ?_
  refine am_dup (am_dk tk_X5_init 14 rfl) rfl ?_
  refine am_callIN (M := m_X2_init) (b := (n + 24)) (n := 0) (st := [.ref (n + 24), .ref b]) rfl (by have q1 : h.1.length = n := hn; have q2 := (kx_X5_init_7 b hn).2.1; show h.1.length ≤ _; omega) (by rw [(kx_X5_init_7 b hn).2.1]; exact am_okL1 (Nat.lt_of_lt_of_le (am_at_lt hn hb) (kx_X5_init_7 b hn).2.2.1)) (by rw [(kx_X5_init_7 b hn).2.1]; exact am_okS2 (by omega) (Nat.lt_of_lt_of_le (am_at_lt hn hb) (kx_X5_init_7 b hn).2.2.1)) rfl rfl (ct_X2_init (kx_X5_init_7 b hn).2.1 (by omega) (am_addn_new (kx_X5_init_6 b hn).2.1 _)) ml_X5_25 ld_X2_init ⟨Nat.le_of_ble_eq_true rfl, Nat.le_of_ble_eq_true rfl⟩ (Nat.le_of_ble_eq_true rfl) ⟨Nat.le_of_ble_eq_true rfl, Nat.le_of_ble_eq_true rfl⟩ (am_dk tk_X5_init 15 rfl) (am_kkv ?_)
  refine am_h (h' := k_X5_init_8 h b n) rfl ?_
  refine am_putF (c := 5) (z := 0) (k := 2) (b := (n + 24)) (fun _ _ _ _ _ _ q => q.2.2) (by rw [(kx_X5_init_8 b hn).2.1]; omega) ((kx_X5_init_8 b hn).2.2.2 _ _ hb) fl_X5_26 rfl rfl rfl rfl (am_dk tk_X5_init 16 rfl) ?_
  refine am_h (h' := k_X5_init_9 h b n) rfl ?_
  refine am_aload_n (j := 0) (am_dk tk_X5_init 17 rfl) rfl rfl ?_
  refine am_newN (c := 2) (p0 := (n + 29)) (kx_X5_init_9 b hn).2.1 (by decide) rfl (by have q1 : h.1.length = n := hn; show h.1.length ≤ _; omega) (by omega) (am_okL1 (Nat.lt_of_lt_of_le (am_at_lt hn hb) (kx_X5_init_9 b hn).2.2.1)) (am_okS1 (Nat.lt_of_lt_of_le (am_at_lt hn hb) (kx_X5_init_9 b hn).2.2.1)) nw_X5_23 ⟨Nat.le_of_ble_eq_true rfl, Nat.le_of_ble_eq_true rfl⟩ (am_dv 2 (by decide)) (am_dk tk_X5_init 18 rfl) ?_
  refine am_h (h' := k_X5_init_10 h b n) rfl ?_
  refine am_dup (am_dk tk_X5_init 19 rfl) rfl ?_
  refine am_callIN (M := m_X2_init) (b := (n + 29)) (n := 0) (st := [.ref (n + 29), .ref b]) rfl (by have q1 : h.1.length = n := hn; have q2 := (kx_X5_init_10 b hn).2.1; show h.1.length ≤ _; omega) (by rw [(kx_X5_init_10 b hn).2.1]; exact am_okL1 (Nat.lt_of_lt_of_le (am_at_lt hn hb) (kx_X5_init_10 b hn).2.2.1)) (by rw [(kx_X5_init_10 b hn).2.1]; exact am_okS2 (by omega) (Nat.lt_of_lt_of_le (am_at_lt hn hb) (kx_X5_init_10 b hn).2.2.1)) rfl rfl (ct_X2_init (kx_X5_init_10 b hn).2.1 (by omega) (am_addn_new (kx_X5_init_9 b hn).2.1 _)) ml_X5_25 ld_X2_init ⟨Nat.le_of_ble_eq_true rfl, Nat.le_of_ble_eq_true rfl⟩ (Nat.le_of_ble_eq_true rfl) ⟨Nat.le_of_ble_eq_true rfl, Nat.le_of_ble_eq_true rfl⟩ (am_dk tk_X5_init 20 rfl) (am_kkv ?_)
  refine am_h (h' := k_X5_init_11 h b n) rfl ?_
  refine am_putF (c := 5) (z := 0) (k := 3) (b := (n + 29)) (fun _ _ _ _ _ _ q => q.2.2) (by rw [(kx_X5_init_11 b hn).2.1]; omega) ((kx_X5_init_11 b hn).2.2.2 _ _ hb) fl_X5_30 rfl rfl rfl rfl (am_dk tk_X5_init 21 rfl) ?_
  refine am_h (h' := k_X5_init_12 h b n) rfl ?_
  refine am_aload_n (j := 0) (am_dk tk_X5_init 22 rfl) rfl rfl ?_
  refine am_newN (c := 2) (p0 := (n + 34)) (kx_X5_init_12 b hn).2.1 (by decide) rfl (by have q1 : h.1.length = n := hn; show h.1.length ≤ _; omega) (by omega) (am_okL1 (Nat.lt_of_lt_of_le (am_at_lt hn hb) (kx_X5_init_12 b hn).2.2.1)) (am_okS1 (Nat.lt_of_lt_of_le (am_at_lt hn hb) (kx_X5_init_12 b hn).2.2.1)) nw_X5_23 ⟨Nat.le_of_ble_eq_true rfl, Nat.le_of_ble_eq_true rfl⟩ (am_dv 2 (by decide)) (am_dk tk_X5_init 23 rfl) ?_
  refine am_h (h' := k_X5_init_13 h b n) rfl ?_
  refine am_dup (am_dk tk_X5_init 24 rfl) rfl ?_
  refine am_callIN (M := m_X2_init) (b := (n + 34)) (n := 0) (st := [.ref (n + 34), .ref b]) rfl (by have q1 : h.1.length = n := hn; have q2 := (kx_X5_init_13 b hn).2.1; show h.1.length ≤ _; omega) (by rw [(kx_X5_init_13 b hn).2.1]; exact am_okL1 (Nat.lt_of_lt_of_le (am_at_lt hn hb) (kx_X5_init_13 b hn).2.2.1)) (by rw [(kx_X5_init_13 b hn).2.1]; exact am_okS2 (by omega) (Nat.lt_of_lt_of_le (am_at_lt hn hb) (kx_X5_init_13 b hn).2.2.1)) rfl rfl (ct_X2_init (kx_X5_init_13 b hn).2.1 (by omega) (am_addn_new (kx_X5_init_12 b hn).2.1 _)) ml_X5_25 ld_X2_init ⟨Nat.le_of_ble_eq_true rfl, Nat.le_of_ble_eq_true rfl⟩ (Nat.le_of_ble_eq_true rfl) ⟨Nat.le_of_ble_eq_true rfl, Nat.le_of_ble_eq_true rfl⟩ (am_dk tk_X5_init 25 rfl) (am_kkv ?_)
  refine am_h (h' := k_X5_init_14 h b n) rfl ?_
  refine am_putF (c := 5) (z := 0) (k := 4) (b := (n + 34)) (fun _ _ _ _ _ _ q => q.2.2) (by rw [(kx_X5_init_14 b hn).2.1]; omega) ((kx_X5_init_14 b hn).2.2.2 _ _ hb) fl_X5_33 rfl rfl rfl rfl (am_dk tk_X5_init 26 rfl) ?_
  refine am_h (h' := k_X5_init_15 h b n) rfl ?_
  refine am_aload_n (j := 0) (am_dk tk_X5_init 27 rfl) rfl rfl ?_
  refine am_newN (c := 2) (p0 := (n + 39)) (kx_X5_init_15 b hn).2.1 (by decide) rfl (by have q1 : h.1.length = n := hn; show h.1.length ≤ _; omega) (by omega) (am_okL1 (Nat.lt_of_lt_of_le (am_at_lt hn hb) (kx_X5_init_15 b hn).2.2.1)) (am_okS1 (Nat.lt_of_lt_of_le (am_at_lt hn hb) (kx_X5_init_15 b hn).2.2.1)) nw_X5_23 ⟨Nat.le_of_ble_eq_true rfl, Nat.le_of_ble_eq_true rfl⟩ (am_dv 2 (by decide)) (am_dk tk_X5_init 28 rfl) ?_
  refine am_h (h' := k_X5_init_16 h b n) rfl ?_
  refine am_dup (am_dk tk_X5_init 29 rfl) rfl ?_
  refine am_callIN (M := m_X2_init) (b := (n + 39)) (n := 0) (st := [.ref (n + 39), .ref b]) rfl (by have q1 : h.1.length = n := hn; have q2 := (kx_X5_init_16 b hn).2.1; show h.1.length ≤ _; omega) (by rw [(kx_X5_init_16 b hn).2.1]; exact am_okL1 (Nat.lt_of_lt_of_le (am_at_lt hn hb) (kx_X5_init_16 b hn).2.2.1)) (by rw [(kx_X5_init_16 b hn).2.1]; exact am_okS2 (by omega) (Nat.lt_of_lt_of_le (am_at_lt hn hb) (kx_X5_init_16 b hn).2.2.1)) rfl rfl (ct_X2_init (kx_X5_init_16 b hn).2.1 (by omega) (am_addn_new (kx_X5_init_15 b hn).2.1 _)) ml_X5_25 ld_X2_init ⟨Nat.le_of_ble_eq_true rfl, Nat.le_of_ble_eq_true rfl⟩ (Nat.le_of_ble_eq_true rfl) ⟨Nat.le_of_ble_eq_true rfl, Nat.le_of_ble_eq_true rfl⟩ (am_dk tk_X5_init 30 rfl) (am_kkv ?_)
  refine am_h (h' := k_X5_init_17 h b n) rfl ?_
  refine am_putF (c := 5) (z := 0) (k := 5) (b := (n + 39)) (fun _ _ _ _ _ _ q => q.2.2) (by rw [(kx_X5_init_17 b hn).2.1]; omega) ((kx_X5_init_17 b hn).2.2.2 _ _ hb) fl_X5_36 rfl rfl rfl rfl (am_dk tk_X5_init 31 rfl) ?_
  refine am_h (h' := k_X5_init_18 h b n) rfl ?_
  refine am_aload_n (j := 0) (am_dk tk_X5_init 32 rfl) rfl rfl ?_
  refine am_iconst (v := 0) (am_dk tk_X5_init 33 rfl) (by decide) ?_
  refine am_puti (c := 5) (z := 0) (k := 6) ((kx_X5_init_18 b hn).2.2.2 _ _ hb) fl_X5_39 rfl rfl (am_dk tk_X5_init 34 rfl) ?_
  refine am_h (h' := k_X5_init_19 h b n) rfl ?_
  refine am_aload_n (j := 0) (am_dk tk_X5_init 35 rfl) rfl rfl ?_
  refine am_newN (c := 1) (p0 := (n + 44)) (kx_X5_init_19 b hn).2.1 (by decide) rfl (by have q1 : h.1.length = n := hn; show h.1.length ≤ _; omega) (by omega) (am_okL1 (Nat.lt_of_lt_of_le (am_at_lt hn hb) (kx_X5_init_19 b hn).2.2.1)) (am_okS1 (Nat.lt_of_lt_of_le (am_at_lt hn hb) (kx_X5_init_19 b hn).2.2.1)) nw_X5_43 ⟨Nat.le_of_ble_eq_true rfl, Nat.le_of_ble_eq_true rfl⟩ (am_dv 1 (by decide)) (am_dk tk_X5_init 36 rfl) ?_
  refine am_h (h' := k_X5_init_20 h b n) rfl ?_
  refine am_dup (am_dk tk_X5_init 37 rfl) rfl ?_
  refine am_callIN (M := m_X1_init) (b := (n + 44)) (n := 0) (st := [.ref (n + 44), .ref b]) rfl (by have q1 : h.1.length = n := hn; have q2 := (kx_X5_init_20 b hn).2.1; show h.1.length ≤ _; omega) (by rw [(kx_X5_init_20 b hn).2.1]; exact am_okL1 (Nat.lt_of_lt_of_le (am_at_lt hn hb) (kx_X5_init_20 b hn).2.2.1)) (by rw [(kx_X5_init_20 b hn).2.1]; exact am_okS2 (by omega) (Nat.lt_of_lt_of_le (am_at_lt hn hb) (kx_X5_init_20 b hn).2.2.1)) rfl rfl (ct_X1_init (kx_X5_init_20 b hn).2.1 (by omega) (am_addn_new (kx_X5_init_19 b hn).2.1 _)) ml_X5_45 ld_X1_init ⟨Nat.le_of_ble_eq_true rfl, Nat.le_of_ble_eq_true rfl⟩ (Nat.le_of_ble_eq_true rfl) ⟨Nat.le_of_ble_eq_true rfl, Nat.le_of_ble_eq_true rfl⟩ (am_dk tk_X5_init 38 rfl) (am_kkv ?_)
  refine am_h (h' := k_X5_init_21 h b n) rfl ?_
  refine am_putF (c := 5) (z := 0) (k := 7) (b := (n + 44)) (fun _ _ _ _ _ _ q => q.2.2) (by rw [(kx_X5_init_21 b hn).2.1]; omega) ((kx_X5_init_21 b hn).2.2.2 _ _ hb) fl_X5_46 rfl rfl rfl rfl (am_dk tk_X5_init 39 rfl) ?_
  refine am_h (h' := k_X5_init_22 h b n) rfl ?_
  refine am_aload_n (j := 0) (am_dk tk_X5_init 40 rfl) rfl rfl ?_
  refine am_newN (c := 0) (p0 := (n + 49)) (kx_X5_init_22 b hn).2.1 (by decide) rfl (by have q1 : h.1.length = n := hn; show h.1.length ≤ _; omega) (by omega) (am_okL1 (Nat.lt_of_lt_of_le (am_at_lt hn hb) (kx_X5_init_22 b hn).2.2.1)) (am_okS1 (Nat.lt_of_lt_of_le (am_at_lt hn hb) (kx_X5_init_22 b hn).2.2.1)) nw_X5_50 ⟨Nat.le_of_ble_eq_true rfl, Nat.le_of_ble_eq_true rfl⟩ (am_dv 0 (by decide)) (am_dk tk_X5_init 41 rfl) ?_
  refine am_h (h' := k_X5_init_23 h b n) rfl ?_
  refine am_dup (am_dk tk_X5_init 42 rfl) rfl ?_
  refine am_callIN (M := m_X0_init) (b := (n + 49)) (n := 0) (st := [.ref (n + 49), .ref b]) rfl (by have q1 : h.1.length = n := hn; have q2 := (kx_X5_init_23 b hn).2.1; show h.1.length ≤ _; omega) (by rw [(kx_X5_init_23 b hn).2.1]; exact am_okL1 (Nat.lt_of_lt_of_le (am_at_lt hn hb) (kx_X5_init_23 b hn).2.2.1)) (by rw [(kx_X5_init_23 b hn).2.1]; exact am_okS2 (by omega) (Nat.lt_of_lt_of_le (am_at_lt hn hb) (kx_X5_init_23 b hn).2.2.1)) rfl rfl (ct_X0_init (kx_X5_init_23 b hn).2.1 (by omega) (am_addn_new (kx_X5_init_22 b hn).2.1 _)) ml_X5_52 ld_X0_init ⟨Nat.le_of_ble_eq_true rfl, Nat.le_of_ble_eq_true rfl⟩ (Nat.le_of_ble_eq_true rfl) ⟨Nat.le_of_ble_eq_true rfl, Nat.le_of_ble_eq_true rfl⟩ (am_dk tk_X5_init 43 rfl) (am_kkv ?_)
  refine am_h (h' := k_X5_init_24 h b n) rfl ?_
  refine am_putF (c := 5) (z := 0) (k := 8) (b := (n + 49)) (fun _ _ _ _ _ _ q => q.2.2) (by rw [(kx_X5_init_24 b hn).2.1]; omega) ((kx_X5_init_24 b hn).2.2.2 _ _ hb) fl_X5_53 rfl rfl rfl rfl (am_dk tk_X5_init 44 rfl) ?_
  refine am_h (h' := k_X5_init_25 h b n) rfl ?_
  refine am_aload_n (j := 0) (am_dk tk_X5_init 45 rfl) rfl rfl ?_
  refine am_bipush (v := 15) (am_dk tk_X5_init 46 rfl) (by decide) ?_
  refine am_newaN (p0 := (n + 53)) (t := 0) (N := 15) (ty := .int) (kx_X5_init_25 b hn).2.1 rfl (Or.inl ⟨rfl, rfl⟩) rfl (by have q1 : h.1.length = n := hn; show h.1.length ≤ _; omega) (by omega) (am_okL1 (Nat.lt_of_lt_of_le (am_at_lt hn hb) (kx_X5_init_25 b hn).2.2.1)) (am_okS1 (Nat.lt_of_lt_of_le (am_at_lt hn hb) (kx_X5_init_25 b hn).2.2.1)) (am_tb 149 (by decide +kernel) (by decide +kernel)) (by decide) (by decide) (by decide) ⟨Nat.le_of_ble_eq_true rfl, Nat.le_of_ble_eq_true rfl⟩ (am_dk tk_X5_init 47 rfl) ?_
  refine am_h (h' := k_X5_init_26 h b n) rfl ?_
  refine am_putF (c := 5) (z := 0) (k := 9) (b := (n + 53)) (fun _ _ _ _ _ _ q => q.2.2) (by rw [(kx_X5_init_26 b hn).2.1]; omega) ((kx_X5_init_26 b hn).2.2.2 _ _ hb) fl_X5_57 rfl rfl rfl rfl (am_dk tk_X5_init 48 rfl) ?_
  refine am_h (h' := k_X5_init_27 h b n) rfl ?_
  refine am_aload_n (j := 0) (am_dk tk_X5_init 49 rfl) rfl rfl ?_
  refine am_bipush (v := 15) (am_dk tk_X5_init 50 rfl) (by decide) ?_
  refine am_newaN (p0 := (n + 54)) (t := 0) (N := 15) (ty := .int) (kx_X5_init_27 b hn).2.1 rfl (Or.inl ⟨rfl, rfl⟩) rfl (by have q1 : h.1.length = n := hn; show h.1.length ≤ _; omega) (by omega) (am_okL1 (Nat.lt_of_lt_of_le (am_at_lt hn hb) (kx_X5_init_27 b hn).2.2.1)) (am_okS1 (Nat.lt_of_lt_of_le (am_at_lt hn hb) (kx_X5_init_27 b hn).2.2.1)) (am_tb 149 (by decide +kernel) (by decide +kernel)) (by decide) (by decide) (by decide) ⟨Nat.le_of_ble_eq_true rfl, Nat.le_of_ble_eq_true rfl⟩ (am_dk tk_X5_init 51 rfl) ?_
  refine am_h (h' := k_X5_init_28 h b n) rfl ?_
  refine am_putF (c := 5) (z := 0) (k := 10) (b := (n + 54)) (fun _ _ _ _ _ _ q => q.2.2) (by rw [(kx_X5_init_28 b hn).2.1]; omega) ((kx_X5_init_28 b hn).2.2.2 _ _ hb) fl_X5_61 rfl rfl rfl rfl (am_dk tk_X5_init 52 rfl) ?_
  refine am_h (h' := k_X5_init_29 h b n) rfl ?_
  refine am_aload_n (j := 0) (am_dk tk_X5_init 53 rfl) rfl rfl ?_
  refine am_iconst (v := 0) (am_dk tk_X5_init 54 rfl) (by decide) ?_
  refine am_puti (c := 5) (z := 0) (k := 11) ((kx_X5_init_29 b hn).2.2.2 _ _ hb) fl_X5_64 rfl rfl (am_dk tk_X5_init 55 rfl) ?_
  refine am_h (h' := k_X5_init_30 h b n) rfl ?_
  exact am_vret rfl ⟨rfl, rfl⟩ ⟨Nat.le_of_ble_eq_true rfl, Nat.le_of_ble_eq_true rfl⟩ (am_dk tk_X5_init 56 rfl)
abbrev m_X6_init : am_D := (yX6_init, prog_8_method_1_code, 1, none, { frames := 1, cells := 26, slots := 3265, locals := 14 })
theorem ld_X6_init : am_LD m_X6_init 0 := ⟨(am_tb 85 (by decide +kernel) (by decide +kernel)), (am_tb 827 (by decide +kernel) (by decide +kernel)), by decide, by decide, by decide +kernel⟩
def tb_X6_init : List (Nat × Instr × Nat) := [(0, .aload_n 0, 1), (1, .invokespecial 1, 3), (4, .aload_n 0, 1), (5, .iconst 5, 1), (6, .newarray .int, 2), (8, .putfield 7, 3), (11, .aload_n 0, 1), (12, .iconst 4, 1), (13, .newarray .int, 2), (15, .putfield 13, 3), (18, .aload_n 0, 1), (19, .bipush 8, 2), (21, .newarray .int, 2), (23, .putfield 16, 3), (26, .aload_n 0, 1), (27, .bipush 8, 2), (29, .newarray .int, 2), (31, .putfield 19, 3), (34, .aload_n 0, 1), (35, .bipush 8, 2), (37, .newarray .int, 2), (39, .putfield 22, 3), (42, .aload_n 0, 1), (43, .sipush 138, 3), (46, .newarray .int, 2), (48, .putfield 25, 3), (51, .aload_n 0, 1), (52, .sipush 250, 3), (55, .newarray .int, 2), (57, .putfield 28, 3), (60, .aload_n 0, 1), (61, .iconst (-1), 1), (62, .putfield 31, 3), (65, .aload_n 0, 1), (66, .iconst 3, 1), (67, .newarray .int, 2), (69, .putfield 35, 3), (72, .aload_n 0, 1), (73, .iconst 5, 1), (74, .newarray .int, 2), (76, .putfield 38, 3), (79, .aload_n 0, 1), (80, .iconst 5, 1), (81, .newarray .int, 2), (83, .putfield 41, 3), (86, .aload_n 0, 1), (87, .bipush 120, 2), (89, .newarray .int, 2), (91, .putfield 44, 3), (94, .aload_n 0, 1), (95, .iconst 5, 1), (96, .newarray .int, 2), (98, .putfield 47, 3), (101, .aload_n 0, 1), (102, .iconst 4, 1), (103, .newarray .int, 2), (105, .putfield 50, 3), (108, .aload_n 0, 1), (109, .bipush 8, 2), (111, .newarray .int, 2)]
theorem tk_X6_init : am_tbl prog_8_method_1_code tb_X6_init = true := by decide +kernel
def tb_X6_init_1 : List (Nat × Instr × Nat) := [(113, .putfield 53, 3), (116, .aload_n 0, 1), (117, .bipush 8, 2), (119, .newarray .int, 2), (121, .putfield 56, 3), (124, .aload_n 0, 1), (125, .bipush 8, 2), (127, .newarray .int, 2), (129, .putfield 59, 3), (132, .aload_n 0, 1), (133, .sipush 138, 3), (136, .newarray .int, 2), (138, .putfield 62, 3), (141, .aload_n 0, 1), (142, .sipush 1000, 3), (145, .newarray .int, 2), (147, .putfield 65, 3), (150, .aload_n 0, 1), (151, .sipush 1000, 3), (154, .newarray .int, 2), (156, .putfield 68, 3), (159, .aload_n 0, 1), (160, .bipush 24, 2), (162, .newarray .int, 2), (164, .putfield 71, 3), (167, .aload_n 0, 1), (168, .iconst 5, 1), (169, .newarray .int, 2), (171, .putfield 74, 3), (174, .aload_n 0, 1), (175, .sipush 201, 3), (178, .newarray .int, 2), (180, .putfield 77, 3), (183, .aload_n 0, 1), (184, .bipush 15, 2), (186, .newarray .int, 2), (188, .putfield 80, 3), (191, .aload_n 0, 1), (192, .bipush 15, 2), (194, .newarray .int, 2), (196, .putfield 83, 3), (199, .aload_n 0, 1), (200, .sipush 278, 3), (203, .newarray .int, 2), (205, .putfield 86, 3), (208, .aload_n 0, 1), (209, .iconst 2, 1), (210, .newarray .boolean, 2), (212, .putfield 89, 3), (215, .aload_n 0, 1), (216, .iconst 0, 1), (217, .putfield 93, 3), (220, .return_, 1)]
theorem tk_X6_init_1 : am_tbl prog_8_method_1_code tb_X6_init_1 = true := by decide +kernel
def k_X6_init_1 (h : am_H) (b n : Nat) : am_H := am_addn (h) n (0, 5)
theorem kx_X6_init_1 {h : am_H} (b : Nat) {n : Nat} (hn : h.1.length = n) : am_ext h (k_X6_init_1 h b n) n (n + 1) := (am_ext.rf hn).add _
def k_X6_init_2 (h : am_H) (b n : Nat) : am_H := am_put (k_X6_init_1 h b n) b 4 n
theorem kx_X6_init_2 {h : am_H} (b : Nat) {n : Nat} (hn : h.1.length = n) : am_ext h (k_X6_init_2 h b n) n (n + 1) := (kx_X6_init_1 b hn).put _ _ _
def k_X6_init_3 (h : am_H) (b n : Nat) : am_H := am_addn (k_X6_init_2 h b n) (n + 1) (0, 4)
theorem kx_X6_init_3 {h : am_H} (b : Nat) {n : Nat} (hn : h.1.length = n) : am_ext h (k_X6_init_3 h b n) n (n + 2) := (kx_X6_init_2 b hn).add _
def k_X6_init_4 (h : am_H) (b n : Nat) : am_H := am_put (k_X6_init_3 h b n) b 6 (n + 1)
theorem kx_X6_init_4 {h : am_H} (b : Nat) {n : Nat} (hn : h.1.length = n) : am_ext h (k_X6_init_4 h b n) n (n + 2) := (kx_X6_init_3 b hn).put _ _ _
def k_X6_init_5 (h : am_H) (b n : Nat) : am_H := am_addn (k_X6_init_4 h b n) (n + 2) (0, 8)
theorem kx_X6_init_5 {h : am_H} (b : Nat) {n : Nat} (hn : h.1.length = n) : am_ext h (k_X6_init_5 h b n) n (n + 3) := (kx_X6_init_4 b hn).add _
def k_X6_init_6 (h : am_H) (b n : Nat) : am_H := am_put (k_X6_init_5 h b n) b 8 (n + 2)
theorem kx_X6_init_6 {h : am_H} (b : Nat) {n : Nat} (hn : h.1.length = n) : am_ext h (k_X6_init_6 h b n) n (n + 3) := (kx_X6_init_5 b hn).put _ _ _
def k_X6_init_7 (h : am_H) (b n : Nat) : am_H := am_addn (k_X6_init_6 h b n) (n + 3) (0, 8)
theorem kx_X6_init_7 {h : am_H} (b : Nat) {n : Nat} (hn : h.1.length = n) : am_ext h (k_X6_init_7 h b n) n (n + 4) := (kx_X6_init_6 b hn).add _
def k_X6_init_8 (h : am_H) (b n : Nat) : am_H := am_put (k_X6_init_7 h b n) b 9 (n + 3)
theorem kx_X6_init_8 {h : am_H} (b : Nat) {n : Nat} (hn : h.1.length = n) : am_ext h (k_X6_init_8 h b n) n (n + 4) := (kx_X6_init_7 b hn).put _ _ _
def k_X6_init_9 (h : am_H) (b n : Nat) : am_H := am_addn (k_X6_init_8 h b n) (n + 4) (0, 8)
theorem kx_X6_init_9 {h : am_H} (b : Nat) {n : Nat} (hn : h.1.length = n) : am_ext h (k_X6_init_9 h b n) n (n + 5) := (kx_X6_init_8 b hn).add _
def k_X6_init_10 (h : am_H) (b n : Nat) : am_H := am_put (k_X6_init_9 h b n) b 10 (n + 4)
theorem kx_X6_init_10 {h : am_H} (b : Nat) {n : Nat} (hn : h.1.length = n) : am_ext h (k_X6_init_10 h b n) n (n + 5) := (kx_X6_init_9 b hn).put _ _ _
def k_X6_init_11 (h : am_H) (b n : Nat) : am_H := am_addn (k_X6_init_10 h b n) (n + 5) (0, 138)
theorem kx_X6_init_11 {h : am_H} (b : Nat) {n : Nat} (hn : h.1.length = n) : am_ext h (k_X6_init_11 h b n) n (n + 6) := (kx_X6_init_10 b hn).add _
def k_X6_init_12 (h : am_H) (b n : Nat) : am_H := am_put (k_X6_init_11 h b n) b 11 (n + 5)
theorem kx_X6_init_12 {h : am_H} (b : Nat) {n : Nat} (hn : h.1.length = n) : am_ext h (k_X6_init_12 h b n) n (n + 6) := (kx_X6_init_11 b hn).put _ _ _
def k_X6_init_13 (h : am_H) (b n : Nat) : am_H := am_addn (k_X6_init_12 h b n) (n + 6) (0, 250)
theorem kx_X6_init_13 {h : am_H} (b : Nat) {n : Nat} (hn : h.1.length = n) : am_ext h (k_X6_init_13 h b n) n (n + 7) := (kx_X6_init_12 b hn).add _
def k_X6_init_14 (h : am_H) (b n : Nat) : am_H := am_put (k_X6_init_13 h b n) b 13 (n + 6)
theorem kx_X6_init_14 {h : am_H} (b : Nat) {n : Nat} (hn : h.1.length = n) : am_ext h (k_X6_init_14 h b n) n (n + 7) := (kx_X6_init_13 b hn).put _ _ _
def k_X6_init_15 (h : am_H) (b n : Nat) : am_H := am_pui (k_X6_init_14 h b n) b 15 (-1)
theorem kx_X6_init_15 {h : am_H} (b : Nat) {n : Nat} (hn : h.1.length = n) : am_ext h (k_X6_init_15 h b n) n (n + 7) := (kx_X6_init_14 b hn).pui _ _ _
def k_X6_init_16 (h : am_H) (b n : Nat) : am_H := am_addn (k_X6_init_15 h b n) (n + 7) (0, 3)
theorem kx_X6_init_16 {h : am_H} (b : Nat) {n : Nat} (hn : h.1.length = n) : am_ext h (k_X6_init_16 h b n) n (n + 8) := (kx_X6_init_15 b hn).add _
def k_X6_init_17 (h : am_H) (b n : Nat) : am_H := am_put (k_X6_init_16 h b n) b 19 (n + 7)
theorem kx_X6_init_17 {h : am_H} (b : Nat) {n : Nat} (hn : h.1.length = n) : am_ext h (k_X6_init_17 h b n) n (n + 8) := (kx_X6_init_16 b hn).put _ _ _
def k_X6_init_18 (h : am_H) (b n : Nat) : am_H := am_addn (k_X6_init_17 h b n) (n + 8) (0, 5)
theorem kx_X6_init_18 {h : am_H} (b : Nat) {n : Nat} (hn : h.1.length = n) : am_ext h (k_X6_init_18 h b n) n (n + 9) := (kx_X6_init_17 b hn).add _
def k_X6_init_19 (h : am_H) (b n : Nat) : am_H := am_put (k_X6_init_18 h b n) b 21 (n + 8)
theorem kx_X6_init_19 {h : am_H} (b : Nat) {n : Nat} (hn : h.1.length = n) : am_ext h (k_X6_init_19 h b n) n (n + 9) := (kx_X6_init_18 b hn).put _ _ _
def k_X6_init_20 (h : am_H) (b n : Nat) : am_H := am_addn (k_X6_init_19 h b n) (n + 9) (0, 5)
theorem kx_X6_init_20 {h : am_H} (b : Nat) {n : Nat} (hn : h.1.length = n) : am_ext h (k_X6_init_20 h b n) n (n + 10) := (kx_X6_init_19 b hn).add _
def k_X6_init_21 (h : am_H) (b n : Nat) : am_H := am_put (k_X6_init_20 h b n) b 22 (n + 9)
theorem kx_X6_init_21 {h : am_H} (b : Nat) {n : Nat} (hn : h.1.length = n) : am_ext h (k_X6_init_21 h b n) n (n + 10) := (kx_X6_init_20 b hn).put _ _ _
def k_X6_init_22 (h : am_H) (b n : Nat) : am_H := am_addn (k_X6_init_21 h b n) (n + 10) (0, 120)
theorem kx_X6_init_22 {h : am_H} (b : Nat) {n : Nat} (hn : h.1.length = n) : am_ext h (k_X6_init_22 h b n) n (n + 11) := (kx_X6_init_21 b hn).add _
def k_X6_init_23 (h : am_H) (b n : Nat) : am_H := am_put (k_X6_init_22 h b n) b 23 (n + 10)
theorem kx_X6_init_23 {h : am_H} (b : Nat) {n : Nat} (hn : h.1.length = n) : am_ext h (k_X6_init_23 h b n) n (n + 11) := (kx_X6_init_22 b hn).put _ _ _
def k_X6_init_24 (h : am_H) (b n : Nat) : am_H := am_addn (k_X6_init_23 h b n) (n + 11) (0, 5)
theorem kx_X6_init_24 {h : am_H} (b : Nat) {n : Nat} (hn : h.1.length = n) : am_ext h (k_X6_init_24 h b n) n (n + 12) := (kx_X6_init_23 b hn).add _
def k_X6_init_25 (h : am_H) (b n : Nat) : am_H := am_put (k_X6_init_24 h b n) b 24 (n + 11)
theorem kx_X6_init_25 {h : am_H} (b : Nat) {n : Nat} (hn : h.1.length = n) : am_ext h (k_X6_init_25 h b n) n (n + 12) := (kx_X6_init_24 b hn).put _ _ _
def k_X6_init_26 (h : am_H) (b n : Nat) : am_H := am_addn (k_X6_init_25 h b n) (n + 12) (0, 4)
theorem kx_X6_init_26 {h : am_H} (b : Nat) {n : Nat} (hn : h.1.length = n) : am_ext h (k_X6_init_26 h b n) n (n + 13) := (kx_X6_init_25 b hn).add _
def k_X6_init_27 (h : am_H) (b n : Nat) : am_H := am_put (k_X6_init_26 h b n) b 27 (n + 12)
theorem kx_X6_init_27 {h : am_H} (b : Nat) {n : Nat} (hn : h.1.length = n) : am_ext h (k_X6_init_27 h b n) n (n + 13) := (kx_X6_init_26 b hn).put _ _ _
def k_X6_init_28 (h : am_H) (b n : Nat) : am_H := am_addn (k_X6_init_27 h b n) (n + 13) (0, 8)
theorem kx_X6_init_28 {h : am_H} (b : Nat) {n : Nat} (hn : h.1.length = n) : am_ext h (k_X6_init_28 h b n) n (n + 14) := (kx_X6_init_27 b hn).add _
def k_X6_init_29 (h : am_H) (b n : Nat) : am_H := am_put (k_X6_init_28 h b n) b 29 (n + 13)
theorem kx_X6_init_29 {h : am_H} (b : Nat) {n : Nat} (hn : h.1.length = n) : am_ext h (k_X6_init_29 h b n) n (n + 14) := (kx_X6_init_28 b hn).put _ _ _
def k_X6_init_30 (h : am_H) (b n : Nat) : am_H := am_addn (k_X6_init_29 h b n) (n + 14) (0, 8)
theorem kx_X6_init_30 {h : am_H} (b : Nat) {n : Nat} (hn : h.1.length = n) : am_ext h (k_X6_init_30 h b n) n (n + 15) := (kx_X6_init_29 b hn).add _
def k_X6_init_31 (h : am_H) (b n : Nat) : am_H := am_put (k_X6_init_30 h b n) b 30 (n + 14)
theorem kx_X6_init_31 {h : am_H} (b : Nat) {n : Nat} (hn : h.1.length = n) : am_ext h (k_X6_init_31 h b n) n (n + 15) := (kx_X6_init_30 b hn).put _ _ _
def k_X6_init_32 (h : am_H) (b n : Nat) : am_H := am_addn (k_X6_init_31 h b n) (n + 15) (0, 8)
theorem kx_X6_init_32 {h : am_H} (b : Nat) {n : Nat} (hn : h.1.length = n) : am_ext h (k_X6_init_32 h b n) n (n + 16) := (kx_X6_init_31 b hn).add _
def k_X6_init_33 (h : am_H) (b n : Nat) : am_H := am_put (k_X6_init_32 h b n) b 31 (n + 15)
theorem kx_X6_init_33 {h : am_H} (b : Nat) {n : Nat} (hn : h.1.length = n) : am_ext h (k_X6_init_33 h b n) n (n + 16) := (kx_X6_init_32 b hn).put _ _ _
def k_X6_init_34 (h : am_H) (b n : Nat) : am_H := am_addn (k_X6_init_33 h b n) (n + 16) (0, 138)
theorem kx_X6_init_34 {h : am_H} (b : Nat) {n : Nat} (hn : h.1.length = n) : am_ext h (k_X6_init_34 h b n) n (n + 17) := (kx_X6_init_33 b hn).add _
def k_X6_init_35 (h : am_H) (b n : Nat) : am_H := am_put (k_X6_init_34 h b n) b 32 (n + 16)
theorem kx_X6_init_35 {h : am_H} (b : Nat) {n : Nat} (hn : h.1.length = n) : am_ext h (k_X6_init_35 h b n) n (n + 17) := (kx_X6_init_34 b hn).put _ _ _
def k_X6_init_36 (h : am_H) (b n : Nat) : am_H := am_addn (k_X6_init_35 h b n) (n + 17) (0, 1000)
theorem kx_X6_init_36 {h : am_H} (b : Nat) {n : Nat} (hn : h.1.length = n) : am_ext h (k_X6_init_36 h b n) n (n + 18) := (kx_X6_init_35 b hn).add _
def k_X6_init_37 (h : am_H) (b n : Nat) : am_H := am_put (k_X6_init_36 h b n) b 33 (n + 17)
theorem kx_X6_init_37 {h : am_H} (b : Nat) {n : Nat} (hn : h.1.length = n) : am_ext h (k_X6_init_37 h b n) n (n + 18) := (kx_X6_init_36 b hn).put _ _ _
def k_X6_init_38 (h : am_H) (b n : Nat) : am_H := am_addn (k_X6_init_37 h b n) (n + 18) (0, 1000)
theorem kx_X6_init_38 {h : am_H} (b : Nat) {n : Nat} (hn : h.1.length = n) : am_ext h (k_X6_init_38 h b n) n (n + 19) := (kx_X6_init_37 b hn).add _
def k_X6_init_39 (h : am_H) (b n : Nat) : am_H := am_put (k_X6_init_38 h b n) b 34 (n + 18)
theorem kx_X6_init_39 {h : am_H} (b : Nat) {n : Nat} (hn : h.1.length = n) : am_ext h (k_X6_init_39 h b n) n (n + 19) := (kx_X6_init_38 b hn).put _ _ _
def k_X6_init_40 (h : am_H) (b n : Nat) : am_H := am_addn (k_X6_init_39 h b n) (n + 19) (0, 24)
theorem kx_X6_init_40 {h : am_H} (b : Nat) {n : Nat} (hn : h.1.length = n) : am_ext h (k_X6_init_40 h b n) n (n + 20) := (kx_X6_init_39 b hn).add _
def k_X6_init_41 (h : am_H) (b n : Nat) : am_H := am_put (k_X6_init_40 h b n) b 36 (n + 19)
theorem kx_X6_init_41 {h : am_H} (b : Nat) {n : Nat} (hn : h.1.length = n) : am_ext h (k_X6_init_41 h b n) n (n + 20) := (kx_X6_init_40 b hn).put _ _ _
def k_X6_init_42 (h : am_H) (b n : Nat) : am_H := am_addn (k_X6_init_41 h b n) (n + 20) (0, 5)
theorem kx_X6_init_42 {h : am_H} (b : Nat) {n : Nat} (hn : h.1.length = n) : am_ext h (k_X6_init_42 h b n) n (n + 21) := (kx_X6_init_41 b hn).add _
def k_X6_init_43 (h : am_H) (b n : Nat) : am_H := am_put (k_X6_init_42 h b n) b 37 (n + 20)
theorem kx_X6_init_43 {h : am_H} (b : Nat) {n : Nat} (hn : h.1.length = n) : am_ext h (k_X6_init_43 h b n) n (n + 21) := (kx_X6_init_42 b hn).put _ _ _
def k_X6_init_44 (h : am_H) (b n : Nat) : am_H := am_addn (k_X6_init_43 h b n) (n + 21) (0, 201)
theorem kx_X6_init_44 {h : am_H} (b : Nat) {n : Nat} (hn : h.1.length = n) : am_ext h (k_X6_init_44 h b n) n (n + 22) := (kx_X6_init_43 b hn).add _
def k_X6_init_45 (h : am_H) (b n : Nat) : am_H := am_put (k_X6_init_44 h b n) b 38 (n + 21)
theorem kx_X6_init_45 {h : am_H} (b : Nat) {n : Nat} (hn : h.1.length = n) : am_ext h (k_X6_init_45 h b n) n (n + 22) := (kx_X6_init_44 b hn).put _ _ _
def k_X6_init_46 (h : am_H) (b n : Nat) : am_H := am_addn (k_X6_init_45 h b n) (n + 22) (0, 15)
theorem kx_X6_init_46 {h : am_H} (b : Nat) {n : Nat} (hn : h.1.length = n) : am_ext h (k_X6_init_46 h b n) n (n + 23) := (kx_X6_init_45 b hn).add _
def k_X6_init_47 (h : am_H) (b n : Nat) : am_H := am_put (k_X6_init_46 h b n) b 40 (n + 22)
theorem kx_X6_init_47 {h : am_H} (b : Nat) {n : Nat} (hn : h.1.length = n) : am_ext h (k_X6_init_47 h b n) n (n + 23) := (kx_X6_init_46 b hn).put _ _ _
def k_X6_init_48 (h : am_H) (b n : Nat) : am_H := am_addn (k_X6_init_47 h b n) (n + 23) (0, 15)
theorem kx_X6_init_48 {h : am_H} (b : Nat) {n : Nat} (hn : h.1.length = n) : am_ext h (k_X6_init_48 h b n) n (n + 24) := (kx_X6_init_47 b hn).add _
def k_X6_init_49 (h : am_H) (b n : Nat) : am_H := am_put (k_X6_init_48 h b n) b 41 (n + 23)
theorem kx_X6_init_49 {h : am_H} (b : Nat) {n : Nat} (hn : h.1.length = n) : am_ext h (k_X6_init_49 h b n) n (n + 24) := (kx_X6_init_48 b hn).put _ _ _
def k_X6_init_50 (h : am_H) (b n : Nat) : am_H := am_addn (k_X6_init_49 h b n) (n + 24) (0, 278)
theorem kx_X6_init_50 {h : am_H} (b : Nat) {n : Nat} (hn : h.1.length = n) : am_ext h (k_X6_init_50 h b n) n (n + 25) := (kx_X6_init_49 b hn).add _
def k_X6_init_51 (h : am_H) (b n : Nat) : am_H := am_put (k_X6_init_50 h b n) b 42 (n + 24)
theorem kx_X6_init_51 {h : am_H} (b : Nat) {n : Nat} (hn : h.1.length = n) : am_ext h (k_X6_init_51 h b n) n (n + 25) := (kx_X6_init_50 b hn).put _ _ _
def k_X6_init_52 (h : am_H) (b n : Nat) : am_H := am_addn (k_X6_init_51 h b n) (n + 25) (1, 2)
theorem kx_X6_init_52 {h : am_H} (b : Nat) {n : Nat} (hn : h.1.length = n) : am_ext h (k_X6_init_52 h b n) n (n + 26) := (kx_X6_init_51 b hn).add _
def k_X6_init_53 (h : am_H) (b n : Nat) : am_H := am_put (k_X6_init_52 h b n) b 43 (n + 25)
theorem kx_X6_init_53 {h : am_H} (b : Nat) {n : Nat} (hn : h.1.length = n) : am_ext h (k_X6_init_53 h b n) n (n + 26) := (kx_X6_init_52 b hn).put _ _ _
def k_X6_init_54 (h : am_H) (b n : Nat) : am_H := am_pui (k_X6_init_53 h b n) b 0 0
theorem kx_X6_init_54 {h : am_H} (b : Nat) {n : Nat} (hn : h.1.length = n) : am_ext h (k_X6_init_54 h b n) n (n + 26) := (kx_X6_init_53 b hn).pui _ _ _
def k_X6_init (h : am_H) (b n : Nat) : am_H := k_X6_init_54 h b n
theorem kx_X6_init {h : am_H} (b : Nat) {n : Nat} (hn : h.1.length = n) : am_ext h (k_X6_init h b n) n (n + 26) := kx_X6_init_54 b hn
theorem ct_X6_init {l : Launch} {h : am_H} {b n : Nat} (hn : h.1.length = n) (hm : n + 27 ≤ 900000) (hb : h.1[b]? = some (8, 0)) : am_CT l m_X6_init true [.ref b] h (am_is none (k_X6_init h b n)) := by
  refine am_CT.of (by decide) (Nat.le_of_ble_eq_true rfl) ?_
  show am_Ex _ _ _ 0 [(0, .ref b)] [] _
  refine am_aload_n (j := 0) (am_dk tk_X6_init 0 rfl) rfl rfl ?_
  refine am_obj lo_X6_1 (Nat.le_of_ble_eq_true rfl) (Nat.le_of_ble_eq_true rfl) (am_dk tk_X6_init 1 rfl) ?_
  refine am_aload_n (j := 0) (am_dk tk_X6_init 2 rfl) rfl rfl ?_
  refine am_iconst (v := 5) (am_dk tk_X6_init 3 rfl) (by decide) ?_
  refine am_newaN (p0 := n) (t := 0) (N := 5) (ty := .int) (am_ext.rf hn).2.1 rfl (Or.inl ⟨rfl, rfl⟩) rfl (by have q1 : h.1.length = n := hn; show h.1.length ≤ _; omega) (by omega) (am_okL1 (Nat.lt_of_lt_of_le (am_at_lt hn hb) (am_ext.rf hn).2.2.1)) (am_okS1 (Nat.lt_of_lt_of_le (am_at_lt hn hb) (am_ext.rf hn).2.2.1)) (am_tb 149 (by decide +kernel) (by decide +kernel)) (by decide) (by decide) (by decide) ⟨Nat.le_of_ble_eq_true rfl, Nat.le_of_ble_eq_true rfl⟩ (am_dk tk_X6_init 4 rfl) ?_
  refine am_h (h' := k_X6_init_1 h b n) rfl ?_
  refine am_putF (c := 6) (z := 0) (k := 4) (b := n) (fun _ _ _ _ _ _ q => q.2.2) (by rw [(kx_X6_init_1 b hn).2.1]; omega) ((kx_X6_init_1 b hn).2.2.2 _ _ hb) fl_X6_7 rfl rfl rfl rfl (am_dk tk_X6_init 5 rfl) ?_
  refine am_h (h' := k_X6_init_2 h b n) rfl ?_
  refine am_aload_n (j := 0) (am_dk tk_X6_init 6 rfl) rfl rfl ?_
  refine am_iconst (v := 4) (am_dk tk_X6_init 7 rfl) (by decide) ?_
  refine am_newaN (p0 := (n + 1)) (t := 0) (N := 4) (ty := .int) (kx_X6_init_2 b hn).2.1 rfl (Or.inl ⟨rfl, rfl⟩) rfl (by have q1 : h.1.length = n := hn; show h.1.length ≤ _; omega) (by omega) (am_okL1 (Nat.lt_of_lt_of_le (am_at_lt hn hb) (kx_X6_init_2 b hn).2.2.1)) (am_okS1 (Nat.lt_of_lt_of_le (am_at_lt hn hb) (kx_X6_init_2 b hn).2.2.1)) (am_tb 149 (by decide +kernel) (by decide +kernel)) (by decide) (by decide) (by decide) ⟨Nat.le_of_ble_eq_true rfl, Nat.le_of_ble_eq_true rfl⟩ (am_dk tk_X6_init 8 rfl) ?_
  refine am_h (h' := k_X6_init_3 h b n) rfl ?_
  refine am_putF (c := 6) (z := 0) (k := 6) (b := (n + 1)) (fun _ _ _ _ _ _ q => q.2.2) (by rw [(kx_X6_init_3 b hn).2.1]; omega) ((kx_X6_init_3 b hn).2.2.2 _ _ hb) fl_X6_13 rfl rfl rfl rfl (am_dk tk_X6_init 9 rfl) ?_
  refine am_h (h' := k_X6_init_4 h b n) rfl ?_
  refine am_aload_n (j := 0) (am_dk tk_X6_init 10 rfl) rfl rfl ?_
  refine am_bipush (v := 8) (am_dk tk_X6_init 11 rfl) (by decide) ?_
  refine am_newaN (p0 := (n + 2)) (t := 0) (N := 8) (ty := .int) (kx_X6_init_4 b hn).2.1 rfl (Or.inl ⟨rfl, rfl⟩) rfl (by have q1 : h.1.length = n := hn; show h.1.length ≤ _; omega) (by omega) (am_okL1 (Nat.lt_of_lt_of_le (am_at_lt hn hb) (kx_X6_init_4 b hn).2.2.1)) (am_okS1 (Nat.lt_of_lt_of_le (am_at_lt hn hb) (kx_X6_init_4 b hn).2.2.1)) (am_tb 149 (by decide +kernel) (by decide +kernel)) (by decide) (by decide) (by decide) ⟨Nat.le_of_ble_eq_true rfl, Nat.le_of_ble_eq_true rfl⟩ (am_dk tk_X6_init 12 rfl) ?_
  refine am_h (h' := k_X6_init_5 h b n) rfl ?_
  refine am_putF (c := 6) (z := 0) (k := 8) (b := (n + 2)) (fun _ _ _ _ _ _ q => q.2.2) (by rw [(kx_X6_init_5 b hn).2.1]; omega) ((kx_X6_init_5 b hn).2.2.2 _ _ hb) fl_X6_16 rfl rfl rfl rfl (am_dk tk_X6_init 13 rfl) ?_
  refine am_h (h' := k_X6_init_6 h b n) rfl ?_
  refine am_aload_n (j := 0) (am_dk tk_X6_init 14 rfl) rfl rfl ?_
  refine am_bipush (v := 8) (am_dk tk_X6_init 15 rfl) (by decide) ?_
  refine am_newaN (p0 := (n + 3)) (t := 0) (N := 8) (ty := .int) (kx_X6_init_6 b hn).2.1 rfl (Or.inl ⟨rfl, rfl⟩) rfl (by have q1 : h.1.length = n := hn; show h.1.length ≤ _; omega) (by omega) (am_okL1 (Nat.lt_of_lt_of_le (am_at_lt hn hb) (kx_X6_init_6 b hn).2.2.1)) (am_okS1 (Nat.lt_of_lt_of_le (am_at_lt hn hb) (kx_X6_init_6 b hn).2.2.1)) (am_tb 149 (by decide +kernel) (by decide +kernel)) (by decide) (by decide) (by decide) ⟨Nat.le_of_ble_eq_true rfl, Nat.le_of_ble_eq_true rfl⟩ (am_dk tk_X6_init 16 rfl) ?_
  refine am_h (h' := k_X6_init_7 h b n) rfl ?_
  refine am_putF (c := 6) (z := 0) (k := 9) (b := (n + 3)) (fun _ _ _ _ _ _ q => q.2.2) (by rw [(kx_X6_init_7 b hn).2.1]; omega) ((kx_X6_init_7 b hn).2.2.2 _ _ hb) fl_X6_19 rfl rfl rfl rfl (am_dk tk_X6_init 17 rfl) ?_
  refine am_h (h' := k_X6_init_8 h b n) rfl ?_
  refine am_aload_n (j := 0) (am_dk tk_X6_init 18 rfl) rfl rfl ?_
  refine am_bipush (v := 8) (am_dk tk_X6_init 19 rfl) (by decide) ?_
  refine am_newaN (p0 := (n + 4)) (t := 0) (N := 8) (ty := .int) (kx_X6_init_8 b hn).2.1 rfl (Or.inl ⟨rfl, rfl⟩) rfl (by have q1 : h.1.length = n := hn; show h.1.length ≤ _; omega) (by omega) (am_okL1 (Nat.lt_of_lt_of_le (am_at_lt hn hb) (kx_X6_init_8 b hn).2.2.1)) (am_okS1 (Nat.lt_of_lt_of_le (am_at_lt hn hb) (kx_X6_init_8 b hn).2.2.1)) (am_tb 149 (by decide +kernel) (by decide +kernel)) (by decide) (by decide) (by decide) ⟨Nat.le_of_ble_eq_true rfl, Nat.le_of_ble_eq_true rfl⟩ (am_dk tk_X6_init 20 rfl) ?_
  refine am_h (h' := k_X6_init_9 h b n) rfl ?_
  refine am_putF (c := 6) (z := 0) (k := 10) (b := (n + 4)) (fun _ _ _ _ _ _ q => q.2.2) (by rw [(kx_X6_init_9 b hn).2.1]; omega) ((kx_X6_init_9 b hn).2.2.2 _ _ hb) fl_X6_22 rfl rfl rfl rfl (am_dk tk_X6_init 21 rfl) ?_
  refine am_h (h' := k_X6_init_10 h b n) rfl ?_
  refine am_aload_n (j := 0) (am_dk tk_X6_init 22 rfl) rfl rfl ?_
  refine am_sipush (v := 138) (am_dk tk_X6_init 23 rfl) (by decide) ?_
  refine am_newaN (p0 := (n + 5)) (t := 0) (N := 138) (ty := .int) (kx_X6_init_10 b hn).2.1 rfl (Or.inl ⟨rfl, rfl⟩) rfl (by have q1 : h.1.length = n := hn; show h.1.length ≤ _; omega) (by omega) (am_okL1 (Nat.lt_of_lt_of_le (am_at_lt hn hb) (kx_X6_init_10 b hn).2.2.1)) (am_okS1 (Nat.lt_of_lt_of_le (am_at_lt hn hb) (kx_X6_init_10 b hn).2.2.1)) (am_tb 149 (by decide +kernel) (by decide +kernel)) (by decide) (by decide) (by decide) ⟨Nat.le_of_ble_eq_true rfl, Nat.le_of_ble_eq_true rfl⟩ (am_dk tk_X6_init 24 rfl) ?_
  refine am_h (h' := k_X6_init_11 h b n) rfl ?_
  refine am_putF (c := 6) (z := 0) (k := 11) (b := (n + 5)) (fun _ _ _ _ _ _ q => q.2.2) (by rw [(kx_X6_init_11 b hn).2.1]; omega) ((kx_X6_init_11 b hn).2.2.2 _ _ hb) fl_X6_25 rfl rfl rfl rfl (am_dk tk_X6_init 25 rfl) ?_
  refine am_h (h' := k_X6_init_12 h b n) rfl ?_
  refine am_aload_n (j := 0) (am_dk tk_X6_init 26 rfl) rfl rfl ?_
  refine am_sipush (v := 250) (am_dk tk_X6_init 27 rfl) (by decide) ?_
  refine am_newaN (p0 := (n + 6)) (t := 0) (N := 250) (ty := .int) (kx_X6_init_12 b hn).2.1 rfl (Or.inl ⟨rfl, rfl⟩) rfl (by have q1 : h.1.length = n := hn; show h.1.length ≤ _; omega) (by omega) (am_okL1 (Nat.lt_of_lt_of_le (am_at_lt hn hb) (kx_X6_init_12 b hn).2.2.1)) (am_okS1 (Nat.lt_of_lt_of_le (am_at_lt hn hb) (kx_X6_init_12 b hn).2.2.1)) (am_tb 149 (by decide +kernel) (by decide +kernel)) (by decide) (by decide) (by decide) ⟨Nat.le_of_ble_eq_true rfl, Nat.le_of_ble_eq_true rfl⟩ (am_dk tk_X6_init 28 rfl) ?_
  refine am_h (h' := k_X6_init_13 h b n) rfl ?_
  refine am_putF (c := 6) (z := 0) (k := 13) (b := (n + 6)) (fun _ _ _ _ _ _ q => q.2.2) (by rw [(kx_X6_init_13 b hn).2.1]; omega) ((kx_X6_init_13 b hn).2.2.2 _ _ hb) fl_X6_28 rfl rfl rfl rfl (am_dk tk_X6_init 29 rfl) ?_
  refine am_h (h' := k_X6_init_14 h b n) rfl ?_
  refine am_aload_n (j := 0) (am_dk tk_X6_init 30 rfl) rfl rfl ?_
  refine am_iconst (v := (-1)) (am_dk tk_X6_init 31 rfl) (by decide) ?_
  refine am_puti (c := 6) (z := 0) (k := 15) ((kx_X6_init_14 b hn).2.2.2 _ _ hb) fl_X6_31 rfl rfl (am_dk tk_X6_init 32 rfl) ?_
  refine am_h (h' := k_X6_init_15 h b n) rfl ?_
  refine am_aload_n (j := 0) (am_dk tk_X6_init 33 rfl) rfl rfl ?_
  refine am_iconst (v := 3) (am_dk tk_X6_init 34 rfl) (by decide) ?_
  refine am_newaN (p0 := (n + 7)) (t := 0) (N := 3) (ty := .int) (kx_X6_init_15 b hn).2.1 rfl (Or.inl ⟨rfl, rfl⟩) rfl (by have q1 : h.1.length = n := hn; show h.1.length ≤ _; omega) (by omega) (am_okL1 (Nat.lt_of_lt_of_le (am_at_lt hn hb) (kx_X6_init_15 b hn).2.2.1)) (am_okS1 (Nat.lt_of_lt_of_le (am_at_lt hn hb) (kx_X6_init_15 b hn).2.2.1)) (am_tb 149 (by decide +kernel) (by decide +kernel)) (by decide) (by decide) (by decide) ⟨Nat.le_of_ble_eq_true rfl, Nat.le_of_ble_eq_true rfl⟩ (am_dk tk_X6_init 35 rfl) ?_
  refine am_h (h' := k_X6_init_16 h b n) rfl ?_
  refine am_putF (c := 6) (z := 0) (k := 19) (b := (n + 7)) (fun _ _ _ _ _ _ q => q.2.2) (by rw [(kx_X6_init_16 b hn).2.1]; omega) ((kx_X6_init_16 b hn).2.2.2 _ _ hb) fl_X6_35 rfl rfl rfl rfl (am_dk tk_X6_init 36 rfl) ?_
  refine am_h (h' := k_X6_init_17 h b n) rfl ?_
  refine am_aload_n (j := 0) (am_dk tk_X6_init 37 rfl) rfl rfl ?_
  refine am_iconst (v := 5) (am_dk tk_X6_init 38 rfl) (by decide) ?_
  refine am_newaN (p0 := (n + 8)) (t := 0) (N := 5) (ty := .int) (kx_X6_init_17 b hn).2.1 rfl (Or.inl ⟨rfl, rfl⟩) rfl (by have q1 : h.1.length = n := hn; show h.1.length ≤ _; omega) (by omega) (am_okL1 (Nat.lt_of_lt_of_le (am_at_lt hn hb) (kx_X6_init_17 b hn).2.2.1)) (am_okS1 (Nat.lt_of_lt_of_le (am_at_lt hn hb) (kx_X6_init_17 b hn).2.2.1)) (am_tb 149 (by decide +kernel) (by decide +kernel)) (by decide) (by decide) (by decide) ⟨Nat.le_of_ble_eq_true rfl, Nat.le_of_ble_eq_true rfl⟩ (am_dk tk_X6_init 39 rfl) ?_
  refine am_h (h' := k_X6_init_18 h b n) rfl ?_
  refine am_putF (c := 6) (z := 0) (k := 21) (b := (n + 8)) (fun _ _ _ _ _ _ q => q.2.2) (by rw [(kx_X6_init_18 b hn).2.1]; omega) ((kx_X6_init_18 b hn).2.2.2 _ _ hb) fl_X6_38 rfl rfl rfl rfl (am_dk tk_X6_init 40 rfl) ?_
  refine am_h (h' := k_X6_init_19 h b n) rfl ?_
  refine am_aload_n (j := 0) (am_dk tk_X6_init 41 rfl) rfl rfl ?_
  refine am_iconst (v := 5) (am_dk tk_X6_init 42 rfl) (by decide) ?_
  refine am_newaN (p0 := (n + 9)) (t := 0) (N := 5) (ty := .int) (kx_X6_init_19 b hn).2.1 rfl (Or.inl ⟨rfl, rfl⟩) rfl (by have q1 : h.1.length = n := hn; show h.1.length ≤ _; omega) (by omega) (am_okL1 (Nat.lt_of_lt_of_le (am_at_lt hn hb) (kx_X6_init_19 b hn).2.2.1)) (am_okS1 (Nat.lt_of_lt_of_le (am_at_lt hn hb) (kx_X6_init_19 b hn).2.2.1)) (am_tb 149 (by decide +kernel) (by decide +kernel)) (by decide) (by decide) (by decide) ⟨Nat.le_of_ble_eq_true rfl, Nat.le_of_ble_eq_true rfl⟩ (am_dk tk_X6_init 43 rfl) ?_
  refine am_h (h' := k_X6_init_20 h b n) rfl ?_
  refine am_putF (c := 6) (z := 0) (k := 22) (b := (n + 9)) (fun _ _ _ _ _ _ q => q.2.2) (by rw [(kx_X6_init_20 b hn).2.1]; omega) ((kx_X6_init_20 b hn).2.2.2 _ _ hb) fl_X6_41 rfl rfl rfl rfl (am_dk tk_X6_init 44 rfl) ?_
  refine am_h (h' := k_X6_init_21 h b n) rfl ?_
  refine am_aload_n (j := 0) (am_dk tk_X6_init 45 rfl) rfl rfl ?_
  refine am_bipush (v := 120) (am_dk tk_X6_init 46 rfl) (by decide) ?_
  refine am_newaN (p0 := (n + 10)) (t := 0) (N := 120) (ty := .int) (kx_X6_init_21 b hn).2.1 rfl (Or.inl ⟨rfl, rfl⟩) rfl (by have q1 : h.1.length = n := hn; show h.1.length ≤ _; omega) (by omega) (am_okL1 (Nat.lt_of_lt_of_le (am_at_lt hn hb) (kx_X6_init_21 b hn).2.2.1)) (am_okS1 (Nat.lt_of_lt_of_le (am_at_lt hn hb) (kx_X6_init_21 b hn).2.2.1)) (am_tb 149 (by decide +kernel) (by decide +kernel)) (by decide) (by decide) (by decide) ⟨Nat.le_of_ble_eq_true rfl, Nat.le_of_ble_eq_true rfl⟩ (am_dk tk_X6_init 47 rfl) ?_
  refine am_h (h' := k_X6_init_22 h b n) rfl ?_
  refine am_putF (c := 6) (z := 0) (k := 23) (b := (n + 10)) (fun _ _ _ _ _ _ q => q.2.2) (by rw [(kx_X6_init_22 b hn).2.1]; omega) ((kx_X6_init_22 b hn).2.2.2 _ _ hb) fl_X6_44 rfl rfl rfl rfl (am_dk tk_X6_init 48 rfl) ?_
  refine am_h (h' := k_X6_init_23 h b n) rfl ?_
  refine am_aload_n (j := 0) (am_dk tk_X6_init 49 rfl) rfl rfl ?_
  refine am_iconst (v := 5) (am_dk tk_X6_init 50 rfl) (by decide) ?_
  refine am_newaN (p0 := (n + 11)) (t := 0) (N := 5) (ty := .int) (kx_X6_init_23 b hn).2.1 rfl (Or.inl ⟨rfl, rfl⟩) rfl (by have q1 : h.1.length = n := hn; show h.1.length ≤ _; omega) (by omega) (am_okL1 (Nat.lt_of_lt_of_le (am_at_lt hn hb) (kx_X6_init_23 b hn).2.2.1)) (am_okS1 (Nat.lt_of_lt_of_le (am_at_lt hn hb) (kx_X6_init_23 b hn).2.2.1)) (am_tb 149 (by decide +kernel) (by decide +kernel)) (by decide) (by decide) (by decide) ⟨Nat.le_of_ble_eq_true rfl, Nat.le_of_ble_eq_true rfl⟩ (am_dk tk_X6_init 51 rfl) ?_
  refine am_h (h' := k_X6_init_24 h b n) rfl ?_
  refine am_putF (c := 6) (z := 0) (k := 24) (b := (n + 11)) (fun _ _ _ _ _ _ q => q.2.2) (by rw [(kx_X6_init_24 b hn).2.1]; omega) ((kx_X6_init_24 b hn).2.2.2 _ _ hb) fl_X6_47 rfl rfl rfl rfl (am_dk tk_X6_init 52 rfl) ?_
  refine am_h (h' := k_X6_init_25 h b n) rfl ?_
  refine am_aload_n (j := 0) (am_dk tk_X6_init 53 rfl) rfl rfl ?_
  refine am_iconst (v := 4) (am_dk tk_X6_init 54 rfl) (by decide) ?_
  refine am_newaN (p0 := (n + 12)) (t := 0) (N := 4) (ty := .int) (kx_X6_init_25 b hn).2.1 rfl (Or.inl ⟨rfl, rfl⟩) rfl (by have q1 : h.1.length = n := hn; show h.1.length ≤ _; omega) (by omega) (am_okL1 (Nat.lt_of_lt_of_le (am_at_lt hn hb) (kx_X6_init_25 b hn).2.2.1)) (am_okS1 (Nat.lt_of_lt_of_le (am_at_lt hn hb) (kx_X6_init_25 b hn).2.2.1)) (am_tb 149 (by decide +kernel) (by decide +kernel)) (by decide) (by decide) (by decide) ⟨Nat.le_of_ble_eq_true rfl, Nat.le_of_ble_eq_true rfl⟩ (am_dk tk_X6_init 55 rfl) ?_
  refine am_h (h' := k_X6_init_26 h b n) rfl ?_
  refine am_putF (c := 6) (z := 0) (k := 27) (b := (n + 12)) (fun _ _ _ _ _ _ q => q.2.2) (by rw [(kx_X6_init_26 b hn).2.1]; omega) ((kx_X6_init_26 b hn).2.2.2 _ _ hb) fl_X6_50 rfl rfl rfl rfl (am_dk tk_X6_init 56 rfl) ?_
  refine am_h (h' := k_X6_init_27 h b n) rfl ?_
  refine am_aload_n (j := 0) (am_dk tk_X6_init 57 rfl) rfl rfl ?_
  refine am_bipush (v := 8) (am_dk tk_X6_init 58 rfl) (by decide) ?_
  refine am_newaN (p0 := (n + 13)) (t := 0) (N := 8) (ty := .int) (kx_X6_init_27 b hn).2.1 rfl (Or.inl ⟨rfl, rfl⟩) rfl (by have q1 : h.1.length = n := hn; show h.1.length ≤ _; omega) (by omega) (am_okL1 (Nat.lt_of_lt_of_le (am_at_lt hn hb) (kx_X6_init_27 b hn).2.2.1)) (am_okS1 (Nat.lt_of_lt_of_le (am_at_lt hn hb) (kx_X6_init_27 b hn).2.2.1)) (am_tb 149 (by decide +kernel) (by decide +kernel)) (by decide) (by decide) (by decide) ⟨Nat.le_of_ble_eq_true rfl, Nat.le_of_ble_eq_true rfl⟩ (am_dk tk_X6_init 59 rfl) ?_
  refine am_h (h' := k_X6_init_28 h b n) rfl ?_
  refine am_putF (c := 6) (z := 0) (k := 29) (b := (n + 13)) (fun _ _ _ _ _ _ q => q.2.2) (by rw [(kx_X6_init_28 b hn).2.1]; omega) ((kx_X6_init_28 b hn).2.2.2 _ _ hb) fl_X6_53 rfl rfl rfl rfl (am_dk tk_X6_init_1 0 rfl) ?_
  refine am_h (h' := k_X6_init_29 h b n) rfl ?_
  refine am_aload_n (j := 0) (am_dk tk_X6_init_1 1 rfl) rfl rfl ?_
  refine am_bipush (v := 8) (am_dk tk_X6_init_1 2 rfl) (by decide) ?_
  refine am_newaN (p0 := (n + 14)) (t := 0) (N := 8) (ty := .int) (kx_X6_init_29 b hn).2.1 rfl (Or.inl ⟨rfl, rfl⟩) rfl (by have q1 : h.1.length = n := hn; show h.1.length ≤ _; omega) (by omega) (am_okL1 (Nat.lt_of_lt_of_le (am_at_lt hn hb) (kx_X6_init_29 b hn).2.2.1)) (am_okS1 (Nat.lt_of_lt_of_le (am_at_lt hn hb) (kx_X6_init_29 b hn).2.2.1)) (am_tb 149 (by decide +kernel) (by decide +kernel)) (by decide) (by decide) (by decide) ⟨Nat.le_of_ble_eq_true rfl, Nat.le_of_ble_eq_true rfl⟩ (am_dk tk_X6_init_1 3 rfl) ?_
  refine am_h (h' := k_X6_init_30 h b n) rfl ?_
  refine am_putF (c := 6) (z := 0) (k := 30) (b := (n + 14)) (fun _ _ _ _ _ _ q => q.2.2) (by rw [(kx_X6_init_30 b hn).2.1]; omega) ((kx_X6_init_30 b hn).2.2.2 _ _ hb) fl_X6_56 rfl rfl rfl rfl (am_dk tk_X6_init_1 4 rfl) ?_
  refine am_h (h' := k_X6_init_31 h b n) rfl ?_
  refine am_aload_n (j := 0) (am_dk tk_X6_init_1 5 rfl) rfl rfl ?_
  refine am_bipush (v := 8) (am_dk tk_X6_init_1 6 rfl) (by decide) ?_
  refine am_newaN (p0 := (n + 15)) (t := 0) (N := 8) (ty := .int) (kx_X6_init_31 b hn).2.1 rfl (Or.inl ⟨rfl, rfl⟩) rfl (by have q1 : h.1.length = n := hn; show h.1.length ≤ _; omega) (by omega) (am_okL1 (Nat.lt_of_lt_of_le (am_at_lt hn hb) (kx_X6_init_31 b hn).2.2.1)) (am_okS1 (Nat.lt_of_lt_of_le (am_at_lt hn hb) (kx_X6_init_31 b hn).2.2.1)) (am_tb 149 (by decide +kernel) (by decide +kernel)) (by decide) (by decide) (by decide) ⟨Nat.le_of_ble_eq_true rfl, Nat.le_of_ble_eq_true rfl⟩ (am_dk tk_X6_init_1 7 rfl) ?_
  refine am_h (h' := k_X6_init_32 h b n) rfl ?_
  refine am_putF (c := 6) (z := 0) (k := 31) (b := (n + 15)) (fun _ _ _ _ _ _ q => q.2.2) (by rw [(kx_X6_init_32 b hn).2.1]; omega) ((kx_X6_init_32 b hn).2.2.2 _ _ hb) fl_X6_59 rfl rfl rfl rfl (am_dk tk_X6_init_1 8 rfl) ?_
  refine am_h (h' := k_X6_init_33 h b n) rfl ?_
  refine am_aload_n (j := 0) (am_dk tk_X6_init_1 9 rfl) rfl rfl ?_
  refine am_sipush (v := 138) (am_dk tk_X6_init_1 10 rfl) (by decide) ?_
  refine am_newaN (p0 := (n + 16)) (t := 0) (N := 138) (ty := .int) (kx_X6_init_33 b hn).2.1 rfl (Or.inl ⟨rfl, rfl⟩) rfl (by have q1 : h.1.length = n := hn; show h.1.length ≤ _; omega) (by omega) (am_okL1 (Nat.lt_of_lt_of_le (am_at_lt hn hb) (kx_X6_init_33 b hn).2.2.1)) (am_okS1 (Nat.lt_of_lt_of_le (am_at_lt hn hb) (kx_X6_init_33 b hn).2.2.1)) (am_tb 149 (by decide +kernel) (by decide +kernel)) (by decide) (by decide) (by decide) ⟨Nat.le_of_ble_eq_true rfl, Nat.le_of_ble_eq_true rfl⟩ (am_dk tk_X6_init_1 11 rfl) ?_
  refine am_h (h' := k_X6_init_34 h b n) rfl ?_
  refine am_putF (c := 6) (z := 0) (k := 32) (b := (n + 16)) (fun _ _ _ _ _ _ q => q.2.2) (by rw [(kx_X6_init_34 b hn).2.1]; omega) ((kx_X6_init_34 b hn).2.2.2 _ _ hb) fl_X6_62 rfl rfl rfl rfl (am_dk tk_X6_init_1 12 rfl) ?_
  refine am_h (h' := k_X6_init_35 h b n) rfl ?_
  refine am_aload_n (j := 0) (am_dk tk_X6_init_1 13 rfl) rfl rfl ?_
  refine am_sipush (v := 1000) (am_dk tk_X6_init_1 14 rfl) (by decide) ?_
  refine am_newaN (p0 := (n + 17)) (t := 0) (N := 1000) (ty := .int) (kx_X6_init_35 b hn).2.1 rfl (Or.inl ⟨rfl, rfl⟩) rfl (by have q1 : h.1.length = n := hn; show h.1.length ≤ _; omega) (by omega) (am_okL1 (Nat.lt_of_lt_of_le (am_at_lt hn hb) (kx_X6_init_35 b hn).2.2.1)) (am_okS1 (Nat.lt_of_lt_of_le (am_at_lt hn hb) (kx_X6_init_35 b hn).2.2.1)) (am_tb 149 (by decide +kernel) (by decide +kernel)) (by decide) (by decide) (by decide) ⟨Nat.le_of_ble_eq_true rfl, Nat.le_of_ble_eq_true rfl⟩ (am_dk tk_X6_init_1 15 rfl) ?_
  refine am_h (h' := k_X6_init_36 h b n) rfl ?_
  refine am_putF (c := 6) (z := 0) (k := 33) (b := (n + 17)) (fun _ _ _ _ _ _ q => q.2.2) (by rw [(kx_X6_init_36 b hn).2.1]; omega) ((kx_X6_init_36 b hn).2.2.2 _ _ hb) fl_X6_65 rfl rfl rfl rfl (am_dk tk_X6_init_1 16 rfl) ?_
  refine am_h (h' := k_X6_init_37 h b n) rfl ?_
  refine am_aload_n (j := 0) (am_dk tk_X6_init_1 17 rfl) rfl rfl ?_
  refine am_sipush (v := 1000) (am_dk tk_X6_init_1 18 rfl) (by decide) ?_
  refine am_newaN (p0 := (n + 18)) (t := 0) (N := 1000) (ty := .int) (kx_X6_init_37 b hn).2.1 rfl (Or.inl ⟨rfl, rfl⟩) rfl (by have q1 : h.1.length = n := hn; show h.1.length ≤ _; omega) (by omega) (am_okL1 (Nat.lt_of_lt_of_le (am_at_lt hn hb) (kx_X6_init_37 b hn).2.2.1)) (am_okS1 (Nat.lt_of_lt_of_le (am_at_lt hn hb) (kx_X6_init_37 b hn).2.2.1)) (am_tb 149 (by decide +kernel) (by decide +kernel)) (by decide) (by decide) (by decide) ⟨Nat.le_of_ble_eq_true rfl, Nat.le_of_ble_eq_true rfl⟩ (am_dk tk_X6_init_1 19 rfl) ?_
  refine am_h (h' := k_X6_init_38 h b n) rfl ?_
  refine am_putF (c := 6) (z := 0) (k := 34) (b := (n + 18)) (fun _ _ _ _ _ _ q => q.2.2) (by rw [(kx_X6_init_38 b hn).2.1]; omega) ((kx_X6_init_38 b hn).2.2.2 _ _ hb) fl_X6_68 rfl rfl rfl rfl (am_dk tk_X6_init_1 20 rfl) ?_
  refine am_h (h' := k_X6_init_39 h b n) rfl ?_
  refine am_aload_n (j := 0) (am_dk tk_X6_init_1 21 rfl) rfl rfl ?_
  refine am_bipush (v := 24) (am_dk tk_X6_init_1 22 rfl) (by decide) ?_
  refine am_newaN (p0 := (n + 19)) (t := 0) (N := 24) (ty := .int) (kx_X6_init_39 b hn).2.1 rfl (Or.inl ⟨rfl, rfl⟩) rfl (by have q1 : h.1.length = n := hn; show h.1.length ≤ _; omega) (by omega) (am_okL1 (Nat.lt_of_lt_of_le (am_at_lt hn hb) (kx_X6_init_39 b hn).2.2.1)) (am_okS1 (Nat.lt_of_lt_of_le (am_at_lt hn hb) (kx_X6_init_39 b hn).2.2.1)) (am_tb 149 (by decide +kernel) (by decide +kernel)) (by decide) (by decide) (by decide) ⟨Nat.le_of_ble_eq_true rfl, Nat.le_of_ble_eq_true rfl⟩ (am_dk tk_X6_init_1 23 rfl) ?_
  refine am_h (h' := k_X6_init_40 h b n) rfl ?_
  refine am_putF (c := 6) (z := 0) (k := 36) (b := (n + 19)) (fun _ _ _ _ _ _ q => q.2.2) (by rw [(kx_X6_init_40 b hn).2.1]; omega) ((kx_X6_init_40 b hn).2.2.2 _ _ hb) fl_X6_71 rfl rfl rfl rfl (am_dk tk_X6_init_1 24 rfl) ?_
  refine am_h (h' := k_X6_init_41 h b n) rfl ?_
  refine am_aload_n (j := 0) (am_dk tk_X6_init_1 25 rfl) rfl rfl ?_
  refine am_iconst (v := 5) (am_dk tk_X6_init_1 26 rfl) (by decide) ?_
  refine am_newaN (p0 := (n + 20)) (t := 0) (N := 5) (ty := .int) (kx_X6_init_41 b hn).2.1 rfl (Or.inl ⟨rfl, rfl⟩) rfl (by have q1 : h.1.length = n := hn; show h.1.length ≤ _; omega) (by omega) (am_okL1 (Nat.lt_of_lt_of_le (am_at_lt hn hb) (kx_X6_init_41 b hn).2.2.1)) (am_okS1 (Nat.lt_of_lt_of_le (am_at_lt hn hb) (kx_X6_init_41 b hn).2.2.1)) (am_tb 149 (by decide +kernel) (by decide +kernel)) (by decide) (by decide) (by decide) ⟨Nat.le_of_ble_eq_true rfl, Nat.le_of_ble_eq_true rfl⟩ (am_dk tk_X6_init_1 27 rfl) ?_
  refine am_h (h' := k_X6_init_42 h b n) rfl ?_
  refine am_putF (c := 6) (z := 0) (k := 37) (b := (n + 20)) (fun _ _ _ _ _ _ q => q.2.2) (by rw [(kx_X6_init_42 b hn).2.1]; omega) ((kx_X6_init_42 b hn).2.2.2 _ _ hb) fl_X6_74 rfl rfl rfl rfl (am_dk tk_X6_init_1 28 rfl) ?_
  refine am_h (h' := k_X6_init_43 h b n) rfl ?_
  refine am_aload_n (j := 0) (am_dk tk_X6_init_1 29 rfl) rfl rfl ?_
  refine am_sipush (v := 201) (am_dk tk_X6_init_1 30 rfl) (by decide) ?_
  refine am_newaN (p0 := (n + 21)) (t := 0) (N := 201) (ty := .int) (kx_X6_init_43 b hn).2.1 rfl (Or.inl ⟨rfl, rfl⟩) rfl (by have q1 : h.1.length = n := hn; show h.1.length ≤ _; omega) (by omega) (am_okL1 (Nat.lt_of_lt_of_le (am_at_lt hn hb) (kx_X6_init_43 b hn).2.2.1)) (am_okS1 (Nat.lt_of_lt_of_le (am_at_lt hn hb) (kx_X6_init_43 b hn).2.2.1)) (am_tb 149 (by decide +kernel) (by decide +kernel)) (by decide) (by decide) (by decide) ⟨Nat.le_of_ble_eq_true rfl, Nat.le_of_ble_eq_true rfl⟩ (am_dk tk_X6_init_1 31 rfl) ?_
  refine am_h (h' := k_X6_init_44 h b n) rfl ?_
  refine am_putF (c := 6) (z := 0) (k := 38) (b := (n + 21)) (fun _ _ _ _ _ _ q => q.2.2) (by rw [(kx_X6_init_44 b hn).2.1]; omega) ((kx_X6_init_44 b hn).2.2.2 _ _ hb) fl_X6_77 rfl rfl rfl rfl (am_dk tk_X6_init_1 32 rfl) ?_
  refine am_h (h' := k_X6_init_45 h b n) rfl ?_
  refine am_aload_n (j := 0) (am_dk tk_X6_init_1 33 rfl) rfl rfl ?_
  refine am_bipush (v := 15) (am_dk tk_X6_init_1 34 rfl) (by decide) ?_
  refine am_newaN (p0 := (n + 22)) (t := 0) (N := 15) (ty := .int) (kx_X6_init_45 b hn).2.1 rfl (Or.inl ⟨rfl, rfl⟩) rfl (by have q1 : h.1.length = n := hn; show h.1.length ≤ _; omega) (by omega) (am_okL1 (Nat.lt_of_lt_of_le (am_at_lt hn hb) (kx_X6_init_45 b hn).2.2.1)) (am_okS1 (Nat.lt_of_lt_of_le (am_at_lt hn hb) (kx_X6_init_45 b hn).2.2.1)) (am_tb 149 (by decide +kernel) (by decide +kernel)) (by decide) (by decide) (by decide) ⟨Nat.le_of_ble_eq_true rfl, Nat.le_of_ble_eq_true rfl⟩ (am_dk tk_X6_init_1 35 rfl) ?_
  refine am_h (h' := k_X6_init_46 h b n) rfl ?_
  refine am_putF (c := 6) (z := 0) (k := 40) (b := (n + 22)) (fun _ _ _ _ _ _ q => q.2.2) (by rw [(kx_X6_init_46 b hn).2.1]; omega) ((kx_X6_init_46 b hn).2.2.2 _ _ hb) fl_X6_80 rfl rfl rfl rfl (am_dk tk_X6_init_1 36 rfl) ?_
  refine am_h (h' := k_X6_init_47 h b n) rfl ?_
  refine am_aload_n (j := 0) (am_dk tk_X6_init_1 37 rfl) rfl rfl ?_
  refine am_bipush (v := 15) (am_dk tk_X6_init_1 38 rfl) (by decide) ?_
  refine am_newaN (p0 := (n + 23)) (t := 0) (N := 15) (ty := .int) (kx_X6_init_47 b hn).2.1 rfl (Or.inl ⟨rfl, rfl⟩) rfl (by have q1 : h.1.length = n := hn; show h.1.length ≤ _; omega) (by omega) (am_okL1 (Nat.lt_of_lt_of_le (am_at_lt hn hb) (kx_X6_init_47 b hn).2.2.1)) (am_okS1 (Nat.lt_of_lt_of_le (am_at_lt hn hb) (kx_X6_init_47 b hn).2.2.1)) (am_tb 149 (by decide +kernel) (by decide +kernel)) (by decide) (by decide) (by decide) ⟨Nat.le_of_ble_eq_true rfl, Nat.le_of_ble_eq_true rfl⟩ (am_dk tk_X6_init_1 39 rfl) ?_
  refine am_h (h' := k_X6_init_48 h b n) rfl ?_
  refine am_putF (c := 6) (z := 0) (k := 41) (b := (n + 23)) (fun _ _ _ _ _ _ q => q.2.2) (by rw [(kx_X6_init_48 b hn).2.1]; omega) ((kx_X6_init_48 b hn).2.2.2 _ _ hb) fl_X6_83 rfl rfl rfl rfl (am_dk tk_X6_init_1 40 rfl) ?_
  refine am_h (h' := k_X6_init_49 h b n) rfl ?_
  refine am_aload_n (j := 0) (am_dk tk_X6_init_1 41 rfl) rfl rfl ?_
  refine am_sipush (v := 278) (am_dk tk_X6_init_1 42 rfl) (by decide) ?_
  refine am_newaN (p0 := (n + 24)) (t := 0) (N := 278) (ty := .int) (kx_X6_init_49 b hn).2.1 rfl (Or.inl ⟨rfl, rfl⟩) rfl (by have q1 : h.1.length = n := hn; show h.1.length ≤ _; omega) (by omega) (am_okL1 (Nat.lt_of_lt_of_le (am_at_lt hn hb) (kx_X6_init_49 b hn).2.2.1)) (am_okS1 (Nat.lt_of_lt_of_le (am_at_lt hn hb) (kx_X6_init_49 b hn).2.2.1)) (am_tb 149 (by decide +kernel) (by decide +kernel)) (by decide) (by decide) (by decide) ⟨Nat.le_of_ble_eq_true rfl, Nat.le_of_ble_eq_true rfl⟩ (am_dk tk_X6_init_1 43 rfl) ?_
  refine am_h (h' := k_X6_init_50 h b n) rfl ?_
  refine am_putF (c := 6) (z := 0) (k := 42) (b := (n + 24)) (fun _ _ _ _ _ _ q => q.2.2) (by rw [(kx_X6_init_50 b hn).2.1]; omega) ((kx_X6_init_50 b hn).2.2.2 _ _ hb) fl_X6_86 rfl rfl rfl rfl (am_dk tk_X6_init_1 44 rfl) ?_
  refine am_h (h' := k_X6_init_51 h b n) rfl ?_
  refine am_aload_n (j := 0) (am_dk tk_X6_init_1 45 rfl) rfl rfl ?_
  refine am_iconst (v := 2) (am_dk tk_X6_init_1 46 rfl) (by decide) ?_
  refine am_newaN (p0 := (n + 25)) (t := 1) (N := 2) (ty := .boolean) (kx_X6_init_51 b hn).2.1 rfl (Or.inr ⟨rfl, rfl⟩) rfl (by have q1 : h.1.length = n := hn; show h.1.length ≤ _; omega) (by omega) (am_okL1 (Nat.lt_of_lt_of_le (am_at_lt hn hb) (kx_X6_init_51 b hn).2.2.1)) (am_okS1 (Nat.lt_of_lt_of_le (am_at_lt hn hb) (kx_X6_init_51 b hn).2.2.1)) (am_tb 355 (by decide +kernel) (by decide +kernel)) (by decide) (by decide) (by decide) ⟨Nat.le_of_ble_eq_true rfl, Nat.le_of_ble_eq_true rfl⟩ (am_dk tk_X6_init_1 47 rfl) ?_
  refine am_h (h' := k_X6_init_52 h b n) rfl ?_
  refine am_putF (c := 6) (z := 0) (k := 43) (b := (n + 25)) (fun _ _ _ _ _ _ q => q.2.2) (by rw [(kx_X6_init_52 b hn).2.1]; omega) ((kx_X6_init_52 b hn).2.2.2 _ _ hb) fl_X6_89 rfl rfl rfl rfl (am_dk tk_X6_init_1 48 rfl) ?_
  refine am_h (h' := k_X6_init_53 h b n) rfl ?_
  refine am_aload_n (j := 0) (am_dk tk_X6_init_1 49 rfl) rfl rfl ?_
  refine am_iconst (v := 0) (am_dk tk_X6_init_1 50 rfl) (by decide) ?_
  refine am_puti (c := 6) (z := 0) (k := 0) ((kx_X6_init_53 b hn).2.2.2 _ _ hb) fl_X6_93 rfl rfl (am_dk tk_X6_init_1 51 rfl) ?_
  refine am_h (h' := k_X6_init_54 h b n) rfl ?_
  exact am_vret rfl ⟨rfl, rfl⟩ ⟨Nat.le_of_ble_eq_true rfl, Nat.le_of_ble_eq_true rfl⟩ (am_dk tk_X6_init_1 52 rfl)
