def lyS0 : am_S := [(7, 0), (6, 0), (0, 4), (0, 8), (0, 8), (0, 8), (0, 5), (4, 0), (0, 5), (0, 5), (0, 5), (0, 120), (5, 0), (0, 250), (6, 0), (0, 4), (0, 8), (0, 8), (0, 8), (0, 5), (4, 0), (0, 5), (0, 5), (0, 5), (0, 120), (4, 0), (0, 5), (0, 5), (0, 5), (0, 120), (4, 0), (0, 5), (0, 5), (0, 5), (0, 120), (4, 0), (0, 5), (0, 5), (0, 5), (0, 120), (4, 0), (0, 5), (0, 5), (0, 5), (0, 120), (3, 0), (0, 0), (0, 0), (0, 48), (0, 48), (2, 0), (1, 61), (0, 201), (0, 61), (0, 15), (0, 15), (8, 0), (0, 5), (0, 4), (0, 8), (0, 8), (0, 8), (0, 138), (0, 250), (0, 3), (0, 5), (0, 5), (0, 120), (0, 5), (0, 4), (0, 8), (0, 8), (0, 8), (0, 138), (0, 1000), (0, 1000), (0, 24), (0, 5), (0, 201), (0, 15), (0, 15), (0, 278), (1, 2)]
def lyS (tp : Bool) : am_S := lyS0 ++ (if tp = true then [(0, 44100), (0, 44100)] else [])
def lyR0 (a j : Nat) : Option Nat := match a, j with
  | 0, 1 => some 12
  | 0, 2 => some 25
  | 0, 3 => some 30
  | 0, 4 => some 35
  | 0, 5 => some 40
  | 0, 7 => some 45
  | 0, 8 => some 50
  | 0, 9 => some 54
  | 0, 10 => some 55
  | 1, 7 => some 2
  | 1, 8 => some 3
  | 1, 9 => some 4
  | 1, 10 => some 5
  | 1, 11 => some 6
  | 1, 12 => some 7
  | 14, 7 => some 15
  | 14, 8 => some 16
  | 14, 9 => some 17
  | 14, 10 => some 18
  | 14, 11 => some 19
  | 14, 12 => some 20
  | 7, 0 => some 8
  | 7, 1 => some 9
  | 7, 2 => some 10
  | 7, 3 => some 11
  | 20, 0 => some 21
  | 20, 1 => some 22
  | 20, 2 => some 23
  | 20, 3 => some 24
  | 25, 0 => some 26
  | 25, 1 => some 27
  | 25, 2 => some 28
  | 25, 3 => some 29
  | 30, 0 => some 31
  | 30, 1 => some 32
  | 30, 2 => some 33
  | 30, 3 => some 34
  | 35, 0 => some 36
  | 35, 1 => some 37
  | 35, 2 => some 38
  | 35, 3 => some 39
  | 40, 0 => some 41
  | 40, 1 => some 42
  | 40, 2 => some 43
  | 40, 3 => some 44
  | 12, 0 => some 13
  | 45, 3 => some 48
  | 45, 4 => some 49
  | 50, 0 => some 51
  | 50, 1 => some 52
  | 50, 2 => some 53
  | 56, 4 => some 57
  | 56, 6 => some 58
  | 56, 8 => some 59
  | 56, 9 => some 60
  | 56, 10 => some 61
  | 56, 11 => some 62
  | 56, 13 => some 63
  | 56, 19 => some 64
  | 56, 21 => some 65
  | 56, 22 => some 66
  | 56, 23 => some 67
  | 56, 24 => some 68
  | 56, 27 => some 69
  | 56, 29 => some 70
  | 56, 30 => some 71
  | 56, 31 => some 72
  | 56, 32 => some 73
  | 56, 33 => some 74
  | 56, 34 => some 75
  | 56, 36 => some 76
  | 56, 37 => some 77
  | 56, 38 => some 78
  | 56, 40 => some 79
  | 56, 41 => some 80
  | 56, 42 => some 81
  | 56, 43 => some 82
  | _, _ => none
def lyR (tw : Nat) (tp : Bool) : am_R := fun a j => if a = 0 ∧ j = 0 then some tw else if a = 12 ∧ j = 3 then some (15 - tw) else if a = 45 ∧ j = 0 then some (if tp = true then 83 else 46) else if a = 45 ∧ j = 1 then some (if tp = true then 84 else 47) else lyR0 a j
abbrev ly (tw : Nat) (tp : Bool) (D : am_M) : am_H := (lyS tp, lyR tw tp, D)
def lyM (M : Nat) : Prop := M = 7 ∨ M = 20 ∨ M = 25 ∨ M = 30 ∨ M = 35 ∨ M = 40
def lyT (T : Nat) : Prop := T = 1 ∨ T = 14
theorem lyM_7 : lyM 7 := by unfold lyM; omega
theorem lyM_20 : lyM 20 := by unfold lyM; omega
theorem lyM_25 : lyM 25 := by unfold lyM; omega
theorem lyM_30 : lyM 30 := by unfold lyM; omega
theorem lyM_35 : lyM 35 := by unfold lyM; omega
theorem lyM_40 : lyM 40 := by unfold lyM; omega
theorem lyT_o {T : Nat} (h : lyT T) : lyT (15 - T) := by unfold lyT at *; omega
theorem lyT_m {T : Nat} (h : lyT T) : lyM (T + 6) := by unfold lyT at h; unfold lyM; omega
theorem lyM_s {tp : Bool} {M : Nat} (h : lyM M) : (lyS tp)[M]? = some (4, 0) := by rcases h with rfl | rfl | rfl | rfl | rfl | rfl <;> rfl
theorem lyM_a0 {tp : Bool} {M : Nat} (h : lyM M) : (lyS tp)[M + 1]? = some (0, 5) := by rcases h with rfl | rfl | rfl | rfl | rfl | rfl <;> rfl
theorem lyM_r0 {tw : Nat} {tp : Bool} {M : Nat} (h : lyM M) : lyR tw tp M 0 = some (M + 1) := by rcases h with rfl | rfl | rfl | rfl | rfl | rfl <;> rfl
theorem lyM_a1 {tp : Bool} {M : Nat} (h : lyM M) : (lyS tp)[M + 2]? = some (0, 5) := by rcases h with rfl | rfl | rfl | rfl | rfl | rfl <;> rfl
theorem lyM_r1 {tw : Nat} {tp : Bool} {M : Nat} (h : lyM M) : lyR tw tp M 1 = some (M + 2) := by rcases h with rfl | rfl | rfl | rfl | rfl | rfl <;> rfl
theorem lyM_a2 {tp : Bool} {M : Nat} (h : lyM M) : (lyS tp)[M + 3]? = some (0, 5) := by rcases h with rfl | rfl | rfl | rfl | rfl | rfl <;> rfl
theorem lyM_r2 {tw : Nat} {tp : Bool} {M : Nat} (h : lyM M) : lyR tw tp M 2 = some (M + 3) := by rcases h with rfl | rfl | rfl | rfl | rfl | rfl <;> rfl
theorem lyM_a3 {tp : Bool} {M : Nat} (h : lyM M) : (lyS tp)[M + 4]? = some (0, 120) := by rcases h with rfl | rfl | rfl | rfl | rfl | rfl <;> rfl
theorem lyM_r3 {tw : Nat} {tp : Bool} {M : Nat} (h : lyM M) : lyR tw tp M 3 = some (M + 4) := by rcases h with rfl | rfl | rfl | rfl | rfl | rfl <;> rfl
theorem lyT_s {tp : Bool} {T : Nat} (h : lyT T) : (lyS tp)[T]? = some (6, 0) := by rcases h with rfl | rfl <;> rfl
theorem lyT_a7 {tp : Bool} {T : Nat} (h : lyT T) : (lyS tp)[T + 1]? = some (0, 4) := by rcases h with rfl | rfl <;> rfl
theorem lyT_r7 {tw : Nat} {tp : Bool} {T : Nat} (h : lyT T) : lyR tw tp T 7 = some (T + 1) := by rcases h with rfl | rfl <;> rfl
theorem lyT_a8 {tp : Bool} {T : Nat} (h : lyT T) : (lyS tp)[T + 2]? = some (0, 8) := by rcases h with rfl | rfl <;> rfl
theorem lyT_r8 {tw : Nat} {tp : Bool} {T : Nat} (h : lyT T) : lyR tw tp T 8 = some (T + 2) := by rcases h with rfl | rfl <;> rfl
theorem lyT_a9 {tp : Bool} {T : Nat} (h : lyT T) : (lyS tp)[T + 3]? = some (0, 8) := by rcases h with rfl | rfl <;> rfl
theorem lyT_r9 {tw : Nat} {tp : Bool} {T : Nat} (h : lyT T) : lyR tw tp T 9 = some (T + 3) := by rcases h with rfl | rfl <;> rfl
theorem lyT_a10 {tp : Bool} {T : Nat} (h : lyT T) : (lyS tp)[T + 4]? = some (0, 8) := by rcases h with rfl | rfl <;> rfl
theorem lyT_r10 {tw : Nat} {tp : Bool} {T : Nat} (h : lyT T) : lyR tw tp T 10 = some (T + 4) := by rcases h with rfl | rfl <;> rfl
theorem lyT_a11 {tp : Bool} {T : Nat} (h : lyT T) : (lyS tp)[T + 5]? = some (0, 5) := by rcases h with rfl | rfl <;> rfl
theorem lyT_r11 {tw : Nat} {tp : Bool} {T : Nat} (h : lyT T) : lyR tw tp T 11 = some (T + 5) := by rcases h with rfl | rfl <;> rfl
theorem lyT_r12 {tw : Nat} {tp : Bool} {T : Nat} (h : lyT T) : lyR tw tp T 12 = some (T + 6) := by rcases h with rfl | rfl <;> rfl
def am_tbl (c : ByteArray) (t : List (Nat × Instr × Nat)) : Bool := t.all (fun q => decide (decode c q.1 = .ok q.2))
theorem am_dk {c : ByteArray} {t : List (Nat × Instr × Nat)} (h : am_tbl c t = true) (k : Nat) {pc n : Nat} {i : Instr} (hk : t[k]? = some (pc, i, n)) : decode c pc = .ok (i, n) := by
  have h1 := List.all_eq_true.mp h (pc, i, n) (List.mem_of_getElem? hk)
  simp only [decide_eq_true_eq] at h1
  exact h1
def am_N : Nat := 100000
def am_in (i : Int32) (n : Nat) : Bool := decide (0 ≤ i) && decide (i.toNatClampNeg < n)
theorem am_in_vp {i : Int32} {n : Nat} (h : am_in i n = true) : vp_in i n := by
  simp only [am_in, Bool.and_eq_true, decide_eq_true_eq] at h
  intro q
  rcases q with q | q
  · exact absurd h.1 (Int32.not_le.mpr q)
  · omega
theorem am_chk {α : Type} {c : Prop} [Decidable c] {a : Option α} {x : α} (h : (if c then a else none) = some x) : c ∧ a = some x := by
  by_cases hc : c
  · rw [if_pos hc] at h; exact ⟨hc, h⟩
  · rw [if_neg hc] at h; cases h
theorem am_chn {α : Type} {c : Prop} [Decidable c] {a : Option α} {x : α} (h : (if c then none else a) = some x) : ¬ c ∧ a = some x := by
  by_cases hc : c
  · rw [if_pos hc] at h; cases h
  · rw [if_neg hc] at h; exact ⟨hc, h⟩
theorem am_bind {α β : Type} {o : Option α} {f : α → Option β} {x : β} (h : o.bind f = some x) : ∃ a, o = some a ∧ f a = some x := Option.bind_eq_some_iff.mp h
theorem am_r2 {Φ : am_Ph} {tw : Nat} {tp : Bool} {v r : Int32} {m D' : am_M} (h : some (v, m) = some (r, D')) (hΦ : Φ (some (.int r)) (ly tw tp D')) : Φ (some (.int v)) (ly tw tp m) := by
  cases h; exact hΦ
theorem am_r2l {Φ : am_Ph} {tw : Nat} {tp : Bool} {v r : Int64} {m D' : am_M} (h : some (v, m) = some (r, D')) (hΦ : Φ (some (.long r)) (ly tw tp D')) : Φ (some (.long v)) (ly tw tp m) := by
  cases h; exact hΦ
theorem am_r0 {Φ : am_Ph} {tw : Nat} {tp : Bool} {m D' : am_M} (h : some m = some D') (hΦ : Φ none (ly tw tp D')) : Φ none (ly tw tp m) := by
  cases h; exact hΦ
theorem am_rm0 {Φ : am_Ph} {tw : Nat} {t : Bool} {m : am_M} {q : Bool × am_M} (h : some (t, m) = some q) (hΦ : Φ none (ly tw q.1 q.2)) : Φ none (ly tw t m) := by
  cases h; exact hΦ
theorem am_rm2 {Φ : am_Ph} {tw : Nat} {t : Bool} {v : Int32} {m : am_M} {q : Int32 × Bool × am_M} (h : some (v, t, m) = some q) (hΦ : Φ (some (.int q.1)) (ly tw q.2.1 q.2.2)) : Φ (some (.int v)) (ly tw t m) := by
  cases h; exact hΦ
theorem am_rm3 {Φ : am_Ph} {t : Nat} {tp : Bool} {v : Int32} {m : am_M} {q : Int32 × Nat × am_M} (h : some (v, t, m) = some q) (hΦ : Φ (some (.int q.1)) (ly q.2.1 tp q.2.2)) : Φ (some (.int v)) (ly t tp m) := by
  cases h; exact hΦ
theorem lyT_lt {tp : Bool} {T : Nat} (h : lyT T) : T < (lyS tp).length := by
  rcases h with rfl | rfl <;> cases tp <;> decide
theorem lyM_ite {c : Prop} [Decidable c] : lyM (if c then 35 else 40) := by
  split
  · exact lyM_35
  · exact lyM_40
section LYR
variable {E : am_EV} {cc : ByteArray} {cs : Nat × Nat} {pc : Nat} {L : List (Nat × Value)} {st : List Value} {tw : Nat} {tp : Bool} {D : am_M} {h : am_H} {h1 : am_H}
theorem am_kki {r : Int32} {cs' : Nat × Nat} {pc' : Nat} (k : am_Ex E cc cs' pc' L (.int r :: st) h1) : ∀ v' h', am_is (some (.int r)) h1 v' h' → am_Ex E cc cs' pc' L (v'.toList ++ st) h' := by
  rintro v' h' ⟨rfl, rfl⟩
  exact k
theorem am_kkl {r : Int64} {cs' : Nat × Nat} {pc' : Nat} (k : am_Ex E cc cs' pc' L (.long r :: st) h1) : ∀ v' h', am_is (some (.long r)) h1 v' h' → am_Ex E cc cs' pc' L (v'.toList ++ st) h' := by
  rintro v' h' ⟨rfl, rfl⟩
  exact k
theorem am_kkr {r : Nat} {cs' : Nat × Nat} {pc' : Nat} (k : am_Ex E cc cs' pc' L (.ref r :: st) h1) : ∀ v' h', am_is (some (.ref r)) h1 v' h' → am_Ex E cc cs' pc' L (v'.toList ++ st) h' := by
  rintro v' h' ⟨rfl, rfl⟩
  exact k
theorem am_kkv {cs' : Nat × Nat} {pc' : Nat} (k : am_Ex E cc cs' pc' L st h1) : ∀ v' h', am_is none h1 v' h' → am_Ex E cc cs' pc' L (v'.toList ++ st) h' := by
  rintro v' h' ⟨rfl, rfl⟩
  exact k
theorem ly_geti {a c z k idx : Nat} (hs : (lyS tp)[a]? = some (c + 2, z)) (hf : am_FL (am_eo E) idx c k) (ht : am_isr (am_cy c k) = false) (hd : decode cc pc = .ok (.getfield idx, 3)) (kk : am_Ex E cc cs (pc + 3) L (.int (D a k) :: st) (ly tw tp D)) : am_Ex E cc cs pc L (.ref a :: st) (ly tw tp D) := am_geti hs hf ht hd kk
theorem ly_getr {a c z k idx b : Nat} (hs : (lyS tp)[a]? = some (c + 2, z)) (hf : am_FL (am_eo E) idx c k) (ht : am_isr (am_cy c k) = true) (hr : lyR tw tp a k = some b) (hd : decode cc pc = .ok (.getfield idx, 3)) (kk : am_Ex E cc cs (pc + 3) L (.ref b :: st) (ly tw tp D)) : am_Ex E cc cs pc L (.ref a :: st) (ly tw tp D) := am_getr hs hf ht hr hd kk
theorem ly_puti {a c z k idx : Nat} {x : Int32} (hs : (lyS tp)[a]? = some (c + 2, z)) (hf : am_FL (am_eo E) idx c k) (ht : am_cy c k = .int) (hfin : (am_ct c k).2.2.2 = false) (hd : decode cc pc = .ok (.putfield idx, 3)) (kk : am_Ex E cc cs (pc + 3) L st (ly tw tp (am_up D a k x))) : am_Ex E cc cs pc L (.int x :: .ref a :: st) (ly tw tp D) := am_puti hs hf ht hfin hd kk
theorem ly_putz {a c z k idx : Nat} {x : Int32} (hx : x = 0 ∨ x = 1) (hs : (lyS tp)[a]? = some (c + 2, z)) (hf : am_FL (am_eo E) idx c k) (ht : am_cy c k = .boolean) (hfin : (am_ct c k).2.2.2 = false) (hd : decode cc pc = .ok (.putfield idx, 3)) (kk : am_Ex E cc cs (pc + 3) L st (ly tw tp (am_up D a k x))) : am_Ex E cc cs pc L (.int x :: .ref a :: st) (ly tw tp D) := am_putz hx hs hf ht hfin hd kk
theorem ly_iald {a n k : Nat} {i : Int32} (hs : (lyS tp)[a]? = some (0, n)) (hi : vp_in i n) (hk : i.toNatClampNeg = k) (hd : decode cc pc = .ok (.iaload, 1)) (kk : am_Ex E cc cs (pc + 1) L (.int (D a k) :: st) (ly tw tp D)) : am_Ex E cc cs pc L (.int i :: .ref a :: st) (ly tw tp D) := am_iald hs hi hd (by rw [hk]; exact kk)
theorem ly_bald {a n k : Nat} {i : Int32} (hs : (lyS tp)[a]? = some (1, n)) (hi : vp_in i n) (hk : i.toNatClampNeg = k) (hd : decode cc pc = .ok (.baload, 1)) (kk : am_Ex E cc cs (pc + 1) L (.int (D a k) :: st) (ly tw tp D)) : am_Ex E cc cs pc L (.int i :: .ref a :: st) (ly tw tp D) := am_bald hs hi hd (by rw [hk]; exact kk)
theorem ly_iast {a n k : Nat} {i x : Int32} (hs : (lyS tp)[a]? = some (0, n)) (hi : vp_in i n) (hk : i.toNatClampNeg = k) (hd : decode cc pc = .ok (.iastore, 1)) (kk : am_Ex E cc cs (pc + 1) L st (ly tw tp (am_up D a k x))) : am_Ex E cc cs pc L (.int x :: .int i :: .ref a :: st) (ly tw tp D) := am_iast hs hi hd (by rw [hk]; exact kk)
theorem ly_bast {a n k : Nat} {i x : Int32} (hs : (lyS tp)[a]? = some (1, n)) (hi : vp_in i n) (hk : i.toNatClampNeg = k) (hd : decode cc pc = .ok (.bastore, 1)) (kk : am_Ex E cc cs (pc + 1) L st (ly tw tp (am_up D a k (vp_nar .boolean x)))) : am_Ex E cc cs pc L (.int x :: .int i :: .ref a :: st) (ly tw tp D) := am_bast hs hi hd (by rw [hk]; exact kk)
theorem ly_alen {a n : Nat} (hs : (lyS tp)[a]? = some (0, n)) (hd : decode cc pc = .ok (.arraylength, 1)) (kk : am_Ex E cc cs (pc + 1) L (.int (Int32.ofNat n) :: st) (ly tw tp D)) : am_Ex E cc cs pc L (.ref a :: st) (ly tw tp D) := am_alen hs hd kk
theorem ly_copy {idx a b n n1 k : Nat} {x : Int32} (hl' : am_LC (am_eo E) idx) (h0 : (lyS tp)[b]? = some (0, n)) (h1 : (lyS tp)[a]? = some (0, n1)) (hx0 : ¬ x < 0) (hx1 : x.toNatClampNeg ≤ n) (hx2 : x.toNatClampNeg ≤ n1) (hf : 1 ≤ (am_er E).frames) (hlo : (st.map fun v => v.category).sum + (nativeFrameWords "java/lang/System" "arraycopy" 5 + 11) ≤ (am_er E).locals) (hk : x.toNatClampNeg = k) (hd : decode cc pc = .ok (.invokestatic idx, 3)) (kk : am_Ex E cc cs (pc + 3) L st (ly tw tp (am_row D a (va_cpy (D b) (D a) 0 0 k)))) : am_Ex E cc cs pc L (.int x :: .int 0 :: .ref a :: .int 0 :: .ref b :: st) (ly tw tp D) := am_copy hl' h0 h1 hx0 hx1 hx2 hf hlo hd (by rw [hk]; exact kk)
theorem am_cs0 {cs : Nat × Nat} {M : am_D} (hz : (am_rm M).cells = 0 ∧ (am_rm M).slots = 0) : (cs.1 + (am_rm M).cells, cs.2 + (am_rm M).slots) = cs := by
  rw [hz.1, hz.2]; rfl
theorem ly_cV {M : am_D} {Φ : am_Ph} {As : List Value} {b c z n idx : Nat} (hM : am_CT (am_el E) M false (.ref b :: As) (ly tw tp D) Φ) (hs : (lyS tp)[b]? = some (c + 2, z)) (hc : c < 7) (hcn : am_cn c = M.1.cls) (hw : Cond.methodLink (am_eo E) idx M.1 ∈ am_TB ∧ Cond.instanceMethod M.1 ∈ am_TB ∧ Cond.selects M.1.cls M.1 M.1 ∈ am_TB) (hld : am_LD M n) (hn : As.length = n) (hR : am_fit E M) (hst : (st.map fun v => v.category).sum ≤ 8) (hz : (am_rm M).cells = 0 ∧ (am_rm M).slots = 0) (hcs : am_fcs E M cs) (hd : decode cc pc = .ok (.invokevirtual idx, 3))
    (kk : ∀ v h', Φ v h' → am_Ex E cc cs (pc + 3) L (v.toList ++ st) h') : am_Ex E cc cs pc L (As.reverse ++ .ref b :: st) (ly tw tp D) := am_callV hM hs hc hcn hw hld hn hR hst hcs hd (by rw [am_cs0 hz]; exact kk)
theorem am_cS {M : am_D} {Φ : am_Ph} {As : List Value} {n idx : Nat} (hM : am_CT (am_el E) M false As h Φ) (hw : Cond.methodLink (am_eo E) idx M.1 ∈ am_TB ∧ Cond.static M.1 ∈ am_TB) (hld : am_LD M n) (hn : As.length = n) (hR : am_fit E M) (hst : (st.map fun v => v.category).sum ≤ 8) (hz : (am_rm M).cells = 0 ∧ (am_rm M).slots = 0) (hcs : am_fcs E M cs) (hd : decode cc pc = .ok (.invokestatic idx, 3))
    (kk : ∀ v h', Φ v h' → am_Ex E cc cs (pc + 3) L (v.toList ++ st) h') : am_Ex E cc cs pc L (As.reverse ++ st) h := am_callS hM hw hld hn hR hst hcs hd (by rw [am_cs0 hz]; exact kk)
theorem am_cSN {M : am_D} {Φ : am_Ph} {As : List Value} {n idx : Nat} {host : String} (hM : am_CT (am_el E) M false As h Φ) (hw : (am_eo E, idx, M.1, host) ∈ am_nest ∧ Cond.static M.1 ∈ am_TB) (hld : am_LD M n) (hn : As.length = n) (hR : am_fit E M) (hst : (st.map fun v => v.category).sum ≤ 8) (hz : (am_rm M).cells = 0 ∧ (am_rm M).slots = 0) (hcs : am_fcs E M cs) (hd : decode cc pc = .ok (.invokestatic idx, 3))
    (kk : ∀ v h', Φ v h' → am_Ex E cc cs (pc + 3) L (v.toList ++ st) h') : am_Ex E cc cs pc L (As.reverse ++ st) h := am_callSN hM hw hld hn hR hst hcs hd (by rw [am_cs0 hz]; exact kk)
end LYR
