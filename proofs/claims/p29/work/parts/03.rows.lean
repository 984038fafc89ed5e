def am_nest : List (String × Nat × MethodName × String) := [("SleepMint", 9, ⟨"SleepMint$Town", "<init>", "()V"⟩, "SleepMint"), ("SleepMint$Town", 29, ⟨"SleepMint$Moment", "<init>", "()V"⟩, "SleepMint"), ("SleepMint", 18, ⟨"SleepMint$Reader", "<init>", "()V"⟩, "SleepMint"), ("SleepMint$Reader", 24, ⟨"SleepMint$Town", "<init>", "()V"⟩, "SleepMint"), ("SleepMint", 25, ⟨"SleepMint$Moment", "<init>", "()V"⟩, "SleepMint"), ("SleepMint", 45, ⟨"SleepMint$LifePlan", "<init>", "()V"⟩, "SleepMint"), ("SleepMint", 52, ⟨"SleepMint$CoinTable", "<init>", "()V"⟩, "SleepMint"), ("SleepMint$Reader", 148, ⟨"SleepMint", "isWithin", "(III)Z"⟩, "SleepMint"), ("SleepMint$Reader", 138, ⟨"SleepMint", "isIn", "(II)Z"⟩, "SleepMint"), ("SleepMint$LifePlan", 141, ⟨"SleepMint", "isWithin", "(III)Z"⟩, "SleepMint"), ("SleepMint$CoinTable", 44, ⟨"SleepMint", "isWithin", "(III)Z"⟩, "SleepMint"), ("SleepMint$Town", 62, ⟨"SleepMint", "isIn", "(II)Z"⟩, "SleepMint")]
def am_T (g : am_G) (U : State) : Prop := va_K g.1 am_cl [(g.2 0, .int), (g.2 1, .boolean)] U ∧ ∀ q ∈ am_nest, va_Nw (.methodLinkNest q.1 q.2.1 q.2.2.1 q.2.2.2) U
theorem am_T.warm {g : am_G} {s U : State} (hW : s.WarmedH U.vm) (h : am_T g s) : am_T g U := ⟨va_K.moved hW.alike h.1, fun q hq => va_Nw.warmM hW (h.2 q hq)⟩
theorem am_T.call {g : am_G} {U : State} {f : JFrame} {mk : MethodId} {a : Array Value} (h : am_T g U) : am_T g (U.calling f mk a) := ⟨va_K.moved (Vm.Alike.refl U.vm) h.1, fun q hq => va_Nw.same rfl rfl (h.2 q hq)⟩
/-- references point to places that there are -/
def am_wf (h : am_H) : Prop := ∀ a j k, a < h.1.length → h.2.1 a j = some k → k < h.1.length
def am_rel (al : Bool) (n : Nat) (α α' : Nat → Nat) : Prop := (∀ k, k < n ∨ 1000000 ≤ k → α' k = α k) ∧ (al = false → α' = α)
abbrev am_Tg : Type := am_G → (Nat → Nat) → Nat → State → Array Value → List Frame → (State → Prop)
abbrev am_Cx : Type := am_G → (Nat → Nat) → Nat → State → Array Value → Method → Prop
/-- launch, locals, owner, room, heap at the entry, whether it makes cells, where it goes, what is known -/
abbrev am_EV : Type := Launch × Nat × String × Room × am_H × Bool × am_Tg × am_Cx
abbrev am_el (E : am_EV) : Launch := E.1
abbrev am_en (E : am_EV) : Nat := E.2.1
abbrev am_eo (E : am_EV) : String := E.2.2.1
abbrev am_er (E : am_EV) : Room := E.2.2.2.1
abbrev am_eh (E : am_EV) : am_H := E.2.2.2.2.1
abbrev am_ea (E : am_EV) : Bool := E.2.2.2.2.2.1
abbrev am_eT (E : am_EV) : am_Tg := E.2.2.2.2.2.2.1
abbrev am_eC (E : am_EV) : am_Cx := E.2.2.2.2.2.2.2
def am_A (E : am_EV) (g : am_G) (α0 : Nat → Nat) (sz : Nat) : Nat → Prop := va_A (am_w g α0 (am_eh E)) sz
def am_C (E : am_EV) (cc : ByteArray) (g : am_G) (α0 : Nat → Nat) (sz : Nat) (α : Nat → Nat) (p : Program) (s : State) (m : MethodId) (args : Array Value) (meth : Method) (c : Code) : Prop :=
  p.tables.exec = Jvm.exec ∧ c.code = cc ∧ c.maxLocals = am_en E ∧ s.vm.findClass (am_eo E) = some m.cls ∧ (∀ w ∈ am_TB, w.before args s = true) ∧ am_T g s ∧ s.heap.size = sz ∧ am_eC E g α0 sz s args meth ∧ am_rel (am_ea E) (am_eh E).1.length α0 α
def am_X (E : am_EV) (g : am_G) (α0 : Nat → Nat) (sz : Nat) (α : Nat → Nat) (h : am_H) (s : State) (H : Heap) (locs : List Loc) : Prop :=
  am_wf h ∧ va_P g.1 am_cl (am_w g α h) H ∧ va_D (am_A E g α0 sz) (am_w g α h) ∧ va_S (am_A E g α0 sz) s.heap H locs
def am_L (α : Nat → Nat) (L : List (Nat × Value)) : List (Nat × Value) := L.map (fun q => (q.1, am_fv α q.2))
/-- the machine at pc, over the abstract heap h, comes to its end as told -/
def am_Ex (E : am_EV) (cc : ByteArray) (cs : Nat × Nat) (pc : Nat) (L : List (Nat × Value)) (st : List Value) (h : am_H) : Prop :=
  ∀ (g : am_G) (α0 : Nat → Nat) (sz : Nat) (α : Nat → Nat) (p : Program) (e : Env) (s : State) (m : MethodId) (args : Array Value) (below : List Frame) (meth : Method) (c : Code) (H : Heap) (locs : List Loc) (ls : Array Slot),
    am_C E cc g α0 sz α p s m args meth c → am_X E g α0 sz α h s H locs → lv_has ls (am_en E) (am_L α L) →
    W p (am_el E) e (am_er E) s m args below meth c H locs cs.1 cs.2 (am_eT E g α0 sz s args below) (F0 m pc ls (st.map (am_fv α)))
theorem am_L_at {α : Nat → Nat} {L : List (Nat × Value)} {k i : Nat} {v : Value} (hk : L[k]? = some (i, v)) : (am_L α L)[k]? = some (i, am_fv α v) := by simp [am_L, hk]
theorem am_L_f1 (α : Nat → Nat) (L : List (Nat × Value)) (i : Nat) : (am_L α L).filter (fun q => !(q.1 == i) && !(q.1 + 1 == i && q.2.category == 2)) = am_L α (L.filter (fun q => !(q.1 == i) && !(q.1 + 1 == i && q.2.category == 2))) := by
  simp only [am_L, List.filter_map]
  congr 1
  apply List.filter_congr
  intro q _
  simp [Function.comp, am_fv_cat]
theorem am_L_f2 (α : Nat → Nat) (L : List (Nat × Value)) (i : Nat) : (am_L α L).filter (fun q => !(q.1 == i) && (!(q.1 == i + 1) && !(q.1 + 1 == i && q.2.category == 2))) = am_L α (L.filter (fun q => !(q.1 == i) && (!(q.1 == i + 1) && !(q.1 + 1 == i && q.2.category == 2)))) := by
  simp only [am_L, List.filter_map]
  congr 1
  apply List.filter_congr
  intro q _
  simp [Function.comp, am_fv_cat]
section AMR
variable {E : am_EV} {cc : ByteArray} {cs : Nat × Nat} {pc : Nat} {L : List (Nat × Value)} {st : List Value} {h : am_H}
theorem am_ls {L' : List (Nat × Value)} (ks : List Nat) (hl' : lv_pick L ks = L') (kk : am_Ex E cc cs pc L' st h) : am_Ex E cc cs pc L st h := by
  intro g α0 sz α p e s m args below meth c H locs ls C X hl
  refine kk _ _ _ _ _ _ _ _ _ _ _ _ _ _ _ C X (lv_sub hl ks ?_)
  rw [← hl']
  simp only [lv_pick, am_L, List.getElem?_map, List.map_filterMap]
theorem am_h {h' : am_H} (e : h = h') (kk : am_Ex E cc cs pc L st h') : am_Ex E cc cs pc L st h := e ▸ kk
theorem am_st {st' : List Value} (e : st = st') (kk : am_Ex E cc cs pc L st' h) : am_Ex E cc cs pc L st h := e ▸ kk
theorem am_iconst {n : Int} {v : Int32} (hd : decode cc pc = .ok (.iconst n, 1)) (hv : Int32.ofInt n = v) (kk : am_Ex E cc cs (pc + 1) L (.int v :: st) h) : am_Ex E cc cs pc L (st) h := by
  intro g α0 sz α p e s m args below meth c H locs ls C X hl
  exact lv_iconst C.1 C.2.1 hd hv (kk _ _ _ _ _ _ _ _ _ _ _ _ _ _ _ C X hl)
theorem am_bipush {n : Int} {v : Int32} (hd : decode cc pc = .ok (.bipush n, 2)) (hv : (Int8.ofInt n).toInt32 = v) (kk : am_Ex E cc cs (pc + 2) L (.int v :: st) h) : am_Ex E cc cs pc L (st) h := by
  intro g α0 sz α p e s m args below meth c H locs ls C X hl
  exact lv_bipush C.1 C.2.1 hd hv (kk _ _ _ _ _ _ _ _ _ _ _ _ _ _ _ C X hl)
theorem am_sipush {n : Int} {v : Int32} (hd : decode cc pc = .ok (.sipush n, 3)) (hv : (Int16.ofInt n).toInt32 = v) (kk : am_Ex E cc cs (pc + 3) L (.int v :: st) h) : am_Ex E cc cs pc L (st) h := by
  intro g α0 sz α p e s m args below meth c H locs ls C X hl
  exact lv_sipush C.1 C.2.1 hd hv (kk _ _ _ _ _ _ _ _ _ _ _ _ _ _ _ C X hl)
theorem am_lconst {n : Fin 2} {v : Int64} (hd : decode cc pc = .ok (.lconst n, 1)) (hv : Int64.ofNat (n : Nat) = v) (kk : am_Ex E cc cs (pc + 1) L (.long v :: st) h) : am_Ex E cc cs pc L (st) h := by
  intro g α0 sz α p e s m args below meth c H locs ls C X hl
  exact lv_lconst C.1 C.2.1 hd hv (kk _ _ _ _ _ _ _ _ _ _ _ _ _ _ _ C X hl)
theorem am_ldc {i : Nat} {v : Int32} (hw : Cond.constant (am_eo E) i v ∈ am_TB) (hd : decode cc pc = .ok (.ldc i, 2)) (kk : am_Ex E cc cs (pc + 2) L (.int v :: st) h) : am_Ex E cc cs pc L (st) h := by
  intro g α0 sz α p e s m args below meth c H locs ls C X hl
  exact lv_ldc C.1 C.2.1 C.2.2.2.1 (C.2.2.2.2.1 _ hw) hd (kk _ _ _ _ _ _ _ _ _ _ _ _ _ _ _ C X hl)
theorem am_ldcw {i : Nat} {v : Int32} (hw : Cond.constant (am_eo E) i v ∈ am_TB) (hd : decode cc pc = .ok (.ldc_w i, 3)) (kk : am_Ex E cc cs (pc + 3) L (.int v :: st) h) : am_Ex E cc cs pc L (st) h := by
  intro g α0 sz α p e s m args below meth c H locs ls C X hl
  exact lv_ldcw C.1 C.2.1 C.2.2.2.1 (C.2.2.2.2.1 _ hw) hd (kk _ _ _ _ _ _ _ _ _ _ _ _ _ _ _ C X hl)
theorem am_ldc2 {i : Nat} {v : Int64} (hw : Cond.constantLong (am_eo E) i v ∈ am_TB) (hd : decode cc pc = .ok (.ldc2_w i, 3)) (kk : am_Ex E cc cs (pc + 3) L (.long v :: st) h) : am_Ex E cc cs pc L (st) h := by
  intro g α0 sz α p e s m args below meth c H locs ls C X hl
  exact lv_ldc2 C.1 C.2.1 C.2.2.2.1 (C.2.2.2.2.1 _ hw) hd (kk _ _ _ _ _ _ _ _ _ _ _ _ _ _ _ C X hl)
theorem am_iload_n {k : Fin 4} {i j : Nat} {x : Int32} (hd : decode cc pc = .ok (.iload_n k, 1)) (hi : (k : Nat) = i) (hk : L[j]? = some (i, .int x)) (kk : am_Ex E cc cs (pc + 1) L (.int x :: st) h) : am_Ex E cc cs pc L (st) h := by
  intro g α0 sz α p e s m args below meth c H locs ls C X hl
  exact lv_iload_n C.1 C.2.1 hd hi (lv_at hl j (am_L_at hk)) (kk _ _ _ _ _ _ _ _ _ _ _ _ _ _ _ C X hl)
theorem am_iload {i j : Nat} {x : Int32} (hd : decode cc pc = .ok (.iload i, 2)) (hk : L[j]? = some (i, .int x)) (kk : am_Ex E cc cs (pc + 2) L (.int x :: st) h) : am_Ex E cc cs pc L (st) h := by
  intro g α0 sz α p e s m args below meth c H locs ls C X hl
  exact lv_iload C.1 C.2.1 hd (lv_at hl j (am_L_at hk)) (kk _ _ _ _ _ _ _ _ _ _ _ _ _ _ _ C X hl)
theorem am_lload_n {k : Fin 4} {i j : Nat} {x : Int64} (hd : decode cc pc = .ok (.lload_n k, 1)) (hi : (k : Nat) = i) (hk : L[j]? = some (i, .long x)) (kk : am_Ex E cc cs (pc + 1) L (.long x :: st) h) : am_Ex E cc cs pc L (st) h := by
  intro g α0 sz α p e s m args below meth c H locs ls C X hl
  exact lv_lload_n C.1 C.2.1 hd hi (lv_at hl j (am_L_at hk)) (kk _ _ _ _ _ _ _ _ _ _ _ _ _ _ _ C X hl)
theorem am_lload {i j : Nat} {x : Int64} (hd : decode cc pc = .ok (.lload i, 2)) (hk : L[j]? = some (i, .long x)) (kk : am_Ex E cc cs (pc + 2) L (.long x :: st) h) : am_Ex E cc cs pc L (st) h := by
  intro g α0 sz α p e s m args below meth c H locs ls C X hl
  exact lv_lload C.1 C.2.1 hd (lv_at hl j (am_L_at hk)) (kk _ _ _ _ _ _ _ _ _ _ _ _ _ _ _ C X hl)
theorem am_aload_n {k : Fin 4} {i j : Nat} {x : Nat} (hd : decode cc pc = .ok (.aload_n k, 1)) (hi : (k : Nat) = i) (hk : L[j]? = some (i, .ref x)) (kk : am_Ex E cc cs (pc + 1) L (.ref x :: st) h) : am_Ex E cc cs pc L (st) h := by
  intro g α0 sz α p e s m args below meth c H locs ls C X hl
  exact lv_aload_n C.1 C.2.1 hd hi (lv_at hl j (am_L_at hk)) (kk _ _ _ _ _ _ _ _ _ _ _ _ _ _ _ C X hl)
theorem am_aload {i j : Nat} {x : Nat} (hd : decode cc pc = .ok (.aload i, 2)) (hk : L[j]? = some (i, .ref x)) (kk : am_Ex E cc cs (pc + 2) L (.ref x :: st) h) : am_Ex E cc cs pc L (st) h := by
  intro g α0 sz α p e s m args below meth c H locs ls C X hl
  exact lv_aload C.1 C.2.1 hd (lv_at hl j (am_L_at hk)) (kk _ _ _ _ _ _ _ _ _ _ _ _ _ _ _ C X hl)
theorem am_istore_n {k : Fin 4} {i : Nat} {x : Int32} {L' : List (Nat × Value)} (hd : decode cc pc = .ok (.istore_n k, 1)) (hi : (k : Nat) = i) (hn : i < am_en E) (hL : (i, Value.int x) :: L.filter (fun q => !(q.1 == i) && !(q.1 + 1 == i && q.2.category == 2)) = L') (kk : am_Ex E cc cs (pc + 1) L' st h) : am_Ex E cc cs pc L (.int x :: st) h := by
  intro g α0 sz α p e s m args below meth c H locs ls C X hl
  exact lv_istore_n C.1 C.2.1 hd hi hl hn (by rw [am_L_f1]) (fun ls' hl' => kk _ _ _ _ _ _ _ _ _ _ _ _ _ _ _ C X (by rw [← hL]; exact hl'))
theorem am_istore {i : Nat} {x : Int32} {L' : List (Nat × Value)} (hd : decode cc pc = .ok (.istore i, 2)) (hn : i < am_en E) (hL : (i, Value.int x) :: L.filter (fun q => !(q.1 == i) && !(q.1 + 1 == i && q.2.category == 2)) = L') (kk : am_Ex E cc cs (pc + 2) L' st h) : am_Ex E cc cs pc L (.int x :: st) h := by
  intro g α0 sz α p e s m args below meth c H locs ls C X hl
  exact lv_istore C.1 C.2.1 hd hl hn (by rw [am_L_f1]) (fun ls' hl' => kk _ _ _ _ _ _ _ _ _ _ _ _ _ _ _ C X (by rw [← hL]; exact hl'))
theorem am_astore_n {k : Fin 4} {i : Nat} {x : Nat} {L' : List (Nat × Value)} (hd : decode cc pc = .ok (.astore_n k, 1)) (hi : (k : Nat) = i) (hn : i < am_en E) (hL : (i, Value.ref x) :: L.filter (fun q => !(q.1 == i) && !(q.1 + 1 == i && q.2.category == 2)) = L') (kk : am_Ex E cc cs (pc + 1) L' st h) : am_Ex E cc cs pc L (.ref x :: st) h := by
  intro g α0 sz α p e s m args below meth c H locs ls C X hl
  exact lv_astore_n C.1 C.2.1 hd hi hl hn (by rw [am_L_f1]) (fun ls' hl' => kk _ _ _ _ _ _ _ _ _ _ _ _ _ _ _ C X (by rw [← hL]; exact hl'))
theorem am_astore {i : Nat} {x : Nat} {L' : List (Nat × Value)} (hd : decode cc pc = .ok (.astore i, 2)) (hn : i < am_en E) (hL : (i, Value.ref x) :: L.filter (fun q => !(q.1 == i) && !(q.1 + 1 == i && q.2.category == 2)) = L') (kk : am_Ex E cc cs (pc + 2) L' st h) : am_Ex E cc cs pc L (.ref x :: st) h := by
  intro g α0 sz α p e s m args below meth c H locs ls C X hl
  exact lv_astore C.1 C.2.1 hd hl hn (by rw [am_L_f1]) (fun ls' hl' => kk _ _ _ _ _ _ _ _ _ _ _ _ _ _ _ C X (by rw [← hL]; exact hl'))
theorem am_lstore_n {k : Fin 4} {i : Nat} {x : Int64} {L' : List (Nat × Value)} (hd : decode cc pc = .ok (.lstore_n k, 1)) (hi : (k : Nat) = i) (hn : i + 1 < am_en E) (hL : (i, Value.long x) :: L.filter (fun q => !(q.1 == i) && (!(q.1 == i + 1) && !(q.1 + 1 == i && q.2.category == 2))) = L') (kk : am_Ex E cc cs (pc + 1) L' st h) : am_Ex E cc cs pc L (.long x :: st) h := by
  intro g α0 sz α p e s m args below meth c H locs ls C X hl
  exact lv_lstore_n C.1 C.2.1 hd hi hl hn (by rw [am_L_f2]) (fun ls' hl' => kk _ _ _ _ _ _ _ _ _ _ _ _ _ _ _ C X (by rw [← hL]; exact hl'))
theorem am_lstore {i : Nat} {x : Int64} {L' : List (Nat × Value)} (hd : decode cc pc = .ok (.lstore i, 2)) (hn : i + 1 < am_en E) (hL : (i, Value.long x) :: L.filter (fun q => !(q.1 == i) && (!(q.1 == i + 1) && !(q.1 + 1 == i && q.2.category == 2))) = L') (kk : am_Ex E cc cs (pc + 2) L' st h) : am_Ex E cc cs pc L (.long x :: st) h := by
  intro g α0 sz α p e s m args below meth c H locs ls C X hl
  exact lv_lstore C.1 C.2.1 hd hl hn (by rw [am_L_f2]) (fun ls' hl' => kk _ _ _ _ _ _ _ _ _ _ _ _ _ _ _ C X (by rw [← hL]; exact hl'))
theorem am_iinc {i j : Nat} {n : Int} {x v : Int32} {L' : List (Nat × Value)} (hd : decode cc pc = .ok (.iinc i n, 3)) (hk : L[j]? = some (i, .int x)) (hv : x + Int32.ofInt n = v) (hn : i < am_en E) (hL : (i, Value.int v) :: L.filter (fun q => !(q.1 == i) && !(q.1 + 1 == i && q.2.category == 2)) = L') (kk : am_Ex E cc cs (pc + 3) L' st h) : am_Ex E cc cs pc L st h := by
  intro g α0 sz α p e s m args below meth c H locs ls C X hl
  exact lv_iinc C.1 C.2.1 hd hl (am_L_at hk) hv hn (by rw [am_L_f1]) (fun ls' hl' => kk _ _ _ _ _ _ _ _ _ _ _ _ _ _ _ C X (by rw [← hL]; exact hl'))
theorem am_iadd {x y : Int32} (hd : decode cc pc = .ok (.iadd, 1)) (kk : am_Ex E cc cs (pc + 1) L (.int (x + y) :: st) h) : am_Ex E cc cs pc L (.int y :: .int x :: st) h := by
  intro g α0 sz α p e s m args below meth c H locs ls C X hl
  exact lv_iadd C.1 C.2.1 hd (kk _ _ _ _ _ _ _ _ _ _ _ _ _ _ _ C X hl)
theorem am_isub {x y : Int32} (hd : decode cc pc = .ok (.isub, 1)) (kk : am_Ex E cc cs (pc + 1) L (.int (x - y) :: st) h) : am_Ex E cc cs pc L (.int y :: .int x :: st) h := by
  intro g α0 sz α p e s m args below meth c H locs ls C X hl
  exact lv_isub C.1 C.2.1 hd (kk _ _ _ _ _ _ _ _ _ _ _ _ _ _ _ C X hl)
theorem am_imul {x y : Int32} (hd : decode cc pc = .ok (.imul, 1)) (kk : am_Ex E cc cs (pc + 1) L (.int (x * y) :: st) h) : am_Ex E cc cs pc L (.int y :: .int x :: st) h := by
  intro g α0 sz α p e s m args below meth c H locs ls C X hl
  exact lv_imul C.1 C.2.1 hd (kk _ _ _ _ _ _ _ _ _ _ _ _ _ _ _ C X hl)
theorem am_iand {x y : Int32} (hd : decode cc pc = .ok (.iand, 1)) (kk : am_Ex E cc cs (pc + 1) L (.int (x &&& y) :: st) h) : am_Ex E cc cs pc L (.int y :: .int x :: st) h := by
  intro g α0 sz α p e s m args below meth c H locs ls C X hl
  exact lv_iand C.1 C.2.1 hd (kk _ _ _ _ _ _ _ _ _ _ _ _ _ _ _ C X hl)
theorem am_ior {x y : Int32} (hd : decode cc pc = .ok (.ior, 1)) (kk : am_Ex E cc cs (pc + 1) L (.int (x ||| y) :: st) h) : am_Ex E cc cs pc L (.int y :: .int x :: st) h := by
  intro g α0 sz α p e s m args below meth c H locs ls C X hl
  exact lv_ior C.1 C.2.1 hd (kk _ _ _ _ _ _ _ _ _ _ _ _ _ _ _ C X hl)
theorem am_ixor {x y : Int32} (hd : decode cc pc = .ok (.ixor, 1)) (kk : am_Ex E cc cs (pc + 1) L (.int (x ^^^ y) :: st) h) : am_Ex E cc cs pc L (.int y :: .int x :: st) h := by
  intro g α0 sz α p e s m args below meth c H locs ls C X hl
  exact lv_ixor C.1 C.2.1 hd (kk _ _ _ _ _ _ _ _ _ _ _ _ _ _ _ C X hl)
theorem am_ishl {x y : Int32} (hd : decode cc pc = .ok (.ishl, 1)) (kk : am_Ex E cc cs (pc + 1) L (.int (x <<< (y &&& 31)) :: st) h) : am_Ex E cc cs pc L (.int y :: .int x :: st) h := by
  intro g α0 sz α p e s m args below meth c H locs ls C X hl
  exact lv_ishl C.1 C.2.1 hd (kk _ _ _ _ _ _ _ _ _ _ _ _ _ _ _ C X hl)
theorem am_ishr {x y : Int32} (hd : decode cc pc = .ok (.ishr, 1)) (kk : am_Ex E cc cs (pc + 1) L (.int (x >>> (y &&& 31)) :: st) h) : am_Ex E cc cs pc L (.int y :: .int x :: st) h := by
  intro g α0 sz α p e s m args below meth c H locs ls C X hl
  exact lv_ishr C.1 C.2.1 hd (kk _ _ _ _ _ _ _ _ _ _ _ _ _ _ _ C X hl)
theorem am_idiv {x y : Int32} (hd : decode cc pc = .ok (.idiv, 1)) (hne : ¬ y = 0) (kk : am_Ex E cc cs (pc + 1) L (.int (x / y) :: st) h) : am_Ex E cc cs pc L (.int y :: .int x :: st) h := by
  intro g α0 sz α p e s m args below meth c H locs ls C X hl
  exact lv_idiv C.1 C.2.1 hd hne (kk _ _ _ _ _ _ _ _ _ _ _ _ _ _ _ C X hl)
theorem am_irem {x y : Int32} (hd : decode cc pc = .ok (.irem, 1)) (hne : ¬ y = 0) (kk : am_Ex E cc cs (pc + 1) L (.int (x - x / y * y) :: st) h) : am_Ex E cc cs pc L (.int y :: .int x :: st) h := by
  intro g α0 sz α p e s m args below meth c H locs ls C X hl
  exact lv_irem C.1 C.2.1 hd hne (kk _ _ _ _ _ _ _ _ _ _ _ _ _ _ _ C X hl)
theorem am_ladd {x y : Int64} (hd : decode cc pc = .ok (.ladd, 1)) (kk : am_Ex E cc cs (pc + 1) L (.long (x + y) :: st) h) : am_Ex E cc cs pc L (.long y :: .long x :: st) h := by
  intro g α0 sz α p e s m args below meth c H locs ls C X hl
  exact lv_ladd C.1 C.2.1 hd (kk _ _ _ _ _ _ _ _ _ _ _ _ _ _ _ C X hl)
theorem am_lsub {x y : Int64} (hd : decode cc pc = .ok (.lsub, 1)) (kk : am_Ex E cc cs (pc + 1) L (.long (x - y) :: st) h) : am_Ex E cc cs pc L (.long y :: .long x :: st) h := by
  intro g α0 sz α p e s m args below meth c H locs ls C X hl
  exact lv_lsub C.1 C.2.1 hd (kk _ _ _ _ _ _ _ _ _ _ _ _ _ _ _ C X hl)
theorem am_lmul {x y : Int64} (hd : decode cc pc = .ok (.lmul, 1)) (kk : am_Ex E cc cs (pc + 1) L (.long (x * y) :: st) h) : am_Ex E cc cs pc L (.long y :: .long x :: st) h := by
  intro g α0 sz α p e s m args below meth c H locs ls C X hl
  exact lv_lmul C.1 C.2.1 hd (kk _ _ _ _ _ _ _ _ _ _ _ _ _ _ _ C X hl)
theorem am_land {x y : Int64} (hd : decode cc pc = .ok (.land, 1)) (kk : am_Ex E cc cs (pc + 1) L (.long (x &&& y) :: st) h) : am_Ex E cc cs pc L (.long y :: .long x :: st) h := by
  intro g α0 sz α p e s m args below meth c H locs ls C X hl
  exact lv_land C.1 C.2.1 hd (kk _ _ _ _ _ _ _ _ _ _ _ _ _ _ _ C X hl)
theorem am_ldiv {x y : Int64} (hd : decode cc pc = .ok (.ldiv, 1)) (hne : ¬ y = 0) (kk : am_Ex E cc cs (pc + 1) L (.long (x / y) :: st) h) : am_Ex E cc cs pc L (.long y :: .long x :: st) h := by
  intro g α0 sz α p e s m args below meth c H locs ls C X hl
  exact lv_ldiv C.1 C.2.1 hd hne (kk _ _ _ _ _ _ _ _ _ _ _ _ _ _ _ C X hl)
theorem am_lrem {x y : Int64} (hd : decode cc pc = .ok (.lrem, 1)) (hne : ¬ y = 0) (kk : am_Ex E cc cs (pc + 1) L (.long (x - x / y * y) :: st) h) : am_Ex E cc cs pc L (.long y :: .long x :: st) h := by
  intro g α0 sz α p e s m args below meth c H locs ls C X hl
  exact lv_lrem C.1 C.2.1 hd hne (kk _ _ _ _ _ _ _ _ _ _ _ _ _ _ _ C X hl)
theorem am_lcmp {x y : Int64} (hd : decode cc pc = .ok (.lcmp, 1)) (kk : am_Ex E cc cs (pc + 1) L (.int (lg_cmp x y) :: st) h) : am_Ex E cc cs pc L (.long y :: .long x :: st) h := by
  intro g α0 sz α p e s m args below meth c H locs ls C X hl
  exact W.lcmp C.1 C.2.1 hd (kk _ _ _ _ _ _ _ _ _ _ _ _ _ _ _ C X hl)
theorem am_i2l {x : Int32} (hd : decode cc pc = .ok (.i2l, 1)) (kk : am_Ex E cc cs (pc + 1) L (.long x.toInt64 :: st) h) : am_Ex E cc cs pc L (.int x :: st) h := by
  intro g α0 sz α p e s m args below meth c H locs ls C X hl
  exact lv_i2l C.1 C.2.1 hd rfl (kk _ _ _ _ _ _ _ _ _ _ _ _ _ _ _ C X hl)
theorem am_l2i {x : Int64} (hd : decode cc pc = .ok (.l2i, 1)) (kk : am_Ex E cc cs (pc + 1) L (.int x.toInt32 :: st) h) : am_Ex E cc cs pc L (.long x :: st) h := by
  intro g α0 sz α p e s m args below meth c H locs ls C X hl
  exact lv_l2i C.1 C.2.1 hd rfl (kk _ _ _ _ _ _ _ _ _ _ _ _ _ _ _ C X hl)
theorem am_dup {v : Value} (hd : decode cc pc = .ok (.dup, 1)) (hv : v.category = 1) (kk : am_Ex E cc cs (pc + 1) L (v :: v :: st) h) : am_Ex E cc cs pc L (v :: st) h := by
  intro g α0 sz α p e s m args below meth c H locs ls C X hl
  exact lv_dup C.1 C.2.1 hd (by rw [am_fv_cat]; exact hv) (kk _ _ _ _ _ _ _ _ _ _ _ _ _ _ _ C X hl)
theorem am_pop {v : Value} (hd : decode cc pc = .ok (.pop, 1)) (hv : v.category = 1) (kk : am_Ex E cc cs (pc + 1) L (st) h) : am_Ex E cc cs pc L (v :: st) h := by
  intro g α0 sz α p e s m args below meth c H locs ls C X hl
  exact lv_pop C.1 C.2.1 hd (by rw [am_fv_cat]; exact hv) (kk _ _ _ _ _ _ _ _ _ _ _ _ _ _ _ C X hl)
theorem am_dup2 {v w : Value} (hd : decode cc pc = .ok (.dup2, 1)) (hv : v.category = 1) (hw : w.category = 1) (kk : am_Ex E cc cs (pc + 1) L (v :: w :: v :: w :: st) h) : am_Ex E cc cs pc L (v :: w :: st) h := by
  intro g α0 sz α p e s m args below meth c H locs ls C X hl
  exact lv_dup2_11 C.1 C.2.1 hd (by rw [am_fv_cat]; exact hv) (by rw [am_fv_cat]; exact hw) (kk _ _ _ _ _ _ _ _ _ _ _ _ _ _ _ C X hl)
theorem am_dup_x1 {v w : Value} (hd : decode cc pc = .ok (.dup_x1, 1)) (hv : v.category = 1) (hw : w.category = 1) (kk : am_Ex E cc cs (pc + 1) L (v :: w :: v :: st) h) : am_Ex E cc cs pc L (v :: w :: st) h := by
  intro g α0 sz α p e s m args below meth c H locs ls C X hl
  exact lv_dup_x1 C.1 C.2.1 hd (by rw [am_fv_cat]; exact hv) (by rw [am_fv_cat]; exact hw) (kk _ _ _ _ _ _ _ _ _ _ _ _ _ _ _ C X hl)
theorem am_if_eq {x : Int32} {off : Int} {tgt : Nat} (hd : decode cc pc = .ok (.ifCond .eq off, 3)) (ht : (pc : Int) + off = (tgt : Int)) (kt : x = 0 → am_Ex E cc cs tgt L st h) (kf : ¬ (x = 0) → am_Ex E cc cs (pc + 3) L st h) : am_Ex E cc cs pc L (.int x :: st) h := by
  intro g α0 sz α p e s m args below meth c H locs ls C X hl
  exact lv_if_eq C.1 C.2.1 hd ht (fun z => kt z _ _ _ _ _ _ _ _ _ _ _ _ _ _ _ C X hl) (fun z => kf z _ _ _ _ _ _ _ _ _ _ _ _ _ _ _ C X hl)
theorem am_icmp_eq {x y : Int32} {off : Int} {tgt : Nat} (hd : decode cc pc = .ok (.if_icmp .eq off, 3)) (ht : (pc : Int) + off = (tgt : Int)) (kt : x = y → am_Ex E cc cs tgt L st h) (kf : ¬ (x = y) → am_Ex E cc cs (pc + 3) L st h) : am_Ex E cc cs pc L (.int y :: .int x :: st) h := by
  intro g α0 sz α p e s m args below meth c H locs ls C X hl
  exact lv_icmp_eq C.1 C.2.1 hd ht (fun z => kt z _ _ _ _ _ _ _ _ _ _ _ _ _ _ _ C X hl) (fun z => kf z _ _ _ _ _ _ _ _ _ _ _ _ _ _ _ C X hl)
theorem am_if_ne {x : Int32} {off : Int} {tgt : Nat} (hd : decode cc pc = .ok (.ifCond .ne off, 3)) (ht : (pc : Int) + off = (tgt : Int)) (kt : ¬ x = 0 → am_Ex E cc cs tgt L st h) (kf : x = 0 → am_Ex E cc cs (pc + 3) L st h) : am_Ex E cc cs pc L (.int x :: st) h := by
  intro g α0 sz α p e s m args below meth c H locs ls C X hl
  exact lv_if_ne C.1 C.2.1 hd ht (fun z => kt z _ _ _ _ _ _ _ _ _ _ _ _ _ _ _ C X hl) (fun z => kf z _ _ _ _ _ _ _ _ _ _ _ _ _ _ _ C X hl)
theorem am_icmp_ne {x y : Int32} {off : Int} {tgt : Nat} (hd : decode cc pc = .ok (.if_icmp .ne off, 3)) (ht : (pc : Int) + off = (tgt : Int)) (kt : ¬ x = y → am_Ex E cc cs tgt L st h) (kf : x = y → am_Ex E cc cs (pc + 3) L st h) : am_Ex E cc cs pc L (.int y :: .int x :: st) h := by
  intro g α0 sz α p e s m args below meth c H locs ls C X hl
  exact lv_icmp_ne C.1 C.2.1 hd ht (fun z => kt z _ _ _ _ _ _ _ _ _ _ _ _ _ _ _ C X hl) (fun z => kf z _ _ _ _ _ _ _ _ _ _ _ _ _ _ _ C X hl)
theorem am_if_lt {x : Int32} {off : Int} {tgt : Nat} (hd : decode cc pc = .ok (.ifCond .lt off, 3)) (ht : (pc : Int) + off = (tgt : Int)) (kt : x < 0 → am_Ex E cc cs tgt L st h) (kf : ¬ (x < 0) → am_Ex E cc cs (pc + 3) L st h) : am_Ex E cc cs pc L (.int x :: st) h := by
  intro g α0 sz α p e s m args below meth c H locs ls C X hl
  exact lv_if_lt C.1 C.2.1 hd ht (fun z => kt z _ _ _ _ _ _ _ _ _ _ _ _ _ _ _ C X hl) (fun z => kf z _ _ _ _ _ _ _ _ _ _ _ _ _ _ _ C X hl)
theorem am_icmp_lt {x y : Int32} {off : Int} {tgt : Nat} (hd : decode cc pc = .ok (.if_icmp .lt off, 3)) (ht : (pc : Int) + off = (tgt : Int)) (kt : x < y → am_Ex E cc cs tgt L st h) (kf : ¬ (x < y) → am_Ex E cc cs (pc + 3) L st h) : am_Ex E cc cs pc L (.int y :: .int x :: st) h := by
  intro g α0 sz α p e s m args below meth c H locs ls C X hl
  exact lv_icmp_lt C.1 C.2.1 hd ht (fun z => kt z _ _ _ _ _ _ _ _ _ _ _ _ _ _ _ C X hl) (fun z => kf z _ _ _ _ _ _ _ _ _ _ _ _ _ _ _ C X hl)
theorem am_if_ge {x : Int32} {off : Int} {tgt : Nat} (hd : decode cc pc = .ok (.ifCond .ge off, 3)) (ht : (pc : Int) + off = (tgt : Int)) (kt : 0 ≤ x → am_Ex E cc cs tgt L st h) (kf : ¬ (0 ≤ x) → am_Ex E cc cs (pc + 3) L st h) : am_Ex E cc cs pc L (.int x :: st) h := by
  intro g α0 sz α p e s m args below meth c H locs ls C X hl
  exact lv_if_ge C.1 C.2.1 hd ht (fun z => kt z _ _ _ _ _ _ _ _ _ _ _ _ _ _ _ C X hl) (fun z => kf z _ _ _ _ _ _ _ _ _ _ _ _ _ _ _ C X hl)
theorem am_icmp_ge {x y : Int32} {off : Int} {tgt : Nat} (hd : decode cc pc = .ok (.if_icmp .ge off, 3)) (ht : (pc : Int) + off = (tgt : Int)) (kt : y ≤ x → am_Ex E cc cs tgt L st h) (kf : ¬ (y ≤ x) → am_Ex E cc cs (pc + 3) L st h) : am_Ex E cc cs pc L (.int y :: .int x :: st) h := by
  intro g α0 sz α p e s m args below meth c H locs ls C X hl
  exact lv_icmp_ge C.1 C.2.1 hd ht (fun z => kt z _ _ _ _ _ _ _ _ _ _ _ _ _ _ _ C X hl) (fun z => kf z _ _ _ _ _ _ _ _ _ _ _ _ _ _ _ C X hl)
theorem am_if_gt {x : Int32} {off : Int} {tgt : Nat} (hd : decode cc pc = .ok (.ifCond .gt off, 3)) (ht : (pc : Int) + off = (tgt : Int)) (kt : 0 < x → am_Ex E cc cs tgt L st h) (kf : ¬ (0 < x) → am_Ex E cc cs (pc + 3) L st h) : am_Ex E cc cs pc L (.int x :: st) h := by
  intro g α0 sz α p e s m args below meth c H locs ls C X hl
  exact lv_if_gt C.1 C.2.1 hd ht (fun z => kt z _ _ _ _ _ _ _ _ _ _ _ _ _ _ _ C X hl) (fun z => kf z _ _ _ _ _ _ _ _ _ _ _ _ _ _ _ C X hl)
theorem am_icmp_gt {x y : Int32} {off : Int} {tgt : Nat} (hd : decode cc pc = .ok (.if_icmp .gt off, 3)) (ht : (pc : Int) + off = (tgt : Int)) (kt : y < x → am_Ex E cc cs tgt L st h) (kf : ¬ (y < x) → am_Ex E cc cs (pc + 3) L st h) : am_Ex E cc cs pc L (.int y :: .int x :: st) h := by
  intro g α0 sz α p e s m args below meth c H locs ls C X hl
  exact lv_icmp_gt C.1 C.2.1 hd ht (fun z => kt z _ _ _ _ _ _ _ _ _ _ _ _ _ _ _ C X hl) (fun z => kf z _ _ _ _ _ _ _ _ _ _ _ _ _ _ _ C X hl)
theorem am_if_le {x : Int32} {off : Int} {tgt : Nat} (hd : decode cc pc = .ok (.ifCond .le off, 3)) (ht : (pc : Int) + off = (tgt : Int)) (kt : x ≤ 0 → am_Ex E cc cs tgt L st h) (kf : ¬ (x ≤ 0) → am_Ex E cc cs (pc + 3) L st h) : am_Ex E cc cs pc L (.int x :: st) h := by
  intro g α0 sz α p e s m args below meth c H locs ls C X hl
  exact lv_if_le C.1 C.2.1 hd ht (fun z => kt z _ _ _ _ _ _ _ _ _ _ _ _ _ _ _ C X hl) (fun z => kf z _ _ _ _ _ _ _ _ _ _ _ _ _ _ _ C X hl)
theorem am_icmp_le {x y : Int32} {off : Int} {tgt : Nat} (hd : decode cc pc = .ok (.if_icmp .le off, 3)) (ht : (pc : Int) + off = (tgt : Int)) (kt : x ≤ y → am_Ex E cc cs tgt L st h) (kf : ¬ (x ≤ y) → am_Ex E cc cs (pc + 3) L st h) : am_Ex E cc cs pc L (.int y :: .int x :: st) h := by
  intro g α0 sz α p e s m args below meth c H locs ls C X hl
  exact lv_icmp_le C.1 C.2.1 hd ht (fun z => kt z _ _ _ _ _ _ _ _ _ _ _ _ _ _ _ C X hl) (fun z => kf z _ _ _ _ _ _ _ _ _ _ _ _ _ _ _ C X hl)
theorem am_goto {off : Int} {tgt : Nat} (hd : decode cc pc = .ok (.goto off, 3)) (ht : (pc : Int) + off = (tgt : Int)) (kk : am_Ex E cc cs tgt L st h) : am_Ex E cc cs pc L st h := by
  intro g α0 sz α p e s m args below meth c H locs ls C X hl
  exact lv_goto C.1 C.2.1 hd ht (kk _ _ _ _ _ _ _ _ _ _ _ _ _ _ _ C X hl)
theorem am_tableOut {dflt lo hi : Int} {offs : Array Int} {len : Nat} {x : Int32} {tgt : Nat} (hd : decode cc pc = .ok (.tableswitch dflt lo hi offs, len)) (hx : x.toInt < lo ∨ hi < x.toInt) (ht : (pc : Int) + dflt = (tgt : Int)) (kk : am_Ex E cc cs tgt L st h) : am_Ex E cc cs pc L (.int x :: st) h := by
  intro g α0 sz α p e s m args below meth c H locs ls C X hl
  exact lv_tableOut C.1 C.2.1 hd hx ht (kk _ _ _ _ _ _ _ _ _ _ _ _ _ _ _ C X hl)
theorem am_tableIn {dflt lo hi : Int} {offs : Array Int} {len : Nat} {x : Int32} {off : Int} {tgt : Nat} (hd : decode cc pc = .ok (.tableswitch dflt lo hi offs, len)) (h1 : ¬ x.toInt < lo) (h2 : ¬ hi < x.toInt) (ho : offs[(x.toInt - lo).toNat]? = some off) (ht : (pc : Int) + off = (tgt : Int)) (kk : am_Ex E cc cs tgt L st h) : am_Ex E cc cs pc L (.int x :: st) h := by
  intro g α0 sz α p e s m args below meth c H locs ls C X hl
  exact lv_tableIn C.1 C.2.1 hd h1 h2 ho ht (kk _ _ _ _ _ _ _ _ _ _ _ _ _ _ _ C X hl)
theorem am_lookup {dflt : Int} {ps : Array (Int × Int)} {len : Nat} {x : Int32} {off : Int} {tgt : Nat} (hd : decode cc pc = .ok (.lookupswitch dflt ps, len)) (hp : (ps.toList.zip (ps.toList.drop 1)).all (fun (a, next) => a.1 < next.1) = true) (ho : Op.lookupswitch.offset ps.toList dflt x.toInt = off) (ht : (pc : Int) + off = (tgt : Int)) (kk : am_Ex E cc cs tgt L st h) : am_Ex E cc cs pc L (.int x :: st) h := by
  intro g α0 sz α p e s m args below meth c H locs ls C X hl
  exact lv_lookup C.1 C.2.1 hd hp ho ht (kk _ _ _ _ _ _ _ _ _ _ _ _ _ _ _ C X hl)
end AMR
