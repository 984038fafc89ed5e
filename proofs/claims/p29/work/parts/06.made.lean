/-! what makes cells: the places' addresses grow -/
def am_ok (n : Nat) (v : Value) : Bool := match v with
  | .ref k => decide (k < n) || decide (1000000 ≤ k)
  | _ => true
theorem am_fv_rel {n : Nat} {α α' : Nat → Nat} (h : ∀ k, k < n ∨ 1000000 ≤ k → α' k = α k) {v : Value} (hv : am_ok n v = true) : am_fv α' v = am_fv α v := by
  cases v with
  | ref k =>
    simp only [am_ok, Bool.or_eq_true, decide_eq_true_eq] at hv
    simp [am_fv, h k hv]
  | _ => rfl
theorem am_st_rel {n : Nat} {α α' : Nat → Nat} (h : ∀ k, k < n ∨ 1000000 ≤ k → α' k = α k) {st : List Value} (hv : st.all (am_ok n) = true) : st.map (am_fv α') = st.map (am_fv α) := by
  apply List.map_congr_left
  intro v hm
  exact am_fv_rel h (List.all_eq_true.mp hv v hm)
theorem am_L_rel {n : Nat} {α α' : Nat → Nat} (h : ∀ k, k < n ∨ 1000000 ≤ k → α' k = α k) {L : List (Nat × Value)} (hv : L.all (fun q => am_ok n q.2) = true) : am_L α' L = am_L α L := by
  apply List.map_congr_left
  intro q hm
  rw [am_fv_rel h (List.all_eq_true.mp hv q hm)]
/-- the heap with one place more -/
def am_add (h : am_H) (k : Nat × Nat) : am_H := (h.1 ++ [k], (fun a j => if a = h.1.length then none else h.2.1 a j), am_row h.2.2 h.1.length (fun _ => 0))
theorem am_add_wf {h : am_H} {k : Nat × Nat} (hwf : am_wf h) : am_wf (am_add h k) := by
  intro a j b ha hb
  simp only [am_add] at ha hb ⊢
  split at hb
  · cases hb
  · rename_i hne
    simp only [List.length_append, List.length_singleton] at ha ⊢
    exact Nat.lt_succ_of_lt (hwf a j b (by omega) hb)
theorem am_cell_add {g : am_G} {α : Nat → Nat} {h : am_H} {k k' : Nat × Nat} {q a : Nat} (hwf : am_wf h) (ha : a < h.1.length) : am_cell g (va_up α h.1.length q) (am_add h k) a k' = am_cell g α h a k' := by
  have hne : a ≠ h.1.length := Nat.ne_of_lt ha
  obtain ⟨t, n⟩ := k'
  match t with
  | 0 => simp [am_cell, am_add, am_row, hne]
  | 1 => simp [am_cell, am_add, am_row, hne]
  | c + 2 =>
    simp only [am_cell]
    congr 2
    apply List.map_congr_left
    intro j _
    simp only [am_fld, am_add, am_row, if_neg hne]
    split
    · cases hr : h.2.1 a j with
      | none => rfl
      | some b =>
        have := hwf a j b ha hr
        simp [va_rf, am_fv, va_up, Nat.ne_of_lt this]
    · rfl
theorem am_w_add {g : am_G} {α : Nat → Nat} {h : am_H} {k : Nat × Nat} {q : Nat} (hwf : am_wf h) : am_w g (va_up α h.1.length q) (am_add h k) = am_w g α h ++ [(q, am_cell g (va_up α h.1.length q) (am_add h k) h.1.length k)] := by
  have hl : (am_w g α h).length = h.1.length := by simp [am_w]
  apply List.ext_getElem?
  intro i
  rcases Nat.lt_trichotomy i h.1.length with hi | hi | hi
  · rw [List.getElem?_append_left (by rw [hl]; exact hi)]
    have hs : h.1[i]? = some h.1[i] := List.getElem?_eq_getElem hi
    rw [am_at hs, am_at (h := am_add h k) (show (h.1 ++ [k])[i]? = some h.1[i] by rw [List.getElem?_append_left hi]; exact hs)]
    rw [am_cell_add hwf hi]
    simp [va_up, Nat.ne_of_lt hi]
  · subst hi
    rw [List.getElem?_append_right (by rw [hl]; exact Nat.le_refl _), hl]
    rw [am_at (h := am_add h k) (show (h.1 ++ [k])[h.1.length]? = some k by simp)]
    simp [va_up]
  · rw [List.getElem?_eq_none (by simp [am_w, am_add]; omega), List.getElem?_eq_none (by simp [hl]; omega)]
section AMN
variable {E : am_EV} {cc : ByteArray} {cs : Nat × Nat} {pc : Nat} {L : List (Nat × Value)} {st : List Value} {h : am_H}
theorem am_rel_add {n0 n q : Nat} {α0 α : Nat → Nat} (hn : n0 ≤ n) (hm : n < 1000000) (hr : am_rel true n0 α0 α) : am_rel true n0 α0 (va_up α n q) := by
  refine ⟨fun k hk => ?_, fun h => by cases h⟩
  rw [← hr.1 k hk]
  have : k ≠ n := by omega
  simp [va_up, this]
theorem am_va_up {n : Nat} {α : Nat → Nat} {q : Nat} (hm : n < 1000000) : ∀ k, k < n ∨ 1000000 ≤ k → va_up α n q k = α k := by
  intro k hk
  have : k ≠ n := by omega
  simp [va_up, this]
theorem am_newa {t N : Nat} {n : Int32} {atype : ArrayType} {ty : FieldType} (hty : newarray.typeOf atype = ty) (htt : (t = 0 ∧ ty = .int) ∨ (t = 1 ∧ ty = .boolean)) (hal : am_ea E = true) (hle : (am_eh E).1.length ≤ h.1.length) (hm : h.1.length < 1000000) (hL : L.all (fun q => am_ok h.1.length q.2) = true) (hst : st.all (am_ok h.1.length) = true) (hw : Cond.arrayClass ty ∈ am_TB) (hn : ¬ n < 0) (hN : n.toNatClampNeg = N) (hby : N ≤ 100000) (hcs : cs.1 + 1 ≤ (am_er E).cells ∧ cs.2 + N ≤ (am_er E).slots) (hd : decode cc pc = .ok (.newarray atype, 2)) (kk : am_Ex E cc (cs.1 + 1, cs.2 + N) (pc + 2) L (.ref h.1.length :: st) (am_add h (t, N))) : am_Ex E cc cs pc L (.int n :: st) h := by
  intro g α0 sz α p e s m args below meth c' H locs ls C X hl
  have C' := C
  obtain ⟨hx, hb, hml, hown, hts, hT, hsz, hcx, hrel⟩ := C'
  obtain ⟨hwf, hP, hD, hS⟩ := X
  have hA : ∀ q, s.heap.size ≤ q → am_A E g α0 sz q := fun q hq => Or.inr (by rw [← hsz]; exact hq)
  have hdef : defaultValue ty = .int 0 := by rcases htt with ⟨-, rfl⟩ | ⟨-, rfl⟩ <;> rfl
  refine va_newa hx hb (by rw [hty]; exact hts _ hw) hty hT.1 hP hD hS hA (a0 := (N, .inl (fun _ => 0))) (fun cA => by rw [hdef]; rfl) hn hN (by rcases htt with ⟨-, rfl⟩ | ⟨-, rfl⟩ <;> simp [componentBytes] <;> omega) hcs.1 hcs.2 hd (fun q cA H1 hK1 hP1 hD1 hS1 => ?_)
  have hcA : cA = g.2 t := by
    have h1 := (hK1.2 2 (cA, ty) rfl).2
    rcases htt with ⟨rfl, rfl⟩ | ⟨rfl, rfl⟩
    · have h2 := (hT.1.2 0 (g.2 0, .int) rfl).2
      exact Option.some.inj (h1.symm.trans h2)
    · have h2 := (hT.1.2 1 (g.2 1, .boolean) rfl).2
      exact Option.some.inj (h1.symm.trans h2)
  subst hcA
  have hu := am_va_up (α := α) (q := q) hm
  have ecell : am_cell g (va_up α h.1.length q) (am_add h (t, N)) h.1.length (t, N) = .inl (g.2 t, N, .inl (fun _ => 0)) := by
    rcases htt with ⟨rfl, -⟩ | ⟨rfl, -⟩ <;> simp [am_cell, am_add, am_row]
  have ew : am_w g (va_up α h.1.length q) (am_add h (t, N)) = am_w g α h ++ [(q, .inl (g.2 t, N, .inl (fun _ => 0)))] := by rw [am_w_add hwf, ecell]
  have k2 := kk g α0 sz (va_up α h.1.length q) p e s m args below meth c' H1 locs ls ⟨hx, hb, hml, hown, hts, hT, hsz, hcx, by rw [hal] at hrel ⊢; exact am_rel_add hle hm hrel⟩ ⟨am_add_wf hwf, by rw [ew]; exact hP1, by rw [ew]; exact hD1, hS1⟩ (by rw [am_L_rel hu hL]; exact hl)
  have e2 : (Value.ref h.1.length :: st).map (am_fv (va_up α h.1.length q)) = .ref q :: st.map (am_fv α) := by
    rw [List.map_cons, am_st_rel hu hst]
    simp [am_fv, va_up]
  rw [e2] at k2
  exact k2
theorem am_new {c idx : Nat} (hc : c < 7) (hal : am_ea E = true) (hle : (am_eh E).1.length ≤ h.1.length) (hm : h.1.length < 1000000) (hL : L.all (fun q => am_ok h.1.length q.2) = true) (hst : st.all (am_ok h.1.length) = true) (hw : Cond.classLink (am_eo E) idx (am_cn c) ∈ am_TB ∧ Cond.instantiable (am_cn c) (am_nf c) ∈ am_TB ∧ Cond.initialized (am_cn c) ∈ am_TB) (hcs : cs.1 + 1 ≤ (am_er E).cells ∧ cs.2 + am_nf c ≤ (am_er E).slots) (hdv : ∀ j, j < am_nf c → defaultValue (am_cy c j) = if am_isr (am_cy c j) = true then .null else .int 0) (hd : decode cc pc = .ok (.new idx, 3)) (kk : am_Ex E cc (cs.1 + 1, cs.2 + am_nf c) (pc + 3) L (.ref h.1.length :: st) (am_add h (c + 2, 0))) : am_Ex E cc cs pc L st h := by
  intro g α0 sz α p e s m args below meth c' H locs ls C X hl
  have C' := C
  obtain ⟨hx, hb, hml, hown, hts, hT, hsz, hcx, hrel⟩ := C'
  obtain ⟨hwf, hP, hD, hS⟩ := X
  have hA : ∀ q, s.heap.size ≤ q → am_A E g α0 sz q := fun q hq => Or.inr (by rw [← hsz]; exact hq)
  refine va_new hx hb hts (am_cin c hc) (am_cy c) (am_cty c hc) hown (hts _ hw.1) (hts _ hw.2.1) (hts _ hw.2.2) hT.1 hP hD hS hA (am_cl_at c hc) (fs := (List.range (am_nf c)).map (fun j => if am_isr (am_cy c j) = true then .null else .int 0)) (fun j hj => ?_) hcs.1 hcs.2 hd (fun q H1 hP1 hD1 hS1 => ?_)
  · rw [hdv j hj]
    simp [vp_V, hj]
  have hu := am_va_up (α := α) (q := q) hm
  have ecell : am_cell g (va_up α h.1.length q) (am_add h (c + 2, 0)) h.1.length (c + 2, 0) = .inr (c, (List.range (am_nf c)).map (fun j => if am_isr (am_cy c j) = true then .null else .int 0)) := by
    simp only [am_cell]
    congr 2
    apply List.map_congr_left
    intro j _
    simp only [am_fld, am_add, am_row, if_true]
    split <;> rfl
  have ew : am_w g (va_up α h.1.length q) (am_add h (c + 2, 0)) = am_w g α h ++ [(q, .inr (c, (List.range (am_nf c)).map (fun j => if am_isr (am_cy c j) = true then .null else .int 0)))] := by rw [am_w_add hwf, ecell]
  have k2 := kk g α0 sz (va_up α h.1.length q) p e s m args below meth c' H1 locs ls ⟨hx, hb, hml, hown, hts, hT, hsz, hcx, by rw [hal] at hrel ⊢; exact am_rel_add hle hm hrel⟩ ⟨am_add_wf hwf, by rw [ew]; exact hP1, by rw [ew]; exact hD1, hS1⟩ (by rw [am_L_rel hu hL]; exact hl)
  have e2 : (Value.ref h.1.length :: st).map (am_fv (va_up α h.1.length q)) = .ref q :: st.map (am_fv α) := by
    rw [List.map_cons, am_st_rel hu hst]
    simp [am_fv, va_up]
  rw [e2] at k2
  exact k2
theorem am_obj {a idx : Nat} (hw : Cond.methodLink (am_eo E) idx Lib.objectInit ∈ am_TB ∧ Cond.instanceMethod Lib.objectInit ∈ am_TB ∧ Cond.code Lib.objectInit ⟨#[0xb1]⟩ 1 none ∈ am_TB) (hf : 1 ≤ (am_er E).frames) (hlo : (st.map fun v => v.category).sum + 12 ≤ (am_er E).locals) (hd : decode cc pc = .ok (.invokespecial idx, 3)) (kk : am_Ex E cc cs (pc + 3) L st h) : am_Ex E cc cs pc L (.ref a :: st) h := by
  intro g α0 sz α p e s m args below meth c' H locs ls C X hl
  have C' := C
  obtain ⟨hx, hb, hml, hown, hts, hT, -⟩ := C'
  exact W.objInit hx hb hown (hts _ hw.1) (hts _ hw.2.1) (hts _ hw.2.2) rfl (by rw [hml]; exact hl.1) rfl hd hf (by show 2 * 0 + _ + 12 ≤ _; rw [am_catsum]; omega) (kk _ _ _ _ _ _ _ _ _ _ _ _ _ _ _ C X hl)
theorem am_contA {M : am_D} {Φ : am_Ph} {g : am_G} {α0 α : Nat → Nat} {sz : Nat} {p : Program} {e : Env} {s : State} {m : MethodId} {args a : Array Value} {below : List Frame} {meth : Method} {c : Code} {H : Heap} {locs : List Loc} {ls : Array Slot} {st0 : List Value}
    (hal : am_ea E = true) (hle : (am_eh E).1.length ≤ h.1.length) (hLv : L.all (fun q => am_ok h.1.length q.2) = true) (hsv : st.all (am_ok h.1.length) = true)
    (C : am_C E cc g α0 sz α p s m args meth c) (X : am_X E g α0 sz α h s H locs) (hl : lv_has ls (am_en E) (am_L α L))
    (hr : va_Run p (am_el E) e (am_er E) s m args below meth c H locs cs.1 cs.2 (am_rm M).cells (am_rm M).slots (F0 m pc ls st0) (st.map (am_fv α)) (am_Q g α h H.size true Φ a) (va_A (am_w g α h) H.size))
    (kk : ∀ v h', Φ v h' → am_Ex E cc (cs.1 + (am_rm M).cells, cs.2 + (am_rm M).slots) (pc + 3) L (v.toList ++ st) h') : W p (am_el E) e (am_er E) s m args below meth c H locs cs.1 cs.2 (am_eT E g α0 sz s args below) (F0 m pc ls st0) := by
  have hF := am_Afree C.2.2.2.2.2.2.1 X
  obtain ⟨hwf, hP, hD, hS⟩ := X
  obtain ⟨hx, hb, hml, hown, hts, hTT, hsz, hcx, hrel0⟩ := C
  intro T hT X0
  obtain ⟨v, st₀, t, T', LL, h0, X', hL, e1, e2, ⟨⟨w, h', α', ho, hp, hrel, hwf', hP', hD', hT'⟩, hz, hk⟩, go⟩ := hr T hT X0
  have hu := hrel.1
  rw [h0] at hz hk
  have hv : v = w.map (am_fv α') := by cases ho; rfl
  have hrel1 : am_rel (am_ea E) (am_eh E).1.length α0 α' := by
    rw [hal] at hrel0 ⊢
    refine ⟨fun k hk => ?_, fun h => by cases h⟩
    rw [hu k (by omega), hrel0.1 k hk]
  have kw := kk w h' hp g α0 sz α' p e s m args below meth c T'.heap (locs ++ LL) ls ⟨hx, hb, hml, hown, hts, hTT, hsz, hcx, hrel1⟩ ⟨hwf', by rw [e1]; exact hP', hD'.weaken (fun _ _ _ h => hF _ h), ⟨Nat.le_trans hS.1 (by rw [e1]; exact hz), fun q g1 g2 => by
      rw [e1, hk q (Nat.lt_of_lt_of_le g1 hS.1) (fun z => g2 (hF q z))]
      exact hS.2.1 q g1 g2, fun q hq => by
      rcases List.mem_append.mp hq with h | h
      · exact hS.2.2 q h
      · exact hF _ (hL q h)⟩⟩ (by rw [am_L_rel hu hLv]; exact hl)
  obtain ⟨t2, a1, b1⟩ := kw T' rfl X'
  refine ⟨t2, go t2 ?_, b1⟩
  have e3 : v.toList ++ st.map (am_fv α) = (w.toList ++ st).map (am_fv α') := by
    rw [hv, List.map_append, am_st_rel hu hsv]
    cases w <;> rfl
  rw [e3]
  exact a1
theorem am_callVA {M : am_D} {Φ : am_Ph} {As : List Value} {b c z n idx : Nat} (hal : am_ea E = true) (hle : (am_eh E).1.length ≤ h.1.length) (hLv : L.all (fun q => am_ok h.1.length q.2) = true) (hsv : st.all (am_ok h.1.length) = true) (hM : am_CT (am_el E) M true (.ref b :: As) h Φ) (hs : h.1[b]? = some (c + 2, z)) (hc : c < 7) (hcn : am_cn c = M.1.cls) (hw : Cond.methodLink (am_eo E) idx M.1 ∈ am_TB ∧ Cond.instanceMethod M.1 ∈ am_TB ∧ Cond.selects M.1.cls M.1 M.1 ∈ am_TB) (hld : am_LD M n) (hn : As.length = n) (hR : am_fit E M) (hst : (st.map fun v => v.category).sum ≤ 8) (hcs : am_fcs E M cs) (hd : decode cc pc = .ok (.invokevirtual idx, 3))
    (kk : ∀ v h', Φ v h' → am_Ex E cc (cs.1 + (am_rm M).cells, cs.2 + (am_rm M).slots) (pc + 3) L (v.toList ++ st) h') : am_Ex E cc cs pc L (As.reverse ++ .ref b :: st) h := by
  intro g α0 sz α p e s m args below meth c' H locs ls C X hl
  have C' := C
  obtain ⟨hx, hb, hml, hown, hts, hT, -⟩ := C'
  have hcb : CallB (am_er E) s args (am_eo E) idx M.1 M.2.1 M.2.2.1 M.2.2.2.1 (am_ws M) (am_rm M) (am_rm M).cells (am_rm M).slots n := callB_of n hts (am_goodws hld) rfl rfl rfl (hts _ hld.1) (hts _ hw.1) hld.2.2 hR
  have hrecv := va_recv (q0 := b) hT.1 X.2.1 (am_cl_at c hc) (am_fs hs)
  have hrun := va_runV (e := e) (below := below) (meth := meth) (locs := locs) (cells := cs.1) (slots := cs.2) (b := α b) (C := M.1.cls) (As := As.map (am_fv α)) (rest := st.map (am_fv α)) (g := F0 m pc ls ((As.reverse ++ .ref b :: st).map (am_fv α))) ⟨hx, hb, hml, hown, hts⟩ (hM g α H.size) ⟨hcb, hts _ hw.2.1, hts _ hw.2.2⟩ ⟨am_blind, by rw [← hcn]; exact hrecv, fun U hU hW => ⟨rfl, am_preU C X U hU hW⟩⟩ rfl (by simpa using hn) (by exact hl.1) (by simp [List.map_reverse, am_fv]) (by show 2 * 0 + _ ≤ 8; rw [am_catsum]; omega) hd hcs
  exact am_contA hal hle hLv hsv C X hl hrun kk
theorem am_callI {M : am_D} {Φ : am_Ph} {b n idx : Nat} {ws0 : List Value} (hal : am_ea E = true) (hle : (am_eh E).1.length ≤ h.1.length) (hLv : L.all (fun q => am_ok h.1.length q.2) = true) (hsv : st.all (am_ok h.1.length) = true) (hret : M.2.2.2.1 = none) (hy1 : M.1.name = "<init>") (hM : am_CT (am_el E) M true [.ref b] h Φ) (hw : Cond.methodLink (am_eo E) idx M.1 ∈ am_TB ∧ Cond.instanceMethod M.1 ∈ am_TB) (hld : am_LD M 0) (hR : am_fit E M) (hst : (st.map fun v => v.category).sum ≤ 8) (hcs : am_fcs E M cs) (hd : decode cc pc = .ok (.invokespecial idx, 3))
    (kk : ∀ v h', Φ v h' → am_Ex E cc (cs.1 + (am_rm M).cells, cs.2 + (am_rm M).slots) (pc + 3) L (v.toList ++ st) h') : am_Ex E cc cs pc L (.ref b :: st) h := by
  intro g α0 sz α p e s m args below meth c' H locs ls C X hl
  have C' := C
  obtain ⟨hx, hb, hml, hown, hts, hT, -⟩ := C'
  obtain ⟨y, code, maxL, ret, rm⟩ := M
  dsimp only at hret hy1
  subst hret
  have hcb : CallB (am_er E) s args (am_eo E) idx y code maxL none (am_ws (y, code, maxL, none, rm)) rm rm.cells rm.slots 0 := callB_of 0 hts (am_goodws hld) rfl rfl rfl (hts _ hld.1) (hts _ hw.1) hld.2.2 hR
  have hrun := va_runI (e := e) (below := below) (meth := meth) (locs := locs) (cells := cs.1) (slots := cs.2) (b := α b) (As := []) (rest := st.map (am_fv α)) (g := F0 m pc ls ((.ref b :: st).map (am_fv α))) ⟨hx, hb, hml, hown, hts⟩ (hM g α H.size) ⟨hcb, hy1, hts _ hw.2⟩ ⟨am_blind, fun U hU hW => ⟨rfl, am_preU C X U hU hW⟩⟩ rfl rfl (by exact hl.1) rfl (by show 2 * 0 + _ ≤ 8; rw [am_catsum]; omega) hd hcs
  exact am_contA (M := (y, code, maxL, none, rm)) hal hle hLv hsv C X hl hrun kk
theorem am_callIN {M : am_D} {Φ : am_Ph} {b n idx : Nat} {host : String} (hal : am_ea E = true) (hle : (am_eh E).1.length ≤ h.1.length) (hLv : L.all (fun q => am_ok h.1.length q.2) = true) (hsv : st.all (am_ok h.1.length) = true) (hret : M.2.2.2.1 = none) (hy1 : M.1.name = "<init>") (hM : am_CT (am_el E) M true [.ref b] h Φ) (hw : (am_eo E, idx, M.1, host) ∈ am_nest ∧ Cond.instanceMethod M.1 ∈ am_TB) (hld : am_LD M 0) (hR : am_fit E M) (hst : (st.map fun v => v.category).sum ≤ 8) (hcs : am_fcs E M cs) (hd : decode cc pc = .ok (.invokespecial idx, 3))
    (kk : ∀ v h', Φ v h' → am_Ex E cc (cs.1 + (am_rm M).cells, cs.2 + (am_rm M).slots) (pc + 3) L (v.toList ++ st) h') : am_Ex E cc cs pc L (.ref b :: st) h := by
  intro g α0 sz α p e s m args below meth c' H locs ls C X hl
  have C' := C
  obtain ⟨hx, hb, hml, hown, hts, hT, -⟩ := C'
  obtain ⟨y, code, maxL, ret, rm⟩ := M
  dsimp only at hret hy1
  subst hret
  have hcb : va_CN (am_er E) s args (am_eo E) idx y host code maxL none (am_ws (y, code, maxL, none, rm)) rm rm.cells rm.slots 0 := va_cnB 0 hts (am_goodws hld) rfl rfl rfl (hT.2 _ hw.1) (hts _ hld.1) hld.2.2 hR
  have hrun := va_runIN (e := e) (below := below) (meth := meth) (locs := locs) (cells := cs.1) (slots := cs.2) (b := α b) (As := []) (rest := st.map (am_fv α)) (g := F0 m pc ls ((.ref b :: st).map (am_fv α))) ⟨hx, hb, hml, hown, hts⟩ (hM g α H.size) ⟨hcb, hy1, hts _ hw.2⟩ ⟨am_blind, fun U hU hW => ⟨rfl, am_preU C X U hU hW⟩⟩ rfl rfl (by exact hl.1) rfl (by show 2 * 0 + _ ≤ 8; rw [am_catsum]; omega) hd hcs
  exact am_contA (M := (y, code, maxL, none, rm)) hal hle hLv hsv C X hl hrun kk
end AMN
