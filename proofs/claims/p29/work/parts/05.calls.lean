abbrev am_Ph : Type := Option Value → am_H → Prop
def am_ws (M : am_D) : List Cond := .code M.1 M.2.1 M.2.2.1 M.2.2.2.1 :: am_TB
abbrev am_rm (M : am_D) : Room := M.2.2.2.2
def am_Q (g : am_G) (α0 : Nat → Nat) (h0 : am_H) (sz : Nat) (al : Bool) (Φ : am_Ph) : Array Value → State → Outcome → State → Prop := fun _ s0 oc t =>
  (∃ (v : Option Value) (h' : am_H) (α : Nat → Nat), oc = .returned (v.map (am_fv α)) ∧ Φ v h' ∧ am_rel al h0.1.length α0 α ∧ am_wf h' ∧ va_P g.1 am_cl (am_w g α h') t.heap ∧ va_D (va_A (am_w g α0 h0) sz) (am_w g α h') ∧ am_T g t) ∧ va_F (va_A (am_w g α0 h0) sz) s0 t
def am_Pre (g : am_G) (α : Nat → Nat) (h : am_H) (sz : Nat) : State → Prop := fun U => U.heap.size = sz ∧ am_wf h ∧ va_P g.1 am_cl (am_w g α h) U.heap ∧ va_D (fun _ => True) (am_w g α h) ∧ am_T g U
/-- the contract of a method over the abstract heap -/
def am_CT (l : Launch) (M : am_D) (al : Bool) (av : List Value) (h : am_H) (Φ : am_Ph) : Prop :=
  ∀ (g : am_G) (α : Nat → Nat) (sz : Nat), Met l M.1 (am_ws M) (am_rm M) (va_Pc (av.map (am_fv α)) (am_Pre g α h sz)) (am_Q g α h sz al Φ) (am_rm M).cells (am_rm M).slots (va_A (am_w g α h) sz)
def am_E (l : Launch) (M : am_D) (al : Bool) (h0 : am_H) (Φ : am_Ph) : am_EV :=
  (l, M.2.2.1, M.1.cls, am_rm M, h0, al, fun g α0 sz s args below => MQ below (am_Q g α0 h0 sz al Φ) args s (am_rm M).cells (am_rm M).slots (va_A (am_w g α0 h0) sz), fun _ _ _ _ _ meth => meth.sig.returnType = M.2.2.2.1 ∧ meth.locks = false ∧ meth.name = M.1.name)
theorem am_args (α : Nat → Nat) : ∀ (av : List Value) (n : Nat), lv_args n (av.map (am_fv α)) = am_L α (lv_args n av)
  | [], n => rfl
  | v :: av, n => by
    simp only [List.map_cons, lv_args, am_fv_cat]
    rw [am_args α av]
    rfl
theorem am_sl (α : Nat → Nat) (av : List Value) : (lg_sl (av.map (am_fv α))).length = (lg_sl av).length := by
  induction av with
  | nil => rfl
  | cons v av ih =>
    simp only [lg_sl, List.map_cons, List.flatMap_cons, List.length_append, am_fv_cat] at ih ⊢
    rw [ih]
    split <;> rfl
theorem am_rel.rf {al : Bool} {n : Nat} {α : Nat → Nat} : am_rel al n α α := ⟨fun _ _ => rfl, fun _ => rfl⟩
theorem am_CT.of {l : Launch} {M : am_D} {al : Bool} {av : List Value} {h : am_H} {Φ : am_Ph} (hy : plainName M.1.cls = true) (hn : (lg_sl av).length ≤ M.2.2.1) (k : am_Ex (am_E l M al h Φ) M.2.1 (0, 0) 0 (lv_args 0 av) [] h) : am_CT l M al av h Φ := by
  intro g α sz
  refine Met.ofW (cc := M.2.1) (maxL := M.2.2.1) (ret := M.2.2.2.1) hy rfl ?_
  intro p e s m args below meth c s₁ B hml hv
  obtain ⟨rfl, hsz, hwf, hP, hD0, hT⟩ := hv
  have hts := atoms_spec (ws := am_ws M) B.pre
  subst hsz
  have hD := hD0.self (sz := s.heap.size)
  have hl := lv_entry (av.map (am_fv α)) (n := M.2.2.1) (by rw [am_sl]; exact hn)
  rw [lg_entry_eq]
  rw [am_args] at hl
  generalize ((lg_sl (av.map (am_fv α))) ++ List.replicate (M.2.2.1 - (lg_sl (av.map (am_fv α))).length) Slot.unset).toArray = ls at hl ⊢
  refine k g α s.heap.size α p e s m _ below meth c s.heap [] ls ⟨B.exec, B.bytes, hml, findClass_of_methodNamed B.named, fun w hw => hts w (List.mem_cons_of_mem _ hw), hT, rfl, ⟨B.returns, B.notSynchronized, (name_of_methodNamed B.named B.method).1⟩, am_rel.rf⟩ ⟨hwf, hP, hD, va_S.rf⟩ hl
theorem am_blind {av : List Value} {g : am_G} {α : Nat → Nat} {h : am_H} {sz : Nat} : FrameBlind (va_Pc av (am_Pre g α h sz)) := fun a U f mk q => ⟨q.1, q.2.1, q.2.2.1, q.2.2.2.1, q.2.2.2.2.1, q.2.2.2.2.2.call⟩
section AMC
variable {E : am_EV} {cc : ByteArray} {cs : Nat × Nat} {pc : Nat} {L : List (Nat × Value)} {st : List Value} {h : am_H}
/-- behind a call: what the callee may have changed is the caller's to change -/
theorem am_Afree {g : am_G} {α0 α : Nat → Nat} {sz : Nat} {s : State} {H : Heap} {locs : List Loc} (hsz : s.heap.size = sz) (X : am_X E g α0 sz α h s H locs) : ∀ q, va_A (am_w g α h) H.size q → am_A E g α0 sz q := by
  intro q hq
  rcases hq with ⟨k, e, hk⟩ | hq
  · exact X.2.2.1.2 k (q, e) hk
  · exact Or.inr (Nat.le_trans (by rw [← hsz]; exact X.2.2.2.1) hq)
theorem am_cont {M : am_D} {Φ : am_Ph} {g : am_G} {α0 α : Nat → Nat} {sz : Nat} {p : Program} {e : Env} {s : State} {m : MethodId} {args a : Array Value} {below : List Frame} {meth : Method} {c : Code} {H : Heap} {locs : List Loc} {ls : Array Slot} {st0 : List Value}
    (C : am_C E cc g α0 sz α p s m args meth c) (X : am_X E g α0 sz α h s H locs) (hl : lv_has ls (am_en E) (am_L α L))
    (hr : va_Run p (am_el E) e (am_er E) s m args below meth c H locs cs.1 cs.2 (am_rm M).cells (am_rm M).slots (F0 m pc ls st0) (st.map (am_fv α)) (am_Q g α h H.size false Φ a) (va_A (am_w g α h) H.size))
    (kk : ∀ v h', Φ v h' → am_Ex E cc (cs.1 + (am_rm M).cells, cs.2 + (am_rm M).slots) (pc + 3) L (v.toList ++ st) h') : W p (am_el E) e (am_er E) s m args below meth c H locs cs.1 cs.2 (am_eT E g α0 sz s args below) (F0 m pc ls st0) := by
  have hF := am_Afree C.2.2.2.2.2.2.1 X
  obtain ⟨hwf, hP, hD, hS⟩ := X
  intro T hT X0
  obtain ⟨v, st₀, t, T', LL, h0, X', hL, e1, e2, ⟨⟨w, h', α', ho, hp, hrel, hwf', hP', hD', hT'⟩, hz, hk⟩, go⟩ := hr T hT X0
  have hα : α' = α := hrel.2 rfl
  subst hα
  rw [h0] at hz hk
  have hv : v = w.map (am_fv α') := by cases ho; rfl
  have kw := kk w h' hp g α0 sz α' p e s m args below meth c T'.heap (locs ++ LL) ls C ⟨hwf', by rw [e1]; exact hP', hD'.weaken (fun _ _ _ h => hF _ h), ⟨Nat.le_trans hS.1 (by rw [e1]; exact hz), fun q g1 g2 => by
      rw [e1, hk q (Nat.lt_of_lt_of_le g1 hS.1) (fun z => g2 (hF q z))]
      exact hS.2.1 q g1 g2, fun q hq => by
      rcases List.mem_append.mp hq with h | h
      · exact hS.2.2 q h
      · exact hF _ (hL q h)⟩⟩ hl
  obtain ⟨t2, a1, b1⟩ := kw T' rfl X'
  refine ⟨t2, go t2 ?_, b1⟩
  have e3 : v.toList ++ st.map (am_fv α') = (w.toList ++ st).map (am_fv α') := by
    rw [hv, List.map_append]
    cases w <;> rfl
  rw [e3]
  exact a1
/-- words of a call -/
def am_LD (M : am_D) (n : Nat) : Prop := Cond.initialized M.1.cls ∈ am_TB ∧ Cond.code M.1 M.2.1 M.2.2.1 M.2.2.2.1 ∈ am_TB ∧ M.1.cls ≠ "java/lang/invoke/MethodHandle" ∧ M.1.cls ≠ "java/lang/invoke/VarHandle" ∧ (parseMethodDescriptor M.1.desc).map (fun d => d.parameters.length) = some n
theorem am_goodws {M : am_D} {n : Nat} (h : am_LD M n) : GoodIn am_TB (am_ws M) := by
  intro w hw
  rcases List.mem_cons.mp hw with rfl | hw
  · exact am_good _ h.2.1
  · exact am_good _ hw
abbrev am_fit (E : am_EV) (M : am_D) : Prop := (am_rm M).frames + 1 ≤ (am_er E).frames ∧ 8 + (M.2.2.1 + 11) + (am_rm M).locals ≤ (am_er E).locals
abbrev am_fcs (E : am_EV) (M : am_D) (cs : Nat × Nat) : Prop := cs.1 + (am_rm M).cells ≤ (am_er E).cells ∧ cs.2 + (am_rm M).slots ≤ (am_er E).slots
theorem am_preU {g : am_G} {α0 α : Nat → Nat} {sz : Nat} {p : Program} {s : State} {m : MethodId} {args : Array Value} {meth : Method} {c : Code} {H : Heap} {locs : List Loc} (C : am_C E cc g α0 sz α p s m args meth c) (X : am_X E g α0 sz α h s H locs) : ∀ U : State, U.heap = H → s.WarmedH U.vm → am_Pre g α h H.size U := by
  intro U hU hW
  exact ⟨by rw [hU], X.1, by rw [hU]; exact X.2.1, X.2.2.1.weaken (fun _ _ _ _ => trivial), C.2.2.2.2.2.1.warm hW⟩
theorem am_callV {M : am_D} {Φ : am_Ph} {As : List Value} {b c z n idx : Nat} (hM : am_CT (am_el E) M false (.ref b :: As) h Φ) (hs : h.1[b]? = some (c + 2, z)) (hc : c < 7) (hcn : am_cn c = M.1.cls) (hw : Cond.methodLink (am_eo E) idx M.1 ∈ am_TB ∧ Cond.instanceMethod M.1 ∈ am_TB ∧ Cond.selects M.1.cls M.1 M.1 ∈ am_TB) (hld : am_LD M n) (hn : As.length = n) (hR : am_fit E M) (hst : (st.map fun v => v.category).sum ≤ 8) (hcs : am_fcs E M cs) (hd : decode cc pc = .ok (.invokevirtual idx, 3))
    (kk : ∀ v h', Φ v h' → am_Ex E cc (cs.1 + (am_rm M).cells, cs.2 + (am_rm M).slots) (pc + 3) L (v.toList ++ st) h') : am_Ex E cc cs pc L (As.reverse ++ .ref b :: st) h := by
  intro g α0 sz α p e s m args below meth c' H locs ls C X hl
  have C' := C
  obtain ⟨hx, hb, hml, hown, hts, hT, -⟩ := C'
  have hcb : CallB (am_er E) s args (am_eo E) idx M.1 M.2.1 M.2.2.1 M.2.2.2.1 (am_ws M) (am_rm M) (am_rm M).cells (am_rm M).slots n := callB_of n hts (am_goodws hld) rfl rfl rfl (hts _ hld.1) (hts _ hw.1) hld.2.2 hR
  have hrecv := va_recv (q0 := b) hT.1 X.2.1 (am_cl_at c hc) (am_fs hs)
  have hrun := va_runV (e := e) (below := below) (meth := meth) (locs := locs) (cells := cs.1) (slots := cs.2) (b := α b) (C := M.1.cls) (As := As.map (am_fv α)) (rest := st.map (am_fv α)) (g := F0 m pc ls ((As.reverse ++ .ref b :: st).map (am_fv α))) ⟨hx, hb, hml, hown, hts⟩ (hM g α H.size) ⟨hcb, hts _ hw.2.1, hts _ hw.2.2⟩ ⟨am_blind, by rw [← hcn]; exact hrecv, fun U hU hW => ⟨rfl, am_preU C X U hU hW⟩⟩ rfl (by simpa using hn) (by exact hl.1) (by simp [List.map_reverse, am_fv]) (by show 2 * 0 + _ ≤ 8; rw [am_catsum]; omega) hd hcs
  exact am_cont C X hl hrun kk
theorem am_callS {M : am_D} {Φ : am_Ph} {As : List Value} {n idx : Nat} (hM : am_CT (am_el E) M false As h Φ) (hw : Cond.methodLink (am_eo E) idx M.1 ∈ am_TB ∧ Cond.static M.1 ∈ am_TB) (hld : am_LD M n) (hn : As.length = n) (hR : am_fit E M) (hst : (st.map fun v => v.category).sum ≤ 8) (hcs : am_fcs E M cs) (hd : decode cc pc = .ok (.invokestatic idx, 3))
    (kk : ∀ v h', Φ v h' → am_Ex E cc (cs.1 + (am_rm M).cells, cs.2 + (am_rm M).slots) (pc + 3) L (v.toList ++ st) h') : am_Ex E cc cs pc L (As.reverse ++ st) h := by
  intro g α0 sz α p e s m args below meth c' H locs ls C X hl
  have C' := C
  obtain ⟨hx, hb, hml, hown, hts, hT, -⟩ := C'
  have hcb : CallB (am_er E) s args (am_eo E) idx M.1 M.2.1 M.2.2.1 M.2.2.2.1 (am_ws M) (am_rm M) (am_rm M).cells (am_rm M).slots n := callB_of n hts (am_goodws hld) rfl rfl rfl (hts _ hld.1) (hts _ hw.1) hld.2.2 hR
  have hrun := va_runS (e := e) (below := below) (meth := meth) (locs := locs) (cells := cs.1) (slots := cs.2) (As := As.map (am_fv α)) (rest := st.map (am_fv α)) (g := F0 m pc ls ((As.reverse ++ st).map (am_fv α))) ⟨hx, hb, hml, hown, hts⟩ (hM g α H.size) ⟨hcb, hts _ hw.2⟩ ⟨am_blind, fun U hU hW => ⟨rfl, am_preU C X U hU hW⟩⟩ rfl (by simpa using hn) (by exact hl.1) (by simp [List.map_reverse]) (by show 2 * 0 + _ ≤ 8; rw [am_catsum]; omega) hd hcs
  exact am_cont C X hl hrun kk
theorem am_callSN {M : am_D} {Φ : am_Ph} {As : List Value} {n idx : Nat} {host : String} (hM : am_CT (am_el E) M false As h Φ) (hw : (am_eo E, idx, M.1, host) ∈ am_nest ∧ Cond.static M.1 ∈ am_TB) (hld : am_LD M n) (hn : As.length = n) (hR : am_fit E M) (hst : (st.map fun v => v.category).sum ≤ 8) (hcs : am_fcs E M cs) (hd : decode cc pc = .ok (.invokestatic idx, 3))
    (kk : ∀ v h', Φ v h' → am_Ex E cc (cs.1 + (am_rm M).cells, cs.2 + (am_rm M).slots) (pc + 3) L (v.toList ++ st) h') : am_Ex E cc cs pc L (As.reverse ++ st) h := by
  intro g α0 sz α p e s m args below meth c' H locs ls C X hl
  have C' := C
  obtain ⟨hx, hb, hml, hown, hts, hT, -⟩ := C'
  have hcb : va_CN (am_er E) s args (am_eo E) idx M.1 host M.2.1 M.2.2.1 M.2.2.2.1 (am_ws M) (am_rm M) (am_rm M).cells (am_rm M).slots n := va_cnB n hts (am_goodws hld) rfl rfl rfl (hT.2 _ hw.1) (hts _ hld.1) hld.2.2 hR
  have hrun := va_runSN (e := e) (below := below) (meth := meth) (locs := locs) (cells := cs.1) (slots := cs.2) (As := As.map (am_fv α)) (rest := st.map (am_fv α)) (g := F0 m pc ls ((As.reverse ++ st).map (am_fv α))) ⟨hx, hb, hml, hown, hts⟩ (hM g α H.size) ⟨hcb, hts _ hw.2, trivial⟩ ⟨am_blind, fun U hU hW => ⟨rfl, am_preU C X U hU hW⟩⟩ rfl (by simpa using hn) (by exact hl.1) (by simp [List.map_reverse]) (by show 2 * 0 + _ ≤ 8; rw [am_catsum]; omega) hd hcs
  exact am_cont C X hl hrun kk
end AMC
/-- an end that is told: this answer, this heap -/
def am_is (v : Option Value) (h : am_H) : am_Ph := fun v' h' => v' = v ∧ h' = h
section AMK
variable {E : am_EV} {cc : ByteArray} {cs : Nat × Nat} {pc : Nat} {L : List (Nat × Value)} {st : List Value} {h h1 : am_H}
theorem am_kk {v : Option Value} {cs' : Nat × Nat} {pc' : Nat} (k : am_Ex E cc cs' pc' L (v.toList ++ st) h1) : ∀ v' h', am_is v h1 v' h' → am_Ex E cc cs' pc' L (v'.toList ++ st) h' := by
  rintro v' h' ⟨rfl, rfl⟩
  exact k
end AMK
section AMX
variable {l : Launch} {M : am_D} {al : Bool} {h0 h : am_H} {Φ : am_Ph} {cc : ByteArray} {cs : Nat × Nat} {pc : Nat} {L : List (Nat × Value)}
theorem am_iret {v : Int32} (hret : M.2.2.2.1 = some .int) (hΦ : Φ (some (.int v)) h) (hcs : cs.1 ≤ (am_rm M).cells ∧ cs.2 ≤ (am_rm M).slots) (hd : decode cc pc = .ok (.ireturn, 1)) : am_Ex (am_E l M al h0 Φ) cc cs pc L [.int v] h := by
  intro g α0 sz α p e s m args below meth c' H locs ls C X hl
  obtain ⟨hwf, hP, hD, hS⟩ := X
  obtain ⟨hx, hb, -, -, -, hT, -, hcx, hrel⟩ := C
  refine W.widen hcs.1 hcs.2 ?_
  exact W.iret (hlocks := hcx.2.1) hx hb (hcx.1.trans hret) (fun t ht hW => ⟨⟨some (.int v), h, α, rfl, hΦ, hrel, hwf, by rw [ht]; exact hP, hD, hT.warm hW⟩, hS.F ht⟩) (fun q hq => hS.2.2 q hq) hd
theorem am_zret {v : Int32} (hv : v = 0 ∨ v = 1) (hret : M.2.2.2.1 = some .boolean) (hΦ : Φ (some (.int v)) h) (hcs : cs.1 ≤ (am_rm M).cells ∧ cs.2 ≤ (am_rm M).slots) (hd : decode cc pc = .ok (.ireturn, 1)) : am_Ex (am_E l M al h0 Φ) cc cs pc L [.int v] h := by
  intro g α0 sz α p e s m args below meth c' H locs ls C X hl
  obtain ⟨hwf, hP, hD, hS⟩ := X
  obtain ⟨hx, hb, -, -, -, hT, -, hcx, hrel⟩ := C
  refine W.widen hcs.1 hcs.2 ?_
  exact W.zret (hlocks := hcx.2.1) hx hb (hcx.1.trans hret) (by rcases hv with rfl | rfl <;> decide) (fun t ht hW => ⟨⟨some (.int v), h, α, rfl, hΦ, hrel, hwf, by rw [ht]; exact hP, hD, hT.warm hW⟩, hS.F ht⟩) (fun q hq => hS.2.2 q hq) hd
theorem am_lret {v : Int64} (hret : M.2.2.2.1 = some .long) (hΦ : Φ (some (.long v)) h) (hcs : cs.1 ≤ (am_rm M).cells ∧ cs.2 ≤ (am_rm M).slots) (hd : decode cc pc = .ok (.lreturn, 1)) : am_Ex (am_E l M al h0 Φ) cc cs pc L [.long v] h := by
  intro g α0 sz α p e s m args below meth c' H locs ls C X hl
  obtain ⟨hwf, hP, hD, hS⟩ := X
  obtain ⟨hx, hb, -, -, -, hT, -, hcx, hrel⟩ := C
  refine W.widen hcs.1 hcs.2 ?_
  exact W.lret (hlocks := hcx.2.1) hx hb (hcx.1.trans hret) (fun t ht hW => ⟨⟨some (.long v), h, α, rfl, hΦ, hrel, hwf, by rw [ht]; exact hP, hD, hT.warm hW⟩, hS.F ht⟩) (fun q hq => hS.2.2 q hq) hd
theorem am_aret {b : Nat} {rt : FieldType} (hret : M.2.2.2.1 = some rt) (hrt : (∃ n, rt = .object n) ∨ ∃ t, rt = .array t) (hΦ : Φ (some (.ref b)) h) (hcs : cs.1 ≤ (am_rm M).cells ∧ cs.2 ≤ (am_rm M).slots) (hd : decode cc pc = .ok (.areturn, 1)) : am_Ex (am_E l M al h0 Φ) cc cs pc L [.ref b] h := by
  intro g α0 sz α p e s m args below meth c' H locs ls C X hl
  obtain ⟨hwf, hP, hD, hS⟩ := X
  obtain ⟨hx, hb, -, -, -, hT, -, hcx, hrel⟩ := C
  refine W.widen hcs.1 hcs.2 ?_
  exact W.aret (hlocks := hcx.2.1) hx hb (hcx.1.trans hret) hrt (Or.inr ⟨_, rfl⟩) (fun t ht hW => ⟨⟨some (.ref b), h, α, rfl, hΦ, hrel, hwf, by rw [ht]; exact hP, hD, hT.warm hW⟩, hS.F ht⟩) (fun q hq => hS.2.2 q hq) hd
theorem am_vret (hret : M.2.2.2.1 = none) (hΦ : Φ none h) (hcs : cs.1 ≤ (am_rm M).cells ∧ cs.2 ≤ (am_rm M).slots) (hd : decode cc pc = .ok (.return_, 1)) : am_Ex (am_E l M al h0 Φ) cc cs pc L [] h := by
  intro g α0 sz α p e s m args below meth c' H locs ls C X hl
  obtain ⟨hwf, hP, hD, hS⟩ := X
  obtain ⟨hx, hb, -, -, -, hT, -, hcx, hrel⟩ := C
  refine W.widen hcs.1 hcs.2 ?_
  exact W.vret (hlocks := hcx.2.1) hx hb (hcx.1.trans hret) (fun t ht hW => ⟨⟨none, h, α, rfl, hΦ, hrel, hwf, by rw [ht]; exact hP, hD, hT.warm hW⟩, hS.F ht⟩) (fun q hq => hS.2.2 q hq) hd
end AMX
