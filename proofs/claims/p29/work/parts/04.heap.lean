def am_FL (own : String) (idx c k : Nat) : Prop := c < 7 ∧ k < am_nf c ∧ Cond.fieldLink own idx (am_ct c k).1 (am_ct c k).2.1 (am_ct c k).2.2.1 ∈ am_TB
theorem am_fs {g : am_G} {α : Nat → Nat} {h : am_H} {a c z : Nat} (hs : h.1[a]? = some (c + 2, z)) : (am_w g α h)[a]? = some (α a, .inr (c, (List.range (am_nf c)).map (fun j => am_fv α (am_fld c a j h.2.1 h.2.2)))) := am_at hs
theorem am_fk {n k : Nat} {F : Nat → Value} (hk : k < n) : ((List.range n).map F)[k]? = some (F k) := by simp [hk]
theorem am_fits_i (x : Int32) : fits .int (.int x) = true := rfl
section AMH
variable {E : am_EV} {cc : ByteArray} {cs : Nat × Nat} {pc : Nat} {L : List (Nat × Value)} {st : List Value} {h : am_H}
theorem am_geti {a c z k idx : Nat} (hs : h.1[a]? = some (c + 2, z)) (hf : am_FL (am_eo E) idx c k) (ht : am_isr (am_cy c k) = false) (hd : decode cc pc = .ok (.getfield idx, 3)) (kk : am_Ex E cc cs (pc + 3) L (.int (h.2.2 a k) :: st) h) : am_Ex E cc cs pc L (.ref a :: st) h := by
  intro g α0 sz α p e s m args below meth c' H locs ls C X hl
  obtain ⟨hc, hk, hw⟩ := hf
  have C' := C
  obtain ⟨hx, hb, -, hown, hts, hT, -⟩ := C'
  refine va_get hx hb hts (am_cin c hc) hown hT.1 X.2.1 a (am_fs hs) (am_cl_at c hc) k hk (hts _ hw) (fun x q => q) (am_fk hk) hd ?_
  have e1 : am_fv α (am_fld c a k h.2.1 h.2.2) = .int (h.2.2 a k) := by simp [am_fld, ht, am_fv]
  rw [e1]
  exact kk _ _ _ _ _ _ _ _ _ _ _ _ _ _ _ C X hl
theorem am_getr {a c z k idx b : Nat} (hs : h.1[a]? = some (c + 2, z)) (hf : am_FL (am_eo E) idx c k) (ht : am_isr (am_cy c k) = true) (hr : h.2.1 a k = some b) (hd : decode cc pc = .ok (.getfield idx, 3)) (kk : am_Ex E cc cs (pc + 3) L (.ref b :: st) h) : am_Ex E cc cs pc L (.ref a :: st) h := by
  intro g α0 sz α p e s m args below meth c' H locs ls C X hl
  obtain ⟨hc, hk, hw⟩ := hf
  have C' := C
  obtain ⟨hx, hb, -, hown, hts, hT, -⟩ := C'
  refine va_get hx hb hts (am_cin c hc) hown hT.1 X.2.1 a (am_fs hs) (am_cl_at c hc) k hk (hts _ hw) (fun x q => q) (am_fk hk) hd ?_
  have e1 : am_fv α (am_fld c a k h.2.1 h.2.2) = am_fv α (.ref b) := by simp [am_fld, ht, hr, va_rf]
  rw [e1]
  exact kk _ _ _ _ _ _ _ _ _ _ _ _ _ _ _ C X hl
theorem am_puti {a c z k idx : Nat} {x : Int32} (hs : h.1[a]? = some (c + 2, z)) (hf : am_FL (am_eo E) idx c k) (ht : am_cy c k = .int) (hfin : (am_ct c k).2.2.2 = false) (hd : decode cc pc = .ok (.putfield idx, 3)) (kk : am_Ex E cc cs (pc + 3) L st (h.1, h.2.1, am_up h.2.2 a k x)) : am_Ex E cc cs pc L (.int x :: .ref a :: st) h := by
  intro g α0 sz α p e s m args below meth c' H locs ls C X hl
  obtain ⟨hc, hk, hw⟩ := hf
  have C' := C
  obtain ⟨hx, hb, -, hown, hts, hT, -⟩ := C'
  obtain ⟨hwf, hP, hD, hS⟩ := X
  have ew : am_w g α (h.1, h.2.1, am_up h.2.2 a k x) = _ := am_w_int (g := g) (α := α) (R := h.2.1) (D := h.2.2) (x := x) hs hk (by rw [ht]; rfl)
  refine va_put hx hb hts (am_cin c hc) (am_cy c) (am_cty c hc) (am_cnm c hc) hown hT.1 hP hD hS a (am_fs hs) (am_cl_at c hc) k hk (hts _ hw) (fun x q => q) hfin (ty := .int) (v := .int x) (by rw [am_cty c hc k hk, ht]) rfl rfl (by simpa using hk) hd (fun H1 locs1 hP1 hD1 hS1 => ?_)
  exact kk _ _ _ _ _ _ _ _ _ _ _ _ _ _ _ C ⟨hwf, by rw [ew]; exact hP1, by rw [ew]; exact hD1, hS1⟩ hl
theorem am_putz {a c z k idx : Nat} {x : Int32} (hx01 : x = 0 ∨ x = 1) (hs : h.1[a]? = some (c + 2, z)) (hf : am_FL (am_eo E) idx c k) (ht : am_cy c k = .boolean) (hfin : (am_ct c k).2.2.2 = false) (hd : decode cc pc = .ok (.putfield idx, 3)) (kk : am_Ex E cc cs (pc + 3) L st (h.1, h.2.1, am_up h.2.2 a k x)) : am_Ex E cc cs pc L (.int x :: .ref a :: st) h := by
  intro g α0 sz α p e s m args below meth c' H locs ls C X hl
  obtain ⟨hc, hk, hw⟩ := hf
  have C' := C
  obtain ⟨hx, hb, -, hown, hts, hT, -⟩ := C'
  obtain ⟨hwf, hP, hD, hS⟩ := X
  have ew : am_w g α (h.1, h.2.1, am_up h.2.2 a k x) = _ := am_w_int (g := g) (α := α) (R := h.2.1) (D := h.2.2) (x := x) hs hk (by rw [ht]; rfl)
  refine va_put hx hb hts (am_cin c hc) (am_cy c) (am_cty c hc) (am_cnm c hc) hown hT.1 hP hD hS a (am_fs hs) (am_cl_at c hc) k hk (hts _ hw) (fun x q => q) hfin (ty := .boolean) (v := .int x) (by rw [am_cty c hc k hk, ht]) (by rcases hx01 with rfl | rfl <;> decide) (by rcases hx01 with rfl | rfl <;> decide) (by simpa using hk) hd (fun H1 locs1 hP1 hD1 hS1 => ?_)
  exact kk _ _ _ _ _ _ _ _ _ _ _ _ _ _ _ C ⟨hwf, by rw [ew]; exact hP1, by rw [ew]; exact hD1, hS1⟩ hl
theorem am_wf_put {h : am_H} {a k b : Nat} (hwf : am_wf h) (hb : b < h.1.length) : am_wf (h.1, am_upR h.2.1 a k (some b), h.2.2) := by
  intro a' j k' ha hk
  simp only [am_upR] at hk
  split at hk
  · cases hk; exact hb
  · exact hwf a' j k' ha hk
theorem am_putr {a c z k idx b : Nat} (hbl : b < h.1.length) (hs : h.1[a]? = some (c + 2, z)) (hf : am_FL (am_eo E) idx c k) {ty : FieldType} (ht : am_cy c k = ty) (hr : am_isr ty = true) (hfin : (am_ct c k).2.2.2 = false) (hd : decode cc pc = .ok (.putfield idx, 3)) (kk : am_Ex E cc cs (pc + 3) L st (h.1, am_upR h.2.1 a k (some b), h.2.2)) : am_Ex E cc cs pc L (.ref b :: .ref a :: st) h := by
  intro g α0 sz α p e s m args below meth c' H locs ls C X hl
  obtain ⟨hc, hk, hw⟩ := hf
  have C' := C
  obtain ⟨hx, hb, -, hown, hts, hT, -⟩ := C'
  obtain ⟨hwf, hP, hD, hS⟩ := X
  have ew : am_w g α (h.1, am_upR h.2.1 a k (some b), h.2.2) = _ := am_w_ref (g := g) (α := α) (R := h.2.1) (D := h.2.2) (v := some b) hs hk (by rw [ht]; exact hr)
  have hn : narrow ty (.ref (α b)) = .ref (α b) := by cases ty <;> first | rfl | cases hr
  have hft : fits ty (.ref (α b)) = true := by cases ty <;> first | rfl | cases hr
  refine va_put hx hb hts (am_cin c hc) (am_cy c) (am_cty c hc) (am_cnm c hc) hown hT.1 hP hD hS a (am_fs hs) (am_cl_at c hc) k hk (hts _ hw) (fun x q => q) hfin (ty := ty) (v := .ref (α b)) (by rw [am_cty c hc k hk, ht]) hn hft (by simpa using hk) hd (fun H1 locs1 hP1 hD1 hS1 => ?_)
  exact kk _ _ _ _ _ _ _ _ _ _ _ _ _ _ _ C ⟨am_wf_put hwf hbl, by rw [ew]; exact hP1, by rw [ew]; exact hD1, hS1⟩ hl
theorem am_putF {a c z k idx b : Nat} (hin : ∀ g α0 sz s args meth, am_eC E g α0 sz s args meth → meth.name = "<init>") (hbl : b < h.1.length) (hs : h.1[a]? = some (c + 2, z)) (hf : am_FL (am_eo E) idx c k) {ty : FieldType} (ht : am_cy c k = ty) (hr : am_isr ty = true) (hfin : (am_ct c k).2.2.2 = true) (hdecl : (am_ct c k).1 = am_eo E) (hd : decode cc pc = .ok (.putfield idx, 3)) (kk : am_Ex E cc cs (pc + 3) L st (h.1, am_upR h.2.1 a k (some b), h.2.2)) : am_Ex E cc cs pc L (.ref b :: .ref a :: st) h := by
  intro g α0 sz α p e s m args below meth c' H locs ls C X hl
  obtain ⟨hc, hk, hw⟩ := hf
  have C' := C
  obtain ⟨hx, hb, -, hown, hts, hT, -, hcx, -⟩ := C'
  obtain ⟨hwf, hP, hD, hS⟩ := X
  have ew : am_w g α (h.1, am_upR h.2.1 a k (some b), h.2.2) = _ := am_w_ref (g := g) (α := α) (R := h.2.1) (D := h.2.2) (v := some b) hs hk (by rw [ht]; exact hr)
  have hn : narrow ty (.ref (α b)) = .ref (α b) := by cases ty <;> first | rfl | cases hr
  have hft : fits ty (.ref (α b)) = true := by cases ty <;> first | rfl | cases hr
  refine va_putF hx hb hts (am_cin c hc) (am_cy c) (am_cty c hc) (am_cnm c hc) hown hT.1 hP hD hS a (am_fs hs) (am_cl_at c hc) k hk (hts _ hw) (fun x q => q) hfin (hin _ _ _ _ _ _ hcx) hdecl (ty := ty) (v := .ref (α b)) (by rw [am_cty c hc k hk, ht]) hn hft (by simpa using hk) hd (fun H1 locs1 hP1 hD1 hS1 => ?_)
  exact kk _ _ _ _ _ _ _ _ _ _ _ _ _ _ _ C ⟨am_wf_put hwf hbl, by rw [ew]; exact hP1, by rw [ew]; exact hD1, hS1⟩ hl
theorem am_iald {a n : Nat} {i : Int32} (hs : h.1[a]? = some (0, n)) (hi : vp_in i n) (hd : decode cc pc = .ok (.iaload, 1)) (kk : am_Ex E cc cs (pc + 1) L (.int (h.2.2 a i.toNatClampNeg) :: st) h) : am_Ex E cc cs pc L (.int i :: .ref a :: st) h := by
  intro g α0 sz α p e s m args below meth c' H locs ls C X hl
  exact va_iald C.1 C.2.1 C.2.2.2.2.2.1.1 X.2.1 a 0 (am_at hs) rfl hi hd (kk _ _ _ _ _ _ _ _ _ _ _ _ _ _ _ C X hl)
theorem am_bald {a n : Nat} {i : Int32} (hs : h.1[a]? = some (1, n)) (hi : vp_in i n) (hd : decode cc pc = .ok (.baload, 1)) (kk : am_Ex E cc cs (pc + 1) L (.int (h.2.2 a i.toNatClampNeg) :: st) h) : am_Ex E cc cs pc L (.int i :: .ref a :: st) h := by
  intro g α0 sz α p e s m args below meth c' H locs ls C X hl
  exact va_zald C.1 C.2.1 C.2.2.2.2.2.1.1 X.2.1 a 1 (am_at hs) rfl hi hd (kk _ _ _ _ _ _ _ _ _ _ _ _ _ _ _ C X hl)
theorem am_iast {a n : Nat} {i x : Int32} (hs : h.1[a]? = some (0, n)) (hi : vp_in i n) (hd : decode cc pc = .ok (.iastore, 1)) (kk : am_Ex E cc cs (pc + 1) L st (h.1, h.2.1, am_up h.2.2 a i.toNatClampNeg x)) : am_Ex E cc cs pc L (.int x :: .int i :: .ref a :: st) h := by
  intro g α0 sz α p e s m args below meth c' H locs ls C X hl
  obtain ⟨hwf, hP, hD, hS⟩ := X
  have ew : am_w g α (h.1, h.2.1, am_up h.2.2 a i.toNatClampNeg x) = _ := am_w_arr (g := g) (α := α) (R := h.2.1) (D := h.2.2) (Or.inl rfl) hs
  refine va_iast C.1 C.2.1 C.2.2.2.2.2.1.1 hP hD hS a 0 (am_at hs) rfl hi hd (fun H1 locs1 hP1 hD1 hS1 => ?_)
  exact kk _ _ _ _ _ _ _ _ _ _ _ _ _ _ _ C ⟨hwf, by rw [ew]; exact hP1, by rw [ew]; exact hD1, hS1⟩ hl
theorem am_bast {a n : Nat} {i x : Int32} (hs : h.1[a]? = some (1, n)) (hi : vp_in i n) (hd : decode cc pc = .ok (.bastore, 1)) (kk : am_Ex E cc cs (pc + 1) L st (h.1, h.2.1, am_up h.2.2 a i.toNatClampNeg (vp_nar .boolean x))) : am_Ex E cc cs pc L (.int x :: .int i :: .ref a :: st) h := by
  intro g α0 sz α p e s m args below meth c' H locs ls C X hl
  obtain ⟨hwf, hP, hD, hS⟩ := X
  have ew : am_w g α (h.1, h.2.1, am_up h.2.2 a i.toNatClampNeg (vp_nar .boolean x)) = _ := am_w_arr (g := g) (α := α) (R := h.2.1) (D := h.2.2) (Or.inr rfl) hs
  refine va_zast C.1 C.2.1 C.2.2.2.2.2.1.1 hP hD hS a 1 (am_at hs) rfl hi hd (fun H1 locs1 hP1 hD1 hS1 => ?_)
  exact kk _ _ _ _ _ _ _ _ _ _ _ _ _ _ _ C ⟨hwf, by rw [ew]; exact hP1, by rw [ew]; exact hD1, hS1⟩ hl
theorem am_alen {a n : Nat} (hs : h.1[a]? = some (0, n)) (hd : decode cc pc = .ok (.arraylength, 1)) (kk : am_Ex E cc cs (pc + 1) L (.int (Int32.ofNat n) :: st) h) : am_Ex E cc cs pc L (.ref a :: st) h := by
  intro g α0 sz α p e s m args below meth c' H locs ls C X hl
  exact va_alen C.1 C.2.1 C.2.2.2.2.2.1.1 X.2.1 a 0 (am_at hs) rfl rfl hd (kk _ _ _ _ _ _ _ _ _ _ _ _ _ _ _ C X hl)
/-- Math.max, Math.min, as the machine has them -/
def am_max (x y : Int32) : Int32 := if x < y then y else x
def am_min (x y : Int32) : Int32 := if y < x then y else x
def am_LM (own : String) (idx : Nat) (y : MethodName) (code : ByteArray) : Prop := Cond.methodLink own idx y ∈ am_TB ∧ Cond.static y ∈ am_TB ∧ Cond.initialized "java/lang/Math" ∈ am_TB ∧ Cond.code y code 2 (some .int) ∈ am_TB
theorem am_catsum (α : Nat → Nat) (st : List Value) : ((st.map (am_fv α)).map fun v => v.category).sum = (st.map fun v => v.category).sum := by
  rw [List.map_map]
  congr 1
  apply List.map_congr_left
  intro v _
  exact am_fv_cat α v
theorem am_mmax {idx : Nat} {x y : Int32} (hl' : am_LM (am_eo E) idx Lib.Math.max.name Lib.Math.max.code) (hf : 1 ≤ (am_er E).frames) (hlo : (st.map fun v => v.category).sum + 13 ≤ (am_er E).locals) (hcs : cs.1 ≤ (am_er E).cells ∧ cs.2 ≤ (am_er E).slots) (hd : decode cc pc = .ok (.invokestatic idx, 3)) (kk : am_Ex E cc cs (pc + 3) L (.int (am_max x y) :: st) h) : am_Ex E cc cs pc L (.int y :: .int x :: st) h := by
  intro g α0 sz α p e s m args below meth c' H locs ls C X hl
  have C' := C
  obtain ⟨hx, hb, hml, hown, hts, hT, -⟩ := C'
  exact va_mmax hx hb (by rw [hml]; exact hl.1.symm) hown (hts _ hl'.1) (hts _ hl'.2.1) (hts _ hl'.2.2.1) (hts _ hl'.2.2.2) hf (by rw [am_catsum]; exact hlo) hcs.1 hcs.2 hd (kk _ _ _ _ _ _ _ _ _ _ _ _ _ _ _ C X hl)
theorem am_mmin {idx : Nat} {x y : Int32} (hl' : am_LM (am_eo E) idx Lib.Math.min.name Lib.Math.min.code) (hf : 1 ≤ (am_er E).frames) (hlo : (st.map fun v => v.category).sum + 13 ≤ (am_er E).locals) (hcs : cs.1 ≤ (am_er E).cells ∧ cs.2 ≤ (am_er E).slots) (hd : decode cc pc = .ok (.invokestatic idx, 3)) (kk : am_Ex E cc cs (pc + 3) L (.int (am_min x y) :: st) h) : am_Ex E cc cs pc L (.int y :: .int x :: st) h := by
  intro g α0 sz α p e s m args below meth c' H locs ls C X hl
  have C' := C
  obtain ⟨hx, hb, hml, hown, hts, hT, -⟩ := C'
  exact va_mmin hx hb (by rw [hml]; exact hl.1.symm) hown (hts _ hl'.1) (hts _ hl'.2.1) (hts _ hl'.2.2.1) (hts _ hl'.2.2.2) hf (by rw [am_catsum]; exact hlo) hcs.1 hcs.2 hd (kk _ _ _ _ _ _ _ _ _ _ _ _ _ _ _ C X hl)
def am_LC (own : String) (idx : Nat) : Prop := Cond.methodLink own idx arraycopyName ∈ am_TB ∧ Cond.native arraycopyName ∈ am_TB ∧ Cond.static arraycopyName ∈ am_TB ∧ Cond.initialized "java/lang/System" ∈ am_TB
theorem am_copy {idx a b n n1 : Nat} {x : Int32} (hl' : am_LC (am_eo E) idx) (h0 : h.1[b]? = some (0, n)) (h1 : h.1[a]? = some (0, n1)) (hx0 : ¬ x < 0) (hx1 : x.toNatClampNeg ≤ n) (hx2 : x.toNatClampNeg ≤ n1) (hf : 1 ≤ (am_er E).frames) (hlo : (st.map fun v => v.category).sum + (nativeFrameWords "java/lang/System" "arraycopy" 5 + 11) ≤ (am_er E).locals) (hd : decode cc pc = .ok (.invokestatic idx, 3)) (kk : am_Ex E cc cs (pc + 3) L st (h.1, h.2.1, am_row h.2.2 a (va_cpy (h.2.2 b) (h.2.2 a) 0 0 x.toNatClampNeg))) : am_Ex E cc cs pc L (.int x :: .int 0 :: .ref a :: .int 0 :: .ref b :: st) h := by
  intro g α0 sz α p e s m args below meth c' H locs ls C X hl
  have C' := C
  obtain ⟨hx, hb, hml, hown, hts, hT, -⟩ := C'
  obtain ⟨hwf, hP, hD, hS⟩ := X
  have ew : am_w g α (h.1, h.2.1, am_row h.2.2 a (va_cpy (h.2.2 b) (h.2.2 a) 0 0 x.toNatClampNeg)) = _ := am_w_arr (g := g) (α := α) (R := h.2.1) (D := h.2.2) (Or.inl rfl) h1
  refine va_copyi (ty := .int) hx hb (by rw [hml]; exact hl.1.symm) hown (hts _ hl'.1) (hts _ hl'.2.1) (hts _ hl'.2.2.1) (hts _ hl'.2.2.2) hT.1 hP hD hS b a 0 0 (am_at h0) (am_at h1) rfl rfl rfl (by decide) (by decide) hx0 (by rw [show (0 : Int32).toNatClampNeg = 0 from rfl]; omega) (by rw [show (0 : Int32).toNatClampNeg = 0 from rfl]; omega) (fun _ _ => rfl) hf (by rw [am_catsum]; exact hlo) hd (fun H1 locs1 hP1 hD1 hS1 => ?_)
  exact kk _ _ _ _ _ _ _ _ _ _ _ _ _ _ _ C ⟨hwf, by rw [ew]; exact hP1, by rw [ew]; exact hD1, hS1⟩ hl
end AMH
