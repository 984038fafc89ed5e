/-! the abstract heap: places, their kinds, references, numbers -/
abbrev am_M : Type := Nat → Nat → Int32
abbrev am_R : Type := Nat → Nat → Option Nat
abbrev am_S : Type := List (Nat × Nat)
abbrev am_H : Type := am_S × am_R × am_M
abbrev am_G : Type := va_G × (Nat → ClassId)
abbrev am_D : Type := MethodName × ByteArray × Nat × Option FieldType × Room
def am_cn (c : Nat) : String := match c with
  | 0 => RX0
  | 1 => RX1
  | 2 => RX2
  | 3 => RX3
  | 4 => RX4
  | 5 => RX5
  | _ => RX6
def am_ct (c : Nat) : u_T := match c with
  | 0 => TX0
  | 1 => TX1
  | 2 => TX2
  | 3 => TX3
  | 4 => TX4
  | 5 => TX5
  | _ => TX6
def am_cy (c : Nat) : Nat → FieldType := match c with
  | 0 => tyX0
  | 1 => tyX1
  | 2 => tyX2
  | 3 => tyX3
  | 4 => tyX4
  | 5 => tyX5
  | _ => tyX6
def am_nf (c : Nat) : Nat := match c with
  | 0 => 7
  | 1 => 16
  | 2 => 8
  | 3 => 7
  | 4 => 13
  | 5 => 12
  | _ => 44
abbrev am_cl : List vw_C := [(RX0, TX0, 7), (RX1, TX1, 16), (RX2, TX2, 8), (RX3, TX3, 7), (RX4, TX4, 13), (RX5, TX5, 12), (RX6, TX6, 44)]
theorem am_cases7 {P : Nat → Prop} (h0 : P 0) (h1 : P 1) (h2 : P 2) (h3 : P 3) (h4 : P 4) (h5 : P 5) (h6 : P 6) : ∀ c, c < 7 → P c := by
  intro c hc
  match c, hc with
  | 0, _ => exact h0
  | 1, _ => exact h1
  | 2, _ => exact h2
  | 3, _ => exact h3
  | 4, _ => exact h4
  | 5, _ => exact h5
  | 6, _ => exact h6
  | c + 7, hc => omega
theorem am_cl_at : ∀ c, c < 7 → am_cl[c]? = some (am_cn c, am_ct c, am_nf c) := am_cases7 rfl rfl rfl rfl rfl rfl rfl
theorem am_cty : ∀ c, c < 7 → ∀ k, k < am_nf c → parseFieldDescriptor (am_ct c k).2.2.1 = some (am_cy c k) := am_cases7 tyX0_ok tyX1_ok tyX2_ok tyX3_ok tyX4_ok tyX5_ok tyX6_ok
theorem am_cnm : ∀ c, c < 7 → ∀ a, a < am_nf c → ∀ b, b < am_nf c → a ≠ b → (am_ct c a).2.1 ≠ (am_ct c b).2.1 := am_cases7 nmX0 nmX1 nmX2 nmX3 nmX4 nmX5 nmX6
def am_TB : List Cond := lw_tbl.filter goodWord
theorem am_tb {w : Cond} (i : Nat) (h : lw_tbl[i]? = some w) (g : goodWord w = true) : w ∈ am_TB := List.mem_filter.mpr ⟨List.mem_of_getElem? h, g⟩
theorem am_good : ∀ w ∈ am_TB, w ∈ am_TB ∧ ((w.onTables && w.keeps) = true ∨ ∃ ty, w = .arrayClass ty) := fun w h => ⟨h, good_of_word (List.mem_filter.mp h).2⟩
def am_sub? (ws : List Cond) : Bool := ws.all (fun w => decide (w ∈ lw_tbl) && goodWord w)
theorem am_sub {ws : List Cond} (h : am_sub? ws = true) : ∀ w ∈ ws, w ∈ am_TB := by
  intro w hw
  have h1 := List.all_eq_true.mp h w hw
  simp only [Bool.and_eq_true, decide_eq_true_eq] at h1
  exact List.mem_filter.mpr h1
theorem am_cin0 : ∀ w ∈ u_ws RX0 TX0 7, w ∈ am_TB := am_sub (by decide +kernel)
theorem am_cin1 : ∀ w ∈ u_ws RX1 TX1 16, w ∈ am_TB := am_sub (by decide +kernel)
theorem am_cin2 : ∀ w ∈ u_ws RX2 TX2 8, w ∈ am_TB := am_sub (by decide +kernel)
theorem am_cin3 : ∀ w ∈ u_ws RX3 TX3 7, w ∈ am_TB := am_sub (by decide +kernel)
theorem am_cin4 : ∀ w ∈ u_ws RX4 TX4 13, w ∈ am_TB := am_sub (by decide +kernel)
theorem am_cin5 : ∀ w ∈ u_ws RX5 TX5 12, w ∈ am_TB := am_sub (by decide +kernel)
theorem am_cin6 : ∀ w ∈ u_ws RX6 TX6 44, w ∈ am_TB := am_sub (by decide +kernel)
theorem am_cin : ∀ c, c < 7 → ∀ w ∈ u_ws (am_cn c) (am_ct c) (am_nf c), w ∈ am_TB := am_cases7 am_cin0 am_cin1 am_cin2 am_cin3 am_cin4 am_cin5 am_cin6
def am_isr (ty : FieldType) : Bool := match ty with
  | .array _ => true
  | .object _ => true
  | _ => false
/-- a value of the abstract heap, with the places' addresses -/
def am_fv (α : Nat → Nat) (v : Value) : Value := match v with
  | .ref k => .ref (α k)
  | v => v
def am_fld (c a j : Nat) (R : am_R) (D : am_M) : Value := if am_isr (am_cy c j) = true then va_rf (R a j) else .int (D a j)
def am_cell (g : am_G) (α : Nat → Nat) (h : am_H) (a : Nat) (k : Nat × Nat) : va_E := match k with
  | (0, n) => .inl (g.2 0, n, .inl (h.2.2 a))
  | (1, n) => .inl (g.2 1, n, .inl (h.2.2 a))
  | (c + 2, _) => .inr (c, (List.range (am_nf c)).map (fun j => am_fv α (am_fld c a j h.2.1 h.2.2)))
def am_w (g : am_G) (α : Nat → Nat) (h : am_H) : va_W := h.1.mapIdx (fun a k => (α a, am_cell g α h a k))
theorem am_at {g : am_G} {α : Nat → Nat} {h : am_H} {a : Nat} {k : Nat × Nat} (hs : h.1[a]? = some k) : (am_w g α h)[a]? = some (α a, am_cell g α h a k) := by
  simp [am_w, hs]
/-- new contents of a place; a number of a place; a reference of a place -/
def am_row (D : am_M) (a : Nat) (f : Nat → Int32) : am_M := fun b => if b = a then f else D b
def am_up (D : am_M) (a j : Nat) (x : Int32) : am_M := fun b => if b = a then upd (D a) j x else D b
def am_upR (R : am_R) (a j : Nat) (v : Option Nat) : am_R := fun b k => if b = a ∧ k = j then v else R b k
theorem am_up_row (D : am_M) (a j : Nat) (x : Int32) : am_up D a j x = am_row D a (upd (D a) j x) := rfl
theorem am_fv_cat (α : Nat → Nat) (v : Value) : (am_fv α v).category = v.category := by cases v <;> rfl
theorem am_w_ext {g : am_G} {α : Nat → Nat} {h h' : am_H} {a : Nat} {e : Nat × va_E} {k : Nat × Nat} (hsh : h'.1 = h.1) (hs : h.1[a]? = some k) (he : (α a, am_cell g α h' a k) = e) (ho : ∀ b k', b ≠ a → am_cell g α h' b k' = am_cell g α h b k') : am_w g α h' = (am_w g α h).set a e := by
  apply List.ext_getElem?
  intro i
  have hl : a < (am_w g α h).length := by
    have := (List.getElem?_eq_some_iff.mp (am_at (g := g) (α := α) hs)).1
    exact this
  by_cases hi : i = a
  · subst hi
    rw [List.getElem?_set_self hl, ← he]
    exact am_at (by rw [hsh]; exact hs)
  · rw [List.getElem?_set_ne (Ne.symm hi)]
    simp only [am_w, hsh, List.getElem?_mapIdx]
    cases h.1[i]? with
    | none => rfl
    | some q => simp [ho i q hi]
theorem am_w_arr {g : am_G} {α : Nat → Nat} {sh : am_S} {R : am_R} {D : am_M} {a n t : Nat} {f : Nat → Int32} (ht : t = 0 ∨ t = 1) (hs : sh[a]? = some (t, n)) : am_w g α (sh, R, am_row D a f) = (am_w g α (sh, R, D)).set a (α a, .inl (g.2 t, n, .inl f)) := by
  refine am_w_ext (h := (sh, R, D)) (h' := (sh, R, am_row D a f)) rfl hs ?_ ?_
  · rcases ht with rfl | rfl <;> simp [am_cell, am_row]
  · intro b k' hb
    obtain ⟨t', n'⟩ := k'
    match t' with
    | 0 => simp [am_cell, am_row, hb]
    | 1 => simp [am_cell, am_row, hb]
    | c + 2 => simp [am_cell, am_fld, am_row, hb]
theorem am_map_set {n j : Nat} {F F' : Nat → Value} {v : Value} (hj : j < n) (h1 : F' j = v) (h2 : ∀ i, i ≠ j → F' i = F i) : (List.range n).map F' = ((List.range n).map F).set j v := by
  apply List.ext_getElem?
  intro i
  by_cases hi : i = j
  · subst hi
    rw [List.getElem?_set_self (by simpa using hj)]
    simp [hj, h1]
  · rw [List.getElem?_set_ne (Ne.symm hi)]
    simp only [List.getElem?_map]
    by_cases hn : i < n
    · simp [hn, h2 i hi]
    · simp [hn]
theorem am_w_int {g : am_G} {α : Nat → Nat} {sh : am_S} {R : am_R} {D : am_M} {a c z k : Nat} {x : Int32} (hs : sh[a]? = some (c + 2, z)) (hk : k < am_nf c) (ht : am_isr (am_cy c k) = false) : am_w g α (sh, R, am_up D a k x) = (am_w g α (sh, R, D)).set a (α a, .inr (c, ((List.range (am_nf c)).map (fun j => am_fv α (am_fld c a j R D))).set k (.int x))) := by
  refine am_w_ext (h := (sh, R, D)) (h' := (sh, R, am_up D a k x)) rfl hs ?_ ?_
  · refine congrArg (Prod.mk (α a)) (congrArg Sum.inr (congrArg (Prod.mk c) (am_map_set hk ?_ ?_)))
    · simp [am_fld, ht, am_up, upd, am_fv]
    · intro i hi
      simp [am_fld, am_up, upd, hi]
  · intro b k' hb
    obtain ⟨t', n'⟩ := k'
    match t' with
    | 0 => simp [am_cell, am_up, hb]
    | 1 => simp [am_cell, am_up, hb]
    | c + 2 => simp [am_cell, am_fld, am_up, hb]
theorem am_w_ref {g : am_G} {α : Nat → Nat} {sh : am_S} {R : am_R} {D : am_M} {a c z k : Nat} {v : Option Nat} (hs : sh[a]? = some (c + 2, z)) (hk : k < am_nf c) (ht : am_isr (am_cy c k) = true) : am_w g α (sh, am_upR R a k v, D) = (am_w g α (sh, R, D)).set a (α a, .inr (c, ((List.range (am_nf c)).map (fun j => am_fv α (am_fld c a j R D))).set k (am_fv α (va_rf v)))) := by
  refine am_w_ext (h := (sh, R, D)) (h' := (sh, am_upR R a k v, D)) rfl hs ?_ ?_
  · refine congrArg (Prod.mk (α a)) (congrArg Sum.inr (congrArg (Prod.mk c) (am_map_set hk ?_ ?_)))
    · simp [am_fld, ht, am_upR]
    · intro i hi
      simp [am_fld, am_upR, hi]
  · intro b k' hb
    obtain ⟨t', n'⟩ := k'
    match t' with
    | 0 => simp [am_cell]
    | 1 => simp [am_cell]
    | c + 2 => simp [am_cell, am_fld, am_upR, hb]
