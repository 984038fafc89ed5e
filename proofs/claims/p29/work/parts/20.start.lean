def lw_h00 : am_H := ([], fun _ _ => none, fun _ _ => 0)
def lw_h1 : am_H := am_addn lw_h00 0 (7, 0)
def lw_h2 : am_H := k_X5_init lw_h1 0 1
def lw_h3 : am_H := am_addn lw_h2 56 (8, 0)
def lw_h4 : am_H := k_X6_init lw_h3 56 57
/-- the numbers of a new pair of objects -/
def d0 : am_M := fun a => if a = 12 then (fun j => if j = 6 then -1 else 0) else if a = 45 then (fun j => if j = 5 ∨ j = 6 then -1 else 0) else if a = 50 then (fun j => if j = 5 ∨ j = 6 then -1 else 0) else if a = 56 then (fun j => if j = 15 then -1 else 0) else fun _ => 0
theorem lw_l2 : lw_h2.1.length = 56 := by decide +kernel
theorem lw_sh : lw_h4.1 = lyS false := by decide +kernel
theorem lw_R4 : ∀ a, a < 83 → ∀ j, j < 44 → lw_h4.2.1 a j = lyR 1 false a j := by decide +kernel
theorem lw_D4 : ∀ a, a < 83 → ∀ j, j < 44 → lw_h4.2.2 a j = d0 a j := by decide +kernel
theorem lyR0_lt {a j k : Nat} : lyR0 a j = some k → k < 83 := by
  unfold lyR0
  split <;> intro h <;> first | (cases h; decide) | cases h
theorem ly_wf {tw : Nat} (htw : lyT tw) (D : am_M) : am_wf (ly tw false D) := by
  intro a j k _ h
  show k < 83
  simp only [lyR] at h
  split at h
  · cases h; unfold lyT at htw; omega
  · split at h
    · cases h; unfold lyT at htw; omega
    · split at h
      · cases h; decide
      · split at h
        · cases h; decide
        · exact lyR0_lt h
theorem am_w_congr {g : am_G} {α : Nat → Nat} {h h' : am_H} (hs : h.1 = h'.1) (hc : ∀ (a : Nat) (k : Nat × Nat), h.1[a]? = some k → am_cell g α h a k = am_cell g α h' a k) : am_w g α h = am_w g α h' := by
  apply List.ext_getElem?
  intro i
  simp only [am_w, List.getElem?_mapIdx, ← hs]
  cases hi : h.1[i]? with
  | none => rfl
  | some k => simp [hc i k hi]
theorem am_hw {E : am_EV} {cc : ByteArray} {cs : Nat × Nat} {pc : Nat} {L : List (Nat × Value)} {st : List Value} {h h' : am_H} (e : ∀ g α, am_w g α h = am_w g α h') (hwf : am_wf h') (kk : am_Ex E cc cs pc L st h') : am_Ex E cc cs pc L st h := by
  intro g α0 sz α p e' s m args below meth c' H locs ls C X hl
  obtain ⟨_, hP, hD, hS⟩ := X
  rw [e] at hP hD
  exact kk _ _ _ _ _ _ _ _ _ _ _ _ _ _ _ C ⟨hwf, hP, hD, hS⟩ hl
theorem am_wid {E : am_EV} {cc : ByteArray} {cs cs' : Nat × Nat} {pc : Nat} {L : List (Nat × Value)} {st : List Value} {h : am_H} (h1 : cs.1 ≤ cs'.1) (h2 : cs.2 ≤ cs'.2) (kk : am_Ex E cc cs' pc L st h) : am_Ex E cc cs pc L st h := by
  intro g α0 sz α p e' s m args below meth c' H locs ls C X hl
  exact W.widen h1 h2 (kk _ _ _ _ _ _ _ _ _ _ _ _ _ _ _ C X hl)
theorem lw_l3 : lw_h3.1.length = 57 := by decide +kernel
set_option maxRecDepth 100000 in
theorem lw_a2 : lw_h4.2.2 2 = d0 2 := rfl
set_option maxRecDepth 100000 in
theorem lw_a3 : lw_h4.2.2 3 = d0 3 := rfl
set_option maxRecDepth 100000 in
theorem lw_a4 : lw_h4.2.2 4 = d0 4 := rfl
set_option maxRecDepth 100000 in
theorem lw_a5 : lw_h4.2.2 5 = d0 5 := rfl
set_option maxRecDepth 100000 in
theorem lw_a6 : lw_h4.2.2 6 = d0 6 := rfl
set_option maxRecDepth 100000 in
theorem lw_a8 : lw_h4.2.2 8 = d0 8 := rfl
set_option maxRecDepth 100000 in
theorem lw_a9 : lw_h4.2.2 9 = d0 9 := rfl
set_option maxRecDepth 100000 in
theorem lw_a10 : lw_h4.2.2 10 = d0 10 := rfl
set_option maxRecDepth 100000 in
theorem lw_a11 : lw_h4.2.2 11 = d0 11 := rfl
set_option maxRecDepth 100000 in
theorem lw_a13 : lw_h4.2.2 13 = d0 13 := rfl
set_option maxRecDepth 100000 in
theorem lw_a15 : lw_h4.2.2 15 = d0 15 := rfl
set_option maxRecDepth 100000 in
theorem lw_a16 : lw_h4.2.2 16 = d0 16 := rfl
set_option maxRecDepth 100000 in
theorem lw_a17 : lw_h4.2.2 17 = d0 17 := rfl
set_option maxRecDepth 100000 in
theorem lw_a18 : lw_h4.2.2 18 = d0 18 := rfl
set_option maxRecDepth 100000 in
theorem lw_a19 : lw_h4.2.2 19 = d0 19 := rfl
set_option maxRecDepth 100000 in
theorem lw_a21 : lw_h4.2.2 21 = d0 21 := rfl
set_option maxRecDepth 100000 in
theorem lw_a22 : lw_h4.2.2 22 = d0 22 := rfl
set_option maxRecDepth 100000 in
theorem lw_a23 : lw_h4.2.2 23 = d0 23 := rfl
set_option maxRecDepth 100000 in
theorem lw_a24 : lw_h4.2.2 24 = d0 24 := rfl
set_option maxRecDepth 100000 in
theorem lw_a26 : lw_h4.2.2 26 = d0 26 := rfl
set_option maxRecDepth 100000 in
theorem lw_a27 : lw_h4.2.2 27 = d0 27 := rfl
set_option maxRecDepth 100000 in
theorem lw_a28 : lw_h4.2.2 28 = d0 28 := rfl
set_option maxRecDepth 100000 in
theorem lw_a29 : lw_h4.2.2 29 = d0 29 := rfl
set_option maxRecDepth 100000 in
theorem lw_a31 : lw_h4.2.2 31 = d0 31 := rfl
set_option maxRecDepth 100000 in
theorem lw_a32 : lw_h4.2.2 32 = d0 32 := rfl
set_option maxRecDepth 100000 in
theorem lw_a33 : lw_h4.2.2 33 = d0 33 := rfl
set_option maxRecDepth 100000 in
theorem lw_a34 : lw_h4.2.2 34 = d0 34 := rfl
set_option maxRecDepth 100000 in
theorem lw_a36 : lw_h4.2.2 36 = d0 36 := rfl
set_option maxRecDepth 100000 in
theorem lw_a37 : lw_h4.2.2 37 = d0 37 := rfl
set_option maxRecDepth 100000 in
theorem lw_a38 : lw_h4.2.2 38 = d0 38 := rfl
set_option maxRecDepth 100000 in
theorem lw_a39 : lw_h4.2.2 39 = d0 39 := rfl
set_option maxRecDepth 100000 in
theorem lw_a41 : lw_h4.2.2 41 = d0 41 := rfl
set_option maxRecDepth 100000 in
theorem lw_a42 : lw_h4.2.2 42 = d0 42 := rfl
set_option maxRecDepth 100000 in
theorem lw_a43 : lw_h4.2.2 43 = d0 43 := rfl
set_option maxRecDepth 100000 in
theorem lw_a44 : lw_h4.2.2 44 = d0 44 := rfl
set_option maxRecDepth 100000 in
theorem lw_a46 : lw_h4.2.2 46 = d0 46 := rfl
set_option maxRecDepth 100000 in
theorem lw_a47 : lw_h4.2.2 47 = d0 47 := rfl
set_option maxRecDepth 100000 in
theorem lw_a48 : lw_h4.2.2 48 = d0 48 := rfl
set_option maxRecDepth 100000 in
theorem lw_a49 : lw_h4.2.2 49 = d0 49 := rfl
set_option maxRecDepth 100000 in
theorem lw_a51 : lw_h4.2.2 51 = d0 51 := rfl
set_option maxRecDepth 100000 in
theorem lw_a52 : lw_h4.2.2 52 = d0 52 := rfl
set_option maxRecDepth 100000 in
theorem lw_a53 : lw_h4.2.2 53 = d0 53 := rfl
set_option maxRecDepth 100000 in
theorem lw_a54 : lw_h4.2.2 54 = d0 54 := rfl
set_option maxRecDepth 100000 in
theorem lw_a55 : lw_h4.2.2 55 = d0 55 := rfl
set_option maxRecDepth 100000 in
theorem lw_a57 : lw_h4.2.2 57 = d0 57 := rfl
set_option maxRecDepth 100000 in
theorem lw_a58 : lw_h4.2.2 58 = d0 58 := rfl
set_option maxRecDepth 100000 in
theorem lw_a59 : lw_h4.2.2 59 = d0 59 := rfl
set_option maxRecDepth 100000 in
theorem lw_a60 : lw_h4.2.2 60 = d0 60 := rfl
set_option maxRecDepth 100000 in
theorem lw_a61 : lw_h4.2.2 61 = d0 61 := rfl
set_option maxRecDepth 100000 in
theorem lw_a62 : lw_h4.2.2 62 = d0 62 := rfl
set_option maxRecDepth 100000 in
theorem lw_a63 : lw_h4.2.2 63 = d0 63 := rfl
set_option maxRecDepth 100000 in
theorem lw_a64 : lw_h4.2.2 64 = d0 64 := rfl
set_option maxRecDepth 100000 in
theorem lw_a65 : lw_h4.2.2 65 = d0 65 := rfl
set_option maxRecDepth 100000 in
theorem lw_a66 : lw_h4.2.2 66 = d0 66 := rfl
set_option maxRecDepth 100000 in
theorem lw_a67 : lw_h4.2.2 67 = d0 67 := rfl
set_option maxRecDepth 100000 in
theorem lw_a68 : lw_h4.2.2 68 = d0 68 := rfl
set_option maxRecDepth 100000 in
theorem lw_a69 : lw_h4.2.2 69 = d0 69 := rfl
set_option maxRecDepth 100000 in
theorem lw_a70 : lw_h4.2.2 70 = d0 70 := rfl
set_option maxRecDepth 100000 in
theorem lw_a71 : lw_h4.2.2 71 = d0 71 := rfl
set_option maxRecDepth 100000 in
theorem lw_a72 : lw_h4.2.2 72 = d0 72 := rfl
set_option maxRecDepth 100000 in
theorem lw_a73 : lw_h4.2.2 73 = d0 73 := rfl
set_option maxRecDepth 100000 in
theorem lw_a74 : lw_h4.2.2 74 = d0 74 := rfl
set_option maxRecDepth 100000 in
theorem lw_a75 : lw_h4.2.2 75 = d0 75 := rfl
set_option maxRecDepth 100000 in
theorem lw_a76 : lw_h4.2.2 76 = d0 76 := rfl
set_option maxRecDepth 100000 in
theorem lw_a77 : lw_h4.2.2 77 = d0 77 := rfl
set_option maxRecDepth 100000 in
theorem lw_a78 : lw_h4.2.2 78 = d0 78 := rfl
set_option maxRecDepth 100000 in
theorem lw_a79 : lw_h4.2.2 79 = d0 79 := rfl
set_option maxRecDepth 100000 in
theorem lw_a80 : lw_h4.2.2 80 = d0 80 := rfl
set_option maxRecDepth 100000 in
theorem lw_a81 : lw_h4.2.2 81 = d0 81 := rfl
set_option maxRecDepth 100000 in
theorem lw_a82 : lw_h4.2.2 82 = d0 82 := rfl
theorem lw_obj {g : am_G} {α : Nat → Nat} {a c z : Nat} (ha : a < 83) (hc : am_nf c ≤ 44) : am_cell g α lw_h4 a (c + 2, z) = am_cell g α (ly 1 false d0) a (c + 2, z) := by
  simp only [am_cell]
  congr 2
  apply List.map_congr_left
  intro j hj
  have hj' : j < 44 := Nat.lt_of_lt_of_le (List.mem_range.mp hj) hc
  simp only [am_fld, lw_R4 a ha j hj', lw_D4 a ha j hj']
theorem lw_nf44 : ∀ c, am_nf c ≤ 44 := by
  intro c
  unfold am_nf
  split <;> decide
theorem lw_arr {g : am_G} {α : Nat → Nat} {a t n : Nat} (ht : t < 2) (h : lw_h4.2.2 a = d0 a) : am_cell g α lw_h4 a (t, n) = am_cell g α (ly 1 false d0) a (t, n) := by
  match t, ht with
  | 0, _ => simp only [am_cell, h]
  | 1, _ => simp only [am_cell, h]
theorem lw_w (g : am_G) (α : Nat → Nat) : am_w g α lw_h4 = am_w g α (ly 1 false d0) := by
  refine am_w_congr lw_sh ?_
  rw [lw_sh]
  intro a k hk
  match a, hk with
  | 0, hk => cases hk; exact lw_obj (by decide) (lw_nf44 _)
  | 1, hk => cases hk; exact lw_obj (by decide) (lw_nf44 _)
  | 2, hk => cases hk; exact lw_arr (by decide) lw_a2
  | 3, hk => cases hk; exact lw_arr (by decide) lw_a3
  | 4, hk => cases hk; exact lw_arr (by decide) lw_a4
  | 5, hk => cases hk; exact lw_arr (by decide) lw_a5
  | 6, hk => cases hk; exact lw_arr (by decide) lw_a6
  | 7, hk => cases hk; exact lw_obj (by decide) (lw_nf44 _)
  | 8, hk => cases hk; exact lw_arr (by decide) lw_a8
  | 9, hk => cases hk; exact lw_arr (by decide) lw_a9
  | 10, hk => cases hk; exact lw_arr (by decide) lw_a10
  | 11, hk => cases hk; exact lw_arr (by decide) lw_a11
  | 12, hk => cases hk; exact lw_obj (by decide) (lw_nf44 _)
  | 13, hk => cases hk; exact lw_arr (by decide) lw_a13
  | 14, hk => cases hk; exact lw_obj (by decide) (lw_nf44 _)
  | 15, hk => cases hk; exact lw_arr (by decide) lw_a15
  | 16, hk => cases hk; exact lw_arr (by decide) lw_a16
  | 17, hk => cases hk; exact lw_arr (by decide) lw_a17
  | 18, hk => cases hk; exact lw_arr (by decide) lw_a18
  | 19, hk => cases hk; exact lw_arr (by decide) lw_a19
  | 20, hk => cases hk; exact lw_obj (by decide) (lw_nf44 _)
  | 21, hk => cases hk; exact lw_arr (by decide) lw_a21
  | 22, hk => cases hk; exact lw_arr (by decide) lw_a22
  | 23, hk => cases hk; exact lw_arr (by decide) lw_a23
  | 24, hk => cases hk; exact lw_arr (by decide) lw_a24
  | 25, hk => cases hk; exact lw_obj (by decide) (lw_nf44 _)
  | 26, hk => cases hk; exact lw_arr (by decide) lw_a26
  | 27, hk => cases hk; exact lw_arr (by decide) lw_a27
  | 28, hk => cases hk; exact lw_arr (by decide) lw_a28
  | 29, hk => cases hk; exact lw_arr (by decide) lw_a29
  | 30, hk => cases hk; exact lw_obj (by decide) (lw_nf44 _)
  | 31, hk => cases hk; exact lw_arr (by decide) lw_a31
  | 32, hk => cases hk; exact lw_arr (by decide) lw_a32
  | 33, hk => cases hk; exact lw_arr (by decide) lw_a33
  | 34, hk => cases hk; exact lw_arr (by decide) lw_a34
  | 35, hk => cases hk; exact lw_obj (by decide) (lw_nf44 _)
  | 36, hk => cases hk; exact lw_arr (by decide) lw_a36
  | 37, hk => cases hk; exact lw_arr (by decide) lw_a37
  | 38, hk => cases hk; exact lw_arr (by decide) lw_a38
  | 39, hk => cases hk; exact lw_arr (by decide) lw_a39
  | 40, hk => cases hk; exact lw_obj (by decide) (lw_nf44 _)
  | 41, hk => cases hk; exact lw_arr (by decide) lw_a41
  | 42, hk => cases hk; exact lw_arr (by decide) lw_a42
  | 43, hk => cases hk; exact lw_arr (by decide) lw_a43
  | 44, hk => cases hk; exact lw_arr (by decide) lw_a44
  | 45, hk => cases hk; exact lw_obj (by decide) (lw_nf44 _)
  | 46, hk => cases hk; exact lw_arr (by decide) lw_a46
  | 47, hk => cases hk; exact lw_arr (by decide) lw_a47
  | 48, hk => cases hk; exact lw_arr (by decide) lw_a48
  | 49, hk => cases hk; exact lw_arr (by decide) lw_a49
  | 50, hk => cases hk; exact lw_obj (by decide) (lw_nf44 _)
  | 51, hk => cases hk; exact lw_arr (by decide) lw_a51
  | 52, hk => cases hk; exact lw_arr (by decide) lw_a52
  | 53, hk => cases hk; exact lw_arr (by decide) lw_a53
  | 54, hk => cases hk; exact lw_arr (by decide) lw_a54
  | 55, hk => cases hk; exact lw_arr (by decide) lw_a55
  | 56, hk => cases hk; exact lw_obj (by decide) (lw_nf44 _)
  | 57, hk => cases hk; exact lw_arr (by decide) lw_a57
  | 58, hk => cases hk; exact lw_arr (by decide) lw_a58
  | 59, hk => cases hk; exact lw_arr (by decide) lw_a59
  | 60, hk => cases hk; exact lw_arr (by decide) lw_a60
  | 61, hk => cases hk; exact lw_arr (by decide) lw_a61
  | 62, hk => cases hk; exact lw_arr (by decide) lw_a62
  | 63, hk => cases hk; exact lw_arr (by decide) lw_a63
  | 64, hk => cases hk; exact lw_arr (by decide) lw_a64
  | 65, hk => cases hk; exact lw_arr (by decide) lw_a65
  | 66, hk => cases hk; exact lw_arr (by decide) lw_a66
  | 67, hk => cases hk; exact lw_arr (by decide) lw_a67
  | 68, hk => cases hk; exact lw_arr (by decide) lw_a68
  | 69, hk => cases hk; exact lw_arr (by decide) lw_a69
  | 70, hk => cases hk; exact lw_arr (by decide) lw_a70
  | 71, hk => cases hk; exact lw_arr (by decide) lw_a71
  | 72, hk => cases hk; exact lw_arr (by decide) lw_a72
  | 73, hk => cases hk; exact lw_arr (by decide) lw_a73
  | 74, hk => cases hk; exact lw_arr (by decide) lw_a74
  | 75, hk => cases hk; exact lw_arr (by decide) lw_a75
  | 76, hk => cases hk; exact lw_arr (by decide) lw_a76
  | 77, hk => cases hk; exact lw_arr (by decide) lw_a77
  | 78, hk => cases hk; exact lw_arr (by decide) lw_a78
  | 79, hk => cases hk; exact lw_arr (by decide) lw_a79
  | 80, hk => cases hk; exact lw_arr (by decide) lw_a80
  | 81, hk => cases hk; exact lw_arr (by decide) lw_a81
  | 82, hk => cases hk; exact lw_arr (by decide) lw_a82
  | a + 83, hk => simp [lyS, lyS0] at hk
