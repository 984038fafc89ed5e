/-! a life planned: the class's comes back -/
theorem n_max2 {a b : Nat} (ha : a < 1000000) (hb : b < 1000000) : am_max (nI a - nI b) 0 = nI (a - b) := by
  unfold am_max
  by_cases h : a < b
  · rw [if_pos (pk_sneg (by omega) h), show a - b = 0 by omega]; rfl
  · rw [pk_sub (by omega), if_neg (nI_pos (by omega))]
def Lp (w n t : Nat) (D : am_M) : Prop := D 45 12 = nI w ∧ D 45 14 = nI (100 * w) ∧ D 45 7 = nI n ∧ D 45 9 = nI t
theorem Lp_f {w n t : Nat} {D E : am_M} (h : E 45 = D 45) (q : Lp w n t D) : Lp w n t E := by
  unfold Lp at q ⊢
  rw [h]
  exact q
theorem l_b {w k t s : Nat} (hw : w ≤ 9) (hk : k ≤ 48) (ht : t ≤ 99) (hs : s < w) : k * (100 * w) + t * w + s < 44100 := by
  have h1 : k * (100 * w) ≤ 48 * (100 * 9) := Nat.mul_le_mul hk (by omega)
  have h2 : t * w ≤ 99 * 9 := Nat.mul_le_mul ht hw
  omega
theorem l_pl {w n t0 : Nat} {D : am_M} (h : Lp w n t0 D) (k t s : Nat) : f_X1_place (nI k) (nI t) (nI s) D = nI (k * (100 * w) + t * w + s) := by
  rw [f_X1_place, h.1, h.2.1, pk_mul, pk_mul, nI_add, nI_add]
theorem l_in {w n t0 k t s : Nat} {D : am_M} (h : Lp w n t0 D) (hw : w ≤ 9) (hk : k ≤ 48) (ht : t ≤ 99) (hs : s < w) : am_in (f_X1_place (nI k) (nI t) (nI s) D) 44100 = true := by
  rw [l_pl h]; exact tl_ai (l_b hw hk ht hs) (by decide)
theorem l_ea {t : Nat} (ht : t ≤ 99) : f_X1_easedBySleep (nI t) = nI (t - 4) := by rw [f_X1_easedBySleep]; exact n_max (by omega)
theorem l_wk {t : Nat} (ht : t ≤ 99) : f_X1_tiredByWork (nI t) = nI (min (t + 3) 99) := by
  rw [f_X1_tiredByWork]
  show am_min (nI t + nI 3) (nI 99) = _
  rw [nI_add]
  exact n_min (by omega) (by omega)
theorem l_lo {w n t0 s : Nat} {D : am_M} (h : Lp w n t0 D) (h2 : 2 ≤ w) (hw : w ≤ 9) (hs : s < w) : f_X1_longerSleep (nI s) D = nI (min (s + 1) (w - 1)) := by
  rw [f_X1_longerSleep, h.1, nI_1, show nI w - 1 = nI (w - 1) from pk_sub (b := 1) (by omega)]
  exact n_min (by omega) (by omega)
theorem l_as {w n t0 k t s : Nat} {D : am_M} (h : Lp w n t0 D) (h2 : 2 ≤ w) (hw : w ≤ 9) (hk : k ≤ 48) (ht : t ≤ 99) (hs : s < w) : am_in (f_X1_placeAsleep (nI k) (nI t) (nI s) D) 44100 = true := by
  rw [f_X1_placeAsleep, l_ea ht, l_lo h h2 hw hs]
  exact l_in h hw hk (by omega) (by omega)
theorem l_aw {w n t0 k t : Nat} {D : am_M} (h : Lp w n t0 D) (h2 : 2 ≤ w) (hw : w ≤ 9) (hk : k ≤ 48) (ht : t ≤ 99) : am_in (f_X1_placeAtWork (nI k) (nI t) D) 44100 = true := by
  rw [f_X1_placeAtWork, l_wk ht]
  exact l_in (s := 0) h hw hk (by omega) (by omega)
theorem l_cle {w n t0 : Nat} (hw : w ≤ 9) : ∀ (m x k : Nat) (D : am_M), x + m = 100 * w → m < k → Lp w n t0 D → ∃ D', b_X1_clearLastEarnings_2 k (nI x) D = some D' ∧ ∀ a, a ≠ 84 → D' a = D a := by
  intro m
  induction m with
  | zero =>
    intro x k D hm hk h
    obtain ⟨k, rfl⟩ : ∃ q, k = q + 1 := ⟨k - 1, by omega⟩
    exact ⟨D, by rw [b_X1_clearLastEarnings_2, h.2.1, if_pos (nI_le (by omega) (by omega))], fun _ _ => rfl⟩
  | succ m ih =>
    intro x k D hm hk h
    obtain ⟨k, rfl⟩ : ∃ q, k = q + 1 := ⟨k - 1, by omega⟩
    obtain ⟨D', i1, i2⟩ := ih (x + 1) k (am_up D 84 (nI x).toNatClampNeg 0) (by omega) (by omega) (Lp_f (tl_upo2 (by decide)) h)
    exact ⟨D', by rw [b_X1_clearLastEarnings_2, h.2.1, if_neg (nI_ge (by omega) (by omega)), if_pos (tl_ai (by omega) (by omega)), nI_1]; exact i1, fun a ha => by rw [i2 a ha, tl_upo2 ha]⟩
theorem l_le25 {w n t0 l t : Nat} (h2 : 2 ≤ w) (hw : w ≤ 9) (hl1 : 1 ≤ l) (hl : l ≤ 48) (ht : t ≤ 99) {k2 : Int32 → Int32 → am_M → Option am_M} : ∀ (m s k : Nat) (x3 : Int32) (D : am_M), s + m = w → m < k → Lp w n t0 D → ∃ D', b_X1_learnEarnings_25 k2 k (nI l) (nI t) x3 (nI s) D = k2 (nI l) (nI (t + 1)) D' ∧ ∀ a, a ≠ 84 → D' a = D a := by
  intro m
  induction m with
  | zero =>
    intro s k x3 D hm hk h
    obtain ⟨k, rfl⟩ : ∃ q, k = q + 1 := ⟨k - 1, by omega⟩
    exact ⟨D, by rw [b_X1_learnEarnings_25, h.1, if_pos (nI_le (by omega) (by omega)), nI_1], fun _ _ => rfl⟩
  | succ m ih =>
    intro s k x3 D hm hk h
    obtain ⟨k, rfl⟩ : ∃ q, k = q + 1 := ⟨k - 1, by omega⟩
    have e1 : nI l - 1 = nI (l - 1) := pk_sub (b := 1) hl1
    have go : ∀ x, ∃ D', b_X1_learnEarnings_64 k2 (b_X1_learnEarnings_25 k2 k) (nI l) (nI t) x3 (nI s) x D = k2 (nI l) (nI (t + 1)) D' ∧ ∀ a, a ≠ 84 → D' a = D a := by
      intro x
      obtain ⟨D', i1, i2⟩ := ih (s + 1) k x3 (am_up D 84 (f_X1_place (nI l) (nI t) (nI s) D).toNatClampNeg (am_max x3 x)) (by omega) (by omega) (Lp_f (tl_upo2 (by decide)) h)
      exact ⟨D', by rw [b_X1_learnEarnings_64, if_pos (l_in h hw hl ht (by omega)), nI_1]; exact i1, fun a ha => by rw [i2 a ha, tl_upo2 ha]⟩
    rw [b_X1_learnEarnings_25, h.1, if_neg (nI_ge (by omega) (by omega)), e1, if_pos (l_as h h2 hw (by omega) ht (by omega))]
    split
    · exact go _
    · exact go _
theorem l_le2 {w n t0 l : Nat} (h2 : 2 ≤ w) (hw : w ≤ 9) (hl1 : 1 ≤ l) (hl : l ≤ 48) : ∀ (m t k : Nat) (D : am_M), t + m = 100 → m < k → Lp w n t0 D → ∃ D', b_X1_learnEarnings_2 k (nI l) (nI t) D = some D' ∧ ∀ a, a ≠ 84 → D' a = D a := by
  intro m
  induction m with
  | zero =>
    intro t k D hm hk h
    obtain ⟨k, rfl⟩ : ∃ q, k = q + 1 := ⟨k - 1, by omega⟩
    exact ⟨D, by rw [b_X1_learnEarnings_2, if_pos (show (99 : Int32) < nI t from nI_lt (a := 99) (by omega) (by omega))], fun _ _ => rfl⟩
  | succ m ih =>
    intro t k D hm hk h
    obtain ⟨k, rfl⟩ : ∃ q, k = q + 1 := ⟨k - 1, by omega⟩
    have e1 : nI l - 1 = nI (l - 1) := pk_sub (b := 1) hl1
    obtain ⟨D1, a1, a2⟩ := l_le25 (l := l) (t := t) (k2 := b_X1_learnEarnings_2 k) h2 hw hl1 hl (by omega) w 0 am_N (D 84 (f_X1_placeAtWork (nI l - 1) (nI t) D).toNatClampNeg) D (by omega) (by show w < 100000; omega) h
    obtain ⟨D', i1, i2⟩ := ih (t + 1) k D1 (by omega) (by omega) (Lp_f (a2 45 (by decide)) h)
    refine ⟨D', ?_, fun a ha => by rw [i2 a ha, a2 a ha]⟩
    rw [b_X1_learnEarnings_2, if_neg (show ¬ (99 : Int32) < nI t from nI_nlt (a := 99) (by omega) (by decide)), if_pos (by rw [e1]; exact l_aw h h2 hw (by omega) (by omega))]
    exact a1.trans i1
theorem l_p62 {T w n t0 : Nat} (h2 : 2 ≤ w) (hw : w ≤ 9) (hn : n ≤ 48) : ∀ (m e k : Nat) (D : am_M), n ≤ e + m → m < k → e ≤ 48 → D 45 2 = nI e → Lp w n t0 D → ∃ D', b_X1_prepareTables_62 T k D = some D' ∧ (∃ e', e' ≤ 48 ∧ D' 45 2 = nI e') ∧ (∀ i, i ≠ 2 → D' 45 i = D 45 i) ∧ ∀ a, a ≠ 84 → a ≠ 45 → D' a = D a := by
  intro m
  induction m with
  | zero =>
    intro e k D hm hk he h0 h
    obtain ⟨k, rfl⟩ : ∃ q, k = q + 1 := ⟨k - 1, by omega⟩
    exact ⟨D, by rw [b_X1_prepareTables_62, h.2.2.1, h0, if_pos (nI_le (by omega) (by omega))], ⟨e, he, h0⟩, fun _ _ => rfl, fun _ _ _ => rfl⟩
  | succ m ih =>
    intro e k D hm hk he h0 h
    obtain ⟨k, rfl⟩ : ∃ q, k = q + 1 := ⟨k - 1, by omega⟩
    by_cases hne : n ≤ e
    · exact ⟨D, by rw [b_X1_prepareTables_62, h.2.2.1, h0, if_pos (nI_le (by omega) (by omega))], ⟨e, he, h0⟩, fun _ _ => rfl, fun _ _ _ => rfl⟩
    · have hU : Lp w n t0 (am_up D 45 2 (nI (e + 1))) := by
        obtain ⟨q1, q2, q3, q4⟩ := h
        exact ⟨by rw [tl_upi2, if_neg (by decide)]; exact q1, by rw [tl_upi2, if_neg (by decide)]; exact q2, by rw [tl_upi2, if_neg (by decide)]; exact q3, by rw [tl_upi2, if_neg (by decide)]; exact q4⟩
      obtain ⟨D1, a1, a2⟩ := l_le2 (l := e + 1) h2 hw (by omega) (by omega) 100 0 am_N (am_up D 45 2 (nI (e + 1))) rfl (by decide) hU
      obtain ⟨D', i1, i2, i3, i4⟩ := ih (e + 1) k D1 (by omega) (by omega) (by omega) (by rw [a2 45 (by decide), tl_upi2, if_pos rfl]) (Lp_f (a2 45 (by decide)) hU)
      refine ⟨D', ?_, i2, fun i hi => by rw [i3 i hi, a2 45 (by decide), tl_upi2, if_neg hi], fun a x1 x2 => by rw [i4 a x1 x2, a2 a x1, tl_upo2 x2]⟩
      have a1' : f_X1_learnEarnings (nI (e + 1)) (am_up D 45 2 (nI (e + 1))) = some D1 := a1
      rw [b_X1_prepareTables_62, h.2.2.1, h0, if_neg (nI_ge (by omega) (by omega)), nI_1, tl_upi2, if_pos rfl, a1', Option.bind_some]
      exact i1
theorem l_p51 {T w n t0 e : Nat} {D : am_M} (h2 : 2 ≤ w) (hw : w ≤ 9) (hn : n ≤ 48) (he : e ≤ 48) (h0 : D 45 2 = nI e) (h : Lp w n t0 D) : ∃ D', b_X1_prepareTables_51 T D = some D' ∧ (∃ e', e' ≤ 48 ∧ D' 45 2 = nI e') ∧ (∀ i, i ≠ 2 → D' 45 i = D 45 i) ∧ ∀ a, a ≠ 84 → a ≠ 45 → D' a = D a := by
  rw [b_X1_prepareTables_51]
  split
  · obtain ⟨D1, a1, a2⟩ := l_cle hw (100 * w) 0 am_N D (by omega) (by show _ < 100000; omega) h
    have a1' : f_X1_clearLastEarnings D = some D1 := a1
    obtain ⟨D', i1, i2, i3, i4⟩ := l_p62 (T := T) h2 hw hn 48 e am_N D1 (by omega) (by decide) he (by rw [a2 45 (by decide)]; exact h0) (Lp_f (a2 45 (by decide)) h)
    exact ⟨D', by rw [a1', Option.bind_some]; exact i1, i2, fun i hi => by rw [i3 i hi, a2 45 (by decide)], fun a x1 x2 => by rw [i4 a x1 x2, a2 a x1]⟩
  · exact l_p62 (T := T) h2 hw hn 48 e am_N D (by omega) (by decide) he h0 h
theorem l_prep {T w n t0 e : Nat} {D : am_M} {tp : Bool} (hT : T ≤ 14) (h2 : 2 ≤ w) (hw : w ≤ 9) (hn : n ≤ 48) (he : e ≤ 48) (h0 : D 45 2 = nI e) (hT1 : D T 1 = nI w) (h7 : D 45 7 = nI n) (h9 : D 45 9 = nI t0) : ∃ D', f_X1_prepareTables T tp D = some D' ∧ (∃ e', e' ≤ 48 ∧ D' 45 2 = nI e') ∧ Lp w n t0 D' ∧ (∀ i, i < 12 → i ≠ 2 → D' 45 i = D 45 i) ∧ ∀ a, a ≠ 83 → a ≠ 84 → a ≠ 45 → D' a = D a := by
  have e100 : (100 : Int32) * nI w = nI (100 * w) := pk_mul 100 w
  have key : ∀ U : am_M, (∀ i, U 45 i = if i = 14 then nI (100 * w) else if i = 13 then D T 2 else if i = 12 then nI w else D 45 i) → (∀ a, a ≠ 83 → a ≠ 84 → a ≠ 45 → U a = D a) → ∃ D', b_X1_prepareTables_51 T U = some D' ∧ (∃ e', e' ≤ 48 ∧ D' 45 2 = nI e') ∧ Lp w n t0 D' ∧ (∀ i, i < 12 → i ≠ 2 → D' 45 i = D 45 i) ∧ ∀ a, a ≠ 83 → a ≠ 84 → a ≠ 45 → D' a = D a := by
    intro U hU hU2
    have hL : Lp w n t0 U := ⟨by rw [hU]; rfl, by rw [hU]; rfl, by rw [hU]; exact h7, by rw [hU]; exact h9⟩
    obtain ⟨D', i1, i2, i3, i4⟩ := l_p51 (T := T) h2 hw hn he (by rw [hU]; exact h0) hL
    refine ⟨D', i1, i2, ⟨by rw [i3 12 (by decide)]; exact hL.1, by rw [i3 14 (by decide)]; exact hL.2.1, by rw [i3 7 (by decide)]; exact hL.2.2.1, by rw [i3 9 (by decide)]; exact hL.2.2.2⟩, fun i x1 x2 => ?_, fun a x1 x2 x3 => by rw [i4 a x2 x3, hU2 a x1 x2 x3]⟩
    rw [i3 i x2, hU, if_neg (by omega), if_neg (by omega), if_neg (by omega)]
  have hu : ∀ i, (am_up (am_up (am_up D 45 12 (D T 1)) 45 13 ((am_up D 45 12 (D T 1)) T 2)) 45 14 (100 * ((am_up (am_up D 45 12 (D T 1)) 45 13 ((am_up D 45 12 (D T 1)) T 2)) 45 12))) 45 i = if i = 14 then nI (100 * w) else if i = 13 then D T 2 else if i = 12 then nI w else D 45 i := by
    intro i
    rw [tl_upi2, tl_upi2, if_neg (by decide : ¬ (12 : Nat) = 13), tl_upi2, if_pos rfl, tl_upi2, tl_upi2, tl_upo2 (by omega), hT1, e100]
  rw [f_X1_prepareTables]
  split
  · rw [f_X1_prepareTablesT]
    exact key _ hu (fun a _ _ x3 => by rw [tl_upo2 x3, tl_upo2 x3, tl_upo2 x3])
  · rw [f_X1_prepareTablesF]
    exact key _ (fun i => by rw [row_o (by decide), row_o (by decide)]; exact hu i) (fun a x1 x2 x3 => by rw [row_o x2, row_o x1, tl_upo2 x3, tl_upo2 x3, tl_upo2 x3])
