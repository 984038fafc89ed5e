/-! which coin should be struck -/
theorem sm60_c {f g : Nat → Nat} : ∀ V, (∀ j, 1 ≤ j → j ≤ V → f j = g j) → sm60 f V = sm60 g V := by
  intro V
  induction V with
  | zero => intro _; rfl
  | succ V ih => intro h; rw [sm60, sm60, ih (fun j j1 j2 => h j j1 (by omega)), h (V + 1) (by omega) (by omega)]
theorem sm60_le {f : Nat → Nat} : ∀ V, V ≤ 60 → (∀ j, j ≤ V → f j ≤ j) → sm60 f V ≤ 60 * V := by
  intro V
  induction V with
  | zero => intro _ _; exact Nat.le_refl _
  | succ V ih =>
    intro hV h
    have := ih (by omega) (fun j hj => h j (by omega))
    have := h (V + 1) (by omega)
    rw [sm60]
    omega
theorem c_tot {w : Nat} {f : Nat → Nat} (h2 : 2 ≤ w) (h60 : w ≤ 60) (hf : ∀ v, v ≤ 60 → f v ≤ v) : ∀ (m u n : Nat) (D : am_M) (H : Nat → Nat), u + m = 60 → m < n → (∀ j, j ≤ u → j < w → H j = f j) → (∀ j, j ≤ u → w ≤ j → H j = min (f j) (H (j - w) + 1)) → (∀ j, j ≤ u → D 53 j = nI (H j)) → (∀ j, j ≤ 60 → D 52 j = nI (f j)) → ∃ (D' : am_M) (G : Nat → Nat), b_X0_totalWith_4 n (nI w) (nI (sm60 H u)) (nI (u + 1)) D = some (nI (sm60 G 60), D') ∧ (∀ j, j ≤ 60 → j < w → G j = f j) ∧ (∀ j, j ≤ 60 → w ≤ j → G j = min (f j) (G (j - w) + 1)) ∧ D' 53 0 = D 53 0 ∧ ∀ a, a ≠ 53 → D' a = D a := by
  intro m
  induction m with
  | zero =>
    intro u n D H hm hn a1 a2 a3 a4
    obtain ⟨n, rfl⟩ : ∃ q, n = q + 1 := ⟨n - 1, by omega⟩
    have : u = 60 := by omega
    subst this
    exact ⟨D, H, by rw [b_X0_totalWith_4, if_pos (show (60 : Int32) < nI (60 + 1) by decide)], a1, a2, rfl, fun _ _ => rfl⟩
  | succ m ih =>
    intro u n D H hm hn a1 a2 a3 a4
    obtain ⟨n, rfl⟩ : ∃ q, n = q + 1 := ⟨n - 1, by omega⟩
    have hle : ∀ j, j ≤ u → H j ≤ f j := fun j hj => by
      by_cases h : j < w
      · rw [a1 j hj h]; exact Nat.le_refl _
      · rw [a2 j hj (by omega)]; omega
    have step : ∀ x, (u + 1 < w → x = f (u + 1)) → (w ≤ u + 1 → x = min (f (u + 1)) (H (u + 1 - w) + 1)) → ∃ (D' : am_M) (G : Nat → Nat), b_X0_totalWith_40 (b_X0_totalWith_4 n) (nI w) (nI (sm60 H u)) (nI (u + 1)) (nI x) D = some (nI (sm60 G 60), D') ∧ (∀ j, j ≤ 60 → j < w → G j = f j) ∧ (∀ j, j ≤ 60 → w ≤ j → G j = min (f j) (G (j - w) + 1)) ∧ D' 53 0 = D 53 0 ∧ ∀ a, a ≠ 53 → D' a = D a := by
      intro x x1 x2
      obtain ⟨D', G, g1, g2, g3, g4, g5⟩ := ih (u + 1) n (am_up D 53 (u + 1) (nI x)) (un H (u + 1) x) (by omega) (by omega) (fun j j1 j2 => by
        by_cases e : j = u + 1
        · rw [e, un_s]; exact x1 (by omega)
        · rw [un_n e]; exact a1 j (by omega) j2) (fun j j1 j2 => by
        by_cases e : j = u + 1
        · rw [e, un_s, un_n (by omega)]; exact x2 (by omega)
        · rw [un_n e, un_n (by omega)]; exact a2 j (by omega) j2) (fun j j1 => by
        rw [tl_upi2]
        by_cases e : j = u + 1
        · rw [if_pos e, e, un_s]
        · rw [if_neg e, un_n e]; exact a3 j (by omega)) (fun j j1 => by rw [tl_upo2 (by decide)]; exact a4 j j1)
      have es : sm60 (un H (u + 1) x) (u + 1) = sm60 H u + x := by
        rw [sm60, un_s, sm60_c u (fun j _ j2 => un_n (by omega))]
      refine ⟨D', G, ?_, g2, g3, by rw [g4, tl_upi2, if_neg (by omega)], fun a ha => by rw [g5 a ha, tl_upo2 ha]⟩
      rw [b_X0_totalWith_40, if_pos (tl_ai (by omega) (by omega)), tl_cl2 (by omega), nI_add, nI_1, ← es]
      exact g1
    rw [b_X0_totalWith_4, if_neg (show ¬ (60 : Int32) < nI (u + 1) from nI_nlt (a := 60) (by omega) (by decide)), if_pos (tl_ai (by omega) (by omega)), tl_cl2 (by omega), a4 (u + 1) (by omega)]
    by_cases hw : u + 1 < w
    · rw [if_pos (nI_lt hw (by omega))]
      exact step _ (fun _ => rfl) (fun q => absurd q (by omega))
    · have b1 := hf (u + 1) (by omega)
      have b2 := hf (u + 1 - w) (by omega)
      have b3 := hle (u + 1 - w) (by omega)
      rw [if_neg (nI_nlt (by omega) (by omega)), pk_sub (by omega), if_pos (tl_ai (by omega) (by omega)), tl_cl2 (by omega), a3 (u + 1 - w) (by omega), nI_1 (H (u + 1 - w)), n_min (by omega) (by omega)]
      exact step _ (fun q => absurd q (by omega)) (fun _ => rfl)
theorem isC_p {t : To} {w : Nat} : isCp t (q_cn t) w ↔ isC t w := Iff.rfl
theorem STk_c {t : To} {W r s : Nat} (h : STk t W r s) (hW : isC t W) : STk t (W + 1) r s := by
  obtain ⟨h1, h2, h3, h4, h5⟩ := h
  refine ⟨h1, by omega, h3, h4, fun w f w1 w2 w3 w4 => ?_⟩
  by_cases e : w = W
  · subst e; exact absurd hW w3
  · exact h5 w f w1 (by omega) w3 w4
theorem STk_k {t : To} {W r s : Nat} {f : Nat → Nat} (h : STk t W r s) (hf : FW (fun c => isC t c ∨ c = W) 60 f) (hs : s ≤ sm60 f 60) : STk t (W + 1) r s := by
  obtain ⟨h1, h2, h3, h4, h5⟩ := h
  refine ⟨h1, by omega, h3, h4, fun w g w1 w2 w3 w4 => ?_⟩
  by_cases e : w = W
  · subst e
    rw [sm60_c 60 (fun j _ j2 => FW_u w4 hf j j2)]
    exact ⟨hs, fun _ => by omega⟩
  · exact h5 w g w1 (by omega) w3 w4
theorem STk_n {t : To} {W : Nat} {f : Nat → Nat} (h2 : 2 ≤ W) (hW : ¬ isC t W) (hf : FW (fun c => isC t c ∨ c = W) 60 f) (h : (∀ w, 2 ≤ w → w < W → isC t w) ∨ ∃ r s, STk t W r s ∧ sm60 f 60 < s) : STk t (W + 1) W (sm60 f 60) := by
  refine ⟨h2, by omega, hW, ⟨f, hf, rfl⟩, fun w g w1 w2 w3 w4 => ?_⟩
  by_cases e : w = W
  · subst e
    rw [sm60_c 60 (fun j _ j2 => FW_u w4 hf j j2)]
    exact ⟨Nat.le_refl _, fun _ => Nat.le_refl _⟩
  · rcases h with h | ⟨r, s, h, hs⟩
    · exact absurd (h w w1 (by omega)) w3
    · have := (h.2.2.2.2 w g w1 (by omega) w3 w4).1
      exact ⟨by omega, fun q => by omega⟩
theorem STk_u {t : To} {W r s r' s' : Nat} (h : STk t W r s) (h' : STk t W r' s') : r = r' ∧ s = s' := by
  obtain ⟨h1, h2, h3, ⟨f, h4, h4'⟩, h5⟩ := h
  obtain ⟨k1, k2, k3, ⟨g, k4, k4'⟩, k5⟩ := h'
  have a1 := h5 r' g k1 k2 k3 k4
  have a2 := k5 r f h1 h2 h3 h4
  have es : s = s' := by omega
  exact ⟨Nat.le_antisymm (a1.2 (by omega)) (a2.2 (by omega)), es⟩
theorem isC_4 {t : To} (h4 : q_cn t ≤ 4) : ¬ ∀ w, 2 ≤ w → w < 61 → isC t w := by
  intro h
  have g : ∀ w, 2 ≤ w → w < 7 → ∃ c, c < 4 ∧ q_co t c = w := fun w w1 w2 => by
    rcases h w w1 (by omega) with q | ⟨c, c1, c2⟩
    · omega
    · exact ⟨c, by omega, c2⟩
  obtain ⟨a, a1, a2⟩ := g 2 (by decide) (by decide)
  obtain ⟨b, b1, b2⟩ := g 3 (by decide) (by decide)
  obtain ⟨c, c1, c2⟩ := g 4 (by decide) (by decide)
  obtain ⟨d, d1, d2⟩ := g 5 (by decide) (by decide)
  obtain ⟨e, e1, e2⟩ := g 6 (by decide) (by decide)
  have n1 : a ≠ b := fun q => by rw [q, b2] at a2; exact absurd a2 (by decide)
  have n2 : a ≠ c := fun q => by rw [q, c2] at a2; exact absurd a2 (by decide)
  have n3 : a ≠ d := fun q => by rw [q, d2] at a2; exact absurd a2 (by decide)
  have n4 : a ≠ e := fun q => by rw [q, e2] at a2; exact absurd a2 (by decide)
  have n5 : b ≠ c := fun q => by rw [q, c2] at b2; exact absurd b2 (by decide)
  have n6 : b ≠ d := fun q => by rw [q, d2] at b2; exact absurd b2 (by decide)
  have n7 : b ≠ e := fun q => by rw [q, e2] at b2; exact absurd b2 (by decide)
  have n8 : c ≠ d := fun q => by rw [q, d2] at c2; exact absurd c2 (by decide)
  have n9 : c ≠ e := fun q => by rw [q, e2] at c2; exact absurd c2 (by decide)
  have n10 : d ≠ e := fun q => by rw [q, e2] at d2; exact absurd d2 (by decide)
  omega
def Sg (t : To) (W : Nat) (x y : Int32) : Prop := (x = (-1) ∧ ∀ w, 2 ≤ w → w < W → isC t w) ∨ ∃ r s, STk t W r s ∧ x = nI r ∧ y = nI s
theorem STk_le {t : To} {W r s : Nat} (h : STk t W r s) : s ≤ 3600 := by
  obtain ⟨h1, h2, h3, ⟨f, h4, h4'⟩, h5⟩ := h
  rw [h4']
  exact sm60_le 60 (by decide) (fun j hj => FW_le h4 (Or.inl (Or.inl rfl)) j hj)
theorem n_m1 {p : Nat} (h : p < 2 ^ 31) : ¬ nI p = (-1) := fun q => by
  have h1 : (0 : Int32) ≤ nI p := nI_pos' h
  rw [q] at h1
  exact absurd h1 (by decide)
theorem c_fst {t : To} : ∀ (m W n : Nat) (D : am_M), W + m = 61 → 2 ≤ W → m < n → Tok t D → D 53 0 = 0 → Sg t W (D 50 5) (D 50 6) → ∃ D', b_X0_findStrike_20 n (nI W) D = some D' ∧ Sg t 61 (D' 50 5) (D' 50 6) ∧ D' 53 0 = 0 ∧ (∀ i, i ≠ 5 → i ≠ 6 → D' 50 i = D 50 i) ∧ ∀ a, a ≠ 50 → a ≠ 53 → D' a = D a := by
  intro m
  induction m with
  | zero =>
    intro W n D hm h2 hn hk h0 hs
    obtain ⟨n, rfl⟩ : ∃ q, n = q + 1 := ⟨n - 1, by omega⟩
    have : W = 61 := by omega
    subst this
    exact ⟨D, by rw [b_X0_findStrike_20, if_pos (show (60 : Int32) < nI 61 by decide)], hs, h0, fun _ _ _ => rfl, fun _ _ _ => rfl⟩
  | succ m ih =>
    intro W n D hm h2 hn hk h0 hs
    obtain ⟨n, rfl⟩ : ∃ q, n = q + 1 := ⟨n - 1, by omega⟩
    obtain ⟨k1, f, k2, k3⟩ := id hk
    rw [b_X0_findStrike_20, if_neg (show ¬ (60 : Int32) < nI W from nI_nlt (a := 60) (by omega) (by decide)), if_pos (tl_ai (by omega) (by omega)), tl_cl2 (by omega), nI_1]
    by_cases hc : isC t W
    · rw [(k1 W (by omega) (by omega)).1 hc, if_neg (by decide)]
      refine ih (W + 1) n D (by omega) (by omega) (by omega) hk h0 ?_
      rcases hs with ⟨x, y⟩ | ⟨r, s, x, y⟩
      · refine Or.inl ⟨x, fun w w1 w2 => ?_⟩
        by_cases e : w = W
        · rw [e]; exact hc
        · exact y w w1 (by omega)
      · exact Or.inr ⟨r, s, STk_c x hc, y⟩
    · rw [(k1 W (by omega) (by omega)).2 hc, if_pos rfl]
      have hf := FW_le k2 (Or.inl rfl)
      obtain ⟨D1, G, g1, g2, g3, g4, g5⟩ := c_tot (w := W) (f := f) h2 (by omega) (fun v hv => hf v (by omega)) 60 0 am_N D f rfl (by decide) (fun _ _ _ => rfl) (fun j j1 j2 => absurd j2 (by omega)) (fun j hj => by
        have : j = 0 := by omega
        rw [this, h0, k2.1]; rfl) (fun j hj => k3 j (by omega))
      have g1' : f_X0_totalWith (nI W) D = some (nI (sm60 G 60), D1) := g1
      have hG : FW (fun c => isC t c ∨ c = W) 60 G := FW_add (by omega) (FW_m k2 (by decide)) g2 g3
      have hGl : sm60 G 60 ≤ 60 * 60 := sm60_le 60 (by decide) (fun j hj => FW_le hG (Or.inl (Or.inl rfl)) j hj)
      have e50 : D1 50 = D 50 := g5 50 (by decide)
      have hk1 : Tok t D1 := by
        unfold Tok
        rw [g5 51 (by decide), g5 52 (by decide)]
        exact hk
      rw [g1', Option.bind_some]
      show ∃ D', (if D1 50 5 = (-1) then b_X0_findStrike_63 (b_X0_findStrike_20 n) (nI W) (nI (sm60 G 60)) D1 else if nI (sm60 G 60) < D1 50 6 then b_X0_findStrike_63 (b_X0_findStrike_20 n) (nI W) (nI (sm60 G 60)) D1 else b_X0_findStrike_20 n (nI (W + 1)) D1) = some D' ∧ _
      have put : ((∀ w, 2 ≤ w → w < W → isC t w) ∨ ∃ r s, STk t W r s ∧ sm60 G 60 < s) → ∃ D', b_X0_findStrike_63 (b_X0_findStrike_20 n) (nI W) (nI (sm60 G 60)) D1 = some D' ∧ Sg t 61 (D' 50 5) (D' 50 6) ∧ D' 53 0 = 0 ∧ (∀ i, i ≠ 5 → i ≠ 6 → D' 50 i = D 50 i) ∧ ∀ a, a ≠ 50 → a ≠ 53 → D' a = D a := by
        intro hq
        obtain ⟨D', i1, i2, i3, i4, i5⟩ := ih (W + 1) n (am_up (am_up D1 50 5 (nI W)) 50 6 (nI (sm60 G 60))) (by omega) (by omega) (by omega) (by
          unfold Tok
          rw [tl_upo2 (by decide), tl_upo2 (by decide), tl_upo2 (by decide), tl_upo2 (by decide)]
          exact hk1) (by rw [tl_upo2 (by decide), tl_upo2 (by decide), g4]; exact h0) (Or.inr ⟨W, sm60 G 60, STk_n h2 hc hG hq, by rw [tl_upi2, if_neg (by decide), tl_upi2, if_pos rfl], by rw [tl_upi2, if_pos rfl]⟩)
        exact ⟨D', by rw [b_X0_findStrike_63, nI_1]; exact i1, i2, i3, fun i x1 x2 => by rw [i4 i x1 x2, tl_upi2, if_neg x2, tl_upi2, if_neg x1, e50], fun a x1 x2 => by rw [i5 a x1 x2, tl_upo2 x1, tl_upo2 x1, g5 a x2]⟩
      rw [e50]
      rcases hs with ⟨x, y⟩ | ⟨r, s, x, y, z⟩
      · rw [if_pos x]
        exact put (Or.inl y)
      · have hsl := STk_le x
        have hr := x.2.1
        rw [y, if_neg (n_m1 (by omega)), z]
        by_cases hl : sm60 G 60 < s
        · rw [if_pos (nI_lt hl (by omega))]
          exact put (Or.inr ⟨r, s, x, hl⟩)
        · rw [if_neg (nI_nlt (by omega) (by omega))]
          obtain ⟨D', i1, i2, i3, i4, i5⟩ := ih (W + 1) n D1 (by omega) (by omega) (by omega) hk1 (by rw [g4]; exact h0) (by rw [e50]; exact Or.inr ⟨r, s, STk_k x hG (by omega), y, z⟩)
          exact ⟨D', i1, i2, i3, fun i x1 x2 => by rw [i4 i x1 x2, e50], fun a x1 x2 => by rw [i5 a x1 x2, g5 a x2]⟩
theorem c_find {t : To} {D : am_M} (ht : bTo t) (hb : Tb t D) (h3 : D 50 3 = 1) : ∃ (D' : am_M) (r s : Nat), f_X0_findStrike D = some D' ∧ Tb t D' ∧ STk t 61 r s ∧ D' 50 5 = nI r ∧ D' 50 6 = nI s ∧ ∀ a, a ≠ 50 → a ≠ 53 → D' a = D a := by
  obtain ⟨b1, b2, b3⟩ := hb
  have hk : Tok t D := by
    rcases b1 with q | q
    · rw [h3] at q; exact absurd q (by decide)
    · exact q.2
  by_cases h4 : D 50 4 = 0
  · obtain ⟨D', i1, i2, i3, i4, i5⟩ := c_fst (t := t) 59 2 am_N (am_up (am_up D 50 4 1) 50 5 (-1)) rfl (by decide) (by decide) (by
      unfold Tok
      rw [tl_upo2 (by decide), tl_upo2 (by decide), tl_upo2 (by decide), tl_upo2 (by decide)]
      exact hk) (by rw [tl_upo2 (by decide), tl_upo2 (by decide)]; exact b3) (Or.inl ⟨by rw [tl_upi2, if_pos rfl], fun w w1 w2 => absurd w2 (by omega)⟩)
    rcases i2 with ⟨-, q⟩ | ⟨r, s, q, q5, q6⟩
    · exact absurd q (isC_4 ht.2.2.2.2.1)
    · have e3 : D' 50 3 = 1 := by rw [i4 3 (by decide) (by decide), tl_upi2, if_neg (by decide), tl_upi2, if_neg (by decide)]; exact h3
      have e4 : D' 50 4 = 1 := by rw [i4 4 (by decide) (by decide), tl_upi2, if_neg (by decide), tl_upi2, if_pos rfl]
      have f5 : ∀ a, a ≠ 50 → a ≠ 53 → D' a = D a := fun a x1 x2 => by rw [i5 a x1 x2, tl_upo2 x1, tl_upo2 x1]
      refine ⟨D', r, s, by rw [f_X0_findStrike, if_pos h4]; exact i1, ⟨Or.inr ⟨e3, ?_⟩, Or.inr ⟨e3, e4, r, s, q, q5, q6⟩, i3⟩, q, q5, q6, f5⟩
      unfold Tok
      rw [f5 51 (by decide) (by decide), f5 52 (by decide) (by decide)]
      exact hk
  · rcases b2 with q | ⟨-, q4, r, s, q, q5, q6⟩
    · exact absurd q h4
    · exact ⟨D, r, s, by rw [f_X0_findStrike, if_neg h4], ⟨b1, Or.inr ⟨h3, q4, r, s, q, q5, q6⟩, b3⟩, q, q5, q6, fun _ _ _ => rfl⟩
/-! the reference's -/
def Bst (S : Nat → Prop) (f : Nat → Nat) (v b : Nat) : Prop := (∀ c, S c → 1 ≤ c → c ≤ v → b ≤ f (v - c)) ∧ ∃ c, S c ∧ 1 ≤ c ∧ c ≤ v ∧ b = f (v - c)
theorem Bst_s {S S' : Nat → Prop} {f : Nat → Nat} {v b : Nat} (h : Bst S f v b) (hs : ∀ c, S c ↔ S' c) : Bst S' f v b := by
  have : S = S' := funext (fun c => propext (hs c))
  rw [← this]
  exact h
theorem Bst_skip {S : Nat → Prop} {f : Nat → Nat} {v b w : Nat} (h : Bst S f v b) (hw : v < w ∨ b ≤ f (v - w)) : Bst (fun c => S c ∨ c = w) f v b := by
  obtain ⟨h1, c, c1, c2, c3, c4⟩ := h
  refine ⟨fun d hd d1 d2 => ?_, c, Or.inl c1, c2, c3, c4⟩
  rcases hd with hd | hd
  · exact h1 d hd d1 d2
  · subst hd
    rcases hw with q | q
    · omega
    · exact q
theorem Bst_take {S : Nat → Prop} {f : Nat → Nat} {v b w : Nat} (h : Bst S f v b) (h1 : 1 ≤ w) (hv : w ≤ v) (hb : f (v - w) ≤ b) : Bst (fun c => S c ∨ c = w) f v (f (v - w)) := by
  refine ⟨fun d hd d1 d2 => ?_, w, Or.inr rfl, h1, hv, rfl⟩
  rcases hd with hd | hd
  · exact Nat.le_trans hb (h.1 d hd d1 d2)
  · subst hd; exact Nat.le_refl _
theorem m_ff28 {t : To} {w v : Nat} {f : Nat → Nat} {D : am_M} {k9 : Int32 → Int32 → am_M → Option am_M} (ht : bTo t) (hw : 1 ≤ w) (hw2 : w ≤ 60) (hv : 1 ≤ v) (hv2 : v ≤ 200) (hf : ∀ j, j < v → f j ≤ j) (h5 : D 56 5 = nI (q_cn t)) (h58 : ∀ c, c < q_cn t → D 58 c = nI (q_co t c)) (h78 : ∀ j, j < v → D 78 j = nI (f j)) : ∀ (m c n b : Nat), c + m = q_cn t → m < n → b ≤ 200 → Bst (isCp t c) f v b → ∃ b', Bst (fun c => isC t c ∨ c = w) f v b' ∧ b_X6_findFewest_28 k9 n (nI w) (nI v) (nI b) (nI c) D = k9 (nI w) (nI (v + 1)) (am_up D 78 v (nI (b' + 1))) := by
  have h4 := ht.2.2.2.2.1
  intro m
  induction m with
  | zero =>
    intro c n b hm hn hb hB
    obtain ⟨n, rfl⟩ : ∃ q, n = q + 1 := ⟨n - 1, by omega⟩
    have : c = q_cn t := by omega
    subst this
    have e : ∀ x, b_X6_findFewest_120 k9 (nI w) (nI v) (nI x) D = k9 (nI w) (nI (v + 1)) (am_up D 78 v (nI (x + 1))) := fun x => by
      rw [b_X6_findFewest_120, if_pos (tl_ai (by omega) (by omega)), tl_cl2 (by omega), nI_1, nI_1]
    rw [b_X6_findFewest_28, h5, if_pos (nI_le (Nat.le_refl _) (by omega))]
    by_cases hwv : v < w
    · exact ⟨b, Bst_skip hB (Or.inl hwv), by rw [if_pos (nI_lt hwv (by omega)), b_X6_findFewest_119, e]⟩
    · have b1 := hf (v - w) (by omega)
      rw [if_neg (nI_nlt (by omega) (by omega)), pk_sub (by omega), if_pos (tl_ai (by omega) (by omega)), tl_cl2 (by omega), h78 (v - w) (by omega)]
      by_cases hl : b ≤ f (v - w)
      · exact ⟨b, Bst_skip hB (Or.inr hl), by rw [if_pos (nI_le hl (by omega)), b_X6_findFewest_119, e]⟩
      · exact ⟨_, Bst_take hB hw (by omega) (by omega), by rw [if_neg (nI_ge (by omega) (by omega)), e]⟩
  | succ m ih =>
    intro c n b hm hn hb hB
    obtain ⟨n, rfl⟩ : ∃ q, n = q + 1 := ⟨n - 1, by omega⟩
    obtain ⟨o2, o60⟩ := ht.2.2.2.2.2.2.1 c (by omega)
    rw [b_X6_findFewest_28, h5, if_neg (nI_ge (by omega) (by omega)), if_pos (tl_ai (by omega) (by omega)), tl_cl2 (by omega), h58 c (by omega), nI_1 c]
    by_cases hwv : v < q_co t c
    · rw [if_pos (nI_lt hwv (by omega))]
      exact ih (c + 1) n b (by omega) (by omega) hb (Bst_s (Bst_skip hB (Or.inl hwv)) (fun _ => isCp_s.symm))
    · have b1 := hf (v - q_co t c) (by omega)
      rw [if_neg (nI_nlt (by omega) (by omega)), pk_sub (by omega), if_pos (tl_ai (by omega) (by omega)), tl_cl2 (by omega), h78 (v - q_co t c) (by omega)]
      by_cases hl : b ≤ f (v - q_co t c)
      · rw [if_pos (nI_le hl (by omega))]
        exact ih (c + 1) n b (by omega) (by omega) hb (Bst_s (Bst_skip hB (Or.inr hl)) (fun _ => isCp_s.symm))
      · rw [if_neg (nI_ge (by omega) (by omega))]
        exact ih (c + 1) n _ (by omega) (by omega) (by omega) (Bst_s (Bst_take hB (by omega) (by omega) (by omega)) (fun _ => isCp_s.symm))
theorem m_ff9 {t : To} {w : Nat} (ht : bTo t) (hw : 1 ≤ w) (hw2 : w ≤ 60) : ∀ (m v n : Nat) (D : am_M) (f : Nat → Nat), v + m = 201 → 1 ≤ v → m < n → D 56 5 = nI (q_cn t) → (∀ c, c < q_cn t → D 58 c = nI (q_co t c)) → FW (fun c => isC t c ∨ c = w) (v - 1) f → (∀ j, j < v → D 78 j = nI (f j)) → ∃ (D' : am_M) (g : Nat → Nat), b_X6_findFewest_9 n (nI w) (nI v) D = some D' ∧ FW (fun c => isC t c ∨ c = w) 200 g ∧ (∀ j, j ≤ 200 → D' 78 j = nI (g j)) ∧ ∀ a, a ≠ 78 → D' a = D a := by
  have h4 := ht.2.2.2.2.1
  intro m
  induction m with
  | zero =>
    intro v n D f hm hv hn h5 h58 hf hD
    obtain ⟨n, rfl⟩ : ∃ q, n = q + 1 := ⟨n - 1, by omega⟩
    have : v = 201 := by omega
    subst this
    exact ⟨D, f, by rw [b_X6_findFewest_9, if_pos (show (200 : Int32) < nI 201 by decide)], hf, fun j hj => hD j (by omega), fun _ _ => rfl⟩
  | succ m ih =>
    intro v n D f hm hv hn h5 h58 hf hD
    obtain ⟨n, rfl⟩ : ∃ q, n = q + 1 := ⟨n - 1, by omega⟩
    have hle := FW_le hf (Or.inl (Or.inl rfl))
    have b1 := hle (v - 1) (by omega)
    have hB0 : Bst (isCp t 0) f v (f (v - 1)) := ⟨fun c hc c1 c2 => by
      rcases hc with hc | ⟨j, j1, -⟩
      · rw [hc]; exact Nat.le_refl _
      · omega, 1, Or.inl rfl, Nat.le_refl _, hv, rfl⟩
    obtain ⟨b, hB, e⟩ := m_ff28 (k9 := b_X6_findFewest_9 n) (D := D) ht hw hw2 hv (by omega) (fun j hj => hle j (by omega)) h5 h58 hD (q_cn t) 0 am_N (f (v - 1)) (by omega) (by show _ < 100000; omega) (by omega) hB0
    have hf' : FW (fun c => isC t c ∨ c = w) (v + 1 - 1) (un f v (b + 1)) := by
      refine ⟨by rw [un_n (by omega)]; exact hf.1, fun u u1 u2 => ?_⟩
      by_cases eu : u = v
      · rw [eu]
        obtain ⟨B1, c, c1, c2, c3, c4⟩ := hB
        refine ⟨fun d hd d1 d2 => ?_, c, c1, c2, c3, ?_⟩
        · rw [un_s, un_n (by omega)]
          have := B1 d hd d1 d2
          omega
        · rw [un_s, un_n (by omega), c4]
      · obtain ⟨B1, c, c1, c2, c3, c4⟩ := hf.2 u u1 (by omega)
        refine ⟨fun d hd d1 d2 => ?_, c, c1, c2, c3, ?_⟩
        · rw [un_n eu, un_n (by omega)]; exact B1 d hd d1 d2
        · rw [un_n eu, un_n (by omega)]; exact c4
    obtain ⟨D', g, g1, g2, g3, g4⟩ := ih (v + 1) n (am_up D 78 v (nI (b + 1))) (un f v (b + 1)) (by omega) (by omega) (by omega) (by rw [tl_upo2 (by decide)]; exact h5) (fun c hc => by rw [tl_upo2 (by decide)]; exact h58 c hc) hf' (fun j hj => by
      rw [tl_upi2]
      by_cases e : j = v
      · rw [if_pos e, e, un_s]
      · rw [if_neg e, un_n e]; exact hD j (by omega))
    refine ⟨D', g, ?_, g2, g3, fun a ha => by rw [g4 a ha, tl_upo2 ha]⟩
    have e1 : nI v - 1 = nI (v - 1) := pk_sub (b := 1) hv
    rw [b_X6_findFewest_9, if_neg (show ¬ (200 : Int32) < nI v from nI_nlt (a := 200) (by omega) (by decide)), e1, if_pos (tl_ai (by omega) (by omega)), tl_cl2 (by omega), hD (v - 1) (by omega)]
    show b_X6_findFewest_28 (b_X6_findFewest_9 n) am_N (nI w) (nI v) (nI (f (v - 1))) (nI 0) D = _
    rw [e]
    exact g1
theorem m_ff {t : To} {w : Nat} {D : am_M} (ht : bTo t) (hw : 1 ≤ w) (hw2 : w ≤ 60) (h5 : D 56 5 = nI (q_cn t)) (h58 : ∀ c, c < q_cn t → D 58 c = nI (q_co t c)) : ∃ (D' : am_M) (g : Nat → Nat), f_X6_findFewest (nI w) D = some D' ∧ FW (fun c => isC t c ∨ c = w) 200 g ∧ (∀ j, j ≤ 200 → D' 78 j = nI (g j)) ∧ ∀ a, a ≠ 78 → D' a = D a := by
  obtain ⟨D', g, g1, g2, g3, g4⟩ := m_ff9 ht hw hw2 200 1 am_N (am_up D 78 0 0) (fun _ => 0) rfl (by decide) (by decide) (by rw [tl_upo2 (by decide)]; exact h5) (fun c hc => by rw [tl_upo2 (by decide)]; exact h58 c hc) ⟨rfl, fun v v1 v2 => absurd v2 (by omega)⟩ (fun j hj => by
    have : j = 0 := by omega
    rw [this, tl_upi2, if_pos rfl]; rfl)
  exact ⟨D', g, g1, g2, g3, fun a ha => by rw [g4 a ha, tl_upo2 ha]⟩
theorem m_isc {t : To} {w : Nat} {D : am_M} (ht : bTo t) (hw : w ≤ 60) (h5 : D 56 5 = nI (q_cn t)) (h58 : ∀ c, c < q_cn t → D 58 c = nI (q_co t c)) : ∀ (m c n : Nat) (x : Int32), c + m = q_cn t → m < n → (isCp t c w → x = 1) → (¬ isCp t c w → x = 0) → ∃ r, b_X6_isCoin_13 n (nI w) x (nI c) D = some (r, D) ∧ (isC t w → r = 1) ∧ (¬ isC t w → r = 0) := by
  have h4 := ht.2.2.2.2.1
  intro m
  induction m with
  | zero =>
    intro c n x hm hn x1 x0
    obtain ⟨n, rfl⟩ : ∃ q, n = q + 1 := ⟨n - 1, by omega⟩
    have : c = q_cn t := by omega
    subst this
    have hx : x = 0 ∨ x = 1 := by
      by_cases h : isCp t (q_cn t) w
      · exact Or.inr (x1 h)
      · exact Or.inl (x0 h)
    exact ⟨x, by rw [b_X6_isCoin_13, h5, if_pos (nI_le (Nat.le_refl _) (by omega)), if_pos hx], x1, x0⟩
  | succ m ih =>
    intro c n x hm hn x1 x0
    obtain ⟨n, rfl⟩ : ∃ q, n = q + 1 := ⟨n - 1, by omega⟩
    obtain ⟨o2, o60⟩ := ht.2.2.2.2.2.2.1 c (by omega)
    rw [b_X6_isCoin_13, h5, if_neg (nI_ge (by omega) (by omega)), b_X6_isCoin_35, nI_1]
    by_cases h : isCp t c w
    · rw [x1 h, if_neg (by decide)]
      exact ih (c + 1) n 1 (by omega) (by omega) (fun _ => rfl) (fun q => absurd (isCp_s.mpr (Or.inl h)) q)
    · rw [x0 h, if_pos rfl, if_pos (tl_ai (by omega) (by omega)), tl_cl2 (by omega), h58 c (by omega)]
      by_cases e : q_co t c = w
      · rw [if_pos (by rw [e])]
        exact ih (c + 1) n 1 (by omega) (by omega) (fun _ => rfl) (fun q => absurd (isCp_s.mpr (Or.inr e.symm)) q)
      · rw [if_neg (fun q => e ((nI_eq (by omega) (by omega)).mp q))]
        exact ih (c + 1) n 0 (by omega) (by omega) (fun q => ((isCp_s.mp q).elim h (fun r => e r.symm)).elim) (fun _ => rfl)
theorem m_isC {t : To} {w : Nat} {D : am_M} (ht : bTo t) (hw : w ≤ 60) (h5 : D 56 5 = nI (q_cn t)) (h58 : ∀ c, c < q_cn t → D 58 c = nI (q_co t c)) : ∃ r, f_X6_isCoin (nI w) D = some (r, D) ∧ (isC t w → r = 1) ∧ (¬ isC t w → r = 0) := by
  have h4 := ht.2.2.2.2.1
  have e1 : (nI w = 1) ↔ w = 1 := nI_eq (b := 1) (by omega) (by omega)
  exact m_isc ht hw h5 h58 (q_cn t) 0 am_N _ (by omega) (by show _ < 100000; omega) (fun h => by
    rcases h with h | ⟨j, j1, -⟩
    · rw [if_pos (e1.mpr h)]
    · omega) (fun h => by rw [if_neg (fun q => h (Or.inl (e1.mp q)))])
theorem m_s50 {k22 : Int32 → Int32 → Int32 → Int32 → am_M → Option (Int32 × am_M)} {x1 x2 x3 : Int32} {W : Nat} {g : Nat → Nat} {D : am_M} (h : ∀ j, j ≤ 200 → D 78 j = nI (g j)) : ∀ (m u n : Nat), u + m = 60 → m < n → b_X6_strike_50 k22 n x1 x2 x3 (nI W) (nI (sm60 g u)) (nI (u + 1)) D = k22 x1 (if x3 ≤ nI (sm60 g 60) then x2 else nI W) (if x3 ≤ nI (sm60 g 60) then x3 else nI (sm60 g 60)) (nI (W + 1)) D := by
  intro m
  induction m with
  | zero =>
    intro u n hm hn
    obtain ⟨n, rfl⟩ : ∃ q, n = q + 1 := ⟨n - 1, by omega⟩
    have : u = 60 := by omega
    subst this
    rw [b_X6_strike_50, if_pos (show (60 : Int32) < nI (60 + 1) by decide), b_X6_strike_87, nI_1]
  | succ m ih =>
    intro u n hm hn
    obtain ⟨n, rfl⟩ : ∃ q, n = q + 1 := ⟨n - 1, by omega⟩
    rw [b_X6_strike_50, if_neg (show ¬ (60 : Int32) < nI (u + 1) from nI_nlt (a := 60) (by omega) (by decide)), if_pos (tl_ai (by omega) (by omega)), tl_cl2 (by omega), h (u + 1) (by omega), nI_add, nI_1 (u + 1)]
    exact ih (u + 1) n (by omega) (by omega)
theorem m_st {t : To} {x1 : Int32} (ht : bTo t) : ∀ (m W n : Nat) (D : am_M) (x y : Int32), W + m = 61 → 2 ≤ W → m < n → D 56 5 = nI (q_cn t) → (∀ c, c < q_cn t → D 58 c = nI (q_co t c)) → Sg t W x y → ((∀ w, 2 ≤ w → w < W → isC t w) → x = (-1) → y = 1000000) → ∃ (D' : am_M) (r s : Nat), b_X6_strike_22 n x1 x y (nI W) D = some ((if x1 = 0 then nI r else nI s), D') ∧ STk t 61 r s ∧ ∀ a, a ≠ 78 → D' a = D a := by
  have h4 := ht.2.2.2.2.1
  intro m
  induction m with
  | zero =>
    intro W n D x y hm h2 hn h5 h58 hs hy
    obtain ⟨n, rfl⟩ : ∃ q, n = q + 1 := ⟨n - 1, by omega⟩
    have : W = 61 := by omega
    subst this
    rcases hs with ⟨-, q⟩ | ⟨r, s, q, rfl, rfl⟩
    · exact absurd q (isC_4 h4)
    · refine ⟨D, r, s, ?_, q, fun _ _ => rfl⟩
      rw [b_X6_strike_22, if_pos (show (60 : Int32) < nI 61 by decide)]
      split <;> rfl
  | succ m ih =>
    intro W n D x y hm h2 hn h5 h58 hs hy
    obtain ⟨n, rfl⟩ : ∃ q, n = q + 1 := ⟨n - 1, by omega⟩
    obtain ⟨r0, z1, z2, z3⟩ := m_isC (w := W) ht (by omega) h5 h58
    rw [b_X6_strike_22, if_neg (show ¬ (60 : Int32) < nI W from nI_nlt (a := 60) (by omega) (by decide)), z1, Option.bind_some, nI_1]
    by_cases hc : isC t W
    · rw [z2 hc, if_neg (show ¬ (1 : Int32) = 0 by decide)]
      refine ih (W + 1) n D x y (by omega) (by omega) (by omega) h5 h58 ?_ (fun q => hy (fun w w1 w2 => q w w1 (by omega)))
      rcases hs with ⟨a, b⟩ | ⟨r, s, a, b⟩
      · refine Or.inl ⟨a, fun w w1 w2 => ?_⟩
        by_cases e : w = W
        · rw [e]; exact hc
        · exact b w w1 (by omega)
      · exact Or.inr ⟨r, s, STk_c a hc, b⟩
    · rw [z3 hc, if_pos (show (0 : Int32) = 0 from rfl)]
      obtain ⟨D1, g, g1, g2, g3, g4⟩ := m_ff (w := W) ht (by omega) (by omega) h5 h58
      have hG : FW (fun c => isC t c ∨ c = W) 60 g := FW_m g2 (by decide)
      have hGl : sm60 g 60 ≤ 60 * 60 := sm60_le 60 (by decide) (fun j hj => FW_le hG (Or.inl (Or.inl rfl)) j hj)
      show ∃ D' r s, ((f_X6_findFewest (nI W) D).bind fun q41 => b_X6_strike_50 (b_X6_strike_22 n) am_N x1 x y (nI W) (nI (sm60 g 0)) (nI (0 + 1)) q41) = _ ∧ _
      rw [g1, Option.bind_some, m_s50 g3 60 0 am_N rfl (by decide)]
      have go : ∀ x' y', Sg t (W + 1) x' y' → ∃ (D' : am_M) (r s : Nat), b_X6_strike_22 n x1 x' y' (nI (W + 1)) D1 = some ((if x1 = 0 then nI r else nI s), D') ∧ STk t 61 r s ∧ ∀ a, a ≠ 78 → D' a = D a := fun x' y' hs' => by
        obtain ⟨D', r, s, i1, i2, i3⟩ := ih (W + 1) n D1 x' y' (by omega) (by omega) (by omega) (by rw [g4 56 (by decide)]; exact h5) (fun c hc => by rw [g4 58 (by decide)]; exact h58 c hc) hs' (fun q => absurd (q W h2 (by omega)) hc)
        exact ⟨D', r, s, i1, i2, fun a ha => by rw [i3 a ha, g4 a ha]⟩
      rcases hs with ⟨a, b⟩ | ⟨r, s, a, rfl, rfl⟩
      · rw [hy b a, if_neg (show ¬ (1000000 : Int32) ≤ nI (sm60 g 60) from nI_ge (b := 1000000) (by omega) (by decide)), if_neg (show ¬ (1000000 : Int32) ≤ nI (sm60 g 60) from nI_ge (b := 1000000) (by omega) (by decide))]
        exact go _ _ (Or.inr ⟨W, _, STk_n h2 hc hG (Or.inl b), rfl, rfl⟩)
      · have hsl := STk_le a
        by_cases hl : s ≤ sm60 g 60
        · rw [if_pos (nI_le hl (by omega)), if_pos (nI_le hl (by omega))]
          exact go _ _ (Or.inr ⟨r, s, STk_k a hG hl, rfl, rfl⟩)
        · rw [if_neg (nI_ge (by omega) (by omega)), if_neg (nI_ge (by omega) (by omega))]
          exact go _ _ (Or.inr ⟨W, _, STk_n h2 hc hG (Or.inr ⟨r, s, a, by omega⟩), rfl, rfl⟩)
/-- the table and the reference's rows for trials alone have changed -/
theorem Si_t {tw : Nat} {t : To} {s : Mo} {D E : am_M} (q : Si tw t s D) (h1 : ∀ a, a < 50 ∨ 53 < a → a ≠ 78 → E a = D a) (b : Tb t E) : Si tw t s E :=
  Si_f q ⟨fun a h => h1 a (by omega) (by omega), fun a h h' => h1 a (by omega) (by omega), fun a h h' => h1 a (by omega) (by omega), fun k _ => by rw [h1 56 (by decide) (by decide)], fun a h h' => h1 a (by omega) (by omega), h1 63 (by decide) (by decide), fun a h h' => h1 a (by omega) (by omega)⟩ (Nw_f (fun a _ _ => h1 a (by omega) (by omega)) (h1 62 (by decide) (by decide)) (by rw [h1 56 (by decide) (by decide)]) q.2.2.2.2.1) (Pl_f (by rw [h1 45 (by decide) (by decide)]) q.2.2.2.2.2.2.2.2.2.1) b
theorem so_strike {k tw : Nat} {tp : Bool} {D : am_M} (h : Sim k tw tp D) (a : Int32) : ∃ (r : Int32) (D1 D2 : am_M), f_X5_strike tw a D = some (r, D1) ∧ f_X6_strike a D1 = some (r, D2) ∧ Sim (k + 1) tw tp D2 := by
  have h0 := h
  obtain ⟨t, s, q⟩ := h
  have q3 := q.2.2.1
  have q4 := q.2.2.2.1
  have ht := q.2.1
  obtain ⟨l1, l2⟩ := lyT_le q.1
  by_cases hw : f_X5_isWithin a 0 1 = 0
  · exact ⟨_, D, D, by rw [f_X5_strike, if_pos hw], by rw [f_X6_strike, in_6 a 0 1 0 1 rfl rfl, if_pos hw], h0⟩
  · obtain ⟨D0, p1, p2, p3, p4⟩ := c_prep l2 ht q3 q.2.2.2.2.2.2.2.2.2.2
    obtain ⟨D1, r, v, s1, s2, s3, s4, s5, s6⟩ := c_find ht p2 p3
    have g1 : ∀ a, a < 50 ∨ 53 < a → D1 a = D a := fun a ha => by rw [s6 a (by omega) (by omega), p4 a ha]
    obtain ⟨D2, r', v', m1, m2, m3⟩ := m_st (x1 := a) ht 59 2 am_N D1 (-1) 1000000 rfl (by decide) (by decide) (by rw [g1 56 (by decide)]; exact q4.2.2.2.2.1) (fun c hc => by rw [g1 58 (by decide)]; exact q4.2.2.2.2.2.2.1 c hc) (Or.inl ⟨rfl, fun w w1 w2 => absurd w2 (by omega)⟩) (fun _ _ => rfl)
    obtain ⟨e1, e2⟩ := STk_u s3 m2
    subst e1 e2
    refine ⟨(if a = 0 then nI r else nI v), D1, D2, ?_, by rw [f_X6_strike, in_6 a 0 1 0 1 rfl rfl, if_neg hw]; exact m1, t, s, Si_t q (fun a a1 a2 => by rw [m3 a a2, g1 a a1]) (Tb_f (fun a _ _ => m3 a (by omega)) s2)⟩
    rw [f_X5_strike, if_neg hw, p1, Option.bind_some, s1, Option.bind_some, s4, s5]
    split <;> rfl
