/-! the text is read: both readers side by side -/
def Tx (n : Nat) (tx : Nat → Nat) (D E : am_M) : Prop := n ≤ 250 ∧ D 12 4 = nI n ∧ E 56 14 = nI n ∧ ∀ i, i < n → tx i ≤ 255 ∧ D 13 i = nI (tx i) ∧ E 63 i = nI (tx i)
def Atp (n p : Nat) (D E : am_M) : Prop := p ≤ n ∧ D 12 1 = nI p ∧ E 56 16 = nI p ∧ D 12 5 = 0 ∧ D 12 6 = (-1) ∧ E 56 15 = (-1)
def Bd (f w : Nat) (D E : am_M) : Prop := 1 ≤ f ∧ f ≤ 4 ∧ w ≤ 250 ∧ D 12 5 = nI f ∧ D 12 6 = nI w ∧ E 56 15 = nI w
def Fc (D D' : am_M) : Prop := (∀ a, a ≠ 12 → D' a = D a) ∧ D' 12 4 = D 12 4
def Fm (E E' : am_M) : Prop := (∀ a, a ≠ 56 → E' a = E a) ∧ ∀ k, k ≠ 15 → k ≠ 16 → k ≠ 17 → k ≠ 18 → E' 56 k = E 56 k
theorem Fc_r (D : am_M) : Fc D D := ⟨fun _ _ => rfl, rfl⟩
theorem Fm_r (E : am_M) : Fm E E := ⟨fun _ _ => rfl, fun _ _ _ _ _ => rfl⟩
theorem Fc_t {D D' D'' : am_M} (h : Fc D D') (h' : Fc D' D'') : Fc D D'' := ⟨fun a ha => by rw [h'.1 a ha, h.1 a ha], by rw [h'.2, h.2]⟩
theorem Fm_t {D D' D'' : am_M} (h : Fm D D') (h' : Fm D' D'') : Fm D D'' := ⟨fun a ha => by rw [h'.1 a ha, h.1 a ha], fun k k1 k2 k3 k4 => by rw [h'.2 k k1 k2 k3 k4, h.2 k k1 k2 k3 k4]⟩
theorem Fc_u {D : am_M} {i : Nat} {x : Int32} (h : i ≠ 4) : Fc D (am_up D 12 i x) := ⟨fun _ ha => tl_upo2 ha, by rw [tl_upi2, if_neg (by omega)]⟩
theorem Fm_u {E : am_M} {i : Nat} {x : Int32} (h : 15 ≤ i) (h' : i ≤ 18) : Fm E (am_up E 56 i x) := ⟨fun _ ha => tl_upo2 ha, fun k k1 k2 k3 k4 => by rw [tl_upi2, if_neg (by omega)]⟩
theorem Tx_f {n : Nat} {tx : Nat → Nat} {D E D' E' : am_M} (h : Tx n tx D E) (c : Fc D D') (m : Fm E E') : Tx n tx D' E' := ⟨h.1, by rw [c.2]; exact h.2.1, by rw [m.2 14 (by decide) (by decide) (by decide) (by decide)]; exact h.2.2.1, fun i hi => ⟨(h.2.2.2 i hi).1, by rw [c.1 13 (by decide)]; exact (h.2.2.2 i hi).2.1, by rw [m.1 63 (by decide)]; exact (h.2.2.2 i hi).2.2⟩⟩
/-- a step on both sides -/
theorem At_s {n p : Nat} {D E : am_M} (h : Atp n p D E) (hp : p < n) : Atp n (p + 1) (am_up D 12 1 (nI (p + 1))) (am_up E 56 16 (nI (p + 1))) := ⟨by omega, by rw [tl_upi2, if_pos rfl], by rw [tl_upi2, if_pos rfl], by rw [tl_upi2, if_neg (by decide)]; exact h.2.2.2.1, by rw [tl_upi2, if_neg (by decide)]; exact h.2.2.2.2.1, by rw [tl_upi2, if_neg (by decide)]; exact h.2.2.2.2.2⟩
theorem t_peek {tw n : Nat} {tx : Nat → Nat} : ∀ (m p k k' : Nat) (D E : am_M), p + m = n → m < k → m < k' → Tx n tx D E → Atp n p D E → ∃ q ch D' E', b_X3_peek_0 tw k D = some (ch, D') ∧ b_X6_here_0 k' E = some (ch, E') ∧ p ≤ q ∧ Atp n q D' E' ∧ Fc D D' ∧ Fm E E' ∧ D' 12 2 = D 12 2 ∧ E' 56 18 = E 56 18 ∧ E' 56 17 = E 56 17 ∧ ((q < n ∧ ch = nI (tx q)) ∨ (q = n ∧ ch = (-1))) := by
  intro m
  induction m with
  | zero =>
    intro p k k' D E hm hk hk' hT hA
    obtain ⟨k, rfl⟩ : ∃ q, k = q + 1 := ⟨k - 1, by omega⟩
    obtain ⟨k', rfl⟩ : ∃ q, k' = q + 1 := ⟨k' - 1, by omega⟩
    have n250 := hT.1
    refine ⟨p, -1, D, E, ?_, ?_, Nat.le_refl _, hA, Fc_r D, Fm_r E, rfl, rfl, rfl, Or.inr ⟨by omega, rfl⟩⟩
    · rw [b_X3_peek_0, hT.2.1, hA.2.1, if_pos (nI_le (by omega) (by omega)), b_X3_peek_38, hT.2.1, hA.2.1, if_pos (nI_le (by omega) (by omega))]
    · rw [b_X6_here_0, hT.2.2.1, hA.2.2.1, if_pos (nI_le (by omega) (by omega)), b_X6_here_38, hT.2.2.1, hA.2.2.1, if_pos (nI_le (by omega) (by omega))]
  | succ m ih =>
    intro p k k' D E hm hk hk' hT hA
    obtain ⟨k, rfl⟩ : ∃ q, k = q + 1 := ⟨k - 1, by omega⟩
    obtain ⟨k', rfl⟩ : ∃ q, k' = q + 1 := ⟨k' - 1, by omega⟩
    have n250 := hT.1
    obtain ⟨x1, x2, x3⟩ := hT.2.2.2 p (by omega)
    have e1 : b_X3_peek_0 tw (k + 1) D = if nI (tx p) = 32 then b_X3_peek_0 tw k (am_up D 12 1 (nI (p + 1))) else some (nI (tx p), D) := by
      rw [b_X3_peek_0, b_X3_peek_38, hT.2.1, hA.2.1, if_neg (nI_ge (by omega) (by omega)), if_pos (tl_ai (by omega) (by omega)), if_neg (nI_ge (by omega) (by omega)), if_pos (tl_ai (by omega) (by omega)), tl_cl2 (by omega), x2, nI_1]
    have e2 : b_X6_here_0 (k' + 1) E = if nI (tx p) = 32 then b_X6_here_0 k' (am_up E 56 16 (nI (p + 1))) else some (nI (tx p), E) := by
      rw [b_X6_here_0, b_X6_here_38, hT.2.2.1, hA.2.2.1, if_neg (nI_ge (by omega) (by omega)), if_pos (tl_ai (by omega) (by omega)), if_neg (nI_ge (by omega) (by omega)), if_pos (tl_ai (by omega) (by omega)), tl_cl2 (by omega), x3, nI_1]
    rw [e1, e2]
    by_cases hb : nI (tx p) = 32
    · rw [if_pos hb, if_pos hb]
      obtain ⟨q, ch, D', E', i1, i2, i3, i4, i5, i6, i7, i8, i9, i10⟩ := ih (p + 1) k k' _ _ (by omega) (by omega) (by omega) (Tx_f hT (Fc_u (by decide)) (Fm_u (by decide) (by decide))) (At_s hA (by omega))
      exact ⟨q, ch, D', E', i1, i2, by omega, i4, Fc_t (Fc_u (by decide)) i5, Fm_t (Fm_u (by decide) (by decide)) i6, by rw [i7, tl_upi2, if_neg (by decide)], by rw [i8, tl_upi2, if_neg (by decide)], by rw [i9, tl_upi2, if_neg (by decide)], i10⟩
    · rw [if_neg hb, if_neg hb]
      exact ⟨p, _, D, E, rfl, rfl, Nat.le_refl _, hA, Fc_r D, Fm_r E, rfl, rfl, rfl, Or.inl ⟨by omega, rfl⟩⟩
theorem t_pk {tw n p : Nat} {tx : Nat → Nat} {D E : am_M} (hT : Tx n tx D E) (hA : Atp n p D E) : ∃ q ch D' E', f_X3_peek tw D = some (ch, D') ∧ f_X6_here E = some (ch, E') ∧ p ≤ q ∧ Atp n q D' E' ∧ Fc D D' ∧ Fm E E' ∧ ((q < n ∧ ch = nI (tx q)) ∨ (q = n ∧ ch = (-1))) := by
  obtain ⟨q, ch, D', E', i1, i2, i3, i4, i5, i6, -, -, -, i10⟩ := t_peek (tw := tw) (n - p) p am_N am_N D E (by have := hA.1; omega) (by have := hT.1; show _ < 100000; omega) (by have := hT.1; show _ < 100000; omega) hT hA
  exact ⟨q, ch, D', E', i1, i2, i3, i4, i5, i6, i10⟩
theorem t_good {tw n p : Nat} {D E : am_M} (hA : Atp n p D E) : f_X3_isGood tw D = 1 := by rw [f_X3_isGood, if_pos hA.2.2.2.1]
theorem t_notg {tw f : Nat} {D : am_M} (h : D 12 5 = nI f) (h1 : 1 ≤ f) (h4 : f ≤ 4) : f_X3_isGood tw D = 0 := by rw [f_X3_isGood, h, if_neg (nI_ne0 (by omega) (by omega))]
theorem t_fail {tw n p : Nat} {D E : am_M} {x y : Int32} (hA : Atp n p D E) : f_X3_fail tw x y D = some (am_up (am_up D 12 5 x) 12 6 y) := by rw [f_X3_fail, t_good hA, if_neg (by decide)]
theorem t_bd {n p f w : Nat} {D E : am_M} (hA : Atp n p D E) (h1 : 1 ≤ f) (h4 : f ≤ 4) (hw : w ≤ 250) : Bd f w (am_up (am_up D 12 5 (nI f)) 12 6 (nI w)) (am_up E 56 15 (nI w)) := ⟨h1, h4, hw, by rw [tl_upi2, if_neg (by decide), tl_upi2, if_pos rfl], by rw [tl_upi2, if_pos rfl], by rw [tl_upi2, if_pos rfl]⟩
theorem t_ffl {D : am_M} {x y : Int32} : Fc D (am_up (am_up D 12 5 x) 12 6 y) := Fc_t (Fc_u (by decide)) (Fc_u (by decide))
theorem n_fig {c : Nat} (hc : c ≤ 255) : f_X5_isWithin (nI c) 48 57 = 0 ↔ ¬ (48 ≤ c ∧ c ≤ 57) := by
  rw [f_X5_isWithin]
  by_cases h1 : c < 48
  · rw [if_pos (show nI c < 48 from nI_lt (b := 48) h1 (by decide))]; exact ⟨fun _ => by omega, fun _ => rfl⟩
  · rw [if_neg (show ¬ nI c < 48 from nI_nlt (b := 48) (by omega) (by omega))]
    by_cases h2 : 57 < c
    · rw [if_pos (show (57 : Int32) < nI c from nI_lt (a := 57) h2 (by omega))]; exact ⟨fun _ => by omega, fun _ => rfl⟩
    · rw [if_neg (show ¬ (57 : Int32) < nI c from nI_nlt (a := 57) (by omega) (by decide))]; exact ⟨fun q => absurd q (by decide), fun q => absurd ⟨by omega, by omega⟩ q⟩
/-- the figures of a number -/
theorem t_dig {tw n p0 : Nat} {tx : Nat → Nat} {lo hi : Int32} : ∀ (m q k k' : Nat) (x : Int32) (D E : am_M), q + m = n → p0 ≤ q → m < k → m < k' → Tx n tx D E → Atp n q D E → D 12 2 = nI p0 → E 56 18 = nI p0 → (q - p0 ≤ 3 → ∃ v, v < 10 ^ (q - p0) ∧ x = nI v ∧ E 56 17 = nI v) → (∃ v q' D' E', b_X3_readNumber_40 tw k lo hi x D = some (nI v, D') ∧ b_X6_takeNumber_42 k' lo hi E = some (0, E') ∧ v ≤ 999 ∧ ¬ f_X5_isWithin (nI v) lo hi = 0 ∧ q ≤ q' ∧ Atp n q' D' E' ∧ E' 56 17 = nI v ∧ D' 12 2 = nI p0 ∧ E' 56 18 = nI p0 ∧ Fc D D' ∧ Fm E E') ∨ (∃ f w D' E', b_X3_readNumber_40 tw k lo hi x D = some (0, D') ∧ b_X6_takeNumber_42 k' lo hi E = some (nI f, E') ∧ Bd f w D' E' ∧ Fc D D' ∧ Fm E E') := by
  have fin : ∀ (q : Nat) (x : Int32) (D E : am_M), q ≤ n → p0 ≤ q → Tx n tx D E → Atp n q D E → D 12 2 = nI p0 → E 56 18 = nI p0 → (q - p0 ≤ 3 → ∃ v, v < 10 ^ (q - p0) ∧ x = nI v ∧ E 56 17 = nI v) → (∃ v q' D' E', b_X3_readNumber_110 tw lo hi x D = some (nI v, D') ∧ b_X6_takeNumber_129 lo hi E = some (0, E') ∧ v ≤ 999 ∧ ¬ f_X5_isWithin (nI v) lo hi = 0 ∧ q ≤ q' ∧ Atp n q' D' E' ∧ E' 56 17 = nI v ∧ D' 12 2 = nI p0 ∧ E' 56 18 = nI p0 ∧ Fc D D' ∧ Fm E E') ∨ (∃ f w D' E', b_X3_readNumber_110 tw lo hi x D = some (0, D') ∧ b_X6_takeNumber_129 lo hi E = some (nI f, E') ∧ Bd f w D' E' ∧ Fc D D' ∧ Fm E E') := by
    intro q x D E hq hpq hT hA h2 h18 hv
    have n250 := hT.1
    have bad : b_X3_readNumber_132 tw D = some (0, am_up (am_up D 12 5 (nI 2)) 12 6 (nI p0)) ∧ b_X6_takeNumber_157 E = some (nI 2, am_up E 56 15 (nI p0)) := by
      refine ⟨?_, ?_⟩
      · rw [b_X3_readNumber_132, t_fail hA, h2]; rfl
      · rw [b_X6_takeNumber_157, f_X6_fails, h18]; rfl
    have hbd := t_bd (f := 2) (w := p0) hA (by decide) (by decide) (by omega)
    rw [b_X3_readNumber_110, b_X6_takeNumber_129, hA.2.1, hA.2.2.1, h2, h18, pk_sub hpq, bad.1, bad.2]
    by_cases h3 : 3 < q - p0
    · rw [if_pos (show (3 : Int32) < nI (q - p0) from nI_lt (a := 3) h3 (by omega)), if_pos (show (3 : Int32) < nI (q - p0) from nI_lt (a := 3) h3 (by omega))]
      exact Or.inr ⟨2, p0, _, _, rfl, rfl, hbd, t_ffl, Fm_u (by decide) (by decide)⟩
    · obtain ⟨v, v1, rfl, v3⟩ := hv (by omega)
      rw [if_neg (show ¬ (3 : Int32) < nI (q - p0) from nI_nlt (a := 3) (by omega) (by decide)), if_neg (show ¬ (3 : Int32) < nI (q - p0) from nI_nlt (a := 3) (by omega) (by decide)), v3, in_6 (nI v) lo hi _ _ rfl rfl]
      have v999 : v ≤ 999 := by
        have : 10 ^ (q - p0) ≤ 10 ^ 3 := Nat.pow_le_pow_right (by decide) (by omega)
        omega
      by_cases hw : f_X5_isWithin (nI v) lo hi = 0
      · rw [if_pos hw, if_pos hw]
        exact Or.inr ⟨2, p0, _, _, rfl, rfl, hbd, t_ffl, Fm_u (by decide) (by decide)⟩
      · rw [if_neg hw, if_neg hw]
        exact Or.inl ⟨v, q, D, E, rfl, rfl, v999, hw, Nat.le_refl _, hA, v3, h2, h18, Fc_r D, Fm_r E⟩
  intro m
  induction m with
  | zero =>
    intro q k k' x D E hm hpq hk hk' hT hA h2 h18 hv
    obtain ⟨k, rfl⟩ : ∃ q, k = q + 1 := ⟨k - 1, by omega⟩
    obtain ⟨k', rfl⟩ : ∃ q, k' = q + 1 := ⟨k' - 1, by omega⟩
    have n250 := hT.1
    rw [b_X3_readNumber_40, b_X6_takeNumber_42, hT.2.1, hA.2.1, hT.2.2.1, hA.2.2.1, if_pos (nI_le (by omega) (by omega)), if_pos (nI_le (by omega) (by omega))]
    exact fin q x D E (by omega) hpq hT hA h2 h18 hv
  | succ m ih =>
    intro q k k' x D E hm hpq hk hk' hT hA h2 h18 hv
    obtain ⟨k, rfl⟩ : ∃ q, k = q + 1 := ⟨k - 1, by omega⟩
    obtain ⟨k', rfl⟩ : ∃ q, k' = q + 1 := ⟨k' - 1, by omega⟩
    have n250 := hT.1
    obtain ⟨x1, x2, x3⟩ := hT.2.2.2 q (by omega)
    rw [b_X3_readNumber_40, b_X6_takeNumber_42, hT.2.1, hA.2.1, hT.2.2.1, hA.2.2.1, if_neg (nI_ge (by omega) (by omega)), if_neg (nI_ge (by omega) (by omega)), if_pos (tl_ai (by omega) (by omega)), if_pos (tl_ai (by omega) (by omega)), tl_cl2 (by omega), x2, x3, f_X3_isFigure, in_6 (nI (tx q)) 48 57 48 57 rfl rfl]
    by_cases hfig : 48 ≤ tx q ∧ tx q ≤ 57
    · rw [if_neg (fun r => (n_fig x1).mp r hfig), if_neg (fun r => (n_fig x1).mp r hfig), b_X3_readNumber_97, b_X6_takeNumber_113, h2, pk_sub hpq, hA.2.1, tl_upi2, if_neg (by decide : ¬ (16 : Nat) = 17), hA.2.2.1, nI_1]
      generalize hy : (if E 56 17 ≤ 10000 then 10 * E 56 17 + nI (tx q) - 48 else E 56 17) = y
      generalize hx : (if (3 : Int32) ≤ nI (q - p0) then x else x * 10 + nI (tx q) - 48) = x'
      have hA' : Atp n (q + 1) (am_up D 12 1 (nI (q + 1))) (am_up (am_up E 56 17 y) 56 16 (nI (q + 1))) := ⟨by omega, by rw [tl_upi2, if_pos rfl], by rw [tl_upi2, if_pos rfl], by rw [tl_upi2, if_neg (by decide)]; exact hA.2.2.2.1, by rw [tl_upi2, if_neg (by decide)]; exact hA.2.2.2.2.1, by rw [tl_upi2, if_neg (by decide), tl_upi2, if_neg (by decide)]; exact hA.2.2.2.2.2⟩
      have hF : Fm E (am_up (am_up E 56 17 y) 56 16 (nI (q + 1))) := Fm_t (Fm_u (by decide) (by decide)) (Fm_u (by decide) (by decide))
      have hv' : q + 1 - p0 ≤ 3 → ∃ v, v < 10 ^ (q + 1 - p0) ∧ x' = nI v ∧ (am_up (am_up E 56 17 y) 56 16 (nI (q + 1))) 56 17 = nI v := by
        intro h3
        obtain ⟨v, v1, v2, v3⟩ := hv (by omega)
        have v99 : 10 ^ (q - p0) ≤ 10 ^ 2 := Nat.pow_le_pow_right (by decide) (by omega)
        have ep : 10 ^ (q + 1 - p0) = 10 ^ (q - p0) * 10 := by rw [show q + 1 - p0 = (q - p0) + 1 by omega, Nat.pow_succ]
        have en : nI v * 10 + nI (tx q) - 48 = nI (v * 10 + tx q - 48) := by
          rw [show nI v * (10 : Int32) = nI (v * 10) from pk_mul v 10, nI_add]
          exact pk_sub (b := 48) (by omega)
        have en2 : 10 * nI v + nI (tx q) - 48 = nI (v * 10 + tx q - 48) := by
          rw [show (10 : Int32) * nI v = nI (10 * v) from pk_mul 10 v, nI_add, Nat.mul_comm 10 v]
          exact pk_sub (b := 48) (by omega)
        refine ⟨v * 10 + tx q - 48, by omega, ?_, ?_⟩
        · rw [← hx, if_neg (show ¬ (3 : Int32) ≤ nI (q - p0) from nI_ge (b := 3) (by omega) (by decide)), v2, en]
        · rw [tl_upi2, if_neg (by decide), tl_upi2, if_pos rfl, ← hy, v3, if_pos (show nI v ≤ 10000 from nI_le (b := 10000) (by omega) (by decide)), en2]
      have := ih (q + 1) k k' x' (am_up D 12 1 (nI (q + 1))) (am_up (am_up E 56 17 y) 56 16 (nI (q + 1))) (by omega) (by omega) (by omega) (by omega) (Tx_f hT (Fc_u (by decide)) hF) hA' (by rw [tl_upi2, if_neg (by decide)]; exact h2) (by rw [tl_upi2, if_neg (by decide), tl_upi2, if_neg (by decide)]; exact h18) hv'
      rcases this with ⟨v, q', D', E', i1, i2, i3, i4, i5, i6, i7, i8, i9, i10, i11⟩ | ⟨f, w, D', E', i1, i2, i3, i4, i5⟩
      · exact Or.inl ⟨v, q', D', E', i1, i2, i3, i4, by omega, i6, i7, i8, i9, Fc_t (Fc_u (by decide)) i10, Fm_t hF i11⟩
      · exact Or.inr ⟨f, w, D', E', i1, i2, i3, Fc_t (Fc_u (by decide)) i4, Fm_t hF i5⟩
    · rw [if_pos ((n_fig x1).mpr hfig), if_pos ((n_fig x1).mpr hfig)]
      exact fin q x D E (by omega) hpq hT hA h2 h18 hv
theorem t_num {tw n p : Nat} {tx : Nat → Nat} {lo hi : Int32} {D E : am_M} (hT : Tx n tx D E) (hA : Atp n p D E) : (∃ v q p0 D' E', f_X3_readNumber tw lo hi D = some (nI v, D') ∧ f_X6_takeNumber lo hi E = some (0, E') ∧ v ≤ 999 ∧ ¬ f_X5_isWithin (nI v) lo hi = 0 ∧ p ≤ q ∧ Atp n q D' E' ∧ E' 56 17 = nI v ∧ p0 ≤ 250 ∧ D' 12 2 = nI p0 ∧ E' 56 18 = nI p0 ∧ Fc D D' ∧ Fm E E') ∨ (∃ f w D' E', f_X3_readNumber tw lo hi D = some (0, D') ∧ f_X6_takeNumber lo hi E = some (nI f, E') ∧ Bd f w D' E' ∧ Fc D D' ∧ Fm E E') := by
  obtain ⟨q, ch, D1, E1, i1, i2, i3, i4, i5, i6, i7⟩ := t_pk (tw := tw) hT hA
  have n250 := hT.1
  have hT1 := Tx_f hT i5 i6
  rw [f_X3_readNumber, t_good hA, if_neg (by decide), i1, Option.bind_some, f_X6_takeNumber, i2, Option.bind_some]
  show (∃ v q p0 D' E', (if f_X3_isFigure ch = 0 then (f_X3_fail tw 1 (D1 12 1) D1).bind fun q25 => some (0, q25) else b_X3_readNumber_40 tw am_N lo hi 0 (am_up D1 12 2 (D1 12 1))) = some (nI v, D') ∧ (if f_X6_in ch.toInt64 48 57 = 0 then (f_X6_fails 1 (E1 56 16) E1).bind fun q25 => some (q25.1, q25.2) else b_X6_takeNumber_42 am_N lo hi (am_up (am_up E1 56 18 (E1 56 16)) 56 17 0)) = some (0, E') ∧ _) ∨ (∃ f w D' E', (if f_X3_isFigure ch = 0 then (f_X3_fail tw 1 (D1 12 1) D1).bind fun q25 => some (0, q25) else b_X3_readNumber_40 tw am_N lo hi 0 (am_up D1 12 2 (D1 12 1))) = some (0, D') ∧ (if f_X6_in ch.toInt64 48 57 = 0 then (f_X6_fails 1 (E1 56 16) E1).bind fun q25 => some (q25.1, q25.2) else b_X6_takeNumber_42 am_N lo hi (am_up (am_up E1 56 18 (E1 56 16)) 56 17 0)) = some (nI f, E') ∧ _)
  rw [f_X3_isFigure, in_6 ch 48 57 48 57 rfl rfl]
  have hq := i4.1
  by_cases hf : f_X5_isWithin ch 48 57 = 0
  · rw [if_pos hf, if_pos hf, t_fail i4, i4.2.1, f_X6_fails, i4.2.2.1]
    exact Or.inr ⟨1, q, _, _, rfl, rfl, t_bd i4 (by decide) (by decide) (by omega), Fc_t i5 t_ffl, Fm_t i6 (Fm_u (by decide) (by decide))⟩
  · rw [if_neg hf, if_neg hf, i4.2.1, i4.2.2.1]
    have hF : Fm E1 (am_up (am_up E1 56 18 (nI q)) 56 17 0) := Fm_t (Fm_u (by decide) (by decide)) (Fm_u (by decide) (by decide))
    have hA2 : Atp n q (am_up D1 12 2 (nI q)) (am_up (am_up E1 56 18 (nI q)) 56 17 0) := ⟨hq, by rw [tl_upi2, if_neg (by decide)]; exact i4.2.1, by rw [tl_upi2, if_neg (by decide), tl_upi2, if_neg (by decide)]; exact i4.2.2.1, by rw [tl_upi2, if_neg (by decide)]; exact i4.2.2.2.1, by rw [tl_upi2, if_neg (by decide)]; exact i4.2.2.2.2.1, by rw [tl_upi2, if_neg (by decide), tl_upi2, if_neg (by decide)]; exact i4.2.2.2.2.2⟩
    have := t_dig (tw := tw) (p0 := q) (lo := lo) (hi := hi) (n - q) q am_N am_N 0 (am_up D1 12 2 (nI q)) (am_up (am_up E1 56 18 (nI q)) 56 17 0) (by omega) (Nat.le_refl _) (by show _ < 100000; omega) (by show _ < 100000; omega) (Tx_f hT1 (Fc_u (by decide)) hF) hA2 (by rw [tl_upi2, if_pos rfl]) (by rw [tl_upi2, if_neg (by decide), tl_upi2, if_pos rfl]) (fun _ => ⟨0, by rw [Nat.sub_self]; decide, rfl, by rw [tl_upi2, if_pos rfl]; rfl⟩)
    rcases this with ⟨v, q', D', E', j1, j2, j3, j4, j5, j6, j7, j8, j9, j10, j11⟩ | ⟨f, w, D', E', j1, j2, j3, j4, j5⟩
    · exact Or.inl ⟨v, q', q, D', E', j1, j2, j3, j4, by omega, j6, j7, by omega, j8, j9, Fc_t i5 (Fc_t (Fc_u (by decide)) j10), Fm_t i6 (Fm_t hF j11)⟩
    · exact Or.inr ⟨f, w, D', E', j1, j2, j3, Fc_t i5 (Fc_t (Fc_u (by decide)) j4), Fm_t i6 (Fm_t hF j5)⟩
/-- behind a fault no number is read -/
theorem t_nb {tw f : Nat} {lo hi : Int32} {D : am_M} (h : D 12 5 = nI f) (h1 : 1 ≤ f) (h4 : f ≤ 4) : f_X3_readNumber tw lo hi D = some (0, D) := by rw [f_X3_readNumber, t_notg h h1 h4, if_pos rfl]
