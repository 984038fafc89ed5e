/-! the fewest coins -/
theorem FW_u {S : Nat → Prop} {V : Nat} {f g : Nat → Nat} (hf : FW S V f) (hg : FW S V g) : ∀ v, v ≤ V → f v = g v := by
  intro v
  induction v using Nat.strongRecOn with
  | ind v ih =>
    intro hv
    by_cases h0 : v = 0
    · rw [h0, hf.1, hg.1]
    · obtain ⟨f1, c, c1, c2, c3, c4⟩ := hf.2 v (by omega) hv
      obtain ⟨g1, d, d1, d2, d3, d4⟩ := hg.2 v (by omega) hv
      have a1 := f1 d d1 d2 d3
      have a2 := g1 c c1 c2 c3
      have a3 := ih (v - d) (by omega) (by omega)
      have a4 := ih (v - c) (by omega) (by omega)
      omega
theorem FW_m {S : Nat → Prop} {V W : Nat} {f : Nat → Nat} (hf : FW S V f) (h : W ≤ V) : FW S W f := ⟨hf.1, fun v v1 v2 => hf.2 v v1 (by omega)⟩
theorem FW_s {S S' : Nat → Prop} {V : Nat} {f : Nat → Nat} (hf : FW S V f) (h : ∀ c, S c ↔ S' c) : FW S' V f := by
  have : S = S' := funext (fun c => propext (h c))
  rw [← this]
  exact hf
theorem FW_le {S : Nat → Prop} {V : Nat} {f : Nat → Nat} (hf : FW S V f) (h1 : S 1) : ∀ v, v ≤ V → f v ≤ v := by
  intro v
  induction v with
  | zero => intro _; rw [hf.1]; exact Nat.le_refl _
  | succ v ih =>
    intro hv
    have := (hf.2 (v + 1) (by omega) hv).1 1 h1 (by decide) (by omega)
    rw [Nat.add_sub_cancel] at this
    have := ih (by omega)
    omega
theorem FW_p {S : Nat → Prop} {V : Nat} {f : Nat → Nat} (hf : FW S V f) {v : Nat} (h0 : 1 ≤ v) (hv : v ≤ V) : 1 ≤ f v := by
  obtain ⟨-, c, -, -, -, h⟩ := hf.2 v h0 hv
  omega
theorem FW_add {S : Nat → Prop} {V w : Nat} {f H : Nat → Nat} (hw : 1 ≤ w) (hf : FW S V f) (h1 : ∀ v, v ≤ V → v < w → H v = f v) (h2 : ∀ v, v ≤ V → w ≤ v → H v = min (f v) (H (v - w) + 1)) : FW (fun c => S c ∨ c = w) V H := by
  have hle : ∀ v, v ≤ V → H v ≤ f v := fun v hv => by
    by_cases h : v < w
    · rw [h1 v hv h]; exact Nat.le_refl _
    · rw [h2 v hv (by omega)]; omega
  have hb : ∀ v, v ≤ V → ∀ c, S c → 1 ≤ c → c ≤ v → H v ≤ H (v - c) + 1 := by
    intro v
    induction v using Nat.strongRecOn with
    | ind v ih =>
      intro hv c hc c1 c2
      have a0 := (hf.2 v (by omega) hv).1 c hc c1 c2
      have a1 := hle v hv
      by_cases h : v - c < w
      · rw [h1 (v - c) (by omega) h]; omega
      · have e := h2 (v - c) (by omega) (by omega)
        have e2 := h2 v hv (by omega)
        have e3 := ih (v - w) (by omega) (by omega) c hc c1 (by omega)
        have e4 : v - w - c = v - c - w := by omega
        rw [e4] at e3
        omega
  refine ⟨by rw [h1 0 (by omega) (by omega)]; exact hf.1, fun v v1 v2 => ⟨fun c hc c1 c2 => ?_, ?_⟩⟩
  · rcases hc with hc | hc
    · exact hb v v2 c hc c1 c2
    · subst hc
      have := h2 v v2 c2
      omega
  · obtain ⟨f1, c, c1, c2, c3, c4⟩ := hf.2 v v1 v2
    by_cases h : H v = f v
    · have a1 := hb v v2 c c1 c2 c3
      have a2 := hle (v - c) (by omega)
      exact ⟨c, Or.inl c1, c2, c3, by omega⟩
    · have hwv : w ≤ v := by
        apply Nat.le_of_not_lt
        intro q
        exact h (h1 v v2 q)
      have := h2 v v2 hwv
      exact ⟨w, Or.inr rfl, hw, hwv, by omega⟩
theorem FW_one (V : Nat) : FW (fun c => c = 1) V (fun v => v) := ⟨rfl, fun v v1 _ => ⟨fun c hc _ _ => by subst hc; show v ≤ v - 1 + 1; omega, 1, rfl, Nat.le_refl _, v1, by show v = v - 1 + 1; omega⟩⟩
def isCp (t : To) (c w : Nat) : Prop := w = 1 ∨ ∃ j, j < c ∧ q_co t j = w
theorem isCp_s {t : To} {c w : Nat} : isCp t (c + 1) w ↔ isCp t c w ∨ w = q_co t c := by
  unfold isCp
  constructor
  · intro h
    rcases h with h | ⟨j, j1, j2⟩
    · exact Or.inl (Or.inl h)
    · by_cases e : j = c
      · subst e; exact Or.inr j2.symm
      · exact Or.inl (Or.inr ⟨j, by omega, j2⟩)
  · intro h
    rcases h with (h | ⟨j, j1, j2⟩) | h
    · exact Or.inl h
    · exact Or.inr ⟨j, by omega, j2⟩
    · exact Or.inr ⟨c, by omega, h.symm⟩
/-! the class's table -/
def Tk (t : To) (c : Nat) (D : am_M) : Prop := (∀ w, 1 ≤ w → w ≤ 60 → ((isCp t c w → D 51 w = 1) ∧ (¬ isCp t c w → D 51 w = 0))) ∧ ∃ f, FW (isCp t c) 200 f ∧ ∀ v, v ≤ 200 → D 52 v = nI (f v)
theorem c_add9 {w : Nat} {f : Nat → Nat} (h1 : 1 ≤ w) (hf : ∀ v, v ≤ 200 → f v ≤ v) : ∀ (m v n : Nat) (D : am_M) (H : Nat → Nat), v + m = 201 → w ≤ v → m < n → (∀ j, j < v → j < w → H j = f j) → (∀ j, j < v → w ≤ j → H j = min (f j) (H (j - w) + 1)) → (∀ j, j ≤ 200 → D 52 j = nI (if j < v then H j else f j)) → ∃ (D' : am_M) (G : Nat → Nat), b_X0_addCoin_9 n (nI w) (nI v) D = some D' ∧ (∀ j, j ≤ 200 → j < w → G j = f j) ∧ (∀ j, j ≤ 200 → w ≤ j → G j = min (f j) (G (j - w) + 1)) ∧ (∀ j, j ≤ 200 → D' 52 j = nI (G j)) ∧ ∀ a, a ≠ 52 → D' a = D a := by
  intro m
  induction m with
  | zero =>
    intro v n D H hm hw hn a1 a2 a3
    obtain ⟨n, rfl⟩ : ∃ q, n = q + 1 := ⟨n - 1, by omega⟩
    have : v = 201 := by omega
    subst this
    exact ⟨D, H, by rw [b_X0_addCoin_9, if_pos (show (200 : Int32) < nI 201 by decide)], fun j hj => a1 j (by omega), fun j hj => a2 j (by omega), fun j hj => by rw [a3 j hj, if_pos (by omega)], fun _ _ => rfl⟩
  | succ m ih =>
    intro v n D H hm hw hn a1 a2 a3
    obtain ⟨n, rfl⟩ : ∃ q, n = q + 1 := ⟨n - 1, by omega⟩
    have hle : ∀ j, j < v → H j ≤ f j := fun j hj => by
      by_cases h : j < w
      · rw [a1 j hj h]; exact Nat.le_refl _
      · rw [a2 j hj (by omega)]; omega
    have b1 := hf v (by omega)
    have b2 := hf (v - w) (by omega)
    have b3 := hle (v - w) (by omega)
    obtain ⟨D', G, g1, g2, g3, g4, g5⟩ := ih (v + 1) n (am_up D 52 v (nI (min (f v) (H (v - w) + 1)))) (un H v (min (f v) (H (v - w) + 1))) (by omega) (by omega) (by omega) (fun j hj hjw => by rw [un_n (by omega)]; exact a1 j (by omega) hjw) (fun j hj hjw => by
      by_cases e : j = v
      · rw [e, un_s, un_n (by omega)]
      · rw [un_n e, un_n (by omega)]; exact a2 j (by omega) hjw) (fun j hj => by
      rw [tl_upi2]
      by_cases e : j = v
      · rw [if_pos e, if_pos (by omega), e, un_s]
      · rw [if_neg e, a3 j hj, un_n e]
        by_cases e2 : j < v
        · rw [if_pos e2, if_pos (by omega)]
        · rw [if_neg e2, if_neg (by omega)])
    refine ⟨D', G, ?_, g2, g3, g4, fun a ha => by rw [g5 a ha, tl_upo2 ha]⟩
    rw [b_X0_addCoin_9, if_neg (show ¬ (200 : Int32) < nI v from nI_nlt (a := 200) (by omega) (by decide)), if_pos (tl_ai (by omega) (by omega)), pk_sub hw, if_pos (tl_ai (by omega) (by omega)), tl_cl2 (by omega), tl_cl2 (by omega), a3 v (by omega), if_neg (by omega), a3 (v - w) (by omega), if_pos (by omega), nI_1 (H (v - w)), n_min (by omega) (by omega), nI_1 v]
    exact g1
theorem c_add {t : To} {c : Nat} {D : am_M} (h2 : 2 ≤ q_co t c) (h60 : q_co t c ≤ 60) (h : Tk t c D) : ∃ D', f_X0_addCoin (nI (q_co t c)) D = some D' ∧ Tk t (c + 1) D' ∧ ∀ a, a ≠ 51 → a ≠ 52 → D' a = D a := by
  obtain ⟨k1, f, k2, k3⟩ := h
  obtain ⟨D', G, g1, g2, g3, g4, g5⟩ := c_add9 (w := q_co t c) (f := f) (by omega) (FW_le k2 (Or.inl rfl)) (201 - q_co t c) (q_co t c) am_N (am_up D 51 (q_co t c) 1) f (by omega) (Nat.le_refl _) (by show _ < 100000; omega) (fun _ _ _ => rfl) (fun j j1 j2 => absurd j2 (by omega)) (fun j hj => by rw [tl_upo2 (by decide), k3 j hj]; split <;> rfl)
  refine ⟨D', ?_, ⟨fun w w1 w2 => ?_, G, ?_, g4⟩, fun a a1 a2 => by rw [g5 a a2, tl_upo2 a1]⟩
  · rw [f_X0_addCoin, if_pos (tl_ai (by omega) (by omega)), tl_cl2 (by omega)]
    exact g1
  · rw [isCp_s, g5 51 (by decide), tl_upi2]
    by_cases e : w = q_co t c
    · rw [if_pos e]
      exact ⟨fun _ => rfl, fun q => absurd (Or.inr e) q⟩
    · rw [if_neg e]
      exact ⟨fun q => (k1 w w1 w2).1 (q.resolve_right e), fun q => (k1 w w1 w2).2 (fun r => q (Or.inl r))⟩
  · exact FW_s (FW_add (by omega) k2 g2 g3) (fun w => isCp_s.symm)
theorem c_p67 {T : Nat} {t : To} (hT : T ≤ 14) (ht : bTo t) : ∀ (m c n : Nat) (D : am_M), c + m = q_cn t → m < n → cTo T t D → Tk t c D → ∃ D', b_X0_prepare_67 T n (nI c) D = some D' ∧ Tk t (q_cn t) D' ∧ ∀ a, a ≠ 51 → a ≠ 52 → D' a = D a := by
  have h4 := ht.2.2.2.2.1
  intro m
  induction m with
  | zero =>
    intro c n D hm hn hD hk
    obtain ⟨n, rfl⟩ : ∃ q, n = q + 1 := ⟨n - 1, by omega⟩
    have : c = q_cn t := by omega
    subst this
    exact ⟨D, by rw [b_X0_prepare_67, hD.2.2.2.2.1, if_pos (nI_le (Nat.le_refl _) (by omega))], hk, fun _ _ _ => rfl⟩
  | succ m ih =>
    intro c n D hm hn hD hk
    obtain ⟨n, rfl⟩ : ∃ q, n = q + 1 := ⟨n - 1, by omega⟩
    obtain ⟨h2, h60⟩ := ht.2.2.2.2.2.2.1 c (by omega)
    obtain ⟨D1, a1, a2, a3⟩ := c_add h2 h60 hk
    obtain ⟨D', i1, i2, i3⟩ := ih (c + 1) n D1 (by omega) (by omega) (cTo_f (fun a _ _ => a3 a (by omega) (by omega)) hD) a2
    refine ⟨D', ?_, i2, fun a x1 x2 => by rw [i3 a x1 x2, a3 a x1 x2]⟩
    have hw : ¬ f_X5_isWithin (nI (q_co t c)) 1 60 = 0 := by
      rw [f_X5_isWithin, if_neg (show ¬ nI (q_co t c) < 1 from nI_nlt (b := 1) (by omega) (by omega)), if_neg (show ¬ (60 : Int32) < nI (q_co t c) from nI_nlt (a := 60) (by omega) (by decide))]
      decide
    rw [b_X0_prepare_67, hD.2.2.2.2.1, if_neg (nI_ge (by omega) (by omega)), if_pos (tl_ai (by omega) (by omega)), tl_cl2 (by omega), hD.2.2.2.2.2.2.1 c (by omega), if_neg hw, a1, Option.bind_some, nI_1]
    exact i1
theorem c_p45 {T : Nat} : ∀ (m v n : Nat) (D : am_M), v + m = 201 → m < n → (∀ j, j < v → D 52 j = nI j) → ∃ D', b_X0_prepare_45 T n (nI v) D = b_X0_prepare_67 T am_N 0 D' ∧ (∀ j, j ≤ 200 → D' 52 j = nI j) ∧ ∀ a, a ≠ 52 → D' a = D a := by
  intro m
  induction m with
  | zero =>
    intro v n D hm hn hD
    obtain ⟨n, rfl⟩ : ∃ q, n = q + 1 := ⟨n - 1, by omega⟩
    have : v = 201 := by omega
    subst this
    exact ⟨D, by rw [b_X0_prepare_45, if_pos (show (200 : Int32) < nI 201 by decide)], fun j hj => hD j (by omega), fun _ _ => rfl⟩
  | succ m ih =>
    intro v n D hm hn hD
    obtain ⟨n, rfl⟩ : ∃ q, n = q + 1 := ⟨n - 1, by omega⟩
    obtain ⟨D', i1, i2, i3⟩ := ih (v + 1) n (am_up D 52 v (nI v)) (by omega) (by omega) (fun j hj => by
      rw [tl_upi2]
      by_cases e : j = v
      · rw [if_pos e, e]
      · rw [if_neg e]; exact hD j (by omega))
    exact ⟨D', by rw [b_X0_prepare_45, if_neg (show ¬ (200 : Int32) < nI v from nI_nlt (a := 200) (by omega) (by decide)), if_pos (tl_ai (by omega) (by omega)), tl_cl2 (by omega), nI_1]; exact i1, i2, fun a ha => by rw [i3 a ha, tl_upo2 ha]⟩
theorem c_p15 {T : Nat} : ∀ (m w n : Nat) (D : am_M), w + m = 61 → 1 ≤ w → m < n → (∀ j, 1 ≤ j → j < w → D 51 j = if j = 1 then 1 else 0) → ∃ D', b_X0_prepare_15 T n (nI w) D = b_X0_prepare_45 T am_N 0 D' ∧ (∀ j, 1 ≤ j → j ≤ 60 → D' 51 j = if j = 1 then 1 else 0) ∧ ∀ a, a ≠ 51 → D' a = D a := by
  intro m
  induction m with
  | zero =>
    intro w n D hm h1 hn hD
    obtain ⟨n, rfl⟩ : ∃ q, n = q + 1 := ⟨n - 1, by omega⟩
    have : w = 61 := by omega
    subst this
    exact ⟨D, by rw [b_X0_prepare_15, if_pos (show (60 : Int32) < nI 61 by decide)], fun j j1 j2 => hD j j1 (by omega), fun _ _ => rfl⟩
  | succ m ih =>
    intro w n D hm h1 hn hD
    obtain ⟨n, rfl⟩ : ∃ q, n = q + 1 := ⟨n - 1, by omega⟩
    have ev : vp_nar .boolean (if nI w = 1 then 1 else 0) = (if w = 1 then 1 else 0 : Int32) := by
      by_cases e : w = 1
      · subst e; rfl
      · rw [if_neg (show ¬ nI w = 1 from fun q => e ((nI_eq (b := 1) (by omega) (by omega)).mp q)), if_neg e]; rfl
    obtain ⟨D', i1, i2, i3⟩ := ih (w + 1) n (am_up D 51 w (if w = 1 then 1 else 0)) (by omega) (by omega) (by omega) (fun j j1 j2 => by
      rw [tl_upi2]
      by_cases e : j = w
      · rw [if_pos e, e]
      · rw [if_neg e]; exact hD j j1 (by omega))
    exact ⟨D', by rw [b_X0_prepare_15, if_neg (show ¬ (60 : Int32) < nI w from nI_nlt (a := 60) (by omega) (by decide)), b_X0_prepare_36, if_pos (tl_ai (by omega) (by omega)), ev, tl_cl2 (by omega), nI_1]; exact i1, i2, fun a ha => by rw [i3 a ha, tl_upo2 ha]⟩
theorem c_prep {T : Nat} {t : To} {D : am_M} (hT : T ≤ 14) (ht : bTo t) (hD : cTo T t D) (hb : Tb t D) : ∃ D', f_X0_prepare T D = some D' ∧ Tb t D' ∧ D' 50 3 = 1 ∧ ∀ a, a < 50 ∨ 53 < a → D' a = D a := by
  obtain ⟨b1, b2, b3⟩ := hb
  by_cases h0 : D 50 3 = 0
  · obtain ⟨D1, x1, x2, x3⟩ := c_p15 (T := T) 60 1 am_N (am_up D 50 3 1) rfl (by decide) (by decide) (fun j j1 j2 => absurd j2 (by omega))
    obtain ⟨D2, y1, y2, y3⟩ := c_p45 (T := T) 201 0 am_N D1 rfl (by decide) (fun j hj => absurd hj (by omega))
    have hTk : Tk t 0 D2 := by
      refine ⟨fun w w1 w2 => ?_, fun v => v, FW_s (FW_one 200) (fun c => ⟨fun h => Or.inl h, fun h => h.elim id (fun ⟨j, j1, _⟩ => absurd j1 (by omega))⟩), y2⟩
      rw [y3 51 (by decide), x2 w w1 w2]
      refine ⟨fun h => ?_, fun h => ?_⟩
      · rcases h with h | ⟨j, j1, -⟩
        · rw [if_pos h]
        · omega
      · rw [if_neg (fun q => h (Or.inl q))]
    have hD2 : cTo T t D2 := cTo_f (fun a _ _ => by rw [y3 a (by omega), x3 a (by omega), tl_upo2 (by omega)]) hD
    obtain ⟨D', z1, z2, z3⟩ := c_p67 hT ht (q_cn t) 0 am_N D2 (by omega) (by have := ht.2.2.2.2.1; show _ < 100000; omega) hD2 hTk
    have e50 : ∀ i, D' 50 i = if i = 3 then 1 else D 50 i := fun i => by rw [z3 50 (by decide) (by decide), y3 50 (by decide), x3 50 (by decide), tl_upi2]
    have e3 : D' 50 3 = 1 := by rw [e50]; rfl
    refine ⟨D', ?_, ⟨Or.inr ⟨e3, z2⟩, ?_, ?_⟩, e3, fun a ha => by rw [z3 a (by omega) (by omega), y3 a (by omega), x3 a (by omega), tl_upo2 (by omega)]⟩
    · rw [f_X0_prepare, if_pos h0]
      show b_X0_prepare_15 T am_N (nI 1) _ = _
      rw [x1]
      show b_X0_prepare_45 T am_N (nI 0) D1 = _
      rw [y1]
      exact z1
    · rw [e50 4, if_neg (by decide)]
      rcases b2 with b2 | ⟨q, -⟩
      · exact Or.inl b2
      · rw [q] at h0; exact absurd h0 (by decide)
    · rw [z3 53 (by decide) (by decide), y3 53 (by decide), x3 53 (by decide), tl_upo2 (by decide)]; exact b3
  · refine ⟨D, by rw [f_X0_prepare, if_neg h0], ⟨b1, b2, b3⟩, ?_, fun _ _ => rfl⟩
    rcases b1 with q | q
    · exact absurd q h0
    · exact q.1
