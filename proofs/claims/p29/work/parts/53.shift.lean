/-! shifts -/
def sLi (B l q k : Nat) : Nat := if k / l < q / B then B else if k / l = q / B then q % B else 0
theorem sLi_step : ∀ B, B < 6 → ∀ q, q < 5 → ∀ l, l < 13 → ∀ k, k < 24 → 1 ≤ B → 1 ≤ l → sLi B l (q + 1) k = sLi B l q k + (if q / B * l ≤ k ∧ k < q / B * l + l then 1 else 0) := by
  intro B hB q hq l hl k hk h1 h2
  rcases (show B = 1 ∨ B = 2 ∨ B = 3 ∨ B = 4 ∨ B = 5 by omega) with rfl | rfl | rfl | rfl | rfl
  all_goals (revert h2; revert hk; revert k; revert hl; revert l; revert hq; revert q; decide +kernel)
theorem sLi_can : ∀ B, B < 6 → ∀ q, q < 5 → ∀ l, l < 13 → ∀ k, k < 24 → 1 ≤ B → 1 ≤ l → (q / B * l ≤ k ∧ k < q / B * l + l) → sLi B l q k < B := by
  intro B hB q hq l hl k hk h1 h2
  rcases (show B = 1 ∨ B = 2 ∨ B = 3 ∨ B = 4 ∨ B = 5 by omega) with rfl | rfl | rfl | rfl | rfl
  all_goals (revert h2; revert hk; revert k; revert hl; revert l; revert hq; revert q; decide +kernel)
theorem sLi_full : ∀ B, B < 6 → ∀ q, q < 5 → ∀ l, l < 13 → ∀ k, k < 24 → 1 ≤ B → 1 ≤ l → k < q / B * l → sLi B l q k = B := by
  intro B hB q hq l hl k hk h1 h2
  rcases (show B = 1 ∨ B = 2 ∨ B = 3 ∨ B = 4 ∨ B = 5 by omega) with rfl | rfl | rfl | rfl | rfl
  all_goals (revert h2; revert hk; revert k; revert hl; revert l; revert hq; revert q; decide +kernel)
theorem sLi_0 : ∀ B, B < 6 → ∀ l, l < 13 → ∀ k, k < 24 → 1 ≤ B → 1 ≤ l → sLi B l 0 k = 0 := by decide +kernel
theorem sLi_le : ∀ B, B < 6 → ∀ q, q < 6 → ∀ l, l < 13 → ∀ k, k < 24 → sLi B l q k ≤ 5 := by decide +kernel
theorem m_can0 {h l : Nat} {D : am_M} (hl : h + l ≤ 24) : ∀ (m k n : Nat), k + m = h + l → m < n → b_X6_canLie_5 n (nI h) (nI l) 0 (nI k) D = some (0, D) := by
  intro m
  induction m with
  | zero =>
    intro k n hk hn
    obtain ⟨n, rfl⟩ : ∃ q, n = q + 1 := ⟨n - 1, by omega⟩
    rw [b_X6_canLie_5, nI_add, if_pos (nI_le (by omega) (by omega)), if_pos (Or.inl rfl)]
  | succ m ih =>
    intro k n hk hn
    obtain ⟨n, rfl⟩ : ∃ q, n = q + 1 := ⟨n - 1, by omega⟩
    rw [b_X6_canLie_5, nI_add, if_neg (nI_ge (by omega) (by omega)), if_pos rfl, nI_1]
    exact ih (k + 1) n (by omega) (by omega)
theorem m_can1 {h l B : Nat} {f : Nat → Nat} {D : am_M} (hl : h + l ≤ 24) (hB : B < 6) (h0 : D 56 0 = nI B) (hf : ∀ k, k < 24 → D 76 k = nI (f k)) (hc : ∀ k, h ≤ k → k < h + l → f k < B) : ∀ (m k n : Nat), k + m = h + l → h ≤ k → m < n → b_X6_canLie_5 n (nI h) (nI l) 1 (nI k) D = some (1, D) := by
  intro m
  induction m with
  | zero =>
    intro k n hk hh hn
    obtain ⟨n, rfl⟩ : ∃ q, n = q + 1 := ⟨n - 1, by omega⟩
    rw [b_X6_canLie_5, nI_add, if_pos (nI_le (by omega) (by omega)), if_pos (Or.inr rfl)]
  | succ m ih =>
    intro k n hk hh hn
    obtain ⟨n, rfl⟩ : ∃ q, n = q + 1 := ⟨n - 1, by omega⟩
    rw [b_X6_canLie_5, nI_add, if_neg (nI_ge (by omega) (by omega)), if_neg (by decide), if_pos (tl_ai (by omega) (by omega)), tl_cl2 (by omega), h0, hf k (by omega), if_neg (nI_ge (hc k hh (by omega)) (by omega)), nI_1]
    exact ih (k + 1) n (by omega) (by omega) (by omega)
theorem m_canN {h l B : Nat} {f : Nat → Nat} {D : am_M} (hl : h + l ≤ 24) (h1 : 1 ≤ l) (hB : B < 6) (h0 : D 56 0 = nI B) (hf : ∀ k, k < 24 → D 76 k = nI (f k)) (hc : f h = B) : f_X6_canLie (nI h) (nI l) D = some (0, D) := by
  rw [f_X6_canLie, tl_N, b_X6_canLie_5, nI_add, if_neg (nI_ge (by omega) (by omega)), if_neg (by decide), if_pos (tl_ai (by omega) (by omega)), tl_cl2 (by omega), h0, hf h (by omega), hc, if_pos (nI_le (Nat.le_refl _) (by omega)), nI_1]
  exact m_can0 hl (l - 1) (h + 1) 99999 (by omega) (by omega)
theorem m_sh60 {B l q : Nat} {x2 : Int32} {k49 : Int32 → Int32 → Int32 → am_M → Option (Int32 × am_M)} {D : am_M} (hB : B < 6) (hB1 : 1 ≤ B) (hl : l < 13) (hl1 : 1 ≤ l) (hq : q < 5) (h0 : D 56 0 = nI B) (hf : ∀ k, k < 24 → D 76 k = nI (sLi B l q k)) : ∀ (m h n : Nat), h + m = min (q / B * l) (25 - l) → m < n → b_X6_shift_60 k49 n (nI l) x2 (nI q) (nI h) D = b_X6_shift_85 k49 (nI l) x2 (nI q) (nI (min (q / B * l) (25 - l))) D := by
  intro m
  induction m with
  | zero =>
    intro h n hm hn
    obtain ⟨n, rfl⟩ : ∃ q, n = q + 1 := ⟨n - 1, by omega⟩
    have e : h = min (q / B * l) (25 - l) := by omega
    rw [← e, b_X6_shift_60, nI_add]
    by_cases h24 : h + l ≤ 24
    · have e' : h = q / B * l := by omega
      rw [if_neg (show ¬ (24 : Int32) < nI (h + l) from nI_nlt (a := 24) h24 (by decide)), f_X6_canLie, m_can1 (B := B) (f := sLi B l q) h24 hB h0 hf (fun k k1 k2 => sLi_can B hB q hq l hl k (by omega) hB1 hl1 ⟨by omega, by omega⟩) l h am_N (by omega) (by omega) (by show l < 100000; omega), Option.bind_some, if_neg (show ¬ (1 : Int32) = 0 by decide)]
    · rw [if_pos (show (24 : Int32) < nI (h + l) from nI_lt (a := 24) (by omega) (by omega))]
  | succ m ih =>
    intro h n hm hn
    obtain ⟨n, rfl⟩ : ∃ q, n = q + 1 := ⟨n - 1, by omega⟩
    have h24 : h + l ≤ 24 := by omega
    rw [b_X6_shift_60, nI_add, if_neg (show ¬ (24 : Int32) < nI (h + l) from nI_nlt (a := 24) h24 (by decide)), m_canN (B := B) (f := sLi B l q) h24 hl1 hB h0 hf (sLi_full B hB q hq l hl h (by omega) hB1 hl1 (by omega)), Option.bind_some, if_pos rfl, nI_1]
    exact ih (h + 1) n (by omega) (by omega)
theorem m_sh108 {h l q : Nat} {f : Nat → Nat} {x2 : Int32} {k49 : Int32 → Int32 → Int32 → am_M → Option (Int32 × am_M)} (hl : h + l ≤ 24) : ∀ (m k n : Nat) (D : am_M), k + m = h + l → h ≤ k → m < n → (∀ j, j < 24 → D 76 j = nI (f j + if h ≤ j ∧ j < k then 1 else 0)) → ∃ D', b_X6_shift_108 k49 n (nI l) x2 (nI q) (nI h) (nI k) D = k49 (nI l) x2 (nI (q + 1)) D' ∧ (∀ j, j < 24 → D' 76 j = nI (f j + if h ≤ j ∧ j < h + l then 1 else 0)) ∧ ∀ a, a ≠ 76 → D' a = D a := by
  intro m
  induction m with
  | zero =>
    intro k n D hk hh hn hD
    obtain ⟨n, rfl⟩ : ∃ q, n = q + 1 := ⟨n - 1, by omega⟩
    have : k = h + l := by omega
    subst this
    exact ⟨D, by rw [b_X6_shift_108, nI_add, if_pos (nI_le (by omega) (by omega)), nI_1], hD, fun _ _ => rfl⟩
  | succ m ih =>
    intro k n D hk hh hn hD
    obtain ⟨n, rfl⟩ : ∃ q, n = q + 1 := ⟨n - 1, by omega⟩
    obtain ⟨D', i1, i2, i3⟩ := ih (k + 1) n (am_up D 76 k (D 76 k + 1)) (by omega) (by omega) (by omega) (fun j hj => by
      rw [tl_upi2]
      by_cases e : j = k
      · subst e
        rw [if_pos rfl, hD j hj, if_neg (by omega), if_pos (by omega), nI_1]
      · rw [if_neg e, hD j hj]
        by_cases e2 : h ≤ j ∧ j < k
        · rw [if_pos e2, if_pos (by omega)]
        · rw [if_neg e2, if_neg (by omega)])
    exact ⟨D', by rw [b_X6_shift_108, nI_add, if_neg (nI_ge (by omega) (by omega)), if_pos (tl_ai (by omega) (by omega)), tl_cl2 (by omega), nI_1]; exact i1, i2, fun a ha => by rw [i3 a ha, tl_upo2 ha]⟩
theorem m_sh49 {B l P p : Nat} (hB : B < 6) (hB1 : 1 ≤ B) (hl : l < 13) (hl1 : 1 ≤ l) (hP : P ≤ 5) (hp : p < P) : ∀ (m q n : Nat) (D : am_M), q + m = P → m < n → D 56 0 = nI B → D 56 3 = nI P → (∀ k, k < 24 → D 76 k = nI (sLi B l q k)) → (∀ j, j < q → D 77 j = nI (j / B * l)) → (0 < q → ((q - 1) / B + 1) * l ≤ 24) → ∃ D', b_X6_shift_49 n (nI l) (nI p) (nI q) D = some ((if ((P - 1) / B + 1) * l ≤ 24 then nI (p / B * l) else (-1)), D') ∧ ∀ a, a ≠ 76 → a ≠ 77 → D' a = D a := by
  intro m
  induction m with
  | zero =>
    intro q n D hm hn h0 h3 hf hb hq
    obtain ⟨n, rfl⟩ : ∃ q, n = q + 1 := ⟨n - 1, by omega⟩
    have : q = P := by omega
    subst this
    refine ⟨D, ?_, fun _ _ _ => rfl⟩
    rw [b_X6_shift_49, h3, if_pos (nI_le (Nat.le_refl _) (by omega)), if_pos (tl_ai (by omega) (by omega)), tl_cl2 (by omega), hb p hp, if_pos (hq (by omega))]
  | succ m ih =>
    intro q n D hm hn h0 h3 hf hb hq
    obtain ⟨n, rfl⟩ : ∃ q, n = q + 1 := ⟨n - 1, by omega⟩
    have e0 : b_X6_shift_49 (n + 1) (nI l) (nI p) (nI q) D = b_X6_shift_85 (b_X6_shift_49 n) (nI l) (nI p) (nI q) (nI (min (q / B * l) (25 - l))) D := by
      rw [b_X6_shift_49, h3, if_neg (nI_ge (by omega) (by omega))]
      exact m_sh60 hB hB1 hl hl1 (by omega) h0 hf (min (q / B * l) (25 - l)) 0 am_N (by omega) (by show _ < 100000; omega)
    rw [e0, b_X6_shift_85, nI_add]
    by_cases h24 : (q / B + 1) * l ≤ 24
    · have h24' : q / B * l + l ≤ 24 := by rw [← Nat.succ_mul]; exact h24
      have em : min (q / B * l) (25 - l) = q / B * l := by omega
      rw [em, if_pos (show nI (q / B * l + l) ≤ 24 from nI_le (b := 24) h24' (by decide)), if_pos (tl_ai (by omega) (by omega)), tl_cl2 (by omega)]
      obtain ⟨D1, d1, d2, d3⟩ := m_sh108 (h := q / B * l) (l := l) (q := q) (f := sLi B l q) (x2 := nI p) (k49 := b_X6_shift_49 n) h24' l (q / B * l) am_N (am_up D 77 q (nI (q / B * l))) (by omega) (by omega) (by show l < 100000; omega) (fun j hj => by rw [tl_upo2 (by decide), hf j hj, if_neg (by omega)]; rfl)
      obtain ⟨D', i1, i2⟩ := ih (q + 1) n D1 (by omega) (by omega) (by rw [d3 56 (by decide), tl_upo2 (by decide)]; exact h0) (by rw [d3 56 (by decide), tl_upo2 (by decide)]; exact h3) (fun k hk => by rw [d2 k hk, sLi_step B hB q (by omega) l hl k hk hB1 hl1]) (fun j hj => by
        rw [d3 77 (by decide), tl_upi2]
        by_cases e : j = q
        · rw [if_pos e, e]
        · rw [if_neg e]; exact hb j (by omega)) (fun _ => by rw [Nat.add_sub_cancel]; exact h24)
      exact ⟨D', by rw [d1, i1], fun a a1 a2 => by rw [i2 a a1 a2, d3 a a1, tl_upo2 a2]⟩
    · have hle : q / B ≤ (P - 1) / B := Nat.div_le_div_right (by omega)
      have hle2 : (q / B + 1) * l ≤ ((P - 1) / B + 1) * l := Nat.mul_le_mul_right _ (by omega)
      have h24' : ¬ q / B * l + l ≤ 24 := by rw [← Nat.succ_mul]; exact h24
      refine ⟨D, ?_, fun _ _ _ => rfl⟩
      rw [if_neg (show ¬ nI (min (q / B * l) (25 - l) + l) ≤ 24 from nI_ge (a := 24) (by omega) (by omega)), if_neg (by omega)]
theorem m_sh28 {l : Int32} {x2 : Int32} : ∀ (m k n : Nat) (D : am_M), k + m = 24 → m < n → (∀ j, j < k → D 76 j = 0) → ∃ D', b_X6_shift_28 n l x2 (nI k) D = b_X6_shift_49 am_N l x2 0 D' ∧ (∀ j, j < 24 → D' 76 j = 0) ∧ ∀ a, a ≠ 76 → D' a = D a := by
  intro m
  induction m with
  | zero =>
    intro k n D hk hn hD
    obtain ⟨n, rfl⟩ : ∃ q, n = q + 1 := ⟨n - 1, by omega⟩
    have : k = 24 := by omega
    subst this
    exact ⟨D, by rw [b_X6_shift_28, if_pos (show (24 : Int32) ≤ nI 24 by decide)], hD, fun _ _ => rfl⟩
  | succ m ih =>
    intro k n D hk hn hD
    obtain ⟨n, rfl⟩ : ∃ q, n = q + 1 := ⟨n - 1, by omega⟩
    obtain ⟨D', i1, i2, i3⟩ := ih (k + 1) n (am_up D 76 k 0) (by omega) (by omega) (fun j hj => by
      rw [tl_upi2]
      by_cases e : j = k
      · rw [if_pos e]
      · rw [if_neg e]; exact hD j (by omega))
    exact ⟨D', by rw [b_X6_shift_28, if_neg (show ¬ (24 : Int32) ≤ nI k from nI_ge (b := 24) (by omega) (by omega)), if_pos (tl_ai (by omega) (by omega)), tl_cl2 (by omega), nI_1]; exact i1, i2, fun a ha => by rw [i3 a ha, tl_upo2 ha]⟩
theorem so_shift {k tw : Nat} {tp : Bool} {D : am_M} (h : Sim k tw tp D) (a b : Int32) : ∃ (r : Int32) (D1 D2 : am_M), f_X5_shift tw a b D = some (r, D1) ∧ f_X6_shift a b D1 = some (r, D2) ∧ Sim (k + 1) tw tp D2 := by
  have h0 := h
  obtain ⟨t, s, q⟩ := h
  have q3 := q.2.2.1
  have q4 := q.2.2.2.1
  have ht := q.2.1
  have hP := ht.2.2.2.1
  by_cases hw : f_X5_isWithin b 0 (nI (q_pe t) - 1) = 0
  · exact ⟨_, D, D, by rw [f_X5_shift, iP5 q3, if_pos hw], by rw [f_X6_shift, iP6 q4, if_pos hw], h0⟩
  by_cases hw2 : f_X5_isWithin a 1 12 = 0
  · exact ⟨_, D, D, by rw [f_X5_shift, iP5 q3, if_neg hw, if_pos hw2], by rw [f_X6_shift, iP6 q4, if_neg hw, in_6 a 1 12 1 12 rfl rfl, if_pos hw2], h0⟩
  obtain ⟨p, hp, rfl⟩ := m1_w (by omega) hw
  obtain ⟨l, hl1, hl, rfl⟩ := tl_w1n (a := 1) (b := 12) (by decide) hw2 (by decide)
  have hB := ht.1
  have hB1 := (ht.2.2.2.2.2.2.2.2.2 (by omega)).1
  obtain ⟨D0, z1, z2, z3⟩ := m_sh28 (l := nI l) (x2 := nI p) 24 0 am_N D rfl (by decide) (fun j hj => absurd hj (by omega))
  obtain ⟨D2, m1, m2⟩ := m_sh49 (B := q_be t) (l := l) (P := q_pe t) (p := p) (by omega) hB1 (by omega) hl1 hP hp (q_pe t) 0 am_N D0 (by omega) (by show _ < 100000; omega) (by rw [z3 56 (by decide)]; exact q4.1) (by rw [z3 56 (by decide)]; exact q4.2.2.2.1) (fun k hk => by rw [z2 k hk, sLi_0 _ (by omega) l (by omega) k hk hB1 hl1]; rfl) (fun j hj => absurd hj (by omega)) (fun hj => absurd hj (by omega))
  refine ⟨(if ((q_pe t - 1) / q_be t + 1) * l ≤ 24 then nI (p / q_be t * l) else (-1)), D, D2, ?_, ?_, t, s, Si_try q (fun a a1 a2 a3 => by rw [m2 a (by omega) (by omega), z3 a (by omega)]) (fun k _ => by rw [m2 62 (by decide) (by decide), z3 62 (by decide)])⟩
  · have e1 : nI (q_pe t) - 1 = nI (q_pe t - 1) := pk_sub (b := 1) (by omega)
    have hd : (q_pe t - 1) / q_be t ≤ q_pe t - 1 := Nat.div_le_self _ _
    have hm : ((q_pe t - 1) / q_be t + 1) * l ≤ 6 * 12 := Nat.mul_le_mul (by omega) hl
    rw [f_X5_shift, iP5 q3, if_neg hw, if_neg hw2, q3.1, if_pos (show (1 : Int32) ≤ nI (q_be t) from nI_le (a := 1) hB1 (by omega)), if_neg (nI_ne0 (by omega) (by omega)), q3.2.2.2.1, e1, pk_div (by omega) (by omega) (by omega), nI_1, pk_mul, pk_div (by omega) (by omega) (by omega), pk_mul]
    by_cases hc : ((q_pe t - 1) / q_be t + 1) * l ≤ 24
    · rw [if_pos hc, if_pos (show nI _ ≤ (24 : Int32) from nI_le (b := 24) hc (by decide))]
    · rw [if_neg hc, if_neg (show ¬ nI _ ≤ (24 : Int32) from nI_ge (a := 24) (by omega) (by omega))]
  · rw [f_X6_shift, iP6 q4, if_neg hw, in_6 _ 1 12 1 12 rfl rfl, if_neg hw2]
    show b_X6_shift_28 am_N (nI l) (nI p) (nI 0) D = _
    rw [z1]
    exact m1
