/-! the class's hour -/
theorem tl_upo2 {D : am_M} {a b j : Nat} {x : Int32} (h : b ≠ a) : am_up D a j x b = D b := by simp [am_up, h]
theorem tl_upi2 {D : am_M} {a i j : Nat} {x : Int32} : am_up D a i x a j = if j = i then x else D a j := by simp [am_up, upd]
theorem tl_cl2 {i : Nat} (h : i < 2 ^ 31) : (nI i).toNatClampNeg = i := nI_clamp h
theorem up_ap {D : am_M} {a i b j : Nat} {x : Int32} : am_up D a i x b j = if b = a then (if j = i then x else D b j) else D b j := by
  by_cases h : b = a
  · subst h; rw [tl_upi2]; simp
  · rw [tl_upo2 h]; simp [h]
def cP (M P : Nat) (q : Pq) (D : am_M) : Prop := (∀ p, p < P → D (M + 1) p = nI (q.1 p)) ∧ (∀ p, p < P → D (M + 2) p = nI (q.2.1 p)) ∧ ∀ p, p < P → D (M + 3) p = nI (q.2.2.1 p)
theorem n_max {a : Nat} (h : a < 1000000) : am_max (nI a - 4) 0 = nI (a - 4) := by
  unfold am_max
  by_cases h4 : a < 4
  · rw [if_pos (show nI a - 4 < 0 from pk_sneg (a := a) (b := 4) (by decide) h4), show a - 4 = 0 by omega]; rfl
  · have e : nI a - 4 = nI (a - 4) := pk_sub (b := 4) (by omega)
    rw [e, if_neg (nI_pos (by omega))]
theorem n_min {a m : Nat} (ha : a < 1000000) (hm : m < 1000000) : am_min (nI a) (nI m) = nI (min a m) := by
  unfold am_min
  by_cases h : m < a
  · rw [if_pos (nI_lt h (by omega)), Nat.min_eq_right (by omega)]
  · rw [if_neg (nI_nlt (by omega) (by omega)), Nat.min_eq_left (by omega)]
theorem c_lie {M T P p : Nat} {t : To} {q : Pq} {D : am_M} {hr : Nat} (hTM : T + 11 ≤ M) (hP5 : P ≤ 5) (hp : p < P) (hhr : hr ≤ 200000) (hq : bP P hr t q) (h1 : D T 1 = nI (q_de t)) (h2 : D T 2 = nI (q_ga t)) (ht : bTo t) (hR : cP M P q D) : ∃ D', f_X2_lie M T (nI p) D = some D' ∧ cP M P (un q.1 p (q.1 p - 4), un q.2.1 p (q.2.1 p + 1), un q.2.2.1 p (min (q.2.2.1 p + (if q_de t ≤ q.2.1 p + 1 then q_ga t else 1)) 9999), q.2.2.2 + 1) D' ∧ ∀ a, a ≠ M + 1 → a ≠ M + 2 → a ≠ M + 3 → D' a = D a := by
  obtain ⟨r1, r2, r3⟩ := hR
  obtain ⟨b1, b2, b3, -⟩ := hq
  obtain ⟨-, t2, t3, -⟩ := ht
  have hc : (nI p).toNatClampNeg = p := tl_cl2 (by omega)
  have hb1 := b1 p hp
  have hb2 := b2 p hp
  have hb3 := b3 p hp
  have hTn1 : T ≠ M + 1 := by omega
  have hTn2 : T ≠ M + 2 := by omega
  rw [f_X2_lie, if_pos (tl_ai (by omega) (by omega)), b_X2_lie_49, if_pos (tl_ai (by omega) (by omega))]
  refine ⟨_, rfl, ?_, ?_⟩
  · simp only [hc]
    have e1 : ∀ j, j < P → j ≠ p → un q.1 p (q.1 p - 4) j = q.1 j := fun j _ h => un_n h
    have hg : (if q_de t ≤ q.2.1 p + 1 then q_ga t else 1) ≤ 9 := by split <;> omega
    refine ⟨fun j hj => ?_, fun j hj => ?_, fun j hj => ?_⟩
    · simp only [up_ap]
      by_cases hjp : j = p
      · subst hjp
        simp [un_s, r1 j hj, n_max (show q.1 j < 1000000 by omega)]
      · simp [hjp, un_n hjp, r1 j hj]
    · simp only [up_ap]
      by_cases hjp : j = p
      · subst hjp
        simp [un_s, r2 j hj, nI_1]
      · simp [hjp, un_n hjp, r2 j hj]
    · simp only [up_ap]
      by_cases hjp : j = p
      · subst hjp
        simp only [un_s]
        have ec : ((nI (q.2.1 j) + 1 < nI (q_de t)) ↔ ¬ q_de t ≤ q.2.1 j + 1) := by
          rw [nI_1, nI_ltI (by omega) (by omega)]; omega
        simp [r2 j hj, r3 j hj, hTn1, hTn2, h1, h2, ec]
        by_cases hd : q_de t ≤ q.2.1 j + 1
        · have hd' : ¬ q.2.1 j + 1 < q_de t := by omega
          simp [hd, hd']
          rw [nI_add]
          exact n_min (m := 9999) (by omega) (by omega)
        · have hd' : q.2.1 j + 1 < q_de t := by omega
          simp [hd, hd']
          rw [nI_1]
          exact n_min (m := 9999) (by omega) (by omega)
      · simp [hjp, un_n hjp, r3 j hj]
  · intro a h1 h2 h3
    simp only [tl_upo2 h1, tl_upo2 h2, tl_upo2 h3]
theorem c_tire {M P p x : Nat} {q : Pq} {D : am_M} (hP5 : P ≤ 5) (hp : p < P) (hx : x ≤ 5) (hb : q.1 p ≤ 99) (h1 : ∀ j, j < P → D (M + 1) j = nI (q.1 j)) : ∃ D', f_X2_tire M (nI p) (nI x) D = some D' ∧ (∀ j, j < P → D' (M + 1) j = nI (un q.1 p (min (q.1 p + x) 99) j)) ∧ ∀ a, a ≠ M + 1 → D' a = D a := by
  have hc : (nI p).toNatClampNeg = p := tl_cl2 (by omega)
  rw [f_X2_tire, if_pos (tl_ai (by omega) (by omega))]
  refine ⟨_, rfl, fun j hj => ?_, fun a h => by rw [tl_upo2 h]⟩
  rw [up_ap, hc]
  by_cases hjp : j = p
  · subst hjp
    simp only [if_true, un_s, h1 j hj, nI_add]
    exact n_min (m := 99) (by omega) (by omega)
  · simp [hjp, un_n hjp, h1 j hj]
theorem c_people {M T P h hr : Nat} {t : To} {ro : Nat → Nat} {q0 : Pq} (hTM : T + 11 ≤ M) (hP5 : P ≤ 5) (hpe : q_pe t = P) (hh : h < 24) (hhr : hr ≤ 200000) (ht : bTo t) (hq0 : bP P hr t q0) (hs0 : ∀ p, p < P → q0.2.1 p ≤ hr) (hz : q0.2.2.2 = 0) (hro : ∀ k, k < 24 * P → ro k ≤ 2) : ∀ (m p n : Nat) (D : am_M), p + m = P → m < n → cP M P (sPs t ro h p q0) D → D T 1 = nI (q_de t) → D T 2 = nI (q_ga t) → D T 3 = nI P → (∀ k, k < 24 * P → D (M + 4) k = nI (ro k)) → ∃ D', b_X2_passHour_16 M T n (nI h) (nI (q_be t - (sPs t ro h p q0).2.2.2)) (nI p) D = (if 71 < D' M 6 then b_X2_passHour_116 M T D' else (f_X2_callDebts M T D').bind fun q113 => b_X2_passHour_116 M T q113) ∧ cP M P (sPs t ro h P q0) D' ∧ ∀ a, a ≠ M + 1 → a ≠ M + 2 → a ≠ M + 3 → D' a = D a := by
  intro m
  induction m with
  | zero =>
    intro p n D hm hn hR _ _ h3 _
    obtain ⟨n, rfl⟩ : ∃ q, n = q + 1 := ⟨n - 1, by omega⟩
    have : p = P := by omega
    subst this
    exact ⟨D, by rw [b_X2_passHour_16, h3, if_pos (nI_le (Nat.le_refl _) (by omega))], hR, fun _ _ _ _ => rfl⟩
  | succ m ih =>
    intro p n D hm hn hR h1 h2 h3 h4
    obtain ⟨n, rfl⟩ : ∃ q, n = q + 1 := ⟨n - 1, by omega⟩
    have hb := sPs_b (ro := ro) (h := h) hq0 hs0 p (by omega)
    have hbe := ht.1
    have ei : nI p * 24 + nI h = nI (24 * p + h) := by
      rw [show (24 : Int32) = nI 24 from rfl, pk_mul, nI_add, Nat.mul_comm]
    have hk : 24 * p + h < 24 * P := by omega
    have hr0 := hro _ hk
    have hcl : (nI p).toNatClampNeg = p := tl_cl2 (by omega)
    have hb1 := hb.1 p (by omega)
    -- the one who does not sleep
    have awake : ¬ (ro (24 * p + h) = 0 ∧ 0 < (sPs t ro h p q0).1 p ∧ (sPs t ro h p q0).2.2.2 < q_be t) → ∃ D', b_X2_passHour_71 M T (b_X2_passHour_16 M T n) (nI h) (nI (q_be t - (sPs t ro h p q0).2.2.2)) (nI p) (nI (ro (24 * p + h))) D = (if 71 < D' M 6 then b_X2_passHour_116 M T D' else (f_X2_callDebts M T D').bind fun q113 => b_X2_passHour_116 M T q113) ∧ cP M P (sPs t ro h P q0) D' ∧ ∀ a, a ≠ M + 1 → a ≠ M + 2 → a ≠ M + 3 → D' a = D a := by
      intro hc
      have es : sPs t ro h (p + 1) q0 = (un (sPs t ro h p q0).1 p (min ((sPs t ro h p q0).1 p + (if ro (24 * p + h) = 1 then 3 else 1)) 99), un (sPs t ro h p q0).2.1 p 0, (sPs t ro h p q0).2.2.1, (sPs t ro h p q0).2.2.2) := by rw [sPs, sP, if_neg hc]
      have ex : (if nI (ro (24 * p + h)) = 1 then (3 : Int32) else 1) = nI (if ro (24 * p + h) = 1 then 3 else 1) := by
        by_cases h1 : ro (24 * p + h) = 1
        · rw [if_pos h1, h1]; rfl
        · rw [if_neg h1, if_neg (show ¬ nI (ro (24 * p + h)) = (1 : Int32) from fun q => h1 ((nI_eq (b := 1) (by omega) (by omega)).mp q))]; rfl
      obtain ⟨D1, t1, t2, t3⟩ := c_tire (M := M) (P := P) (p := p) (x := if ro (24 * p + h) = 1 then 3 else 1) (q := sPs t ro h p q0) (D := am_up D (M + 2) p 0) hP5 (by omega) (by split <;> omega) hb1 (fun j hj => by rw [tl_upo2 (by omega)]; exact hR.1 j hj)
      obtain ⟨D', i1, i2, i3⟩ := ih (p + 1) n D1 (by omega) (by omega) (by
        rw [es]
        refine ⟨t2, fun j hj => ?_, fun j hj => ?_⟩
        · rw [t3 (M + 2) (by omega), up_ap]
          by_cases hjp : j = p
          · subst hjp; simp only [if_true, un_s]; rfl
          · simp [hjp, un_n hjp, hR.2.1 j hj]
        · rw [t3 (M + 3) (by omega), tl_upo2 (by omega)]; exact hR.2.2 j hj) (by rw [t3 T (by omega), tl_upo2 (by omega)]; exact h1) (by rw [t3 T (by omega), tl_upo2 (by omega)]; exact h2) (by rw [t3 T (by omega), tl_upo2 (by omega)]; exact h3) (fun k hk => by rw [t3 (M + 4) (by omega), tl_upo2 (by omega)]; exact h4 k hk)
      refine ⟨D', ?_, i2, fun a a1 a2 a3 => by rw [i3 a a1 a2 a3, t3 a a1, tl_upo2 a2]⟩
      rw [b_X2_passHour_71, if_pos (tl_ai (by omega) (by omega)), b_X2_passHour_93, hcl, ex, t1, nI_1]
      rw [es] at i1
      exact i1
    rw [b_X2_passHour_16, h3, if_neg (nI_ge (by omega) (by omega)), ei, if_pos (tl_ai (by omega) (by omega)), tl_cl2 (by omega), h4 _ hk, hcl, hR.1 p (by omega)]
    by_cases hc0 : ro (24 * p + h) = 0
    · rw [if_pos (show nI (ro (24 * p + h)) = (0 : Int32) by rw [hc0]; rfl), if_pos (tl_ai (by omega) (by omega))]
      by_cases hc1 : 0 < (sPs t ro h p q0).1 p
      · rw [if_neg (show ¬ nI ((sPs t ro h p q0).1 p) ≤ (0 : Int32) from nI_nle hc1 (by omega))]
        by_cases hc2 : (sPs t ro h p q0).2.2.2 < q_be t
        · rw [if_neg (show ¬ nI (q_be t - (sPs t ro h p q0).2.2.2) ≤ (0 : Int32) from nI_nle (by omega) (by omega))]
          obtain ⟨D1, l1, l2, l3⟩ := c_lie (T := T) hTM hP5 (show p < P by omega) hhr hb h1 h2 ht hR
          have es : sPs t ro h (p + 1) q0 = (un (sPs t ro h p q0).1 p ((sPs t ro h p q0).1 p - 4), un (sPs t ro h p q0).2.1 p ((sPs t ro h p q0).2.1 p + 1), un (sPs t ro h p q0).2.2.1 p (min ((sPs t ro h p q0).2.2.1 p + (if q_de t ≤ (sPs t ro h p q0).2.1 p + 1 then q_ga t else 1)) 9999), (sPs t ro h p q0).2.2.2 + 1) := by rw [sPs, sP, if_pos ⟨hc0, hc1, hc2⟩]
          obtain ⟨D', i1, i2, i3⟩ := ih (p + 1) n D1 (by omega) (by omega) (by rw [es]; exact l2) (by rw [l3 T (by omega) (by omega) (by omega)]; exact h1) (by rw [l3 T (by omega) (by omega) (by omega)]; exact h2) (by rw [l3 T (by omega) (by omega) (by omega)]; exact h3) (fun k hk => by rw [l3 (M + 4) (by omega) (by omega) (by omega)]; exact h4 k hk)
          refine ⟨D', ?_, i2, fun a a1 a2 a3 => by rw [i3 a a1 a2 a3, l3 a a1 a2 a3]⟩
          rw [l1, nI_1]
          rw [es] at i1
          have e2 : nI (q_be t - (sPs t ro h p q0).2.2.2) + (-1) = nI (q_be t - ((sPs t ro h p q0).2.2.2 + 1)) := by
            have := pk_m1 (q_be t - ((sPs t ro h p q0).2.2.2 + 1))
            rw [show q_be t - ((sPs t ro h p q0).2.2.2 + 1) + 1 = q_be t - (sPs t ro h p q0).2.2.2 by omega] at this
            exact this
          rw [Option.bind_some, e2]
          exact i1
        · rw [if_pos (show nI (q_be t - (sPs t ro h p q0).2.2.2) ≤ (0 : Int32) from nI_le (b := 0) (by omega) (by omega))]
          exact awake (fun q => hc2 q.2.2)
      · rw [if_pos (show nI ((sPs t ro h p q0).1 p) ≤ (0 : Int32) from nI_le (b := 0) (by omega) (by omega))]
        exact awake (fun q => hc1 q.2.1)
    · rw [if_neg (show ¬ nI (ro (24 * p + h)) = (0 : Int32) from nI_ne0 (by omega) (by omega))]
      exact awake (fun q => hc0 q.1)
def cD (M P : Nat) (r : Dq) (D : am_M) : Prop := (∀ p, p < P → D (M + 3) p = nI (r.1 p)) ∧ D M 4 = nI r.2.1 ∧ D M 5 = nI r.2.2
theorem c_debts {M T P hr : Nat} {t : To} {r0 : Dq} (hTM : T + 11 ≤ M) (hP5 : P ≤ 5) (hpe : q_pe t = P) (hhr : hr ≤ 200000) (ht : bTo t) (hr1 : ∀ p, p < P → r0.1 p ≤ 9999) (hr2 : r0.2.1 < 256) (hr3 : r0.2.2 < 256) : ∀ (m d n : Nat) (D : am_M), d + m = q_dn t → m < n → cD M P (sDs t hr d r0) D → cTo T t D → D M 6 = nI hr → ∃ D', b_X2_callDebts_2 M T n (nI d) D = some D' ∧ cD M P (sDs t hr (q_dn t) r0) D' ∧ (∀ a, a ≠ M → a ≠ M + 3 → D' a = D a) ∧ (∀ k, 5 < k → D' M k = D M k) := by
  have hb := ht
  obtain ⟨-, -, -, -, -, h8, -, hdd, -, -⟩ := hb
  intro m
  induction m with
  | zero =>
    intro d n D hm hn hR hT h6
    obtain ⟨n, rfl⟩ : ∃ q, n = q + 1 := ⟨n - 1, by omega⟩
    have : d = q_dn t := by omega
    subst this
    exact ⟨D, by rw [b_X2_callDebts_2, hT.2.2.2.2.2.1, if_pos (nI_le (Nat.le_refl _) (by omega))], hR, fun _ _ _ => rfl, fun _ _ => rfl⟩
  | succ m ih =>
    intro d n D hm hn hR hT h6
    obtain ⟨n, rfl⟩ : ∃ q, n = q + 1 := ⟨n - 1, by omega⟩
    obtain ⟨w1, w2, w3, w4⟩ := hdd d (by omega)
    obtain ⟨e1, e2, e3⟩ := hT.2.2.2.2.2.2.2.1 d (by omega)
    have hcl : (nI d).toNatClampNeg = d := tl_cl2 (by omega)
    have hclw : (nI (q_dw t d)).toNatClampNeg = q_dw t d := tl_cl2 (by omega)
    obtain ⟨bb1, bb2, bb3⟩ := sDs_b (t := t) (hr := hr) (P := P) (fun d h => by rw [← hpe]; exact (hdd d h).1) hr1 hr2 hr3 h8 d (by omega)
    have hpw := bb1 (q_dw t d) (by omega)
    have step : ∀ (D1 : am_M), cD M P (sDs t hr (d + 1) r0) D1 → (∀ a, a ≠ M → a ≠ M + 3 → D1 a = D a) → (∀ k, 5 < k → D1 M k = D M k) → ∃ D', b_X2_callDebts_2 M T n (nI (d + 1)) D1 = some D' ∧ cD M P (sDs t hr (q_dn t) r0) D' ∧ (∀ a, a ≠ M → a ≠ M + 3 → D' a = D a) ∧ (∀ k, 5 < k → D' M k = D M k) := by
      intro D1 g1 g2 g3
      have hT1 : cTo T t D1 := by
        unfold cTo at hT ⊢
        rw [g2 T (by omega) (by omega), g2 (T + 1) (by omega) (by omega), g2 (T + 2) (by omega) (by omega), g2 (T + 3) (by omega) (by omega), g2 (T + 4) (by omega) (by omega), g2 (T + 5) (by omega) (by omega)]
        exact hT
      obtain ⟨D', i1, i2, i3, i4⟩ := ih (d + 1) n D1 (by omega) (by omega) g1 hT1 (by rw [g3 6 (by omega)]; exact h6)
      exact ⟨D', i1, i2, fun a a1 a2 => by rw [i3 a a1 a2, g2 a a1 a2], fun k hk => by rw [i4 k hk, g3 k hk]⟩
    rw [b_X2_callDebts_2, hT.2.2.2.2.2.1, if_neg (nI_ge (by omega) (by omega)), if_pos (tl_ai (by omega) (by omega)), hcl, e2, h6, e1, e3, hclw, hR.1 (q_dw t d) (by omega)]
    by_cases hd : q_dh t d = hr
    · rw [if_pos (by rw [hd]), if_pos (tl_ai (by omega) (by omega))]
      by_cases hv : q_dv t d ≤ (sDs t hr d r0).1 (q_dw t d)
      · have es : sDs t hr (d + 1) r0 = (un (sDs t hr d r0).1 (q_dw t d) ((sDs t hr d r0).1 (q_dw t d) - q_dv t d), (sDs t hr d r0).2.1 ||| 2 ^ d, (sDs t hr d r0).2.2) := by rw [sDs, sD, if_pos hd, if_pos hv]
        rw [if_neg (nI_nlt (by omega) (by omega)), b_X2_callDebts_75, nI_1, n_shl d (by omega), tl_upo2 (by omega), hR.2.1, n_or, pk_sub hv]
        refine step _ ?_ (fun a a1 a2 => by rw [tl_upo2 a1, tl_upo2 a2]) (fun k hk => by rw [tl_upi2, if_neg (by omega), tl_upo2 (by omega)])
        rw [es]
        refine ⟨fun j hj => ?_, by rw [tl_upi2, if_pos rfl], by rw [tl_upi2, if_neg (by omega), tl_upo2 (by omega)]; exact hR.2.2⟩
        rw [tl_upo2 (by omega), tl_upi2]
        show _ = nI (un _ _ _ j)
        unfold un
        split
        · rfl
        · exact hR.1 j hj
      · have es : sDs t hr (d + 1) r0 = ((sDs t hr d r0).1, (sDs t hr d r0).2.1, (sDs t hr d r0).2.2 ||| 2 ^ d) := by rw [sDs, sD, if_pos hd, if_neg hv]
        rw [if_pos (nI_lt (by omega) (by omega)), nI_1, n_shl d (by omega), hR.2.2, n_or]
        refine step _ ?_ (fun a a1 _ => by rw [tl_upo2 a1]) (fun k hk => by rw [tl_upi2, if_neg (by omega)])
        rw [es]
        exact ⟨fun j hj => by rw [tl_upo2 (by omega)]; exact hR.1 j hj, by rw [tl_upi2, if_neg (by omega)]; exact hR.2.1, by rw [tl_upi2, if_pos rfl]⟩
    · have es : sDs t hr (d + 1) r0 = sDs t hr d r0 := by rw [sDs, sD, if_neg hd]
      rw [if_neg (fun q => hd ((nI_eq (by omega) (by omega)).mp q)), nI_1]
      exact step D (by rw [es]; exact hR) (fun _ _ _ => rfl) (fun _ _ => rfl)
theorem sDs_late {t : To} {hr : Nat} (ht : bTo t) (h : 71 < hr) {r0 : Dq} : ∀ n, n ≤ q_dn t → sDs t hr n r0 = r0 := by
  intro n
  induction n with
  | zero => intro _; rfl
  | succ n ih =>
    intro hn
    rw [sDs, ih (by omega), sD, if_neg (by have := (ht.2.2.2.2.2.2.2.1 n (by omega)).2.1; omega)]
/-- the class's hour is the hour -/
theorem c_hour {M T P : Nat} {t : To} {s : Mo} {D : am_M} (hTM : T + 11 ≤ M) (hpe : q_pe t = P) (ht : bTo t) (hs : bMo P s) (hhr : o_hr s ≤ 200000) (hT : cTo T t D) (hM : cMo M P s D) : ∃ D', f_X2_passHour M T D = some D' ∧ cMo M P (sHour t s) D' ∧ ∀ a, a ≠ M → a ≠ M + 1 → a ≠ M + 2 → a ≠ M + 3 → D' a = D a := by
  have hP5 : P ≤ 5 := by rw [← hpe]; exact ht.2.2.2.1
  obtain ⟨m1, m2, m3, m4, m5, m6, m7, m8⟩ := hM
  have hb := hs
  obtain ⟨b1, b2, b3, b4, b5, b6, b7⟩ := hb
  have e24 : D M 6 - D M 6 / 24 * 24 = nI (o_hr s % 24) := by rw [m7]; exact pk_rem (d := 24) (by omega) (by omega) (by omega)
  have hT' := hT
  obtain ⟨t0, t1, t2, t3, t4, t5, t6, t7, t8⟩ := hT'
  obtain ⟨D1, p1, p2, p3⟩ := c_people (M := M) (T := T) (P := P) (h := o_hr s % 24) (hr := o_hr s) (t := t) (ro := o_ro s) (q0 := (o_ti s, o_sl s, o_pu s, 0)) hTM hP5 hpe (Nat.mod_lt _ (by omega)) hhr ht ⟨b1, fun p hp => Nat.le_succ_of_le (b2 p hp), b3, Nat.zero_le _⟩ b2 rfl b4 P 0 am_N D (by omega) (by show P < 100000; omega) ⟨m1, m2, m3⟩ t1 t2 (by rw [t3, hpe]) m4
  have hq := sPs_b (P := P) (hr := o_hr s) (t := t) (ro := o_ro s) (h := o_hr s % 24) (q := (o_ti s, o_sl s, o_pu s, 0)) ⟨b1, fun p hp => Nat.le_succ_of_le (b2 p hp), b3, Nat.zero_le _⟩ b2 P (Nat.le_refl _)
  have hst : f_X2_passHour M T D = (if 71 < D1 M 6 then b_X2_passHour_116 M T D1 else (f_X2_callDebts M T D1).bind fun q113 => b_X2_passHour_116 M T q113) := by
    rw [f_X2_passHour, e24, t0]
    exact p1
  have hM6 : D1 M 6 = nI (o_hr s) := by rw [p3 M (by omega) (by omega) (by omega)]; exact m7
  have fin : ∀ D2, cD M P (sDs t (o_hr s) (q_dn t) ((sPs t (o_ro s) (o_hr s % 24) P (o_ti s, o_sl s, o_pu s, 0)).2.2.1, o_pa s, o_mi s)) D2 → (∀ a, a ≠ M → a ≠ M + 3 → D2 a = D1 a) → (∀ k, 5 < k → D2 M k = D1 M k) → ∃ D', b_X2_passHour_116 M T D2 = some D' ∧ cMo M P (sHour t s) D' ∧ ∀ a, a ≠ M → a ≠ M + 1 → a ≠ M + 2 → a ≠ M + 3 → D' a = D a := by
    intro D2 d1 d2 d3
    refine ⟨_, rfl, ?_, fun a a1 a2 a3 a4 => by rw [tl_upo2 a1, d2 a a1 a4, p3 a a2 a3 a4]⟩
    have hh : sHour t s = ((sPs t (o_ro s) (o_hr s % 24) P (o_ti s, o_sl s, o_pu s, 0)).1, (sPs t (o_ro s) (o_hr s % 24) P (o_ti s, o_sl s, o_pu s, 0)).2.1, (sDs t (o_hr s) (q_dn t) ((sPs t (o_ro s) (o_hr s % 24) P (o_ti s, o_sl s, o_pu s, 0)).2.2.1, o_pa s, o_mi s)).1, o_ro s, (sDs t (o_hr s) (q_dn t) ((sPs t (o_ro s) (o_hr s % 24) P (o_ti s, o_sl s, o_pu s, 0)).2.2.1, o_pa s, o_mi s)).2.1, (sDs t (o_hr s) (q_dn t) ((sPs t (o_ro s) (o_hr s % 24) P (o_ti s, o_sl s, o_pu s, 0)).2.2.1, o_pa s, o_mi s)).2.2, o_hr s + 1, o_se s) := by rw [← hpe]; rfl
    rw [hh]
    refine ⟨fun p hp => ?_, fun p hp => ?_, fun p hp => ?_, fun k hk => ?_, ?_, ?_, ?_, ?_⟩
    · rw [tl_upo2 (by omega), d2 (M + 1) (by omega) (by omega)]; exact p2.1 p hp
    · rw [tl_upo2 (by omega), d2 (M + 2) (by omega) (by omega)]; exact p2.2.1 p hp
    · rw [tl_upo2 (by omega)]; exact d1.1 p hp
    · rw [tl_upo2 (by omega), d2 (M + 4) (by omega) (by omega), p3 (M + 4) (by omega) (by omega) (by omega)]; exact m4 k hk
    · rw [tl_upi2, if_neg (by omega)]; exact d1.2.1
    · rw [tl_upi2, if_neg (by omega)]; exact d1.2.2
    · rw [tl_upi2, if_pos rfl, d3 6 (by omega), hM6, nI_1]
    · rw [tl_upi2, if_neg (by omega), d3 7 (by omega), p3 M (by omega) (by omega) (by omega)]; exact m8
  have hcd : cD M P ((sPs t (o_ro s) (o_hr s % 24) P (o_ti s, o_sl s, o_pu s, 0)).2.2.1, o_pa s, o_mi s) D1 := ⟨p2.2.2, by rw [p3 M (by omega) (by omega) (by omega)]; exact m5, by rw [p3 M (by omega) (by omega) (by omega)]; exact m6⟩
  rw [hst, hM6]
  by_cases h71 : 71 < o_hr s
  · rw [if_pos (show (71 : Int32) < nI (o_hr s) from nI_lt (a := 71) h71 (by omega))]
    exact fin D1 (by rw [sDs_late ht h71 _ (Nat.le_refl _)]; exact hcd) (fun _ _ _ => rfl) (fun _ _ => rfl)
  · rw [if_neg (show ¬ (71 : Int32) < nI (o_hr s) from nI_nlt (a := 71) (by omega) (by omega))]
    have hT1 : cTo T t D1 := by
      unfold cTo at hT ⊢
      rw [p3 T (by omega) (by omega) (by omega), p3 (T + 1) (by omega) (by omega) (by omega), p3 (T + 2) (by omega) (by omega) (by omega), p3 (T + 3) (by omega) (by omega) (by omega), p3 (T + 4) (by omega) (by omega) (by omega), p3 (T + 5) (by omega) (by omega) (by omega)]
      exact hT
    obtain ⟨D2, d1, d2, d3, d4⟩ := c_debts (M := M) (T := T) (P := P) (hr := o_hr s) (t := t) (r0 := ((sPs t (o_ro s) (o_hr s % 24) P (o_ti s, o_sl s, o_pu s, 0)).2.2.1, o_pa s, o_mi s)) hTM hP5 hpe hhr ht hq.2.2.1 b5 b6 (q_dn t) 0 am_N D1 (by omega) (by have := ht.2.2.2.2.2.1; show q_dn t < 100000; omega) hcd hT1 hM6
    have d1' : f_X2_callDebts M T D1 = some D2 := d1
    rw [d1', Option.bind_some]
    exact fin D2 d2 d3 d4
