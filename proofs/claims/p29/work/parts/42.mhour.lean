/-! the reference's hour -/
def mP (P : Nat) (q : Pq) (D : am_M) : Prop := (∀ p, p < P → D 62 p = nI (q.1 p)) ∧ (∀ p, p < P → D 62 (5 + p) = nI (q.2.1 p)) ∧ ∀ p, p < P → D 62 (10 + p) = nI (q.2.2.1 p)
theorem n_atm {a m : Nat} (ha : a < 1000000) (hm : m < 1000000) : f_X6_atMost (nI a) (nI m) = nI (min a m) := by
  unfold f_X6_atMost
  by_cases h : m ≤ a
  · rw [if_pos (nI_le h (by omega)), Nat.min_eq_right h]
  · rw [if_neg (nI_ge (by omega) (by omega)), Nat.min_eq_left (by omega)]
theorem n_5 (p : Nat) : (5 : Int32) + nI p = nI (5 + p) := nI_add 5 p
theorem n_10 (p : Nat) : (10 : Int32) + nI p = nI (10 + p) := nI_add 10 p
theorem m_lie {P p hr : Nat} {t : To} {q : Pq} {D : am_M} (hP5 : P ≤ 5) (hp : p < P) (hhr : hr ≤ 200000) (hq : bP P hr t q) (h1 : D 56 1 = nI (q_de t)) (h2 : D 56 2 = nI (q_ga t)) (ht : bTo t) (hR : mP P q D) : ∃ D', b_X6_doHour_56 (nI p) (if (am_up D 62 (5 + p) (D 62 (5 + p) + 1)) 62 p ≤ 4 then 0 else (am_up D 62 (5 + p) (D 62 (5 + p) + 1)) 62 p - 4) (nI p) (am_up D 62 (5 + p) (D 62 (5 + p) + 1)) = some D' ∧ mP P (un q.1 p (q.1 p - 4), un q.2.1 p (q.2.1 p + 1), un q.2.2.1 p (min (q.2.2.1 p + (if q_de t ≤ q.2.1 p + 1 then q_ga t else 1)) 9999), q.2.2.2 + 1) D' ∧ (∀ a, a ≠ 62 → D' a = D a) ∧ ∀ k, 15 ≤ k → D' 62 k = D 62 k := by
  obtain ⟨r1, r2, r3⟩ := hR
  obtain ⟨b1, b2, b3, -⟩ := hq
  obtain ⟨-, t2, t3, -⟩ := ht
  have hb1 := b1 p hp
  have hb2 := b2 p hp
  have hb3 := b3 p hp
  have hc : (nI p).toNatClampNeg = p := tl_cl2 (by omega)
  have hc5 : (nI (5 + p)).toNatClampNeg = 5 + p := tl_cl2 (by omega)
  have hc10 : (nI (10 + p)).toNatClampNeg = 10 + p := tl_cl2 (by omega)
  have hg : (if q_de t ≤ q.2.1 p + 1 then q_ga t else 1) ≤ 9 := by split <;> omega
  have et : (am_up D 62 (5 + p) (D 62 (5 + p) + 1)) 62 p = nI (q.1 p) := by rw [tl_upi2, if_neg (by omega)]; exact r1 p hp
  have ex : (if nI (q.1 p) ≤ 4 then (0 : Int32) else nI (q.1 p) - 4) = nI (q.1 p - 4) := by
    by_cases h4 : q.1 p ≤ 4
    · rw [if_pos (show nI (q.1 p) ≤ (4 : Int32) from nI_le (b := 4) h4 (by omega)), show q.1 p - 4 = 0 by omega]; rfl
    · rw [if_neg (show ¬ nI (q.1 p) ≤ (4 : Int32) from nI_ge (a := 4) (by omega) (by omega))]
      exact pk_sub (b := 4) (by omega)
  rw [et, ex, b_X6_doHour_56, n_10, n_5, if_pos (tl_ai (by omega) (by omega)), if_pos (tl_ai (by omega) (by omega)), if_pos (tl_ai (by omega) (by omega)), hc, hc5, hc10]
  have e5 : (am_up (am_up D 62 (5 + p) (D 62 (5 + p) + 1)) 62 p (nI (q.1 p - 4))) 62 (5 + p) = nI (q.2.1 p + 1) := by
    rw [tl_upi2, if_neg (by omega), tl_upi2, if_pos rfl, r2 p hp, nI_1]
  have e10 : (am_up (am_up D 62 (5 + p) (D 62 (5 + p) + 1)) 62 p (nI (q.1 p - 4))) 62 (10 + p) = nI (q.2.2.1 p) := by
    rw [tl_upi2, if_neg (by omega), tl_upi2, if_neg (by omega)]; exact r3 p hp
  have em : f_X6_minted (nI (q.2.1 p + 1)) (am_up (am_up D 62 (5 + p) (D 62 (5 + p) + 1)) 62 p (nI (q.1 p - 4))) = nI (if q_de t ≤ q.2.1 p + 1 then q_ga t else 1) := by
    unfold f_X6_minted
    rw [tl_upo2 (by omega), tl_upo2 (by omega), h1, h2]
    by_cases hd : q_de t ≤ q.2.1 p + 1
    · rw [if_neg (nI_nlt hd (by omega)), if_pos hd]
    · rw [if_pos (nI_lt (by omega) (by omega)), if_neg hd]; rfl
  rw [e5, e10, em, nI_add, show (9999 : Int32) = nI 9999 from rfl, n_atm (by omega) (by omega)]
  refine ⟨_, rfl, ⟨fun j hj => ?_, fun j hj => ?_, fun j hj => ?_⟩, fun a ha => by rw [tl_upo2 ha, tl_upo2 ha, tl_upo2 ha], fun k hk => by rw [tl_upi2, if_neg (by omega), tl_upi2, if_neg (by omega), tl_upi2, if_neg (by omega)]⟩
  · rw [tl_upi2, if_neg (by omega), tl_upi2]
    show _ = nI (un _ _ _ j)
    unfold un
    split
    · rfl
    · rw [tl_upi2, if_neg (by omega)]; exact r1 j hj
  · rw [tl_upi2, if_neg (by omega), tl_upi2, if_neg (by omega), tl_upi2]
    show _ = nI (un _ _ _ j)
    unfold un
    by_cases hjp : j = p
    · subst hjp; rw [if_pos rfl, if_pos rfl, r2 j hj, nI_1]
    · rw [if_neg (by omega), if_neg hjp]; exact r2 j hj
  · rw [tl_upi2]
    show _ = nI (un _ _ _ j)
    unfold un
    by_cases hjp : j = p
    · subst hjp; rw [if_pos rfl, if_pos rfl]
    · rw [if_neg (by omega), if_neg hjp, tl_upi2, if_neg (by omega), tl_upi2, if_neg (by omega)]; exact r3 j hj
theorem m_wake {P p y : Nat} {q : Pq} {D : am_M} (hP5 : P ≤ 5) (hp : p < P) (hb : q.1 p ≤ 99) (hy : y ≤ 2) (hR : mP P q D) : ∃ D', b_X6_doHour_97 (nI p) (nI y) D = some D' ∧ mP P (un q.1 p (min (q.1 p + (if y = 1 then 3 else 1)) 99), un q.2.1 p 0, q.2.2.1, q.2.2.2) D' ∧ (∀ a, a ≠ 62 → D' a = D a) ∧ ∀ k, 15 ≤ k → D' 62 k = D 62 k := by
  obtain ⟨r1, r2, r3⟩ := hR
  have hc : (nI p).toNatClampNeg = p := tl_cl2 (by omega)
  have hc5 : (nI (5 + p)).toNatClampNeg = 5 + p := tl_cl2 (by omega)
  have ex : (if nI y = 1 then (3 : Int32) else 1) = nI (if y = 1 then 3 else 1) := by
    by_cases h1 : y = 1
    · rw [if_pos h1, h1]; rfl
    · rw [if_neg h1, if_neg (show ¬ nI y = (1 : Int32) from fun q => h1 ((nI_eq (b := 1) (by omega) (by omega)).mp q))]; rfl
  have hx : (if y = 1 then 3 else 1) ≤ 3 := by split <;> omega
  have e1 : (am_up D 62 (5 + p) 0) 62 p = nI (q.1 p) := by rw [tl_upi2, if_neg (by omega)]; exact r1 p hp
  rw [b_X6_doHour_97, n_5, if_pos (tl_ai (by omega) (by omega)), if_pos (tl_ai (by omega) (by omega)), hc, hc5, ex, b_X6_doHour_127, if_pos (tl_ai (by omega) (by omega)), e1, nI_add, show (99 : Int32) = nI 99 from rfl, n_atm (by omega) (by omega), hc]
  refine ⟨_, rfl, ⟨fun j hj => ?_, fun j hj => ?_, fun j hj => ?_⟩, fun a ha => by rw [tl_upo2 ha, tl_upo2 ha], fun k hk => by rw [tl_upi2, if_neg (by omega), tl_upi2, if_neg (by omega)]⟩
  · rw [tl_upi2]
    show _ = nI (un _ _ _ j)
    unfold un
    split
    · rfl
    · rw [tl_upi2, if_neg (by omega)]; exact r1 j hj
  · rw [tl_upi2, if_neg (by omega), tl_upi2]
    show _ = nI (un _ _ _ j)
    unfold un
    by_cases hjp : j = p
    · subst hjp; rw [if_pos rfl, if_pos rfl]; rfl
    · rw [if_neg (by omega), if_neg hjp]; exact r2 j hj
  · rw [tl_upi2, if_neg (by omega), tl_upi2, if_neg (by omega)]; exact r3 j hj
theorem m_people {P h hr : Nat} {t : To} {ro : Nat → Nat} {q0 : Pq} (hP5 : P ≤ 5) (hpe : q_pe t = P) (hh : h < 24) (hhr : hr ≤ 200000) (ht : bTo t) (hq0 : bP P hr t q0) (hs0 : ∀ p, p < P → q0.2.1 p ≤ hr) (hro : ∀ k, k < 24 * P → ro k ≤ 2) : ∀ (m p n : Nat) (D : am_M), p + m = P → m < n → mP P (sPs t ro h p q0) D → D 56 0 = nI (q_be t) → D 56 1 = nI (q_de t) → D 56 2 = nI (q_ga t) → D 56 3 = nI P → (∀ k, k < 24 * P → D 62 (15 + k) = nI (ro k)) → ∃ D', b_X6_pass_16 n (nI (sPs t ro h p q0).2.2.2) (nI h) (nI p) D = b_X6_pass_83 am_N 0 D' ∧ mP P (sPs t ro h P q0) D' ∧ (∀ a, a ≠ 62 → D' a = D a) ∧ ∀ k, 15 ≤ k → D' 62 k = D 62 k := by
  intro m
  induction m with
  | zero =>
    intro p n D hm hn hR _ _ _ h3 _
    obtain ⟨n, rfl⟩ : ∃ q, n = q + 1 := ⟨n - 1, by omega⟩
    have : p = P := by omega
    subst this
    exact ⟨D, by rw [b_X6_pass_16, h3, if_pos (nI_le (Nat.le_refl _) (by omega))], hR, fun _ _ => rfl, fun _ _ => rfl⟩
  | succ m ih =>
    intro p n D hm hn hR h0 h1 h2 h3 h4
    obtain ⟨n, rfl⟩ : ∃ q, n = q + 1 := ⟨n - 1, by omega⟩
    have hb := sPs_b (ro := ro) (h := h) hq0 hs0 p (by omega)
    have hbe := ht.1
    have ei : 15 + 24 * nI p + nI h = nI (15 + (24 * p + h)) := by
      rw [show (24 : Int32) = nI 24 from rfl, show (15 : Int32) = nI 15 from rfl, pk_mul, nI_add, nI_add, Nat.add_assoc]
    have hk : 24 * p + h < 24 * P := by omega
    have hr0 := hro _ hk
    have hcl : (nI p).toNatClampNeg = p := tl_cl2 (by omega)
    have hc5 : (nI (5 + p)).toNatClampNeg = 5 + p := tl_cl2 (by omega)
    have hb1 := hb.1 p (by omega)
    have hb4 := hb.2.2.2
    -- behind the person's hour
    have next : ∀ (D1 : am_M) (tk : Nat), mP P (sPs t ro h (p + 1) q0) D1 → (∀ a, a ≠ 62 → D1 a = D a) → (∀ k, 15 ≤ k → D1 62 k = D 62 k) → (sPs t ro h (p + 1) q0).2.2.2 = tk → ∃ D', b_X6_pass_16 n (nI tk) (nI h) (nI p + 1) D1 = b_X6_pass_83 am_N 0 D' ∧ mP P (sPs t ro h P q0) D' ∧ (∀ a, a ≠ 62 → D' a = D a) ∧ ∀ k, 15 ≤ k → D' 62 k = D 62 k := by
      intro D1 tk g1 g2 g3 g4
      obtain ⟨D', i1, i2, i3, i4⟩ := ih (p + 1) n D1 (by omega) (by omega) g1 (by rw [g2 56 (by decide)]; exact h0) (by rw [g2 56 (by decide)]; exact h1) (by rw [g2 56 (by decide)]; exact h2) (by rw [g2 56 (by decide)]; exact h3) (fun k hk => by rw [g3 _ (by omega)]; exact h4 k hk)
      rw [g4] at i1
      exact ⟨D', by rw [nI_1]; exact i1, i2, fun a ha => by rw [i3 a ha, g2 a ha], fun k hk => by rw [i4 k hk, g3 k hk]⟩
    have awake : ¬ (ro (24 * p + h) = 0 ∧ 0 < (sPs t ro h p q0).1 p ∧ (sPs t ro h p q0).2.2.2 < q_be t) → ∃ D', (b_X6_doHour_97 (nI p) (nI (ro (24 * p + h))) D).bind (fun q53 => if am_in (5 + nI p) 138 = true then b_X6_pass_16 n (if q53 62 (5 + nI p).toNatClampNeg ≤ 0 then nI (sPs t ro h p q0).2.2.2 + 0 else nI (sPs t ro h p q0).2.2.2 + 1) (nI h) (nI p + 1) q53 else none) = b_X6_pass_83 am_N 0 D' ∧ mP P (sPs t ro h P q0) D' ∧ (∀ a, a ≠ 62 → D' a = D a) ∧ ∀ k, 15 ≤ k → D' 62 k = D 62 k := by
      intro hc
      have es : sPs t ro h (p + 1) q0 = (un (sPs t ro h p q0).1 p (min ((sPs t ro h p q0).1 p + (if ro (24 * p + h) = 1 then 3 else 1)) 99), un (sPs t ro h p q0).2.1 p 0, (sPs t ro h p q0).2.2.1, (sPs t ro h p q0).2.2.2) := by rw [sPs, sP, if_neg hc]
      obtain ⟨D1, l1, l2, l3, l4⟩ := m_wake hP5 (show p < P by omega) hb1 hr0 hR
      have e0 : D1 62 (5 + p) = nI 0 := by rw [l2.2.1 p (by omega)]; show nI (un _ p 0 p) = nI 0; rw [un_s]
      rw [l1, Option.bind_some, n_5, if_pos (tl_ai (by omega) (by omega)), hc5, e0, if_pos (show nI 0 ≤ (0 : Int32) by decide), show nI (sPs t ro h p q0).2.2.2 + 0 = nI (sPs t ro h p q0).2.2.2 from Int32.add_zero _]
      exact next D1 _ (by rw [es]; exact l2) l3 l4 (by rw [es])
    rw [b_X6_pass_16, h3, if_neg (nI_ge (by omega) (by omega)), ei, if_pos (tl_ai (by omega) (by omega)), tl_cl2 (by omega), h4 _ hk, b_X6_pass_53, h0, f_X6_doHour]
    by_cases hc0 : ro (24 * p + h) = 0
    · rw [if_pos (show nI (ro (24 * p + h)) = (0 : Int32) by rw [hc0]; rfl)]
      by_cases hc2 : (sPs t ro h p q0).2.2.2 < q_be t
      · rw [if_neg (nI_ge hc2 (by omega)), if_neg (show ¬ (1 : Int32) = 0 by decide), if_pos (tl_ai (by omega) (by omega)), hcl, hR.1 p (by omega)]
        by_cases hc1 : 0 < (sPs t ro h p q0).1 p
        · rw [if_neg (show ¬ nI ((sPs t ro h p q0).1 p) ≤ (0 : Int32) from nI_nle hc1 (by omega)), n_5, if_pos (tl_ai (by omega) (by omega)), hc5]
          obtain ⟨D1, l1, l2, l3, l4⟩ := m_lie hP5 (show p < P by omega) hhr hb h1 h2 ht hR
          have es : sPs t ro h (p + 1) q0 = (un (sPs t ro h p q0).1 p ((sPs t ro h p q0).1 p - 4), un (sPs t ro h p q0).2.1 p ((sPs t ro h p q0).2.1 p + 1), un (sPs t ro h p q0).2.2.1 p (min ((sPs t ro h p q0).2.2.1 p + (if q_de t ≤ (sPs t ro h p q0).2.1 p + 1 then q_ga t else 1)) 9999), (sPs t ro h p q0).2.2.2 + 1) := by rw [sPs, sP, if_pos ⟨hc0, hc1, hc2⟩]
          have e0 : D1 62 (5 + p) = nI ((sPs t ro h p q0).2.1 p + 1) := by rw [l2.2.1 p (by omega)]; show nI (un _ p _ p) = _; rw [un_s]
          have hb2 := hb.2.1 p (by omega)
          rw [l1, Option.bind_some, if_pos (tl_ai (by omega) (by omega)), e0, if_neg (show ¬ nI ((sPs t ro h p q0).2.1 p + 1) ≤ (0 : Int32) from nI_nle (by omega) (by omega)), nI_1]
          exact next D1 _ (by rw [es]; exact l2) l3 l4 (by rw [es])
        · rw [if_pos (show nI ((sPs t ro h p q0).1 p) ≤ (0 : Int32) from nI_le (b := 0) (by omega) (by omega))]
          exact awake (fun q => hc1 q.2.1)
      · rw [if_pos (nI_le (by omega) (by omega)), if_pos rfl]
        exact awake (fun q => hc2 q.2.2)
    · rw [if_neg (show ¬ nI (ro (24 * p + h)) = (0 : Int32) from nI_ne0 (by omega) (by omega))]
      exact awake (fun q => hc0 q.1)
def mD (P : Nat) (r : Dq) (D : am_M) : Prop := (∀ p, p < P → D 62 (10 + p) = nI (r.1 p)) ∧ D 62 135 = nI r.2.1 ∧ D 62 136 = nI r.2.2
theorem m_debts {P hr : Nat} {t : To} {r0 : Dq} (hP5 : P ≤ 5) (hpe : q_pe t = P) (hhr : hr ≤ 200000) (ht : bTo t) (hr1 : ∀ p, p < P → r0.1 p ≤ 9999) (hr2 : r0.2.1 < 256) (hr3 : r0.2.2 < 256) : ∀ (m d n : Nat) (D : am_M), d + m = q_dn t → m < n → mD P (sDs t hr d r0) D → mTo t D → D 62 137 = nI hr → ∃ D', b_X6_pass_83 n (nI d) D = some D' ∧ mD P (sDs t hr (q_dn t) r0) D' ∧ D' 62 137 = nI (hr + 1) ∧ (∀ a, a ≠ 62 → D' a = D a) ∧ ∀ k, k < 10 ∨ (15 ≤ k ∧ k < 135) → D' 62 k = D 62 k := by
  have hb := ht
  obtain ⟨-, -, -, -, -, h8, -, hdd, -, -⟩ := hb
  intro m
  induction m with
  | zero =>
    intro d n D hm hn hR hT h6
    obtain ⟨n, rfl⟩ : ∃ q, n = q + 1 := ⟨n - 1, by omega⟩
    have : d = q_dn t := by omega
    subst this
    refine ⟨am_up D 62 137 (D 62 137 + 1), by rw [b_X6_pass_83, hT.2.2.2.2.2.1, if_pos (nI_le (Nat.le_refl _) (by omega))], ⟨fun p hp => by rw [tl_upi2, if_neg (by omega)]; exact hR.1 p hp, by rw [tl_upi2, if_neg (by omega)]; exact hR.2.1, by rw [tl_upi2, if_neg (by omega)]; exact hR.2.2⟩, by rw [tl_upi2, if_pos rfl, h6, nI_1], fun a ha => by rw [tl_upo2 ha], fun k hk => by rw [tl_upi2, if_neg (by omega)]⟩
  | succ m ih =>
    intro d n D hm hn hR hT h6
    obtain ⟨n, rfl⟩ : ∃ q, n = q + 1 := ⟨n - 1, by omega⟩
    obtain ⟨w1, w2, w3, w4⟩ := hdd d (by omega)
    obtain ⟨e1, e2, e3⟩ := hT.2.2.2.2.2.2.2.1 d (by omega)
    have hcl : (nI d).toNatClampNeg = d := tl_cl2 (by omega)
    have hcw : (nI (10 + q_dw t d)).toNatClampNeg = 10 + q_dw t d := tl_cl2 (by omega)
    obtain ⟨bb1, bb2, bb3⟩ := sDs_b (t := t) (hr := hr) (P := P) (fun d h => by rw [← hpe]; exact (hdd d h).1) hr1 hr2 hr3 h8 d (by omega)
    have hpw := bb1 (q_dw t d) (by omega)
    have step : ∀ (D1 : am_M), mD P (sDs t hr (d + 1) r0) D1 → D1 62 137 = nI hr → (∀ a, a ≠ 62 → D1 a = D a) → (∀ k, k < 10 ∨ (15 ≤ k ∧ k < 135) → D1 62 k = D 62 k) → ∃ D', b_X6_pass_83 n (nI d + 1) D1 = some D' ∧ mD P (sDs t hr (q_dn t) r0) D' ∧ D' 62 137 = nI (hr + 1) ∧ (∀ a, a ≠ 62 → D' a = D a) ∧ ∀ k, k < 10 ∨ (15 ≤ k ∧ k < 135) → D' 62 k = D 62 k := by
      intro D1 g1 g0 g2 g3
      have hT1 : mTo t D1 := by
        unfold mTo at hT ⊢
        rw [g2 56 (by decide), g2 57 (by decide), g2 58 (by decide), g2 59 (by decide), g2 60 (by decide), g2 61 (by decide)]
        exact hT
      obtain ⟨D', i1, i2, i3, i4, i5⟩ := ih (d + 1) n D1 (by omega) (by omega) g1 hT1 g0
      exact ⟨D', by rw [nI_1]; exact i1, i2, i3, fun a ha => by rw [i4 a ha, g2 a ha], fun k hk => by rw [i5 k hk, g3 k hk]⟩
    rw [b_X6_pass_83, hT.2.2.2.2.2.1, if_neg (nI_ge (by omega) (by omega)), if_pos (tl_ai (by omega) (by omega)), hcl, e2, h6, e1, n_10, hcw, hR.1 (q_dw t d) (by omega), e3]
    by_cases hd : q_dh t d = hr
    · rw [if_pos (by rw [hd]), if_pos (tl_ai (by omega) (by omega))]
      by_cases hv : q_dv t d ≤ (sDs t hr d r0).1 (q_dw t d)
      · have es : sDs t hr (d + 1) r0 = (un (sDs t hr d r0).1 (q_dw t d) ((sDs t hr d r0).1 (q_dw t d) - q_dv t d), (sDs t hr d r0).2.1 ||| 2 ^ d, (sDs t hr d r0).2.2) := by rw [sDs, sD, if_pos hd, if_pos hv]
        rw [if_neg (nI_nlt (by omega) (by omega)), b_X6_pass_136, if_pos (tl_ai (by omega) (by omega)), hcl, e1, n_10, if_pos (tl_ai (by omega) (by omega)), hcw, hR.1 (q_dw t d) (by omega), e3, if_neg (show ¬ (1 : Int32) = 0 by decide), b_X6_pass_168, if_pos (tl_ai (by omega) (by omega)), hcw, pk_sub hv, if_neg (show ¬ (1 : Int32) = 0 by decide), b_X6_pass_191, if_pos (by decide), if_neg (show ¬ (1 : Int32) = 0 by decide), b_X6_pass_214, if_pos (by decide)]
        refine step _ ?_ ?_ (fun a ha => by rw [tl_upo2 ha, tl_upo2 ha, tl_upo2 ha]) (fun k hk => ?_)
        · rw [es]
          refine ⟨fun j hj => ?_, ?_, ?_⟩
          · rw [tl_upi2, if_neg (show ¬ 10 + j = (136 : Int32).toNatClampNeg by show ¬ 10 + j = 136; omega), tl_upi2, if_neg (show ¬ 10 + j = (135 : Int32).toNatClampNeg by show ¬ 10 + j = 135; omega), tl_upi2]
            show _ = nI (un _ _ _ j)
            unfold un
            by_cases hj2 : j = q_dw t d
            · rw [if_pos (by omega), if_pos hj2]
            · rw [if_neg (by omega), if_neg hj2]; exact hR.1 j hj
          · show am_up _ 62 136 _ 62 135 = _
            rw [tl_upi2, if_neg (by omega)]
            show am_up _ 62 135 _ 62 135 = _
            rw [tl_upi2, if_pos rfl, tl_upi2, if_neg (by omega), hR.2.1, n_shl d (by omega), n_or]
          · show am_up _ 62 136 _ 62 136 = _
            rw [tl_upi2, if_pos rfl]
            show am_up _ 62 135 _ 62 136 ||| 0 = _
            rw [tl_upi2, if_neg (by omega), tl_upi2, if_neg (by omega), hR.2.2, Int32.or_zero]
        · show am_up _ 62 136 _ 62 137 = _
          rw [tl_upi2, if_neg (by omega)]
          show am_up _ 62 135 _ 62 137 = _
          rw [tl_upi2, if_neg (by omega), tl_upi2, if_neg (by omega)]; exact h6
        · show am_up _ 62 136 _ 62 k = _
          rw [tl_upi2, if_neg (by omega)]
          show am_up _ 62 135 _ 62 k = _
          rw [tl_upi2, if_neg (by omega), tl_upi2, if_neg (by omega)]
      · have es : sDs t hr (d + 1) r0 = ((sDs t hr d r0).1, (sDs t hr d r0).2.1, (sDs t hr d r0).2.2 ||| 2 ^ d) := by rw [sDs, sD, if_pos hd, if_neg hv]
        rw [if_pos (nI_lt (by omega) (by omega)), b_X6_pass_136, if_pos (tl_ai (by omega) (by omega)), hcl, e1, n_10, if_pos (tl_ai (by omega) (by omega)), hcw, hR.1 (q_dw t d) (by omega), if_pos rfl, b_X6_pass_168, if_pos (tl_ai (by omega) (by omega)), hcw, if_pos rfl, b_X6_pass_191, if_pos (by decide), if_pos rfl, b_X6_pass_214, if_pos (by decide)]
        refine step _ ?_ ?_ (fun a ha => by rw [tl_upo2 ha, tl_upo2 ha, tl_upo2 ha]) (fun k hk => ?_)
        · rw [es]
          refine ⟨fun j hj => ?_, ?_, ?_⟩
          · rw [tl_upi2, if_neg (show ¬ 10 + j = (136 : Int32).toNatClampNeg by show ¬ 10 + j = 136; omega), tl_upi2, if_neg (show ¬ 10 + j = (135 : Int32).toNatClampNeg by show ¬ 10 + j = 135; omega), tl_upi2]
            split
            · rename_i hj2
              rw [Int32.sub_zero, show q_dw t d = j by omega]
            · exact hR.1 j hj
          · show am_up _ 62 136 _ 62 135 = _
            rw [tl_upi2, if_neg (by omega)]
            show am_up _ 62 135 _ 62 135 = _
            rw [tl_upi2, if_pos rfl, tl_upi2, if_neg (by omega), hR.2.1, Int32.or_zero]
          · show am_up _ 62 136 _ 62 136 = _
            rw [tl_upi2, if_pos rfl]
            show am_up _ 62 135 _ 62 136 ||| _ = _
            rw [tl_upi2, if_neg (by omega), tl_upi2, if_neg (by omega), hR.2.2, n_shl d (by omega), n_or]
        · show am_up _ 62 136 _ 62 137 = _
          rw [tl_upi2, if_neg (by omega)]
          show am_up _ 62 135 _ 62 137 = _
          rw [tl_upi2, if_neg (by omega), tl_upi2, if_neg (by omega)]; exact h6
        · show am_up _ 62 136 _ 62 k = _
          rw [tl_upi2, if_neg (by omega)]
          show am_up _ 62 135 _ 62 k = _
          rw [tl_upi2, if_neg (by omega), tl_upi2, if_neg (by omega)]
    · have es : sDs t hr (d + 1) r0 = sDs t hr d r0 := by rw [sDs, sD, if_neg hd]
      rw [if_neg (fun q => hd ((nI_eq (by omega) (by omega)).mp q))]
      exact step D (by rw [es]; exact hR) h6 (fun _ _ => rfl) (fun _ _ => rfl)
theorem m_hour {P : Nat} {t : To} {s : Mo} {D : am_M} (hpe : q_pe t = P) (ht : bTo t) (hs : bMo P s) (hhr : o_hr s ≤ 200000) (hT : mTo t D) (hM : mMo P s D) : ∃ D', f_X6_pass D = some D' ∧ mMo P (sHour t s) D' ∧ ∀ a, a ≠ 62 → D' a = D a := by
  have hP5 : P ≤ 5 := by rw [← hpe]; exact ht.2.2.2.1
  obtain ⟨m1, m2, m3, m4, m5, m6, m7, m8⟩ := hM
  have hb := hs
  obtain ⟨b1, b2, b3, b4, b5, b6, b7⟩ := hb
  have e24 : D 62 137 - D 62 137 / 24 * 24 = nI (o_hr s % 24) := by rw [m7]; exact pk_rem (d := 24) (by omega) (by omega) (by omega)
  have hT' := hT
  obtain ⟨t0, t1, t2, t3, t4, t5, t6, t7, t8⟩ := hT'
  obtain ⟨D1, p1, p2, p3, p4⟩ := m_people (P := P) (h := o_hr s % 24) (hr := o_hr s) (t := t) (ro := o_ro s) (q0 := (o_ti s, o_sl s, o_pu s, 0)) hP5 hpe (Nat.mod_lt _ (by omega)) hhr ht ⟨b1, fun p hp => Nat.le_succ_of_le (b2 p hp), b3, Nat.zero_le _⟩ b2 b4 P 0 am_N D (by omega) (by show P < 100000; omega) ⟨m1, m2, m3⟩ t0 t1 t2 (by rw [t3, hpe]) m4
  have hq := sPs_b (P := P) (hr := o_hr s) (t := t) (ro := o_ro s) (h := o_hr s % 24) (q := (o_ti s, o_sl s, o_pu s, 0)) ⟨b1, fun p hp => Nat.le_succ_of_le (b2 p hp), b3, Nat.zero_le _⟩ b2 P (Nat.le_refl _)
  have hT1 : mTo t D1 := by
    unfold mTo at hT ⊢
    rw [p3 56 (by decide), p3 57 (by decide), p3 58 (by decide), p3 59 (by decide), p3 60 (by decide), p3 61 (by decide)]
    exact hT
  obtain ⟨D2, d1, d2, d3, d4, d5⟩ := m_debts (P := P) (hr := o_hr s) (t := t) (r0 := ((sPs t (o_ro s) (o_hr s % 24) P (o_ti s, o_sl s, o_pu s, 0)).2.2.1, o_pa s, o_mi s)) hP5 hpe hhr ht hq.2.2.1 b5 b6 (q_dn t) 0 am_N D1 (by omega) (by have := ht.2.2.2.2.2.1; show q_dn t < 100000; omega) ⟨p2.2.2, by rw [p4 135 (by omega)]; exact m5, by rw [p4 136 (by omega)]; exact m6⟩ hT1 (by rw [p4 137 (by omega)]; exact m7)
  refine ⟨D2, ?_, ?_, fun a ha => by rw [d4 a ha, p3 a ha]⟩
  · rw [f_X6_pass, e24]
    exact p1.trans d1
  · have hh : sHour t s = ((sPs t (o_ro s) (o_hr s % 24) P (o_ti s, o_sl s, o_pu s, 0)).1, (sPs t (o_ro s) (o_hr s % 24) P (o_ti s, o_sl s, o_pu s, 0)).2.1, (sDs t (o_hr s) (q_dn t) ((sPs t (o_ro s) (o_hr s % 24) P (o_ti s, o_sl s, o_pu s, 0)).2.2.1, o_pa s, o_mi s)).1, o_ro s, (sDs t (o_hr s) (q_dn t) ((sPs t (o_ro s) (o_hr s % 24) P (o_ti s, o_sl s, o_pu s, 0)).2.2.1, o_pa s, o_mi s)).2.1, (sDs t (o_hr s) (q_dn t) ((sPs t (o_ro s) (o_hr s % 24) P (o_ti s, o_sl s, o_pu s, 0)).2.2.1, o_pa s, o_mi s)).2.2, o_hr s + 1, o_se s) := by rw [← hpe]; rfl
    rw [hh]
    refine ⟨fun p hp => ?_, fun p hp => ?_, d2.1, fun k hk => ?_, d2.2.1, d2.2.2, d3, ?_⟩
    · rw [d5 p (by omega)]; exact p2.1 p hp
    · rw [d5 (5 + p) (by omega)]; exact p2.2.1 p hp
    · rw [d5 (15 + k) (by omega), p4 (15 + k) (by omega)]; exact m4 k hk
    · rw [d4 56 (by decide), p3 56 (by decide)]; exact m8
