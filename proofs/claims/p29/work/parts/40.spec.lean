/-! the state that both sides hold, in whole numbers -/
abbrev Mo : Type := (Nat → Nat) × (Nat → Nat) × (Nat → Nat) × (Nat → Nat) × Nat × Nat × Nat × Nat
abbrev o_ti (s : Mo) : Nat → Nat := s.1
abbrev o_sl (s : Mo) : Nat → Nat := s.2.1
abbrev o_pu (s : Mo) : Nat → Nat := s.2.2.1
abbrev o_ro (s : Mo) : Nat → Nat := s.2.2.2.1
abbrev o_pa (s : Mo) : Nat := s.2.2.2.2.1
abbrev o_mi (s : Mo) : Nat := s.2.2.2.2.2.1
abbrev o_hr (s : Mo) : Nat := s.2.2.2.2.2.2.1
abbrev o_se (s : Mo) : Nat := s.2.2.2.2.2.2.2
abbrev To : Type := Nat × Nat × Nat × Nat × Nat × Nat × (Nat → Nat) × (Nat → Nat) × (Nat → Nat) × (Nat → Nat) × (Nat → Nat)
abbrev q_be (t : To) : Nat := t.1
abbrev q_de (t : To) : Nat := t.2.1
abbrev q_ga (t : To) : Nat := t.2.2.1
abbrev q_pe (t : To) : Nat := t.2.2.2.1
abbrev q_cn (t : To) : Nat := t.2.2.2.2.1
abbrev q_dn (t : To) : Nat := t.2.2.2.2.2.1
abbrev q_co (t : To) : Nat → Nat := t.2.2.2.2.2.2.1
abbrev q_dw (t : To) : Nat → Nat := t.2.2.2.2.2.2.2.1
abbrev q_dh (t : To) : Nat → Nat := t.2.2.2.2.2.2.2.2.1
abbrev q_dv (t : To) : Nat → Nat := t.2.2.2.2.2.2.2.2.2.1
abbrev q_ya (t : To) : Nat → Nat := t.2.2.2.2.2.2.2.2.2.2
def un (f : Nat → Nat) (k v : Nat) : Nat → Nat := fun j => if j = k then v else f j
theorem un_s {f : Nat → Nat} {k v : Nat} : un f k v k = v := by simp [un]
theorem un_n {f : Nat → Nat} {k v j : Nat} (h : j ≠ k) : un f k v j = f j := by simp [un, h]
/-- a moment of the class at M; the reference's -/
def cMo (M P : Nat) (s : Mo) (D : am_M) : Prop := (∀ p, p < P → D (M + 1) p = nI (o_ti s p)) ∧ (∀ p, p < P → D (M + 2) p = nI (o_sl s p)) ∧ (∀ p, p < P → D (M + 3) p = nI (o_pu s p)) ∧ (∀ k, k < 24 * P → D (M + 4) k = nI (o_ro s k)) ∧ D M 4 = nI (o_pa s) ∧ D M 5 = nI (o_mi s) ∧ D M 6 = nI (o_hr s) ∧ D M 7 = nI (o_se s)
def mMo (P : Nat) (s : Mo) (D : am_M) : Prop := (∀ p, p < P → D 62 p = nI (o_ti s p)) ∧ (∀ p, p < P → D 62 (5 + p) = nI (o_sl s p)) ∧ (∀ p, p < P → D 62 (10 + p) = nI (o_pu s p)) ∧ (∀ k, k < 24 * P → D 62 (15 + k) = nI (o_ro s k)) ∧ D 62 135 = nI (o_pa s) ∧ D 62 136 = nI (o_mi s) ∧ D 62 137 = nI (o_hr s) ∧ D 56 12 = nI (o_se s)
def bMo (P : Nat) (s : Mo) : Prop := (∀ p, p < P → o_ti s p ≤ 99) ∧ (∀ p, p < P → o_sl s p ≤ o_hr s) ∧ (∀ p, p < P → o_pu s p ≤ 9999) ∧ (∀ k, k < 24 * P → o_ro s k ≤ 2) ∧ o_pa s < 256 ∧ o_mi s < 256 ∧ o_se s < 2147483648
def cTo (T : Nat) (t : To) (D : am_M) : Prop := D T 0 = nI (q_be t) ∧ D T 1 = nI (q_de t) ∧ D T 2 = nI (q_ga t) ∧ D T 3 = nI (q_pe t) ∧ D T 4 = nI (q_cn t) ∧ D T 5 = nI (q_dn t) ∧ (∀ c, c < q_cn t → D (T + 1) c = nI (q_co t c)) ∧ (∀ d, d < q_dn t → D (T + 2) d = nI (q_dw t d) ∧ D (T + 3) d = nI (q_dh t d) ∧ D (T + 4) d = nI (q_dv t d)) ∧ ∀ p, p < q_pe t → D (T + 5) p = nI (q_ya t p)
def mTo (t : To) (D : am_M) : Prop := D 56 0 = nI (q_be t) ∧ D 56 1 = nI (q_de t) ∧ D 56 2 = nI (q_ga t) ∧ D 56 3 = nI (q_pe t) ∧ D 56 5 = nI (q_cn t) ∧ D 56 7 = nI (q_dn t) ∧ (∀ c, c < q_cn t → D 58 c = nI (q_co t c)) ∧ (∀ d, d < q_dn t → D 59 d = nI (q_dw t d) ∧ D 60 d = nI (q_dh t d) ∧ D 61 d = nI (q_dv t d)) ∧ ∀ p, p < q_pe t → D 57 p = nI (q_ya t p)
def bTo (t : To) : Prop := q_be t ≤ 5 ∧ q_de t ≤ 9 ∧ q_ga t ≤ 9 ∧ q_pe t ≤ 5 ∧ q_cn t ≤ 4 ∧ q_dn t ≤ 8 ∧ (∀ c, c < q_cn t → 2 ≤ q_co t c ∧ q_co t c ≤ 60) ∧ (∀ d, d < q_dn t → q_dw t d < q_pe t ∧ q_dh t d ≤ 71 ∧ 1 ≤ q_dv t d ∧ q_dv t d ≤ 99) ∧ (∀ p, p < q_pe t → 1 ≤ q_ya t p ∧ q_ya t p ≤ 20) ∧ (0 < q_pe t → 1 ≤ q_be t ∧ 2 ≤ q_de t ∧ 1 ≤ q_ga t)
/-- an hour, person by person -/
abbrev Pq : Type := (Nat → Nat) × (Nat → Nat) × (Nat → Nat) × Nat
def sP (t : To) (ro : Nat → Nat) (h p : Nat) (q : Pq) : Pq :=
  if ro (24 * p + h) = 0 ∧ 0 < q.1 p ∧ q.2.2.2 < q_be t then (un q.1 p (q.1 p - 4), un q.2.1 p (q.2.1 p + 1), un q.2.2.1 p (min (q.2.2.1 p + (if q_de t ≤ q.2.1 p + 1 then q_ga t else 1)) 9999), q.2.2.2 + 1)
  else (un q.1 p (min (q.1 p + (if ro (24 * p + h) = 1 then 3 else 1)) 99), un q.2.1 p 0, q.2.2.1, q.2.2.2)
def sPs (t : To) (ro : Nat → Nat) (h : Nat) : Nat → Pq → Pq
  | 0, q => q
  | p + 1, q => sP t ro h p (sPs t ro h p q)
abbrev Dq : Type := (Nat → Nat) × Nat × Nat
def sD (t : To) (hr d : Nat) (q : Dq) : Dq :=
  if q_dh t d = hr then (if q_dv t d ≤ q.1 (q_dw t d) then (un q.1 (q_dw t d) (q.1 (q_dw t d) - q_dv t d), q.2.1 ||| 2 ^ d, q.2.2) else (q.1, q.2.1, q.2.2 ||| 2 ^ d)) else q
def sDs (t : To) (hr : Nat) : Nat → Dq → Dq
  | 0, q => q
  | d + 1, q => sD t hr d (sDs t hr d q)
def sHour (t : To) (s : Mo) : Mo :=
  let q := sPs t (o_ro s) (o_hr s % 24) (q_pe t) (o_ti s, o_sl s, o_pu s, 0)
  let r := sDs t (o_hr s) (q_dn t) (q.2.2.1, o_pa s, o_mi s)
  (q.1, q.2.1, r.1, o_ro s, r.2.1, r.2.2, o_hr s + 1, o_se s)
def bP (P hr : Nat) (t : To) (q : Pq) : Prop := (∀ p, p < P → q.1 p ≤ 99) ∧ (∀ p, p < P → q.2.1 p ≤ hr + 1) ∧ (∀ p, p < P → q.2.2.1 p ≤ 9999) ∧ q.2.2.2 ≤ q_be t
theorem sP_b {P hr : Nat} {t : To} {ro : Nat → Nat} {h p : Nat} {q : Pq} (hq : bP P hr t q) (hs : q.2.1 p ≤ hr) : bP P hr t (sP t ro h p q) := by
  obtain ⟨b1, b2, b3, b4⟩ := hq
  unfold sP
  split
  · rename_i hc
    refine ⟨fun j hj => ?_, fun j hj => ?_, fun j hj => ?_, by show q.2.2.2 + 1 ≤ _; omega⟩
    · show un q.1 p _ j ≤ 99
      unfold un; split
      · rename_i e; have := b1 j hj; rw [e] at this; omega
      · exact b1 j hj
    · show un q.2.1 p _ j ≤ hr + 1
      unfold un; split
      · omega
      · exact b2 j hj
    · show un q.2.2.1 p _ j ≤ 9999
      unfold un; split
      · exact Nat.min_le_right _ _
      · exact b3 j hj
  · refine ⟨fun j hj => ?_, fun j hj => ?_, b3, b4⟩
    · show un q.1 p _ j ≤ 99
      unfold un; split
      · exact Nat.min_le_right _ _
      · exact b1 j hj
    · show un q.2.1 p _ j ≤ hr + 1
      unfold un; split
      · omega
      · exact b2 j hj
theorem sPs_o {t : To} {ro : Nat → Nat} {h : Nat} {q : Pq} : ∀ (n j : Nat), n ≤ j → (sPs t ro h n q).1 j = q.1 j ∧ (sPs t ro h n q).2.1 j = q.2.1 j ∧ (sPs t ro h n q).2.2.1 j = q.2.2.1 j := by
  intro n
  induction n with
  | zero => intro j _; exact ⟨rfl, rfl, rfl⟩
  | succ n ih =>
    intro j hj
    obtain ⟨i1, i2, i3⟩ := ih j (by omega)
    rw [sPs]
    unfold sP
    split
    · exact ⟨by show un _ n _ j = _; rw [un_n (by omega), i1], by show un _ n _ j = _; rw [un_n (by omega), i2], by show un _ n _ j = _; rw [un_n (by omega), i3]⟩
    · exact ⟨by show un _ n _ j = _; rw [un_n (by omega), i1], by show un _ n _ j = _; rw [un_n (by omega), i2], i3⟩
theorem sPs_b {P hr : Nat} {t : To} {ro : Nat → Nat} {h : Nat} {q : Pq} (hq : bP P hr t q) (hs : ∀ p, p < P → q.2.1 p ≤ hr) : ∀ n, n ≤ P → bP P hr t (sPs t ro h n q) := by
  intro n
  induction n with
  | zero => intro _; exact hq
  | succ n ih =>
    intro hn
    exact sP_b (ih (by omega)) (by rw [(sPs_o n n (Nat.le_refl _)).2.1]; exact hs n (by omega))
theorem sDs_b {P : Nat} {t : To} {hr : Nat} (hw : ∀ d, d < q_dn t → q_dw t d < P) {q : Dq} (h1 : ∀ p, p < P → q.1 p ≤ 9999) (h2 : q.2.1 < 256) (h3 : q.2.2 < 256) (h8 : q_dn t ≤ 8) : ∀ n, n ≤ q_dn t → (∀ p, p < P → (sDs t hr n q).1 p ≤ 9999) ∧ (sDs t hr n q).2.1 < 256 ∧ (sDs t hr n q).2.2 < 256 := by
  intro n
  induction n with
  | zero => intro _; exact ⟨h1, h2, h3⟩
  | succ n ih =>
    intro hn
    obtain ⟨i1, i2, i3⟩ := ih (by omega)
    have hp : 2 ^ n < 2 ^ 8 := Nat.pow_lt_pow_right (by omega) (by omega)
    rw [sDs]
    unfold sD
    split
    · split
      · refine ⟨fun p hp => ?_, Nat.or_lt_two_pow (n := 8) i2 hp, i3⟩
        show un _ _ _ p ≤ _
        unfold un; split
        · have := i1 (q_dw t n) (hw n (by omega)); omega
        · exact i1 p hp
      · exact ⟨i1, i2, Nat.or_lt_two_pow (n := 8) i3 hp⟩
    · exact ⟨i1, i2, i3⟩
theorem sHour_b {P : Nat} {t : To} {s : Mo} (ht : bTo t) (hP : q_pe t = P) (hs : bMo P s) : bMo P (sHour t s) := by
  obtain ⟨b1, b2, b3, b4, b5, b6, b7⟩ := hs
  have hq : bP P (o_hr s) t (sPs t (o_ro s) (o_hr s % 24) (q_pe t) (o_ti s, o_sl s, o_pu s, 0)) := sPs_b ⟨b1, fun p hp => Nat.le_succ_of_le (b2 p hp), b3, Nat.zero_le _⟩ b2 (q_pe t) (by omega)
  obtain ⟨-, -, -, -, -, h8, -, hd, -⟩ := ht
  have hr := sDs_b (t := t) (hr := o_hr s) (P := P) (fun d h => by rw [← hP]; exact (hd d h).1) (q := ((sPs t (o_ro s) (o_hr s % 24) (q_pe t) (o_ti s, o_sl s, o_pu s, 0)).2.2.1, o_pa s, o_mi s)) hq.2.2.1 b5 b6 h8 (q_dn t) (Nat.le_refl _)
  exact ⟨hq.1, hq.2.1, hr.1, b4, hr.2.1, hr.2.2, b7⟩
