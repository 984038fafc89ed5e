/-! hours -/
theorem tl_N : am_N = 99999 + 1 := rfl
def itH (t : To) : Nat → Mo → Mo
  | 0, s => s
  | m + 1, s => itH t m (sHour t s)
theorem itH_hr {t : To} : ∀ (m : Nat) (s : Mo), o_hr (itH t m s) = o_hr s + m := by
  intro m
  induction m with
  | zero => intro s; rfl
  | succ m ih => intro s; rw [itH, ih]; show o_hr s + 1 + m = _; omega
theorem itH_b {t : To} (ht : bTo t) : ∀ (m : Nat) (s : Mo), bMo (q_pe t) s → bMo (q_pe t) (itH t m s) := by
  intro m
  induction m with
  | zero => intro s h; exact h
  | succ m ih => intro s h; exact ih _ (sHour_b ht rfl h)
theorem c_hours {M T : Nat} {t : To} {N : Nat} (hTM : T + 11 ≤ M) (ht : bTo t) (hN : N ≤ 1000) : ∀ (m i n : Nat) (s : Mo) (D : am_M), i + m = N → m < n → bMo (q_pe t) s → o_hr s + m ≤ 200000 → cTo T t D → cMo M (q_pe t) s D → ∃ D', b_X2_passHours_2 M T n (nI N) (nI i) D = some D' ∧ cMo M (q_pe t) (itH t m s) D' ∧ ∀ a, a ≠ M → a ≠ M + 1 → a ≠ M + 2 → a ≠ M + 3 → D' a = D a := by
  intro m
  induction m with
  | zero =>
    intro i n s D hm hn hs hh hT hM
    obtain ⟨n, rfl⟩ : ∃ q, n = q + 1 := ⟨n - 1, by omega⟩
    have : i = N := by omega
    subst this
    exact ⟨D, by rw [b_X2_passHours_2, if_pos (nI_le (Nat.le_refl _) (by omega))], hM, fun _ _ _ _ _ => rfl⟩
  | succ m ih =>
    intro i n s D hm hn hs hh hT hM
    obtain ⟨n, rfl⟩ : ∃ q, n = q + 1 := ⟨n - 1, by omega⟩
    obtain ⟨D1, c1, c2, c3⟩ := c_hour (M := M) (T := T) hTM rfl ht hs (by omega) hT hM
    obtain ⟨D', i1, i2, i3⟩ := ih (i + 1) n (sHour t s) D1 (by omega) (by omega) (sHour_b ht rfl hs) (by show o_hr s + 1 + m ≤ _; omega) (cTo_f (fun a _ _ => c3 a (by omega) (by omega) (by omega) (by omega)) hT) c2
    exact ⟨D', by rw [b_X2_passHours_2, if_neg (nI_ge (by omega) (by omega)), c1, Option.bind_some, nI_1]; exact i1, i2, fun a a1 a2 a3 a4 => by rw [i3 a a1 a2 a3 a4, c3 a a1 a2 a3 a4]⟩
theorem m_hours {t : To} {N : Nat} (ht : bTo t) (hN : N ≤ 1000) : ∀ (m i n : Nat) (s : Mo) (D : am_M), i + m = N → m < n → bMo (q_pe t) s → o_hr s + m ≤ 200000 → mTo t D → mMo (q_pe t) s D → ∃ D', b_X6_hour_8 n (nI N) 0 (nI i) D = some (nI (o_hr s + m), D') ∧ mMo (q_pe t) (itH t m s) D' ∧ ∀ a, a ≠ 62 → D' a = D a := by
  intro m
  induction m with
  | zero =>
    intro i n s D hm hn hs hh hT hM
    obtain ⟨n, rfl⟩ : ∃ q, n = q + 1 := ⟨n - 1, by omega⟩
    have : i = N := by omega
    subst this
    exact ⟨D, by rw [b_X6_hour_8, if_pos (nI_le (Nat.le_refl _) (by omega)), b_X6_hour_27, if_pos rfl, hM.2.2.2.2.2.2.1]; rfl, hM, fun _ _ => rfl⟩
  | succ m ih =>
    intro i n s D hm hn hs hh hT hM
    obtain ⟨n, rfl⟩ : ∃ q, n = q + 1 := ⟨n - 1, by omega⟩
    obtain ⟨D1, c1, c2, c3⟩ := m_hour rfl ht hs (by omega) hT hM
    obtain ⟨D', i1, i2, i3⟩ := ih (i + 1) n (sHour t s) D1 (by omega) (by omega) (sHour_b ht rfl hs) (by show o_hr s + 1 + m ≤ _; omega) (mTo_f (fun k _ => by rw [c3 56 (by decide)]) (fun a _ _ => c3 a (by omega)) hT) c2
    refine ⟨D', ?_, i2, fun a a1 => by rw [i3 a a1, c3 a a1]⟩
    rw [b_X6_hour_8, if_neg (nI_ge (by omega) (by omega)), if_pos rfl, c1, Option.bind_some, nI_1, i1]
    show some (nI (o_hr s + 1 + m), D') = _
    rw [show o_hr s + 1 + m = o_hr s + (m + 1) by omega]
/-- the refusals of hours -/
def rH (t : To) (s : Mo) (a : Int32) : Int32 := if f_X5_isWithin a 1 96 = 0 then (-1000000002) else if nI (q_be t) = 0 then (-1000000003) else if nI (o_hr s) ≤ 90000 then 0 else (-1000000004)
theorem c_rH {tw : Nat} {t : To} {s : Mo} {D : am_M} (h : cTo tw t D) (h2 : D 25 6 = nI (o_hr s)) (a : Int32) : f_X5_refusalOfHours tw a D = rH t s a := by rw [f_X5_refusalOfHours, h.1, h2, rH]
theorem m_rH {t : To} {s : Mo} {D : am_M} (h : mTo t D) (h2 : D 62 137 = nI (o_hr s)) (a : Int32) : f_X6_hoursRefused a D = rH t s a := by rw [f_X6_hoursRefused, h.1, h2, rH, in_6 a 1 96 1 96 rfl rfl]
theorem rH_0 {t : To} {s : Mo} {a : Int32} (hh : o_hr s < 2 ^ 31) (h : rH t s a = 0) : ∃ n, 1 ≤ n ∧ n ≤ 96 ∧ a = nI n ∧ o_hr s ≤ 90000 := by
  unfold rH at h
  split at h
  · exact absurd h (by decide)
  · rename_i hw
    obtain ⟨n, n1, n2, rfl⟩ := tl_w1n (a := 1) (b := 96) (by decide) hw (by decide)
    split at h
    · exact absurd h (by decide)
    · split at h
      · rename_i h9
        exact ⟨n, n1, n2, rfl, (nI_leI (b := 90000) hh (by decide)).mp h9⟩
      · exact absurd h (by decide)
theorem so_hour {k tw : Nat} {tp : Bool} {D : am_M} (h : Sim k tw tp D) (a : Int32) : ∃ (r : Int32) (D1 D2 : am_M), f_X5_hour tw a D = some (r, D1) ∧ f_X6_hour a D1 = some (r, D2) ∧ Sim (k + 1) tw tp D2 := by
  have h0 := h
  obtain ⟨t, s, q⟩ := h
  have q3 := q.2.2.1
  have q4 := q.2.2.2.1
  have ht := q.2.1
  obtain ⟨l1, l2⟩ := lyT_le q.1
  obtain ⟨nb, nh, n3, n4⟩ := q.2.2.2.2.1
  by_cases hr : rH t s a = 0
  · obtain ⟨n, n1, n2, rfl, n5⟩ := rH_0 (by omega) hr
    obtain ⟨D1, c1, c2, c3⟩ := c_hours (M := 25) (T := tw) (N := n) (by omega) ht (by omega) n 0 am_N s D (by omega) (by show n < 100000; omega) nb (by omega) q3 n3
    have hT1 : mTo t D1 := mTo_f (fun i _ => by rw [c3 56 (by decide) (by decide) (by decide) (by decide)]) (fun a _ _ => c3 a (by omega) (by omega) (by omega) (by omega)) q4
    have hM1 : mMo (q_pe t) s D1 := mMo_f (c3 62 (by decide) (by decide) (by decide) (by decide)) (by rw [c3 56 (by decide) (by decide) (by decide) (by decide)]) n4
    obtain ⟨D2, m1, m2, m3⟩ := m_hours (N := n) ht (by omega) n 0 am_N s D1 (by omega) (by show n < 100000; omega) nb (by omega) hT1 hM1
    have c1' : f_X2_passHours 25 tw (nI n) D = some D1 := c1
    have hhr : o_hr (itH t n s) = o_hr s + n := itH_hr n s
    refine ⟨nI (o_hr s + n), D1, D2, ?_, ?_, t, itH t n s, Si_n q (fun a a1 a2 a3 _ => by rw [m3 a a2, c3 a (by omega) (by omega) (by omega) (by omega)]) (fun i _ => by rw [m3 56 (by decide), c3 56 (by decide) (by decide) (by decide) (by decide)]) ⟨itH_b ht n s nb, by omega, cMo_f (fun a _ _ => m3 a (by omega)) c2, m2⟩⟩
    · rw [f_X5_hour, c_rH q3 n3.2.2.2.2.2.2.1, if_pos hr, c1', Option.bind_some, c2.2.2.2.2.2.2.1, hhr]
    · rw [f_X6_hour, m_rH hT1 hM1.2.2.2.2.2.2.1, hr]
      exact m1
  · refine ⟨rH t s a, D, D, by rw [f_X5_hour, c_rH q3 n3.2.2.2.2.2.2.1, if_neg hr], ?_, h0⟩
    rw [f_X6_hour, m_rH q4 n4.2.2.2.2.2.2.1, tl_N, b_X6_hour_8, if_neg hr, b_X6_hour_27, if_neg hr]
    split <;> rfl
