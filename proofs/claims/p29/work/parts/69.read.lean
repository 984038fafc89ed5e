/-! a clause, the whole text -/
theorem t_end {tw T n p : Nat} {tx : Nat → Nat} {D E : am_M} {oc : Option am_M} {om : Option (Int32 × am_M)} (hL : T + 10 < 12 ∨ 13 < T) (hX : Tx n tx D E) (h : BR T n p D E oc om) : BR T n p D E (oc.bind fun q => b_X3_readClause_128 tw q) (om.bind fun q => b_X6_takeClause_242 q.1 q.2) := by
  rcases h with ⟨q, D1, E1, t, ti, pu, ro, yt, rfl, rfl, h3, h4, h5, h6, h7, h8, h9, h10⟩ | ⟨f, w, D1, E1, rfl, rfl, h3, h4, h5⟩
  · have hX1 := Tx_F hL hX h9 h10
    obtain ⟨q1, ch, D2, E2, i1, i2, i3, i4, i5, i6, i7⟩ := t_pk (tw := tw) hX1 h4
    have n250 := hX.1
    have hq := i4.1
    have c2 := FC_t h9 (FC_c i5)
    have m2 := FM_t h10 (FM_m i6)
    have ec : (some D1).bind (fun q => b_X3_readClause_128 tw q) = if ch = 59 then some (am_up D2 12 1 (nI (q1 + 1))) else some (am_up (am_up D2 12 5 1) 12 6 (nI q1)) := by
      rw [Option.bind_some, b_X3_readClause_128, t_good h4, if_neg (by decide), f_X3_expect, i1]
      dsimp only [Option.bind_some]
      rw [t_fail i4, i4.2.1, nI_1]
      by_cases hc : ch = 59
      · rw [if_pos hc, if_pos hc]; rfl
      · rw [if_neg hc, if_neg hc]; rfl
    have em : (some ((0 : Int32), E1)).bind (fun q => b_X6_takeClause_242 q.1 q.2) = if ch = 59 then some (0, am_up E2 56 16 (nI (q1 + 1))) else some (nI 1, am_up E2 56 15 (nI q1)) := by
      rw [Option.bind_some, b_X6_takeClause_242, if_pos rfl, i2]
      dsimp only [Option.bind_some]
      rw [f_X6_fails, b_X6_takeClause_268, i4.2.2.1, nI_1]
      by_cases hc : ch = 59
      · rw [if_pos hc, if_pos hc]
      · rw [if_neg hc, if_neg hc]; rfl
    rw [ec, em]
    by_cases hc : ch = 59
    · have hqn : q1 < n := by
        rcases i7 with ⟨x, -⟩ | ⟨-, x⟩
        · exact x
        · rw [x] at hc; exact absurd hc (by decide)
      rw [if_pos hc, if_pos hc]
      exact Or.inl ⟨q1 + 1, _, _, t, ti, pu, ro, yt, rfl, rfl, by omega, At_s i4 hqn, h5, PC_c hL (Fc_t i5 (Fc_u (by decide))) h6, PM_m (Fm_t i6 (Fm_u (by decide) (by decide))) h7, h8, FC_t c2 (FC_c (Fc_u (by decide))), FM_t m2 (FM_k (by omega))⟩
    · rw [if_neg hc, if_neg hc]
      exact Or.inr ⟨1, q1, _, _, rfl, rfl, t_bd i4 (by decide) (by decide) (by omega), FC_t c2 (FC_c t_ffl), FM_t m2 (FM_k (by omega))⟩
  · have hf1 := h3.1
    have hf4 := h3.2.1
    refine Or.inr ⟨f, w, D1, am_up E1 56 16 (E1 56 16 + 1), ?_, ?_, Bd_o rfl (by rw [tl_upi2, if_neg (by decide)]) h3, h4, FM_t h5 (FM_k (by omega))⟩
    · rw [Option.bind_some, b_X3_readClause_128, t_notg h3.2.2.2.1 hf1 hf4, if_pos rfl]
    · rw [Option.bind_some, b_X6_takeClause_242, if_neg (nI_ne0 (by omega) (by omega)), b_X6_takeClause_268]
theorem BR_m {T n p q : Nat} {D E : am_M} {oc : Option am_M} {om : Option (Int32 × am_M)} (h : BR T n q D E oc om) (hpq : p ≤ q) : BR T n p D E oc om := by
  rcases h with ⟨q1, D1, E1, t, ti, pu, ro, yt, h1, h2, h3, h4⟩ | h
  · exact Or.inl ⟨q1, D1, E1, t, ti, pu, ro, yt, h1, h2, by omega, h4⟩
  · exact Or.inr h
theorem BR_b {T n p : Nat} {D E D0 E0 : am_M} {oc : Option am_M} {om : Option (Int32 × am_M)} (c : FC T D0 D) (m : FM E0 E) (h : BR T n p D E oc om) : BR T n p D0 E0 oc om := by
  rcases h with ⟨q1, D1, E1, t, ti, pu, ro, yt, h1, h2, h3, h4, h5, h6, h7, h8, h9, h10⟩ | ⟨f, w, D1, E1, h1, h2, h3, h4, h5⟩
  · exact Or.inl ⟨q1, D1, E1, t, ti, pu, ro, yt, h1, h2, h3, h4, h5, h6, h7, h8, FC_t c h9, FM_t m h10⟩
  · exact Or.inr ⟨f, w, D1, E1, h1, h2, h3, FC_t c h4, FM_t m h5⟩
/-- one too many, and no clause at all -/
theorem t_full {tw T n p : Nat} {D E D' : am_M} {oc : Option am_M} (h1 : oc = some D') (h2 : Bd 3 p D' (am_up E 56 15 (nI p))) (h3 : FC T D D') : BR T n p D E (oc.bind fun q => b_X3_readClause_128 tw q) (some (nI 3, am_up E 56 15 (nI p))) := by
  refine Or.inr ⟨3, p, D', _, ?_, rfl, h2, h3, FM_k (by omega)⟩
  rw [h1, Option.bind_some, b_X3_readClause_128, t_notg h2.2.2.2.1 (by decide) (by decide), if_pos rfl]
theorem t_166 {x2 : Int32} {p : Nat} {E : am_M} (hE : E 56 16 = nI p) : b_X6_takeClause_166 x2 1 E = some (nI 3, am_up E 56 15 (nI p)) := by
  rw [b_X6_takeClause_166, if_neg (by decide), f_X6_fails, hE]; rfl
theorem t_clause {tw T n p : Nat} {tx : Nat → Nat} {t : To} {ti pu ro : Nat → Nat} {yt : Nat} {D E : am_M} (hT : 15 - tw = T) (hL : T + 10 < 12 ∨ 13 < T) (hX : Tx n tx D E) (hA : Atp n p D E) (hB : PB t ti pu ro yt) (hC : PC T t ti pu ro yt D) (hM : PM t ti pu ro yt E) : BR T n (p + 1) D E (f_X3_readClause tw D) (f_X6_takeClause E) := by
  obtain ⟨q, ch, D1, E1, i1, i2, i3, i4, i5, i6, i7⟩ := t_pk (tw := tw) hX hA
  have n250 := hX.1
  have hq := i4.1
  have hX1 := Tx_f hX i5 i6
  have hC1 := PC_c hL i5 hC
  have hM1 := PM_m i6 hM
  rw [f_X3_readClause, i1, f_X6_takeClause, i2]
  dsimp only [Option.bind_some]
  refine BR_b (FC_c i5) (FM_m i6) (BR_m ?_ (show p + 1 ≤ q + 1 by omega))
  clear hX hA hC hM i1 i2
  have none' : BR T n (q + 1) D1 E1 (some (am_up (am_up D1 12 5 1) 12 6 (nI q))) (some (nI 1, am_up E1 56 15 (nI q))) := Or.inr ⟨1, q, _, _, rfl, rfl, t_bd i4 (by decide) (by decide) (by omega), FC_c t_ffl, FM_k (by omega)⟩
  have e74 : b_X6_takeClause_74 E1 = some (nI 1, am_up E1 56 15 (nI q)) := by rw [b_X6_takeClause_74, f_X6_fails, i4.2.2.1]; rfl
  have efl : (f_X3_fail tw 1 (D1 12 1) D1) = some (am_up (am_up D1 12 5 1) 12 6 (nI q)) := by rw [t_fail i4, i4.2.1]
  have es : am_up E1 56 16 (E1 56 16 + 1) = am_up E1 56 16 (nI (q + 1)) := by rw [i4.2.2.1, nI_1]
  have hqn : ch = 109 ∨ ch = 112 ∨ ch = 99 ∨ ch = 100 ∨ ch = 117 → q < n := by
    intro hc
    rcases i7 with ⟨x, -⟩ | ⟨-, x⟩
    · exact x
    · rw [x] at hc; exact absurd hc (by decide)
  have hbe5 := hB.1.1
  have hpe5 := hB.1.2.2.2.1
  have hcn4 := hB.1.2.2.2.2.1
  have hdn8 := hB.1.2.2.2.2.2.1
  have d0 : D1 T 0 = nI (q_be t) := hC1.1.1
  have d3 : D1 T 3 = nI (q_pe t) := hC1.1.2.2.2.1
  have d4 : D1 T 4 = nI (q_cn t) := hC1.1.2.2.2.2.1
  have d5 : D1 T 5 = nI (q_dn t) := hC1.1.2.2.2.2.2.1
  have x0 : E1 64 0 = nI (q_be t) := hM1.1
  have x3 : E1 56 20 = nI (q_pe t) := hM1.2.2.2.1
  have x4 : E1 56 26 = nI (q_cn t) := hM1.2.2.2.2.1
  have x5 : E1 56 28 = nI (q_dn t) := hM1.2.2.2.2.2.1
  rw [hT]
  by_cases hbe : q_be t = 0
  · have z0 : D1 T 0 = 0 := by rw [d0, hbe]; rfl
    have z64 : E1 64 0 = 0 := by rw [x0, hbe]; rfl
    rw [if_pos z0]
    by_cases c1 : ch = 109
    · rw [if_pos c1, if_pos c1, c1, b_X3_readClause_31, if_neg (by decide), if_neg (by decide), if_pos rfl, b_X6_takeClause_56, if_neg (by decide), if_pos (by decide), b_X6_takeClause_84, if_pos rfl, z64, if_pos (by decide), b_X6_takeClause_166, if_pos rfl, if_pos rfl, es]
      exact t_end hL hX1 (t_beds hT hL hX1 i4 (hqn (Or.inl c1)) hB hC1 hM1 z0)
    · rw [if_neg c1, if_neg c1, efl]
      dsimp only [Option.bind_some]
      have em : ∀ s0 : Int32, (s0 < 0 ∨ ¬ s0 ≤ 0) → b_X6_takeClause_56 s0 E1 = some (nI 1, am_up E1 56 15 (nI q)) := by
        intro s0 h
        rw [b_X6_takeClause_56, z64, if_pos (show (0 : Int32) = 0 from rfl), e74]
        by_cases h1 : s0 < 0
        · rw [if_pos h1]
        · rw [if_neg h1, if_neg (h.resolve_left h1)]
      rw [em]
      · exact none'
      · repeat' split
        all_goals decide
  · have hb1 : 1 ≤ q_be t := by omega
    have z0 : ¬ D1 T 0 = 0 := by rw [d0]; exact nI_ne0 (by omega) (by omega)
    have z64 : ¬ E1 64 0 = 0 := by rw [x0]; exact nI_ne0 (by omega) (by omega)
    rw [if_neg z0]
    by_cases c1 : ch = 109
    · obtain ⟨D2, j1, j2, j3⟩ := t_beds1 hT hL i4 (by omega) z0
      rw [if_pos c1, c1, b_X3_readClause_31, if_neg (by decide), if_neg (by decide), if_pos rfl, b_X6_takeClause_56, if_neg (by decide), if_pos (by decide), b_X6_takeClause_84, if_pos rfl, if_neg (show ¬ E1 64 0 ≤ 0 by rw [x0]; exact nI_nle (by omega) (by omega)), t_166 i4.2.2.1]
      rcases t_full (tw := tw) (n := n) j1 j2 j3 with ⟨_, _, _, _, _, _, _, _, _, h2, _⟩ | h
      · exact absurd h2 (fun h => absurd (congrArg Prod.fst (Option.some.inj h)) (show ¬ nI 3 = (0 : Int32) by decide))
      · exact Or.inr h
    by_cases c2 : ch = 112
    · rw [if_neg c1, if_pos c2, c2, b_X3_readClause_31, if_neg (by decide), if_neg (by decide), if_neg (by decide), if_pos rfl, b_X6_takeClause_56, if_neg (by decide), if_neg (by decide), if_neg z64, b_X6_takeClause_84, if_neg (by decide), if_pos rfl]
      by_cases hf : q_pe t < 5
      · rw [if_neg (show ¬ E1 56 20 = 5 by rw [x3]; exact fun h => absurd ((nI_eq (b := 5) (by omega) (by omega)).mp h) (by omega)), b_X6_takeClause_166, if_pos rfl, if_neg (by decide), if_pos rfl, es]
        exact t_end hL hX1 (t_per hT hL hX1 i4 (hqn (Or.inr (Or.inl c2))) hB hC1 hM1 hb1 hf)
      · obtain ⟨D2, j1, j2, j3⟩ := t_per1 hT hL i4 (by omega) (show ¬ D1 T 3 < 5 by rw [d3]; exact nI_nlt (b := 5) (by omega) (by omega))
        rw [if_pos (show E1 56 20 = 5 by rw [x3, show q_pe t = 5 by omega]; rfl), t_166 i4.2.2.1]
        rcases t_full (tw := tw) (n := n) j1 j2 j3 with ⟨_, _, _, _, _, _, _, _, _, h2, _⟩ | h
        · exact absurd h2 (fun h => absurd (congrArg Prod.fst (Option.some.inj h)) (show ¬ nI 3 = (0 : Int32) by decide))
        · exact Or.inr h
    by_cases c3 : ch = 99
    · rw [if_neg c1, if_neg c2, if_pos c3, c3, b_X3_readClause_31, if_pos rfl, b_X6_takeClause_56, if_neg (by decide), if_neg (by decide), if_neg z64, b_X6_takeClause_84, if_neg (by decide), if_neg (by decide), if_pos rfl]
      by_cases hf : q_cn t < 4
      · rw [if_neg (show ¬ E1 56 26 = 4 by rw [x4]; exact fun h => absurd ((nI_eq (b := 4) (by omega) (by omega)).mp h) (by omega)), b_X6_takeClause_166, if_pos rfl, if_neg (by decide), if_neg (by decide), if_pos rfl, es]
        exact t_end hL hX1 (t_coin hT hL hX1 i4 (hqn (Or.inr (Or.inr (Or.inl c3)))) hB hC1 hM1 hb1 hf)
      · obtain ⟨D2, j1, j2, j3⟩ := t_coin1 hT hL i4 (by omega) hcn4 d4 hC1.1.2.2.2.2.2.2.1 (show ¬ D1 T 4 < 4 by rw [d4]; exact nI_nlt (b := 4) (by omega) (by omega))
        rw [if_pos (show E1 56 26 = 4 by rw [x4, show q_cn t = 4 by omega]; rfl), t_166 i4.2.2.1]
        rcases t_full (tw := tw) (n := n) j1 j2 j3 with ⟨_, _, _, _, _, _, _, _, _, h2, _⟩ | h
        · exact absurd h2 (fun h => absurd (congrArg Prod.fst (Option.some.inj h)) (show ¬ nI 3 = (0 : Int32) by decide))
        · exact Or.inr h
    by_cases c4 : ch = 100
    · rw [if_neg c1, if_neg c2, if_neg c3, if_pos c4, c4, b_X3_readClause_31, if_neg (by decide), if_pos rfl, b_X6_takeClause_56, if_neg (by decide), if_neg (by decide), if_neg z64, b_X6_takeClause_84, if_neg (by decide), if_neg (by decide), if_neg (by decide), if_pos rfl]
      by_cases hf : q_dn t < 8
      · rw [if_neg (show ¬ E1 56 28 = 8 by rw [x5]; exact fun h => absurd ((nI_eq (b := 8) (by omega) (by omega)).mp h) (by omega)), b_X6_takeClause_165, b_X6_takeClause_166, if_pos rfl, if_neg (by decide), if_neg (by decide), if_neg (by decide), if_pos rfl, es]
        exact t_end hL hX1 (t_debt hT hL hX1 i4 (hqn (Or.inr (Or.inr (Or.inr (Or.inl c4))))) hB hC1 hM1 hb1 hf)
      · obtain ⟨D2, j1, j2, j3⟩ := t_debt1 hT hL i4 (by omega) (show ¬ D1 T 5 < 8 by rw [d5]; exact nI_nlt (b := 8) (by omega) (by omega))
        rw [if_pos (show E1 56 28 = 8 by rw [x5, show q_dn t = 8 by omega]; rfl), t_166 i4.2.2.1]
        rcases t_full (tw := tw) (n := n) j1 j2 j3 with ⟨_, _, _, _, _, _, _, _, _, h2, _⟩ | h
        · exact absurd h2 (fun h => absurd (congrArg Prod.fst (Option.some.inj h)) (show ¬ nI 3 = (0 : Int32) by decide))
        · exact Or.inr h
    by_cases c5 : ch = 117
    · rw [if_neg c1, if_neg c2, if_neg c3, if_neg c4, if_pos c5, c5, b_X3_readClause_31, if_neg (by decide), if_neg (by decide), if_neg (by decide), if_neg (by decide), if_pos rfl, b_X6_takeClause_56, if_neg (by decide), if_neg (by decide), if_neg z64, b_X6_takeClause_84, if_neg (by decide), if_neg (by decide), if_neg (by decide), if_neg (by decide), b_X6_takeClause_165, b_X6_takeClause_166, if_pos rfl, if_neg (by decide), if_neg (by decide), if_neg (by decide), if_neg (by decide), es]
      exact t_end hL hX1 (t_yawn hT hL hX1 i4 (hqn (Or.inr (Or.inr (Or.inr (Or.inr c5))))) hB hC1 hM1 hb1)
    · rw [if_neg c1, if_neg c2, if_neg c3, if_neg c4, if_neg c5, b_X3_readClause_31, if_neg c3, if_neg c4, if_neg c1, if_neg c2, if_neg c5, efl, b_X6_takeClause_56, if_pos (by decide), e74]
      dsimp only [Option.bind_some]
      rw [b_X3_readClause_128, t_notg (f := 1) (by rw [tl_upi2, if_neg (by decide), tl_upi2, if_pos rfl]; rfl) (by decide) (by decide), if_pos rfl]
      exact none'
theorem t_loop {tw T n : Nat} {tx : Nat → Nat} (hT : 15 - tw = T) (hL : T + 10 < 12 ∨ 13 < T) : ∀ (m j k k' p : Nat) (t : To) (ti pu ro : Nat → Nat) (yt : Nat) (D E : am_M), j + m = 250 → m < k → m + 1 < k' → j ≤ p → Tx n tx D E → Atp n p D E → PB t ti pu ro yt → PC T t ti pu ro yt D → PM t ti pu ro yt E → (∃ q D' E' t ti pu ro yt, b_X3_read_24 tw k (nI j) D = b_X3_read_56 tw D' ∧ b_X6_capital_52 k' 0 E = b_X6_capital_71 0 E' ∧ Atp n q D' E' ∧ PB t ti pu ro yt ∧ PC T t ti pu ro yt D' ∧ PM t ti pu ro yt E' ∧ FC T D D' ∧ FM E E') ∨ (∃ f w D' E', b_X3_read_24 tw k (nI j) D = b_X3_read_56 tw D' ∧ b_X6_capital_52 k' 0 E = b_X6_capital_71 (nI f) E' ∧ Bd f w D' E' ∧ FC T D D' ∧ FM E E') := by
  intro m
  induction m with
  | zero =>
    intro j k k' p t ti pu ro yt D E hm hk hk' hj hX hA hB hC hM
    obtain ⟨k, rfl⟩ : ∃ q, k = q + 1 := ⟨k - 1, by omega⟩
    obtain ⟨k', rfl⟩ : ∃ q, k' = q + 1 := ⟨k' - 1, by omega⟩
    obtain ⟨q, ch, D1, E1, i1, i2, i3, i4, i5, i6, i7⟩ := t_pk (tw := tw) hX hA
    have n250 := hX.1
    have hp := hA.1
    have hq := i4.1
    have hch : ch = (-1) := by
      rcases i7 with ⟨x, -⟩ | ⟨-, x⟩
      · omega
      · exact x
    have hqp : q = p := by omega
    subst hqp
    refine Or.inl ⟨q, D, E1, t, ti, pu, ro, yt, ?_, ?_, ⟨hq, hA.2.1, i4.2.2.1, hA.2.2.2.1, hA.2.2.2.2.1, i4.2.2.2.2.2⟩, hB, hC, PM_m i6 hM, FC_c (Fc_r D), FM_m i6⟩
    · rw [b_X3_read_24, if_pos (show (250 : Int32) ≤ nI j from nI_le (a := 250) (by omega) (by omega))]
    · rw [b_X6_capital_52, if_pos rfl, i2, Option.bind_some, if_pos (show (ch, E1).1 < 0 from by show ch < 0; rw [hch]; decide)]
  | succ m ih =>
    intro j k k' p t ti pu ro yt D E hm hk hk' hj hX hA hB hC hM
    obtain ⟨k, rfl⟩ : ∃ q, k = q + 1 := ⟨k - 1, by omega⟩
    obtain ⟨k', rfl⟩ : ∃ q, k' = q + 1 := ⟨k' - 1, by omega⟩
    obtain ⟨q, ch, D1, E1, i1, i2, i3, i4, i5, i6, i7⟩ := t_pk (tw := tw) hX hA
    have n250 := hX.1
    have hX1 := Tx_f hX i5 i6
    have e1 : b_X3_read_24 tw (k + 1) (nI j) D = if ch = (-1) then b_X3_read_56 tw D1 else (f_X3_readClause tw D1).bind fun q47 => b_X3_read_24 tw k (nI (j + 1)) q47 := by
      rw [b_X3_read_24, if_neg (show ¬ (250 : Int32) ≤ nI j from nI_ge (b := 250) (by omega) (by omega)), t_good hA, if_neg (by decide), i1, Option.bind_some, nI_1]
    have e2 : b_X6_capital_52 (k' + 1) 0 E = if ch < 0 then b_X6_capital_71 0 E1 else (f_X6_takeClause E1).bind fun q64 => b_X6_capital_52 k' q64.1 q64.2 := by
      rw [b_X6_capital_52, if_pos rfl, i2, Option.bind_some]
    rw [e1, e2]
    rcases i7 with ⟨hq, hch⟩ | ⟨hq, hch⟩
    · have htx := (hX.2.2.2 q hq).1
      rw [if_neg (show ¬ ch = (-1) by rw [hch]; exact n_m1 (by omega)), if_neg (show ¬ ch < 0 by rw [hch]; exact nI_pos (by omega))]
      rcases t_clause hT hL hX1 i4 hB (PC_c hL i5 hC) (PM_m i6 hM) with ⟨q2, D2, E2, t2, ti2, pu2, ro2, yt2, h1, h2, h3, h4, h5, h6, h7, h8, h9, h10⟩ | ⟨f, w, D2, E2, h1, h2, h3, h4, h5⟩
      · rw [h1, h2, Option.bind_some, Option.bind_some]
        have c2 := FC_t (FC_c i5) h9
        have m2 := FM_t (FM_m i6) h10
        rcases ih (j + 1) k k' q2 t2 ti2 pu2 ro2 yt2 D2 E2 (by omega) (by omega) (by omega) (by omega) (Tx_F hL hX c2 m2) h4 h5 h6 h7 with ⟨q3, D', E', t', ti', pu', ro', yt', g1, g2, g3, g4, g5, g6, g7, g8⟩ | ⟨f, w, D', E', g1, g2, g3, g4, g5⟩
        · exact Or.inl ⟨q3, D', E', t', ti', pu', ro', yt', g1, g2, g3, g4, g5, g6, FC_t c2 g7, FM_t m2 g8⟩
        · exact Or.inr ⟨f, w, D', E', g1, g2, g3, FC_t c2 g4, FM_t m2 g5⟩
      · rw [h1, h2, Option.bind_some, Option.bind_some]
        have hf1 := h3.1
        have hf4 := h3.2.1
        obtain ⟨k, rfl⟩ : ∃ q, k = q + 1 := ⟨k - 1, by omega⟩
        obtain ⟨k', rfl⟩ : ∃ q, k' = q + 1 := ⟨k' - 1, by omega⟩
        refine Or.inr ⟨f, w, D2, E2, ?_, ?_, h3, FC_t (FC_c i5) h4, FM_t (FM_m i6) h5⟩
        · rw [b_X3_read_24, t_notg h3.2.2.2.1 hf1 hf4, if_pos (show (0 : Int32) = 0 from rfl)]
          split <;> rfl
        · rw [b_X6_capital_52, if_neg (show ¬ (nI f, E2).1 = 0 from nI_ne0 (by omega) (by omega))]
    · rw [if_pos hch, if_pos (show ch < 0 by rw [hch]; decide)]
      exact Or.inl ⟨q, D1, E1, t, ti, pu, ro, yt, rfl, rfl, i4, hB, PC_c hL i5 hC, PM_m i6 hM, FC_c i5, FM_m i6⟩
