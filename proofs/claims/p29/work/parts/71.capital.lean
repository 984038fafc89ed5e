/-! the capital -/
theorem t_clear {tw T n : Nat} {tx : Nat → Nat} {D E : am_M} (hT : 15 - tw = T) (hL : T + 10 < 12 ∨ 13 < T) (hX : Tx n tx D E) : ∃ D1 E1, f_X3_read tw D = b_X3_read_24 tw am_N 0 D1 ∧ f_X6_capital E = b_X6_capital_52 am_N 0 E1 ∧ Atp n 0 D1 E1 ∧ PC T (0, 0, 0, 0, 0, 0, fun _ => 0, fun _ => 0, fun _ => 0, fun _ => 0, fun _ => 0) (fun _ => 0) (fun _ => 0) (fun _ => 0) 0 D1 ∧ PM (0, 0, 0, 0, 0, 0, fun _ => 0, fun _ => 0, fun _ => 0, fun _ => 0, fun _ => 0) (fun _ => 0) (fun _ => 0) (fun _ => 0) 0 E1 ∧ FC T D D1 ∧ FM E E1 := by
  generalize hU : am_up (am_up (am_up (am_up (am_up (am_up (am_up D T 0 0) T 1 0) T 2 0) T 3 0) T 4 0) T 5 0) T 6 0 = U
  have uT : ∀ i, i < 7 → U T i = 0 := by
    intro i hi
    rw [← hU]
    simp only [tl_upi2]
    repeat' split
    all_goals first | rfl | omega
  have uo : ∀ a, a ≠ T → U a = D a := fun a ha => by rw [← hU]; simp only [tl_upo2 ha]
  obtain ⟨F, f1, f2, f3⟩ := j_fill (A := T + 5) (N := 5) (x := 1) (by decide) 5 0 am_N U rfl (by decide) (fun j hj => absurd hj (by omega))
  have f1' : f_J7_fill (T + 5) 5 1 U = some F := f1
  have ec : f_X3_read tw D = b_X3_read_24 tw am_N 0 (am_up (am_up (am_up F 12 1 0) 12 5 0) 12 6 (-1)) := by
    rw [f_X3_read, hT, f_X4_clear, hU, f1', Option.bind_some, Option.bind_some]
  -- the reference's reset
  generalize hV : am_up (am_up E 56 15 (-1)) 56 16 0 = V
  have e3 : b_X6_capital_12 am_N 0 V = b_X6_capital_52 am_N 0 (am_up (am_up (am_up (am_up (am_up (am_up (am_up V 64 0 0) 64 1 0) 64 2 0) 56 20 0) 56 25 0) 56 26 0) 56 28 0) := by
    rw [show b_X6_capital_12 am_N 0 V = b_X6_capital_12 (99999 + 1) 0 V from by rw [tl_N], b_X6_capital_12, if_neg (by decide), if_pos (by decide), show (99999 : Nat) = 99998 + 1 from rfl, b_X6_capital_12, if_neg (by decide), if_pos (by decide), show (99998 : Nat) = 99997 + 1 from rfl, b_X6_capital_12, if_neg (by decide), if_pos (by decide), show (99997 : Nat) = 99996 + 1 from rfl, b_X6_capital_12, if_pos (by decide)]
    rfl
  have em : f_X6_capital E = b_X6_capital_52 am_N 0 (am_up (am_up (am_up (am_up (am_up (am_up (am_up V 64 0 0) 64 1 0) 64 2 0) 56 20 0) 56 25 0) 56 26 0) 56 28 0) := by
    rw [f_X6_capital, hV, e3]
  generalize hW : am_up (am_up (am_up (am_up (am_up (am_up (am_up V 64 0 0) 64 1 0) 64 2 0) 56 20 0) 56 25 0) 56 26 0) 56 28 0 = W at em
  have w56 : ∀ i, W 56 i = if i = 28 then 0 else if i = 26 then 0 else if i = 25 then 0 else if i = 20 then 0 else if i = 16 then 0 else if i = 15 then (-1) else E 56 i := fun i => by
    rw [← hW, ← hV]
    simp only [tl_upi2, tl_upo2 (show (56 : Nat) ≠ 64 by decide)]
  have w64 : ∀ i, i < 3 → W 64 i = 0 := by
    intro i hi
    rw [← hW]
    simp only [tl_upo2 (show (64 : Nat) ≠ 56 by decide), tl_upi2]
    repeat' split
    all_goals first | rfl | omega
  have wo : ∀ a, a ≠ 56 → a ≠ 64 → W a = E a := fun a x1 x2 => by rw [← hW, ← hV]; simp only [tl_upo2 x1, tl_upo2 x2]
  have g : ∀ a, a ≠ 12 → (am_up (am_up (am_up F 12 1 0) 12 5 0) 12 6 (-1)) a = F a := fun a ha => by rw [tl_upo2 ha, tl_upo2 ha, tl_upo2 ha]
  have gT : ∀ i, i < 7 → (am_up (am_up (am_up F 12 1 0) 12 5 0) 12 6 (-1)) T i = 0 := fun i hi => by rw [g T (by omega), f3 T (by omega), uT i hi]
  refine ⟨_, W, ec, em, ⟨Nat.zero_le _, ?_, ?_, ?_, ?_, ?_⟩, ⟨⟨gT 0 (by decide), gT 1 (by decide), gT 2 (by decide), gT 3 (by decide), gT 4 (by decide), gT 5 (by decide), fun c h => absurd h (Nat.not_lt_zero c), fun c h => absurd h (Nat.not_lt_zero c), fun c h => absurd h (Nat.not_lt_zero c)⟩, gT 6 (by decide), fun p _ hp => ?_, fun c h => absurd h (Nat.not_lt_zero c), fun c h => absurd h (Nat.not_lt_zero c), fun c h => absurd h (Nat.not_lt_zero c)⟩, ⟨w64 0 (by decide), w64 1 (by decide), w64 2 (by decide), by rw [w56]; rfl, by rw [w56]; rfl, by rw [w56]; rfl, by rw [w56]; rfl, fun c h => absurd h (Nat.not_lt_zero c), fun c h => absurd h (Nat.not_lt_zero c), fun c h => absurd h (Nat.not_lt_zero c), fun c h => absurd h (Nat.not_lt_zero c), fun c h => absurd h (Nat.not_lt_zero c), fun c h => absurd h (Nat.not_lt_zero c)⟩, ⟨fun a x1 x2 x3 x4 x5 => ?_, ?_⟩, ⟨fun a x1 x2 => wo a x1 (by omega), fun k x1 x2 x3 x4 x5 x6 x7 x8 => ?_⟩⟩
  · rw [tl_upi2, if_neg (by decide), tl_upi2, if_neg (by decide), tl_upi2, if_pos rfl]; rfl
  · rw [w56]; rfl
  · rw [tl_upi2, if_neg (by decide), tl_upi2, if_pos rfl]
  · rw [tl_upi2, if_pos rfl]
  · rw [w56]; rfl
  · rw [g (T + 5) (by omega)]; exact f2 p hp
  · rw [g a x1, f3 a (by omega), uo a (by omega)]
  · rw [tl_upi2, if_neg (by decide), tl_upi2, if_neg (by decide), tl_upi2, if_neg (by decide), f3 12 (by omega), uo 12 (by omega)]
  · rw [w56, if_neg x8, if_neg x7, if_neg x6, if_neg x5, if_neg x2, if_neg x1]
theorem t_read {tw T n : Nat} {tx : Nat → Nat} {D E : am_M} (hT : 15 - tw = T) (hL : T + 10 < 12 ∨ 13 < T) (hX : Tx n tx D E) : (∃ D' E' t ti pu ro yt, f_X3_read tw D = some (1, am_up D' 12 4 0) ∧ f_X6_capital E = b_X6_capital_71 0 E' ∧ D' 12 6 = (-1) ∧ E' 56 15 = (-1) ∧ PB t ti pu ro yt ∧ PC T t ti pu ro yt D' ∧ PM t ti pu ro yt E' ∧ FC T D D' ∧ FM E E') ∨ (∃ f w D' E', f_X3_read tw D = some (0, am_up D' 12 4 0) ∧ f_X6_capital E = b_X6_capital_71 (nI f) E' ∧ Bd f w D' E' ∧ FC T D D' ∧ FM E E') := by
  obtain ⟨D1, E1, a1, a2, a3, a4, a5, a6, a7⟩ := t_clear hT hL hX
  have hB : PB (0, 0, 0, 0, 0, 0, fun _ => 0, fun _ => 0, fun _ => 0, fun _ => 0, fun _ => 0) (fun _ => 0) (fun _ => 0) (fun _ => 0) 0 := ⟨⟨by decide, by decide, by decide, by decide, by decide, by decide, fun c h => absurd h (Nat.not_lt_zero c), fun c h => absurd h (Nat.not_lt_zero c), fun c h => absurd h (Nat.not_lt_zero c), fun h => absurd h (Nat.not_lt_zero 0)⟩, fun c h => absurd h (Nat.not_lt_zero c), fun c h => absurd h (Nat.not_lt_zero c), fun c h => absurd h (Nat.not_lt_zero c), by decide, fun h => absurd h (show ¬ 1 ≤ 0 by decide)⟩
  rcases t_loop hT hL 250 0 am_N am_N 0 _ _ _ _ _ D1 E1 rfl (by decide) (by decide) (Nat.le_refl _) (Tx_F hL hX a6 a7) a3 hB a4 a5 with ⟨q, D', E', t, ti, pu, ro, yt, b1, b2, b3, b4, b5, b6, b7, b8⟩ | ⟨f, w, D', E', b1, b2, b3, b4, b5⟩
  · have b1' : b_X3_read_24 tw am_N 0 D1 = b_X3_read_56 tw D' := b1
    refine Or.inl ⟨D', E', t, ti, pu, ro, yt, ?_, a2.trans b2, b3.2.2.2.2.1, b3.2.2.2.2.2, b4, b5, b6, FC_t a6 b7, FM_t a7 b8⟩
    rw [a1, b1', b_X3_read_56, f_X3_isGood, if_pos (show (am_up D' 12 4 0) 12 5 = 0 by rw [tl_upi2, if_neg (by decide)]; exact b3.2.2.2.1)]
  · have b1' : b_X3_read_24 tw am_N 0 D1 = b_X3_read_56 tw D' := b1
    have hf1 := b3.1
    have hf4 := b3.2.1
    refine Or.inr ⟨f, w, D', E', ?_, a2.trans b2, b3, FC_t a6 b4, FM_t a7 b5⟩
    rw [a1, b1', b_X3_read_56, f_X3_isGood, if_neg (show ¬ (am_up D' 12 4 0) 12 5 = 0 by rw [tl_upi2, if_neg (by decide), b3.2.2.2.1]; exact nI_ne0 (by omega) (by omega))]
theorem capT {k tw : Nat} {tp : Bool} {t : To} {s : Mo} {D E : am_M} (q : Si tw t s D) (h56 : E 56 = D 56) (h63 : E 63 = D 63) : ∃ (r : Int32) (t1 : Nat) (C M : am_M), f_X5_capital tw D = some (r, t1, C) ∧ (∀ a, 56 ≤ a → C a = D a) ∧ f_X6_capital E = some (r, M) ∧ (E = C → Sim (k + 1) t1 tp M) := by
  obtain ⟨q1, q2, q3, q4, ⟨nb, nh, n3, n4⟩, ⟨r0, n, tx, r1, r2, r3, r4⟩, ⟨z1, z2⟩, qB, qK, qP, qT⟩ := q
  obtain ⟨T, hT⟩ : ∃ T, 15 - tw = T := ⟨_, rfl⟩
  have hl : (tw = 1 ∧ T = 14) ∨ (tw = 14 ∧ T = 1) := by
    rcases q1 with h | h
    · exact Or.inl ⟨h, by omega⟩
    · exact Or.inr ⟨h, by omega⟩
  have hL : T + 10 < 12 ∨ 13 < T := by omega
  rw [hT] at z2
  have hX : Tx n tx D E := ⟨r1, r2, by rw [h56]; exact r3, fun i hi => ⟨(r4 i hi).1, (r4 i hi).2.1, by rw [h63]; exact (r4 i hi).2.2⟩⟩
  rcases t_read hT hL hX with ⟨D', E', t', ti, pu, ro, yt, a1, a2, a3, a4, hB, hC, hM, c, m⟩ | ⟨f, w, D', E', a1, a2, hd, c, m⟩
  · have hP5 := hB.1.2.2.2.1
    generalize hR : am_up D' 12 4 0 = R at a1
    have rO : ∀ a, a ≠ 12 → R a = D' a := fun a ha => by rw [← hR, tl_upo2 ha]
    have fr : ∀ a, a ≠ 12 → a < T ∨ T + 5 < a → a ≠ T + 7 → a ≠ T + 9 → a ≠ T + 10 → R a = D a := fun a x1 x2 x3 x4 x5 => by rw [rO a x1, c.1 a x1 x2 x3 x4 x5]
    have cm : cMo (T + 6) (q_pe t') (ti, fun _ => 0, pu, ro, 0, 0, 0, 0) R := by
      refine ⟨fun p hp => ?_, fun p hp => ?_, fun p hp => ?_, fun j hj => ?_, ?_, ?_, ?_, ?_⟩
      · rw [show T + 6 + 1 = T + 7 from rfl, rO (T + 7) (by omega)]; exact hC.2.2.2.1 p hp
      · rw [show T + 6 + 2 = T + 8 from rfl, fr (T + 8) (by omega) (by omega) (by omega) (by omega) (by omega)]; exact z2.1 p (by omega)
      · rw [show T + 6 + 3 = T + 9 from rfl, rO (T + 9) (by omega)]; exact hC.2.2.2.2.1 p hp
      · rw [show T + 6 + 4 = T + 10 from rfl, rO (T + 10) (by omega)]; exact hC.2.2.2.2.2 j hj
      · rw [fr (T + 6) (by omega) (by omega) (by omega) (by omega) (by omega)]; exact z2.2.1
      · rw [fr (T + 6) (by omega) (by omega) (by omega) (by omega) (by omega)]; exact z2.2.2.1
      · rw [fr (T + 6) (by omega) (by omega) (by omega) (by omega) (by omega)]; exact z2.2.2.2.1
      · rw [fr (T + 6) (by omega) (by omega) (by omega) (by omega) (by omega)]; exact z2.2.2.2.2
    obtain ⟨F, f1, f2, f3⟩ := c_copyM (M := 25) (N := T + 6) (by omega) hP5 cm
    have e25 : R 25 7 = nI (o_se s) := by rw [fr 25 (by omega) (by omega) (by omega) (by omega) (by omega)]; exact n3.2.2.2.2.2.2.2
    generalize hG : am_up (am_up (am_up (am_up (am_up (am_up (am_up F 25 7 (nI (o_se s))) 0 11 0) 0 6 0) 45 6 (-1)) 45 2 0) 50 3 0) 50 4 0 = G
    have gO : ∀ a, a ≠ 25 → a ≠ 0 → a ≠ 45 → a ≠ 50 → G a = F a := fun a x1 x2 x3 x4 => by rw [← hG]; simp only [tl_upo2 x1, tl_upo2 x2, tl_upo2 x3, tl_upo2 x4]
    have gR : ∀ a, a ≠ 0 → a < 25 ∨ 30 ≤ a → a ≠ 45 → a ≠ 50 → G a = R a := fun a x1 x2 x3 x4 => by rw [gO a (by omega) x1 x3 x4, f3 a (by omega)]
    have g25 : ∀ i, G 25 i = if i = 7 then nI (o_se s) else F 25 i := fun i => by rw [← hG, tl_upo2 (by decide), tl_upo2 (by decide), tl_upo2 (by decide), tl_upo2 (by decide), tl_upo2 (by decide), tl_upo2 (by decide), tl_upi2]
    have gT : ∀ a, T ≤ a → a ≤ T + 10 → G a = R a := fun a x1 x2 => gR a (by omega) (by omega) (by omega) (by omega)
    have hCG : PC T t' ti pu ro yt G := PC_f (fun a x1 x2 => by rw [gT a x1 x2, rO a (by omega)]) hC
    have ec : f_X5_capital tw D = some (nI (q_pe t'), T, G) := by
      rw [f_X5_capital, a1, Option.bind_some, if_neg (show ¬ ((1 : Int32), R).1 = 0 from (show ¬ (1 : Int32) = 0 by decide)), hT]
      show (f_X2_copyFrom 25 (T + 6) R).bind _ = _
      rw [f1, Option.bind_some]
      show (f_X1_forget (am_up (am_up (am_up F 25 7 (R 25 7)) 0 11 0) 0 6 0)).bind _ = _
      rw [e25, f_X1_forget, Option.bind_some, f_X0_forget, Option.bind_some, hG, hCG.1.2.2.2.1]
    -- the reference
    have hM2 : PM t' ti pu ro yt (am_up E' 56 14 0) := PM_f (fun a x1 x2 => tl_upo2 (by omega)) (fun i hi => by rw [tl_upi2, if_neg (by omega)]) hM
    have m12 : (am_up E' 56 14 0) 56 12 = nI (o_se s) := by rw [tl_upi2, if_neg (by decide), m.2 12 (by decide) (by decide) (by decide) (by decide) (by decide) (by decide) (by decide) (by decide), h56]; exact n4.2.2.2.2.2.2.2
    obtain ⟨H, b1, b2, b3, b4, b5⟩ := r_read hB hM2 m12
    generalize hY : am_up (am_up (am_up H 56 39 0) 82 0 0) 82 1 0 = Y
    have yO : ∀ a, a ≠ 56 → a ≠ 82 → Y a = H a := fun a x1 x2 => by rw [← hY, tl_upo2 x2, tl_upo2 x2, tl_upo2 x1]
    have y56 : ∀ i, Y 56 i = if i = 39 then 0 else H 56 i := fun i => by rw [← hY, tl_upo2 (by decide), tl_upo2 (by decide), tl_upi2]
    have y82 : Y 82 0 = 0 ∧ Y 82 1 = 0 := by
      rw [← hY]
      exact ⟨by rw [tl_upi2, if_neg (by decide), tl_upi2, if_pos rfl], by rw [tl_upi2, if_pos rfl]⟩
    have em : f_X6_capital E = some (nI (q_pe t'), Y) := by
      rw [a2, b_X6_capital_71, if_pos (by decide), b1, Option.bind_some, show vp_nar .boolean 0 = (0 : Int32) from rfl, hY, y56, if_neg (by decide), b2.2.2.2.1]
    have k56 : ∀ i, 7 < i → i ≠ 14 → i ≠ 15 → i ≠ 16 → i ≠ 17 → i ≠ 18 → i ≠ 20 → i ≠ 25 → i ≠ 26 → i ≠ 28 → i ≠ 39 → Y 56 i = E 56 i := fun i x0 x1 x2 x3 x4 x5 x6 x7 x8 x9 x10 => by rw [y56, if_neg x10, b5 i x0, tl_upi2, if_neg x1, m.2 i x2 x3 x4 x5 x6 x7 x8 x9]
    refine ⟨nI (q_pe t'), T, G, Y, ec, fun a ha => by rw [gR a (by omega) (by omega) (by omega) (by omega), fr a (by omega) (by omega) (by omega) (by omega) (by omega)], em, fun hEG => ?_⟩
    have yE : ∀ a, a < 56 → Y a = G a := fun a ha => by rw [yO a (by omega) (by omega), b4 a (by omega), tl_upo2 (by omega), m.1 a (by omega) (by omega), hEG]
    have yD : ∀ a, a ≠ 12 → a ≠ 0 → a < 25 ∨ 30 ≤ a → a ≠ 45 → a ≠ 50 → a < 56 → a < T ∨ T + 5 < a → a ≠ T + 7 → a ≠ T + 9 → a ≠ T + 10 → Y a = D a := fun a x1 x2 x3 x4 x5 x6 x7 x8 x9 x10 => by rw [yE a x6, gR a x2 x3 x4 x5, fr a x1 x7 x8 x9 x10]
    have hh := hB.2
    refine ⟨t', (ti, fun _ => 0, pu, ro, 0, 0, 0, o_se s), ?_, hB.1, cTo_f (fun a x1 x2 => yE a (by omega)) hCG.1, mTo_f (fun i hi => by rw [y56, if_neg (by omega)]) (fun a x1 x2 => yO a (by omega) (by omega)) b2, ⟨⟨hh.1, fun p hp => Nat.le_refl _, hh.2.1, hh.2.2.1, (show 0 < 256 by decide), (show 0 < 256 by decide), nb.2.2.2.2.2.2⟩, by show 0 ≤ 90096; decide, ?_, mMo_f (yO 62 (by decide) (by decide)) (by rw [y56, if_neg (by decide)]) b3⟩, ⟨?_, 0, fun _ => 0, by decide, ?_, ?_, fun i h => absurd h (Nat.not_lt_zero i)⟩, ⟨?_, ?_⟩, ⟨0, fun _ => 0, by decide, ?_, ?_, fun i h => absurd h (Nat.not_lt_zero i)⟩, ⟨false, false, ?_, y82.1, y82.2, fun h => absurd h (by decide), fun h => absurd h (by decide)⟩, ⟨0, by decide, ?_⟩, ⟨Or.inl ?_, Or.inl ?_, ?_⟩⟩
    · rcases hl with h | h
      · exact Or.inr h.2
      · exact Or.inl h.2
    · obtain ⟨x1, x2, x3, x4, x5, x6, x7, x8⟩ := f2
      exact ⟨fun p hp => by rw [yE 26 (by decide), gO 26 (by decide) (by decide) (by decide) (by decide)]; exact x1 p hp, fun p hp => by rw [yE 27 (by decide), gO 27 (by decide) (by decide) (by decide) (by decide)]; exact x2 p hp, fun p hp => by rw [yE 28 (by decide), gO 28 (by decide) (by decide) (by decide) (by decide)]; exact x3 p hp, fun p hp => by rw [yE 29 (by decide), gO 29 (by decide) (by decide) (by decide) (by decide)]; exact x4 p hp, by rw [yE 25 (by decide), g25]; exact x5, by rw [yE 25 (by decide), g25]; exact x6, by rw [yE 25 (by decide), g25]; exact x7, by rw [yE 25 (by decide), g25]; rfl⟩
    · rw [yE 12 (by decide), gR 12 (by decide) (by decide) (by decide) (by decide), ← hR, tl_upi2, if_neg (by decide), a3, y56, if_neg (by decide), b5 15 (by decide), tl_upi2, if_neg (by decide), a4]
    · rw [yE 12 (by decide), gR 12 (by decide) (by decide) (by decide) (by decide), ← hR, tl_upi2, if_pos rfl]; rfl
    · rw [y56, if_neg (by decide), b5 14 (by decide), tl_upi2, if_pos rfl]; rfl
    · exact Zs_f (yD _ (by omega) (by omega) (by omega) (by omega) (by omega) (by omega) (by omega) (by omega) (by omega) (by omega)) (yD _ (by omega) (by omega) (by omega) (by omega) (by omega) (by omega) (by omega) (by omega) (by omega) (by omega)) z2
    · have e15 : 15 - T = tw := by omega
      rw [e15]
      exact Zs_f (yD _ (by omega) (by omega) (by omega) (by omega) (by omega) (by omega) (by omega) (by omega) (by omega) (by omega)) (yD _ (by omega) (by omega) (by omega) (by omega) (by omega) (by omega) (by omega) (by omega) (by omega) (by omega)) z1
    · rw [yE 0 (by decide), ← hG, tl_upo2 (by decide), tl_upo2 (by decide), tl_upo2 (by decide), tl_upo2 (by decide), tl_upi2, if_neg (by decide), tl_upi2, if_pos rfl]; rfl
    · rw [y56, if_pos rfl]; rfl
    · rw [yE 0 (by decide), ← hG, tl_upo2 (by decide), tl_upo2 (by decide), tl_upo2 (by decide), tl_upo2 (by decide), tl_upi2, if_pos rfl]; rfl
    · rw [yE 45 (by decide), ← hG, tl_upo2 (by decide), tl_upo2 (by decide), tl_upi2, if_pos rfl]; rfl
    · rw [yE 50 (by decide), ← hG, tl_upi2, if_neg (by decide), tl_upi2, if_pos rfl]
    · rw [yE 50 (by decide), ← hG, tl_upi2, if_pos rfl]
    · rw [yD 53 (by decide) (by decide) (by decide) (by decide) (by decide) (by decide) (by omega) (by omega) (by omega) (by omega)]; exact qT.2.2
  · have hf1 := hd.1
    have hf4 := hd.2.1
    generalize hR : am_up D' 12 4 0 = R at a1
    have rO : ∀ a, a ≠ 12 → R a = D' a := fun a ha => by rw [← hR, tl_upo2 ha]
    have fr : ∀ a, a ≠ 12 → a < T ∨ T + 5 < a → a ≠ T + 7 → a ≠ T + 9 → a ≠ T + 10 → R a = D a := fun a x1 x2 x3 x4 x5 => by rw [rO a x1, c.1 a x1 x2 x3 x4 x5]
    have r5 : R 12 5 = nI f := by rw [← hR, tl_upi2, if_neg (by decide)]; exact hd.2.2.2.1
    have ec : f_X5_capital tw D = some ((-10) - nI f, tw, R) := by
      rw [f_X5_capital, a1, Option.bind_some, if_pos (show ((0 : Int32), R).1 = 0 from rfl)]
      show some ((-10) - R 12 5, tw, R) = _
      rw [r5]
    have em : f_X6_capital E = some ((-10) - nI f, am_up E' 56 14 0) := by
      rw [a2, b_X6_capital_71, if_neg (nI_nle (by omega) (by omega))]
    refine ⟨_, tw, R, _, ec, fun a ha => fr a (by omega) (by omega) (by omega) (by omega) (by omega), em, fun hER => ?_⟩
    generalize hY : am_up E' 56 14 0 = Y
    have yO : ∀ a, a ≠ 56 → a < 64 ∨ 72 < a → Y a = R a := fun a x1 x2 => by rw [← hY, tl_upo2 x1, m.1 a x1 x2, hER]
    have yD : ∀ a, a ≠ 12 → a ≠ 56 → a < 64 ∨ 72 < a → a < T ∨ T + 5 < a → a ≠ T + 7 → a ≠ T + 9 → a ≠ T + 10 → Y a = D a := fun a x1 x2 x3 x4 x5 x6 x7 => by rw [yO a x2 x3, fr a x1 x4 x5 x6 x7]
    have yB : ∀ a, 25 ≤ a → a ≠ 56 → a < 64 ∨ 72 < a → Y a = D a := fun a x1 x2 x3 => yD a (by omega) x2 x3 (by omega) (by omega) (by omega) (by omega)
    have y56 : ∀ i, i ≠ 14 → i ≠ 15 → i ≠ 16 → i ≠ 17 → i ≠ 18 → i ≠ 20 → i ≠ 25 → i ≠ 26 → i ≠ 28 → Y 56 i = D 56 i := fun i x1 x2 x3 x4 x5 x6 x7 x8 x9 => by rw [← hY, tl_upi2, if_neg x1, m.2 i x2 x3 x4 x5 x6 x7 x8 x9, h56]
    have y0 : Y 0 = D 0 := yD 0 (by decide) (by decide) (by decide) (by omega) (by omega) (by omega) (by omega)
    refine ⟨t, s, q1, q2, cTo_f (fun a x1 x2 => yD a (by omega) (by omega) (by omega) (by omega) (by omega) (by omega) (by omega)) q3, mTo_f (fun i hi => y56 i (by omega) (by omega) (by omega) (by omega) (by omega) (by omega) (by omega) (by omega) (by omega)) (fun a x1 x2 => yB a (by omega) (by omega) (by omega)) q4, Nw_f (fun a x1 x2 => yB a (by omega) (by omega) (by omega)) (yB 62 (by decide) (by decide) (by decide)) (y56 12 (by decide) (by decide) (by decide) (by decide) (by decide) (by decide) (by decide) (by decide) (by decide)) ⟨nb, nh, n3, n4⟩, ⟨?_, 0, fun _ => 0, by decide, ?_, ?_, fun i h => absurd h (Nat.not_lt_zero i)⟩, ⟨?_, ?_⟩, Bk_f (by rw [y0]) (y56 39 (by decide) (by decide) (by decide) (by decide) (by decide) (by decide) (by decide) (by decide) (by decide)) (yB 54 (by decide) (by decide) (by decide)) (yB 55 (by decide) (by decide) (by decide)) (yB 79 (by decide) (by decide) (by decide)) (yB 80 (by decide) (by decide) (by decide)) qB, Kp_f (by rw [y0]) (fun a x1 x2 => yB a (by omega) (by omega) (by omega)) (yB 81 (by decide) (by decide) (by decide)) (yB 82 (by decide) (by decide) (by decide)) qK, Pl_f (by rw [yB 45 (by decide) (by decide) (by decide)]) qP, Tb_f (fun a x1 x2 => yB a (by omega) (by omega) (by omega)) qT⟩
    · rw [yO 12 (by decide) (by decide), ← hR, tl_upi2, if_neg (by decide), hd.2.2.2.2.1, ← hY, tl_upi2, if_neg (by decide), hd.2.2.2.2.2]
    · rw [yO 12 (by decide) (by decide), ← hR, tl_upi2, if_pos rfl]; rfl
    · rw [← hY, tl_upi2, if_pos rfl]; rfl
    · exact Zs_f (yD _ (by omega) (by omega) (by omega) (by omega) (by omega) (by omega) (by omega)) (yD _ (by omega) (by omega) (by omega) (by omega) (by omega) (by omega) (by omega)) z1
    · rw [hT]
      exact Zs_f (yD _ (by omega) (by omega) (by omega) (by omega) (by omega) (by omega) (by omega)) (yD _ (by omega) (by omega) (by omega) (by omega) (by omega) (by omega) (by omega)) z2
theorem so_capital {k tw : Nat} {tp : Bool} {D : am_M} (h : Sim k tw tp D) : ∃ (r : Int32) (t1 : Nat) (D1 D2 : am_M), f_X5_capital tw D = some (r, t1, D1) ∧ f_X6_capital D1 = some (r, D2) ∧ Sim (k + 1) t1 tp D2 := by
  obtain ⟨t, s, q⟩ := h
  obtain ⟨r, t1, C, M, a1, a2, -, -⟩ := capT (k := k) (tp := tp) (E := D) q rfl rfl
  obtain ⟨r', t1', C', M', b1, b2, b3, b4⟩ := capT (k := k) (tp := tp) (E := C) q (a2 56 (by decide)) (a2 63 (by decide))
  have e : (r, t1, C) = (r', t1', C') := Option.some.inj (a1.symm.trans b1)
  have e1 : C = C' := congrArg (fun x => x.2.2) e
  exact ⟨r', t1', C', M', b1, by rw [← e1]; exact b3, b4 e1⟩
