/-! a life planned: the class's walk, and all of it -/
theorem l_walk {w n t0 q : Nat} (h2 : 2 ≤ w) (hw : w ≤ 9) (hn : n ≤ 48) (hq : q ≤ n) : ∀ (m k t s f : Nat) (x3 : Int32) (D : am_M), k + m = n → m < f → t ≤ 99 → s < w → Lp w n t0 D → Lh q D → ∃ D', b_X1_walk_27 f (nI t) (nI s) x3 (nI k) D = some D' ∧ ∀ a, a ≠ 49 → D' a = D a := by
  intro m
  induction m with
  | zero =>
    intro k t s f x3 D hm hf ht hs h hh
    obtain ⟨f, rfl⟩ : ∃ q, f = q + 1 := ⟨f - 1, by omega⟩
    exact ⟨D, by rw [b_X1_walk_27, h.2.2.1, if_pos (nI_le (by omega) (by omega))], fun _ _ => rfl⟩
  | succ m ih =>
    intro k t s f x3 D hm hf ht hs h hh
    obtain ⟨f, rfl⟩ : ∃ q, f = q + 1 := ⟨f - 1, by omega⟩
    have hL : ∀ x, Lp w n t0 (am_up D 49 (nI k).toNatClampNeg x) ∧ Lh q (am_up D 49 (nI k).toNatClampNeg x) := fun x => ⟨Lp_f (tl_upo2 (by decide)) h, by unfold Lh; rw [tl_upo2 (by decide)]; exact hh⟩
    have work : ∃ D', b_X1_walk_113 (b_X1_walk_27 f) (nI t) x3 (nI k) D = some D' ∧ ∀ a, a ≠ 49 → D' a = D a := by
      obtain ⟨D', i1, i2⟩ := ih (k + 1) (min (t + 3) 99) 0 f (x3 - (am_up D 49 (nI k).toNatClampNeg 1) 48 (nI k).toNatClampNeg) (am_up D 49 (nI k).toNatClampNeg 1) (by omega) (by omega) (by omega) (by omega) (hL 1).1 (hL 1).2
      exact ⟨D', by rw [b_X1_walk_113, if_pos (tl_ai (by omega) (by omega)), l_wk ht, nI_1]; exact i1, fun a ha => by rw [i2 a ha, tl_upo2 ha]⟩
    have go : ∀ y, ∃ D', b_X1_walk_61 (b_X1_walk_27 f) (nI t) (nI s) x3 (nI k) y D = some D' ∧ ∀ a, a ≠ 49 → D' a = D a := by
      intro y
      rw [b_X1_walk_61, f_X1_purseAsleep, if_pos (tl_ai (by omega) (by omega)), Option.bind_some]
      split
      · exact work
      · split
        · exact work
        · rw [if_pos (tl_ai (by omega) (by omega)), f_X1_purseAsleep, if_pos (tl_ai (by omega) (by omega)), Option.bind_some]
          show ∃ D', b_X1_walk_27 f (f_X1_easedBySleep (nI t)) (f_X1_longerSleep (nI s) (am_up D 49 (nI k).toNatClampNeg 0)) _ (nI k + 1) (am_up D 49 (nI k).toNatClampNeg 0) = some D' ∧ _
          rw [l_ea ht, l_lo (hL 0).1 h2 hw hs, nI_1]
          obtain ⟨D', i1, i2⟩ := ih (k + 1) (t - 4) (min (s + 1) (w - 1)) f (am_min (x3 + f_X1_earned (nI s) (am_up D 49 (nI k).toNatClampNeg 0)) 9999 - (am_up D 49 (nI k).toNatClampNeg 0) 48 (nI k).toNatClampNeg) (am_up D 49 (nI k).toNatClampNeg 0) (by omega) (by omega) (by omega) (by omega) (hL 0).1 (hL 0).2
          exact ⟨D', i1, fun a ha => by rw [i2 a ha, tl_upo2 ha]⟩
    obtain ⟨r, e⟩ := l_na (k := k + 1) (t := t - 4) (s := min (s + 1) (w - 1)) hw hn hq (by omega) (by omega) (by omega) h hh
    rw [b_X1_walk_27, h.2.2.1, if_neg (nI_ge (by omega) (by omega)), nI_1, l_ea ht, l_lo h h2 hw hs, e, Option.bind_some]
    split
    · exact go _
    · exact go _
theorem l_make {T n p P : Nat} {t : To} {s : Mo} {D : am_M} {tp : Bool} (hT : T ≤ 14) (ht : bTo t) (hP : q_pe t = P) (hp : p < P) (hn1 : 1 ≤ n) (hn : n ≤ 48) (hs : bMo P s) (hr : o_hr s ≤ 90096) (hD : cTo T t D) (hM : cMo 25 P s D) (hl : Pl D) : ∃ b D', f_X1_make T 25 tp (nI p) (nI n) D = some (b, D') ∧ Pl D' ∧ ∀ a, a ≠ 45 → a ≠ 48 → a ≠ 49 → a ≠ 83 → a ≠ 84 → D' a = D a := by
  have hP5 := ht.2.2.2.1
  obtain ⟨-, w2, -⟩ := ht.2.2.2.2.2.2.2.2.2 (by omega)
  have w9 := ht.2.1
  obtain ⟨e, he, hl⟩ := hl
  have hm : ∃ r, f_X1_isMade 25 (nI p) (nI n) D = some (r, D) := by
    rw [f_X1_isMade, if_pos (tl_ai (by omega) (by omega))]
    repeat' split
    all_goals exact ⟨_, rfl⟩
  obtain ⟨r, hm⟩ := hm
  rw [f_X1_make, hm, Option.bind_some]
  by_cases hr0 : r = 0
  · rw [if_pos (show (r, D).1 = 0 from hr0), if_pos (tl_ai (by omega) (by omega))]
    generalize hU : am_up _ 45 11 _ = U
    have hU' : (am_up (am_up (am_up (am_up (am_up (am_up D 45 6 (nI p)) 45 7 (nI n)) 45 8 (D 25 6)) 45 9 (D 26 p)) 45 10 (D 27 p)) 45 11 (D 28 p)) = U := by
      rw [← hU]
      simp only [tl_cl2 (show p < 2 ^ 31 by omega), tl_upo2 (show (25 : Nat) ≠ 45 by decide), tl_upo2 (show (25 + 1 : Nat) ≠ 45 by decide), tl_upo2 (show (25 + 2 : Nat) ≠ 45 by decide), tl_upo2 (show (25 + 3 : Nat) ≠ 45 by decide)]
    clear hU
    have f45 : ∀ a, a ≠ 45 → U a = D a := fun a ha => by rw [← hU', tl_upo2 ha, tl_upo2 ha, tl_upo2 ha, tl_upo2 ha, tl_upo2 ha, tl_upo2 ha]
    have u2 : U 45 2 = nI e := by rw [← hU']; simp only [tl_upi2]; exact hl
    have u7 : U 45 7 = nI n := by rw [← hU']; simp only [tl_upi2]; rfl
    have u9 : U 45 9 = nI (o_ti s p) := by rw [← hU']; simp only [tl_upi2]; exact hM.1 p hp
    have u10 : U 45 10 = nI (o_sl s p) := by rw [← hU']; simp only [tl_upi2]; exact hM.2.1 p hp
    have t9 := hs.1 p hp
    have s9 := hs.2.1 p hp
    obtain ⟨D1, a1, ⟨e1, a2, a2'⟩, a3, a4, a5⟩ := l_prep (tp := tp) (w := q_de t) (n := n) (t0 := o_ti s p) (e := e) hT w2 w9 hn he u2 (by rw [f45 T (by omega)]; exact hD.2.1) u7 u9
    obtain ⟨D2, b1, ⟨q, b2, b2'⟩, b3, b4, b5⟩ := l_owed (T := T) (N := q_dn t) hT ht.2.2.2.2.2.1 hn (by rw [a5 T (by omega) (by omega) (by omega), f45 T (by omega)]; exact hD.2.2.2.2.2.1) a3
    obtain ⟨D3, c1, c2⟩ := l_sp2 (q := q) (y := o_sl s p) w2 w9 (by omega) t9 (by omega) (q + 1) 0 am_N D2 (by omega) (by show _ < 100000; omega) b3 b2' (by rw [b4 10 (by decide), a4 10 (by decide) (by decide)]; exact u10)
    have c1' : f_X1_spread D2 = some D3 := c1
    have c3 : Lp (q_de t) n (o_ti s p) D3 := Lp_f (c2 45 (by decide)) b3
    have c4 : Lh q D3 := by unfold Lh; rw [c2 45 (by decide)]; exact b2'
    obtain ⟨y, d1⟩ := l_most w2 w9 hn b2 t9 c3 c4
    have p3 : Pl D3 := ⟨e1, a2, by rw [c2 45 (by decide), b4 2 (by decide)]; exact a2'⟩
    have g3 : ∀ a, a ≠ 45 → a ≠ 48 → a ≠ 49 → a ≠ 83 → a ≠ 84 → D3 a = D a := fun a x1 x2 _ x4 x5 => by rw [c2 a x4, b5 a x2 x1, a5 a x4 x5 x1, f45 a x1]
    rw [a1, Option.bind_some, b1, Option.bind_some, c1', Option.bind_some, d1, Option.bind_some]
    show ∃ b D', (if (am_up D3 45 5 y) 45 5 = (-1) then some (true, am_up D3 45 5 y) else (f_X1_turnToNeeds (am_up D3 45 5 y)).bind fun q93 => (f_X1_walk q93).bind fun q97 => some (true, q97)) = some (b, D') ∧ _
    have p4 : Pl (am_up D3 45 5 y) := by
      obtain ⟨e', x1, x2⟩ := p3
      exact ⟨e', x1, by rw [tl_upi2, if_neg (by decide)]; exact x2⟩
    split
    · exact ⟨_, _, rfl, p4, fun a x1 x2 x3 x4 x5 => by rw [tl_upo2 x1, g3 a x1 x2 x3 x4 x5]⟩
    · have v3 : Lp (q_de t) n (o_ti s p) (am_up D3 45 5 y) := Lp_u (Or.inr rfl) c3
      have v4 : Lh q (am_up D3 45 5 y) := by unfold Lh; rw [tl_upi2, if_neg (by decide)]; exact c4
      obtain ⟨D4, k1, k2⟩ := l_tn7 w2 w9 hn b2 t9 q am_N (am_up D3 45 5 y) (Nat.le_refl _) (by show q < 100000; omega) v3 v4
      have k1' : f_X1_turnToNeeds (am_up D3 45 5 y) = some D4 := by rw [f_X1_turnToNeeds, v4]; exact k1
      have z3 : Lp (q_de t) n (o_ti s p) D4 := Lp_f (k2 45 (by decide)) v3
      have z4 : Lh q D4 := by unfold Lh; rw [k2 45 (by decide)]; exact v4
      have z10 : D4 45 10 = nI (o_sl s p) := by rw [k2 45 (by decide), tl_upi2, if_neg (by decide), c2 45 (by decide), b4 10 (by decide), a4 10 (by decide) (by decide)]; exact u10
      obtain ⟨D5, w1, w3⟩ := l_walk (t0 := o_ti s p) (q := q) w2 w9 hn b2 n 0 (o_ti s p) (min (o_sl s p) (q_de t - 1)) am_N (D4 45 11) D4 (by omega) (by show n < 100000; omega) t9 (by omega) z3 z4
      have w1' : f_X1_walk D4 = some D5 := by
        rw [f_X1_walk, z3.2.2.2, z10, z3.1, show nI (q_de t) - 1 = nI (q_de t - 1) from pk_sub (b := 1) (by omega), n_min (by omega) (by omega)]
        exact w1
      rw [k1', Option.bind_some, w1', Option.bind_some]
      refine ⟨_, _, rfl, Pl_f (by rw [w3 45 (by decide), k2 45 (by decide)]) p4, fun a x1 x2 x3 x4 x5 => by rw [w3 a x3, k2 a x4, tl_upo2 x1, g3 a x1 x2 x3 x4 x5]⟩
  · rw [if_neg (show ¬ (r, D).1 = 0 from hr0)]
    exact ⟨_, _, rfl, ⟨e, he, hl⟩, fun _ _ _ _ _ _ => rfl⟩
