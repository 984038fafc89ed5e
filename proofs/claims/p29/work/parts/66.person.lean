/-! a person is read -/
theorem t_row {tw T n P : Nat} {tx : Nat → Nat} (hT : 15 - tw = T) (hL : T + 10 < 12 ∨ 13 < T) (hP : P < 5) : ∀ (m h k k' p : Nat) (ro : Nat → Nat) (D E : am_M), h + m = 24 → m < k → m < k' → Tx n tx D E → Atp n p D E → (∀ j, j < 24 * P + h → D (T + 10) j = nI (ro j) ∧ E 67 j = nI (ro j) ∧ ro j ≤ 2) → (∃ (q : Nat) (ro' : Nat → Nat) (D' E' : am_M), b_X3_readPerson_81 tw k (nI P) (nI h) D = b_X3_readPerson_123 tw D' ∧ b_X6_takeRow_2 k' (nI (24 * P)) (nI h) E = some (0, E') ∧ p ≤ q ∧ Atp n q D' E' ∧ (∀ j, j < 24 * (P + 1) → D' (T + 10) j = nI (ro' j) ∧ E' 67 j = nI (ro' j) ∧ ro' j ≤ 2) ∧ ((∀ a, a ≠ 12 → a ≠ T + 10 → D' a = D a) ∧ D' 12 4 = D 12 4) ∧ (∀ a, a ≠ 56 → a ≠ 67 → E' a = E a) ∧ ∀ i, i ≠ 15 → i ≠ 16 → i ≠ 17 → i ≠ 18 → E' 56 i = E 56 i) ∨ (∃ f w D' E', b_X3_readPerson_81 tw k (nI P) (nI h) D = b_X3_readPerson_123 tw D' ∧ b_X6_takeRow_2 k' (nI (24 * P)) (nI h) E = some (nI f, E') ∧ Bd f w D' E' ∧ ((∀ a, a ≠ 12 → a ≠ T + 10 → D' a = D a) ∧ D' 12 4 = D 12 4) ∧ (∀ a, a ≠ 56 → a ≠ 67 → E' a = E a) ∧ ∀ i, i ≠ 15 → i ≠ 16 → i ≠ 17 → i ≠ 18 → E' 56 i = E 56 i) := by
  intro m
  induction m with
  | zero =>
    intro h k k' p ro D E hm hk hk' hX hA hr
    obtain ⟨k, rfl⟩ : ∃ q, k = q + 1 := ⟨k - 1, by omega⟩
    obtain ⟨k', rfl⟩ : ∃ q, k' = q + 1 := ⟨k' - 1, by omega⟩
    have : h = 24 := by omega
    subst this
    exact Or.inl ⟨p, ro, D, E, by rw [b_X3_readPerson_81, if_pos (show (24 : Int32) ≤ nI 24 by decide)], by rw [b_X6_takeRow_2, if_pos (show (24 : Int32) ≤ nI 24 by decide)], Nat.le_refl _, hA, fun j hj => hr j (by omega), ⟨fun _ _ _ => rfl, rfl⟩, fun _ _ _ => rfl, fun _ _ _ _ _ => rfl⟩
  | succ m ih =>
    intro h k k' p ro D E hm hk hk' hX hA hr
    obtain ⟨k, rfl⟩ : ∃ q, k = q + 1 := ⟨k - 1, by omega⟩
    obtain ⟨k', rfl⟩ : ∃ q, k' = q + 1 := ⟨k' - 1, by omega⟩
    obtain ⟨q, ch, D1, E1, i1, i2, i3, i4, i5, i6, i7⟩ := t_pk (tw := tw) hX hA
    have n250 := hX.1
    have hq := i4.1
    have hX1 := Tx_f hX i5 i6
    have e10 : T + 6 + 4 = T + 10 := rfl
    rw [b_X3_readPerson_81, if_neg (show ¬ (24 : Int32) ≤ nI h from nI_ge (b := 24) (by omega) (by omega)), t_good hA, if_neg (show ¬ (1 : Int32) = 0 by decide), f_X3_readDoing, i1, b_X6_takeRow_2, if_neg (show ¬ (24 : Int32) ≤ nI h from nI_ge (b := 24) (by omega) (by omega)), i2, n_24, hT, e10, nI_1]
    dsimp only [Option.bind_some]
    have htl : am_in (nI (24 * P + h)) 120 = true := tl_ai (by omega) (by omega)
    simp only [b_X6_takeRow_44, nI_add, if_pos htl, tl_cl2 (show 24 * P + h < 2 ^ 31 by omega), nI_1]
    -- one letter that says what he does
    have go : ∀ x, x ≤ 2 → q < n → (∃ (q' : Nat) (ro' : Nat → Nat) (D' E' : am_M), b_X3_readPerson_81 tw k (nI P) (nI (h + 1)) (am_up (am_up D1 12 1 (nI (q + 1))) (T + 10) (24 * P + h) (nI x)) = b_X3_readPerson_123 tw D' ∧ b_X6_takeRow_2 k' (nI (24 * P)) (nI (h + 1)) (am_up (am_up E1 67 (24 * P + h) (nI x)) 56 16 (nI (q + 1))) = some (0, E') ∧ p ≤ q' ∧ Atp n q' D' E' ∧ (∀ j, j < 24 * (P + 1) → D' (T + 10) j = nI (ro' j) ∧ E' 67 j = nI (ro' j) ∧ ro' j ≤ 2) ∧ ((∀ a, a ≠ 12 → a ≠ T + 10 → D' a = D a) ∧ D' 12 4 = D 12 4) ∧ (∀ a, a ≠ 56 → a ≠ 67 → E' a = E a) ∧ ∀ i, i ≠ 15 → i ≠ 16 → i ≠ 17 → i ≠ 18 → E' 56 i = E 56 i) ∨ (∃ f w D' E', b_X3_readPerson_81 tw k (nI P) (nI (h + 1)) (am_up (am_up D1 12 1 (nI (q + 1))) (T + 10) (24 * P + h) (nI x)) = b_X3_readPerson_123 tw D' ∧ b_X6_takeRow_2 k' (nI (24 * P)) (nI (h + 1)) (am_up (am_up E1 67 (24 * P + h) (nI x)) 56 16 (nI (q + 1))) = some (nI f, E') ∧ Bd f w D' E' ∧ ((∀ a, a ≠ 12 → a ≠ T + 10 → D' a = D a) ∧ D' 12 4 = D 12 4) ∧ (∀ a, a ≠ 56 → a ≠ 67 → E' a = E a) ∧ ∀ i, i ≠ 15 → i ≠ 16 → i ≠ 17 → i ≠ 18 → E' 56 i = E 56 i) := by
      intro x hx hqn
      have fD : (∀ a, a ≠ 12 → a ≠ T + 10 → (am_up (am_up D1 12 1 (nI (q + 1))) (T + 10) (24 * P + h) (nI x)) a = D a) ∧ (am_up (am_up D1 12 1 (nI (q + 1))) (T + 10) (24 * P + h) (nI x)) 12 4 = D 12 4 := ⟨fun a x1 x2 => by rw [tl_upo2 x2, tl_upo2 x1, i5.1 a x1], by rw [tl_upo2 (by omega), tl_upi2, if_neg (by decide), i5.2]⟩
      have fE : ∀ a, a ≠ 56 → a ≠ 67 → (am_up (am_up E1 67 (24 * P + h) (nI x)) 56 16 (nI (q + 1))) a = E a := fun a x1 x2 => by rw [tl_upo2 x1, tl_upo2 x2, i6.1 a x1]
      have fE2 : ∀ i, i ≠ 15 → i ≠ 16 → i ≠ 17 → i ≠ 18 → (am_up (am_up E1 67 (24 * P + h) (nI x)) 56 16 (nI (q + 1))) 56 i = E 56 i := fun i x1 x2 x3 x4 => by rw [tl_upi2, if_neg x2, tl_upo2 (by decide), i6.2 i x1 x2 x3 x4]
      have hX2 : Tx n tx (am_up (am_up D1 12 1 (nI (q + 1))) (T + 10) (24 * P + h) (nI x)) (am_up (am_up E1 67 (24 * P + h) (nI x)) 56 16 (nI (q + 1))) := Tx_F hL hX1 (FC_t (FC_c (Fc_u (by decide))) (FC_u (by omega) (by omega))) (FM_t (FM_u (by decide) (by decide)) (FM_k (by omega)))
      have hA2 : Atp n (q + 1) (am_up (am_up D1 12 1 (nI (q + 1))) (T + 10) (24 * P + h) (nI x)) (am_up (am_up E1 67 (24 * P + h) (nI x)) 56 16 (nI (q + 1))) := by
        refine ⟨by omega, ?_, ?_, ?_, ?_, ?_⟩
        · rw [tl_upo2 (by omega), tl_upi2, if_pos rfl]
        · rw [tl_upi2, if_pos rfl]
        · rw [tl_upo2 (by omega), tl_upi2, if_neg (by decide)]; exact i4.2.2.2.1
        · rw [tl_upo2 (by omega), tl_upi2, if_neg (by decide)]; exact i4.2.2.2.2.1
        · rw [tl_upi2, if_neg (by decide), tl_upo2 (by decide)]; exact i4.2.2.2.2.2
      have hr2 : ∀ j, j < 24 * P + (h + 1) → (am_up (am_up D1 12 1 (nI (q + 1))) (T + 10) (24 * P + h) (nI x)) (T + 10) j = nI (un ro (24 * P + h) x j) ∧ (am_up (am_up E1 67 (24 * P + h) (nI x)) 56 16 (nI (q + 1))) 67 j = nI (un ro (24 * P + h) x j) ∧ un ro (24 * P + h) x j ≤ 2 := by
        intro j hj
        rw [tl_upi2, tl_upo2 (show T + 10 ≠ 12 by omega), tl_upo2 (show (67 : Nat) ≠ 56 by decide), tl_upi2]
        by_cases e : j = 24 * P + h
        · rw [if_pos e, if_pos e, e, un_s]; exact ⟨rfl, rfl, hx⟩
        · rw [if_neg e, if_neg e, un_n e, i5.1 (T + 10) (by omega), i6.1 67 (by decide)]; exact hr j (by omega)
      rcases ih (h + 1) k k' (q + 1) (un ro (24 * P + h) x) _ _ (by omega) (by omega) (by omega) hX2 hA2 hr2 with ⟨q', ro', D', E', a1, a2, a3, a4, a5, a6, a7, a8⟩ | ⟨f, w, D', E', a1, a2, a3, a4, a5, a6⟩
      · exact Or.inl ⟨q', ro', D', E', a1, a2, by omega, a4, a5, ⟨fun a x1 x2 => by rw [a6.1 a x1 x2, fD.1 a x1 x2], by rw [a6.2, fD.2]⟩, fun a x1 x2 => by rw [a7 a x1 x2, fE a x1 x2], fun i x1 x2 x3 x4 => by rw [a8 i x1 x2 x3 x4, fE2 i x1 x2 x3 x4]⟩
      · exact Or.inr ⟨f, w, D', E', a1, a2, a3, ⟨fun a x1 x2 => by rw [a4.1 a x1 x2, fD.1 a x1 x2], by rw [a4.2, fD.2]⟩, fun a x1 x2 => by rw [a5 a x1 x2, fE a x1 x2], fun i x1 x2 x3 x4 => by rw [a6 i x1 x2 x3 x4, fE2 i x1 x2 x3 x4]⟩
    have hend : (ch = 122 ∨ ch = 119 ∨ ch = 46) → q < n := by
      intro hc
      rcases i7 with ⟨x, -⟩ | ⟨-, x⟩
      · exact x
      · rw [x] at hc
        exact absurd hc (by decide)
    have es : ∀ x, am_up E1 67 (24 * P + h) (nI x) 56 16 + 1 = nI (q + 1) := fun x => by rw [tl_upo2 (by decide), i4.2.2.1, nI_1]
    by_cases c1 : ch = 122
    · have := go 0 (by decide) (hend (Or.inl c1))
      rw [if_pos c1, if_pos c1, b_X3_readDoing_34, if_pos c1, if_pos (show (0 : Int32) ≤ 0 by decide), show (0 : Int32) = nI 0 from rfl, es 0, i4.2.1, nI_1]
      exact this
    · by_cases c2 : ch = 119
      · have := go 1 (by decide) (hend (Or.inr (Or.inl c2)))
        rw [if_neg c1, if_neg c1, if_pos c2, if_pos c2, b_X3_readDoing_34, if_neg c1, if_pos c2, if_pos (show (0 : Int32) ≤ 1 by decide), show (1 : Int32) = nI 1 from rfl, show (D1 12 1 + nI 1) = nI (q + 1) by rw [i4.2.1, nI_add], show am_up E1 67 (24 * P + h) (nI 1) 56 16 + nI 1 = nI (q + 1) from es 1]
        exact this
      · by_cases c3 : ch = 46
        · have := go 2 (by decide) (hend (Or.inr (Or.inr c3)))
          rw [if_neg c1, if_neg c1, if_neg c2, if_neg c2, if_pos c3, if_pos c3, b_X3_readDoing_34, if_neg c1, if_neg c2, if_pos (show (0 : Int32) ≤ 2 by decide), show (2 : Int32) = nI 2 from rfl, es 2, i4.2.1, nI_1]
          exact this
        · rw [if_neg c1, if_neg c1, if_neg c2, if_neg c2, if_neg c3, if_neg c3, if_neg (show ¬ (0 : Int32) ≤ (-1) by decide), t_fail i4, i4.2.1, f_X6_fails, i4.2.2.1]
          dsimp only [Option.bind_some]
          obtain ⟨k, rfl⟩ : ∃ q, k = q + 1 := ⟨k - 1, by omega⟩
          have hb := t_bd (f := 1) (w := q) i4 (by decide) (by decide) (by omega)
          have e5 : (am_up (am_up (am_up D1 12 5 1) 12 6 (nI q)) (T + 10) (24 * P + h) 2) 12 5 = nI 1 := by rw [tl_upo2 (by omega)]; exact hb.2.2.2.1
          refine Or.inr ⟨1, q, am_up (am_up (am_up D1 12 5 1) 12 6 (nI q)) (T + 10) (24 * P + h) 2, am_up E1 56 15 (nI q), ?_, rfl, Bd_o (tl_upo2 (by omega)) rfl hb, ⟨fun a x1 x2 => by rw [tl_upo2 x2, tl_upo2 x1, tl_upo2 x1, i5.1 a x1], by rw [tl_upo2 (by omega), tl_upi2, if_neg (by decide), tl_upi2, if_neg (by decide), i5.2]⟩, fun a x1 x2 => by rw [tl_upo2 x1, i6.1 a x1], fun i x1 x2 x3 x4 => by rw [tl_upi2, if_neg x1, i6.2 i x1 x2 x3 x4]⟩
          rw [b_X3_readPerson_81, t_notg e5 (by decide) (by decide), if_pos (show (0 : Int32) = 0 from rfl)]
          split <;> rfl
theorem t_per1 {tw T n p : Nat} {D E : am_M} (hT : 15 - tw = T) (hL : T + 10 < 12 ∨ 13 < T) (hA : Atp n p D E) (hp : p ≤ 250) (h0 : ¬ D T 3 < 5) : ∃ D', f_X3_readPerson tw D = some D' ∧ Bd 3 p D' (am_up E 56 15 (nI p)) ∧ FC T D D' := by
  have hb := t_bd (f := 3) (w := p) hA (by decide) (by decide) hp
  have e5 : (am_up (am_up D 12 5 (nI 3)) 12 6 (nI p)) 12 5 = nI 3 := hb.2.2.2.1
  have nb : ∀ (lo hi : Int32) (U : am_M), U 12 5 = nI 3 → f_X3_readNumber tw lo hi U = some (0, U) := fun lo hi U h => t_nb h (by decide) (by decide)
  rw [f_X3_readPerson, hT, if_neg h0, b_X3_readPerson_17, hT, t_many hA]
  dsimp only [Option.bind_some]
  rw [nb _ _ _ e5]
  dsimp only [Option.bind_some]
  rw [nb _ _ _ e5]
  dsimp only [Option.bind_some]
  rw [t_notg e5 (by decide) (by decide), if_pos (show (0 : Int32) = 0 from rfl)]
  exact ⟨_, rfl, hb, FC_c t_ffl⟩
theorem t_per {tw T n p : Nat} {tx : Nat → Nat} {t : To} {ti pu ro : Nat → Nat} {yt : Nat} {D E : am_M} (hT : 15 - tw = T) (hL : T + 10 < 12 ∨ 13 < T) (hX : Tx n tx D E) (hA : Atp n p D E) (hp : p < n) (hB : PB t ti pu ro yt) (hC : PC T t ti pu ro yt D) (hM : PM t ti pu ro yt E) (hb : 1 ≤ q_be t) (hP : q_pe t < 5) : BR T n (p + 1) D E (f_X3_readPerson tw D) (f_X6_takePerson (am_up E 56 16 (nI (p + 1)))) := by
  have hA1 := At_s hA hp
  have hX1 : Tx n tx (am_up D 12 1 (nI (p + 1))) (am_up E 56 16 (nI (p + 1))) := Tx_f hX (Fc_u (by decide)) (Fm_u (by decide) (by decide))
  have c1 : FC T D (am_up D 12 1 (nI (p + 1))) := FC_c (Fc_u (by decide))
  have m1 : FM E (am_up E 56 16 (nI (p + 1))) := FM_k (by omega)
  have hC1 : PC T t ti pu ro yt (am_up D 12 1 (nI (p + 1))) := PC_c hL (Fc_u (by decide)) hC
  have hM1 : PM t ti pu ro yt (am_up E 56 16 (nI (p + 1))) := PM_m (Fm_u (by decide) (by decide)) hM
  rw [f_X3_readPerson, hT, hC.1.2.2.2.1, if_pos (show nI (q_pe t) < 5 from nI_lt (b := 5) hP (by decide)), b_X3_readPerson_17, hT, t_step hA, f_X6_takePerson, hM1.2.2.2.1, if_pos (tl_ai (by omega) (by omega)), tl_cl2 (by omega), nI_1]
  dsimp only [Option.bind_some]
  generalize am_up D 12 1 (nI (p + 1)) = D1 at *
  generalize am_up E 56 16 (nI (p + 1)) = E1 at *
  have hX2 : Tx n tx D1 (am_up (am_up E1 56 20 (nI (q_pe t + 1))) 68 (q_pe t) 1) := Tx_F hL hX1 (FC_c (Fc_r D1)) (FM_t (FM_k (by omega)) (FM_u (by decide) (by decide)))
  have hA2 : Atp n (p + 1) D1 (am_up (am_up E1 56 20 (nI (q_pe t + 1))) 68 (q_pe t) 1) := At_o rfl (by rw [tl_upo2 (by decide), tl_upi2, if_neg (by decide)]) (by rw [tl_upo2 (by decide), tl_upi2, if_neg (by decide)]) hA1
  have m2 : FM E (am_up (am_up E1 56 20 (nI (q_pe t + 1))) 68 (q_pe t) 1) := FM_t m1 (FM_t (FM_k (by omega)) (FM_u (by decide) (by decide)))
  rcases t_num (tw := tw) (lo := 0) (hi := 60) hX2 hA2 with ⟨v, q, p0, D2, E2, a1, a2, a3, a4, a5, a6, a7, a8, a9, a10, a11, a12⟩ | ⟨f, w, D2, E2, a1, a2, a3, a4, a5⟩
  · rw [a1, m_into a2 hP (by decide)]
    dsimp only [Option.bind_some]
    have hX3 : Tx n tx D2 (am_up E2 65 (q_pe t) (E2 56 17)) := Tx_F hL (Tx_f hX2 a11 a12) (FC_c (Fc_r D2)) (FM_u (by decide) (by decide))
    have hA3 : Atp n q D2 (am_up E2 65 (q_pe t) (E2 56 17)) := At_o rfl (by rw [tl_upo2 (by decide)]) (by rw [tl_upo2 (by decide)]) a6
    rw [if_pos (show (0 : Int32) ≤ 0 by decide)]
    rcases t_num (tw := tw) (lo := 0) (hi := 99) hX3 hA3 with ⟨v', q', p0', D3, E3, b1, b2, b3, b4, b5, b6, b7, b8, b9, b10, b11, b12⟩ | ⟨f, w, D3, E3, b1, b2, b3, b4, b5⟩
    · have e3 : D3 T 3 = nI (q_pe t) := by rw [b11.1 T (by omega), a11.1 T (by omega)]; exact hC1.1.2.2.2.1
      rw [b1, m_into b2 hP (by decide)]
      dsimp only [Option.bind_some]
      rw [t_good b6, if_neg (show ¬ (1 : Int32) = 0 by decide), if_pos (show am_in (D3 T 3) 5 = true by rw [e3]; exact tl_ai (by omega) (by omega)), e3, tl_cl2 (by omega), b_X6_takePerson_55, if_pos (show (0 : Int32) ≤ 0 by decide), f_X6_takeRow, show (24 : Int32) * nI (q_pe t) = nI (24 * q_pe t) from pk_mul 24 _, show T + 6 + 1 = T + 7 from rfl, show T + 6 + 3 = T + 9 from rfl]
      have c2 : FC T D (am_up (am_up D3 (T + 7) (q_pe t) (nI v)) (T + 9) (q_pe t) (nI v')) := FC_t c1 (FC_t (FC_c a11) (FC_t (FC_c b11) (FC_t (FC_u (by omega) (by omega)) (FC_u (by omega) (by omega)))))
      have m3 : FM E (am_up E3 66 (q_pe t) (E3 56 17)) := FM_t m2 (FM_t (FM_m a12) (FM_t (FM_u (by decide) (by decide)) (FM_t (FM_m b12) (FM_u (by decide) (by decide)))))
      have hX4 := Tx_F hL hX c2 m3
      have hA4 : Atp n q' (am_up (am_up D3 (T + 7) (q_pe t) (nI v)) (T + 9) (q_pe t) (nI v')) (am_up E3 66 (q_pe t) (E3 56 17)) := At_o (by rw [tl_upo2 (by omega), tl_upo2 (by omega)]) (by rw [tl_upo2 (by decide)]) (by rw [tl_upo2 (by decide)]) b6
      have gD : ∀ a, a ≠ 12 → a ≠ T + 7 → a ≠ T + 9 → (am_up (am_up D3 (T + 7) (q_pe t) (nI v)) (T + 9) (q_pe t) (nI v')) a = D1 a := fun a x1 x2 x3 => by rw [tl_upo2 x3, tl_upo2 x2, b11.1 a x1, a11.1 a x1]
      have gE : ∀ a, a ≠ 56 → a ≠ 68 → a ≠ 65 → a ≠ 66 → (am_up E3 66 (q_pe t) (E3 56 17)) a = E1 a := fun a x1 x2 x3 x4 => by rw [tl_upo2 x4, b12.1 a x1, tl_upo2 x3, a12.1 a x1, tl_upo2 x2, tl_upo2 x1]
      have gK : ∀ i, i ≠ 15 → i ≠ 16 → i ≠ 17 → i ≠ 18 → (am_up E3 66 (q_pe t) (E3 56 17)) 56 i = if i = 20 then nI (q_pe t + 1) else E1 56 i := fun i x1 x2 x3 x4 => by rw [tl_upo2 (by decide), b12.2 i x1 x2 x3 x4, tl_upo2 (by decide), a12.2 i x1 x2 x3 x4, tl_upo2 (by decide), tl_upi2]
      have g65 : ∀ i, (am_up E3 66 (q_pe t) (E3 56 17)) 65 i = if i = q_pe t then nI v else E1 65 i := fun i => by rw [tl_upo2 (by decide), b12.1 65 (by decide), tl_upi2, a7, a12.1 65 (by decide), tl_upo2 (by decide), tl_upo2 (by decide)]
      have g66 : ∀ i, (am_up E3 66 (q_pe t) (E3 56 17)) 66 i = if i = q_pe t then nI v' else E1 66 i := fun i => by rw [tl_upi2, b7, b12.1 66 (by decide), tl_upo2 (by decide), a12.1 66 (by decide), tl_upo2 (by decide), tl_upo2 (by decide)]
      have g68 : ∀ i, (am_up E3 66 (q_pe t) (E3 56 17)) 68 i = if i = q_pe t then 1 else E1 68 i := fun i => by rw [tl_upo2 (by decide), b12.1 68 (by decide), tl_upo2 (by decide), a12.1 68 (by decide), tl_upi2, tl_upo2 (by decide)]
      have g7 : ∀ i, (am_up (am_up D3 (T + 7) (q_pe t) (nI v)) (T + 9) (q_pe t) (nI v')) (T + 7) i = if i = q_pe t then nI v else D1 (T + 7) i := fun i => by rw [tl_upo2 (by omega), tl_upi2, b11.1 (T + 7) (by omega), a11.1 (T + 7) (by omega)]
      have g9 : ∀ i, (am_up (am_up D3 (T + 7) (q_pe t) (nI v)) (T + 9) (q_pe t) (nI v')) (T + 9) i = if i = q_pe t then nI v' else D1 (T + 9) i := fun i => by rw [tl_upi2, tl_upo2 (by omega), b11.1 (T + 9) (by omega), a11.1 (T + 9) (by omega)]
      generalize am_up (am_up D3 (T + 7) (q_pe t) (nI v)) (T + 9) (q_pe t) (nI v') = D4 at *
      generalize am_up E3 66 (q_pe t) (E3 56 17) = E4 at *
      rcases t_row hT hL hP 24 0 am_N am_N q' ro D4 E4 rfl (by decide) (by decide) hX4 hA4 (fun j hj => ⟨by rw [gD (T + 10) (by omega) (by omega) (by omega)]; exact hC1.2.2.2.2.2 j (by omega), by rw [gE 67 (by decide) (by decide) (by decide) (by decide)]; exact hM1.2.2.2.2.2.2.2.2.2.2.2.2 j (by omega), hB.2.2.2.1 j (by omega)⟩) with ⟨q2, ro', D5, E5, d1, d2, d3, d4, d5, d6, d7, d8⟩ | ⟨f, w, D5, E5, d1, d2, d3, d4, d5, d6⟩
      · have d1' : b_X3_readPerson_81 tw am_N (nI (q_pe t)) 0 D4 = b_X3_readPerson_123 tw D5 := d1
        have d2' : b_X6_takeRow_2 am_N (nI (24 * q_pe t)) 0 E4 = some (0, E5) := d2
        have e35 : D5 T 3 = nI (q_pe t) := by rw [d6.1 T (by omega) (by omega), gD T (by omega) (by omega) (by omega)]; exact hC1.1.2.2.2.1
        rw [d1', d2', b_X3_readPerson_123, hT, e35, nI_1]
        dsimp only [Option.bind_some]
        have w1' := (n_w (a := 0) (b := 60) a3 (by decide) (by decide) a4).2
        have w2' := (n_w (a := 0) (b := 99) b3 (by decide) (by decide) b4).2
        obtain ⟨⟨z1, z2, z3, z4, z5, z6, z7, z8, z9, z10⟩, B2, B3, B4, B5, B6⟩ := hB
        obtain ⟨⟨x1, x2, x3, x4, x5, x6, x7, x8, x9⟩, C2, C3, C4, C5, C6⟩ := hC1
        obtain ⟨y1, y2, y3, y4, y5, y6, y7, y8, y9, y10, y11, y12, y13⟩ := hM1
        obtain ⟨b61, b62⟩ := B6 hb
        have hD : ∀ a, a ≠ 12 → a ≠ T + 7 → a ≠ T + 9 → a ≠ T + 10 → a ≠ T → (am_up D5 T 3 (nI (q_pe t + 1))) a = D1 a := fun a x1 x2 x3 x4 x5 => by rw [tl_upo2 x5, d6.1 a x1 x4, gD a x1 x2 x3]
        have hTi : ∀ i, (am_up D5 T 3 (nI (q_pe t + 1))) T i = if i = 3 then nI (q_pe t + 1) else D1 T i := fun i => by rw [tl_upi2, d6.1 T (by omega) (by omega), gD T (by omega) (by omega) (by omega)]
        have hE : ∀ a, a ≠ 56 → a ≠ 65 → a ≠ 66 → a ≠ 67 → a ≠ 68 → E5 a = E1 a := fun a x1 x2 x3 x4 x5 => by rw [d7 a x1 x4, gE a x1 x5 x2 x3]
        have hK : ∀ i, i ≠ 15 → i ≠ 16 → i ≠ 17 → i ≠ 18 → E5 56 i = if i = 20 then nI (q_pe t + 1) else E1 56 i := fun i x1 x2 x3 x4 => by rw [d8 i x1 x2 x3 x4, gK i x1 x2 x3 x4]
        have FCn : FC T D (am_up D5 T 3 (nI (q_pe t + 1))) := FC_t c2 ⟨fun a x1 x2 x3 x4 x5 => by rw [tl_upo2 (by omega), d6.1 a x1 x5], by rw [tl_upo2 (by omega), d6.2]⟩
        have FMn : FM E E5 := FM_t m3 ⟨fun a x1 x2 => d7 a x1 (by omega), fun i x1 x2 x3 x4 _ _ _ _ => d8 i x1 x2 x3 x4⟩
        refine Or.inl ⟨q2, _, _, (q_be t, q_de t, q_ga t, q_pe t + 1, q_cn t, q_dn t, q_co t, q_dw t, q_dh t, q_dv t, un (q_ya t) (q_pe t) 1), un ti (q_pe t) v, un pu (q_pe t) v', ro', yt, rfl, rfl, by omega, At_o (tl_upo2 (by omega)) rfl rfl d4, ⟨⟨z1, z2, z3, by show q_pe t + 1 ≤ 5; omega, z5, z6, z7, fun d hd => ?_, fun j hj => ?_, fun _ => ⟨hb, b61, b62⟩⟩, fun j hj => ?_, fun j hj => ?_, fun j hj => (d5 j hj).2.2, B5, fun _ => ⟨b61, b62⟩⟩, ⟨⟨?_, ?_, ?_, ?_, ?_, ?_, ?_, ?_, fun j hj => ?_⟩, ?_, fun j j1 j2 => ?_, fun j hj => ?_, fun j hj => ?_, fun j hj => ?_⟩, ⟨?_, ?_, ?_, ?_, ?_, ?_, ?_, ?_, ?_, fun j hj => ?_, fun j hj => ?_, fun j hj => ?_, fun j hj => ?_⟩, hb, FCn, FMn⟩
        · have := z8 d hd
          exact ⟨by show q_dw t d < q_pe t + 1; omega, this.2⟩
        · show 1 ≤ un (q_ya t) (q_pe t) 1 j ∧ un (q_ya t) (q_pe t) 1 j ≤ 20
          by_cases e : j = q_pe t
          · rw [e, un_s]; decide
          · have hj' : j < q_pe t + 1 := hj
            rw [un_n e]; exact z9 j (by omega)
        · have hj' : j < q_pe t + 1 := hj
          by_cases e : j = q_pe t
          · rw [e, un_s]; omega
          · rw [un_n e]; exact B2 j (by omega)
        · have hj' : j < q_pe t + 1 := hj
          by_cases e : j = q_pe t
          · rw [e, un_s]; omega
          · rw [un_n e]; exact B3 j (by omega)
        · rw [hTi]; exact x1
        · rw [hTi]; exact x2
        · rw [hTi]; exact x3
        · rw [hTi]; rfl
        · rw [hTi]; exact x5
        · rw [hTi]; exact x6
        · rw [hD (T + 1) (by omega) (by omega) (by omega) (by omega) (by omega)]; exact x7
        · rw [hD (T + 2) (by omega) (by omega) (by omega) (by omega) (by omega), hD (T + 3) (by omega) (by omega) (by omega) (by omega) (by omega), hD (T + 4) (by omega) (by omega) (by omega) (by omega) (by omega)]; exact x8
        · have hj' : j < q_pe t + 1 := hj
          rw [hD (T + 5) (by omega) (by omega) (by omega) (by omega) (by omega)]
          show _ = nI (un (q_ya t) (q_pe t) 1 j)
          by_cases e : j = q_pe t
          · rw [e, un_s]; exact C3 _ (Nat.le_refl _) hP
          · rw [un_n e]; exact x9 j (by omega)
        · rw [hTi]; exact C2
        · rw [hD (T + 5) (by omega) (by omega) (by omega) (by omega) (by omega)]
          have j1' : q_pe t + 1 ≤ j := j1
          exact C3 j (by omega) j2
        · have hj' : j < q_pe t + 1 := hj
          rw [tl_upo2 (by omega), d6.1 (T + 7) (by omega) (by omega), g7]
          by_cases e : j = q_pe t
          · rw [if_pos e, e, un_s]
          · rw [if_neg e, un_n e]; exact C4 j (by omega)
        · have hj' : j < q_pe t + 1 := hj
          rw [tl_upo2 (by omega), d6.1 (T + 9) (by omega) (by omega), g9]
          by_cases e : j = q_pe t
          · rw [if_pos e, e, un_s]
          · rw [if_neg e, un_n e]; exact C5 j (by omega)
        · rw [tl_upo2 (by omega)]; exact (d5 j hj).1
        · rw [hE 64 (by decide) (by decide) (by decide) (by decide) (by decide)]; exact y1
        · rw [hE 64 (by decide) (by decide) (by decide) (by decide) (by decide)]; exact y2
        · rw [hE 64 (by decide) (by decide) (by decide) (by decide) (by decide)]; exact y3
        · rw [hK 20 (by decide) (by decide) (by decide) (by decide)]; rfl
        · rw [hK 26 (by decide) (by decide) (by decide) (by decide)]; exact y5
        · rw [hK 28 (by decide) (by decide) (by decide) (by decide)]; exact y6
        · rw [hK 25 (by decide) (by decide) (by decide) (by decide)]; exact y7
        · rw [hE 69 (by decide) (by decide) (by decide) (by decide) (by decide)]; exact y8
        · rw [hE 70 (by decide) (by decide) (by decide) (by decide) (by decide), hE 71 (by decide) (by decide) (by decide) (by decide) (by decide), hE 72 (by decide) (by decide) (by decide) (by decide) (by decide)]; exact y9
        · have hj' : j < q_pe t + 1 := hj
          rw [d7 68 (by decide) (by decide), g68]
          show _ = nI (un (q_ya t) (q_pe t) 1 j)
          by_cases e : j = q_pe t
          · rw [if_pos e, e, un_s]; rfl
          · rw [if_neg e, un_n e]; exact y10 j (by omega)
        · have hj' : j < q_pe t + 1 := hj
          rw [d7 65 (by decide) (by decide), g65]
          by_cases e : j = q_pe t
          · rw [if_pos e, e, un_s]
          · rw [if_neg e, un_n e]; exact y11 j (by omega)
        · have hj' : j < q_pe t + 1 := hj
          rw [d7 66 (by decide) (by decide), g66]
          by_cases e : j = q_pe t
          · rw [if_pos e, e, un_s]
          · rw [if_neg e, un_n e]; exact y12 j (by omega)
        · exact (d5 j hj).2.1
      · have d1' : b_X3_readPerson_81 tw am_N (nI (q_pe t)) 0 D4 = b_X3_readPerson_123 tw D5 := d1
        have d2' : b_X6_takeRow_2 am_N (nI (24 * q_pe t)) 0 E4 = some (nI f, E5) := d2
        rw [d1', d2', b_X3_readPerson_123, hT]
        dsimp only [Option.bind_some]
        exact Or.inr ⟨f, w, _, _, rfl, rfl, Bd_o (tl_upo2 (by omega)) rfl d3, FC_t c2 ⟨fun a x1 x2 x3 x4 x5 => by rw [tl_upo2 (by omega), d4.1 a x1 x5], by rw [tl_upo2 (by omega), d4.2]⟩, FM_t m3 ⟨fun a x1 x2 => d5 a x1 (by omega), fun i x1 x2 x3 x4 _ _ _ _ => d6 i x1 x2 x3 x4⟩⟩
    · have hf1 := b3.1
      have hf4 := b3.2.1
      rw [b1, m_into b2 hP (by decide)]
      dsimp only [Option.bind_some]
      rw [t_notg b3.2.2.2.1 hf1 hf4, if_pos (show (0 : Int32) = 0 from rfl), b_X6_takePerson_55, if_neg (nI_nle (by omega) (by omega))]
      exact Or.inr ⟨f, w, _, _, rfl, rfl, Bd_o rfl (by rw [tl_upo2 (by decide)]) b3, FC_t c1 (FC_t (FC_c a11) (FC_c b4)), FM_t m2 (FM_t (FM_m a12) (FM_t (FM_u (by decide) (by decide)) (FM_t (FM_m b5) (FM_u (by decide) (by decide)))))⟩
  · have hf1 := a3.1
    have hf4 := a3.2.1
    rw [a1, m_into a2 hP (by decide)]
    dsimp only [Option.bind_some]
    rw [t_nb a3.2.2.2.1 hf1 hf4, if_neg (nI_nle (by omega) (by omega)), b_X6_takePerson_55, if_neg (nI_nle (by omega) (by omega))]
    dsimp only [Option.bind_some]
    rw [t_notg a3.2.2.2.1 hf1 hf4, if_pos (show (0 : Int32) = 0 from rfl)]
    exact Or.inr ⟨f, w, _, _, rfl, rfl, Bd_o rfl (by rw [tl_upo2 (by decide)]) a3, FC_t c1 (FC_c a4), FM_t m2 (FM_t (FM_m a5) (FM_u (by decide) (by decide)))⟩
