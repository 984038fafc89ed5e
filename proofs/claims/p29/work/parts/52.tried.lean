/-! trials -/
theorem mMo_g {P : Nat} {s : Mo} {D E : am_M} (hP : P ≤ 5) (h : ∀ k, k < 138 → E 62 k = D 62 k) (h2 : E 56 12 = D 56 12) (q : mMo P s D) : mMo P s E := by
  obtain ⟨y1, y2, y3, y4, y5, y6, y7, y8⟩ := q
  exact ⟨fun p hp => by rw [h p (by omega)]; exact y1 p hp, fun p hp => by rw [h (5 + p) (by omega)]; exact y2 p hp, fun p hp => by rw [h (10 + p) (by omega)]; exact y3 p hp, fun p hp => by rw [h (15 + p) (by omega)]; exact y4 p hp, by rw [h 135 (by decide)]; exact y5, by rw [h 136 (by decide)]; exact y6, by rw [h 137 (by decide)]; exact y7, by rw [h2]; exact y8⟩
/-- a trial on both sides leaves all as it was -/
theorem Si_try {tw : Nat} {t : To} {s : Mo} {D E : am_M} (q : Si tw t s D) (h1 : ∀ a, a ≠ 62 → a < 30 ∨ 35 ≤ a → a < 73 ∨ 78 < a → E a = D a) (h2 : ∀ k, k < 138 → E 62 k = D 62 k) : Si tw t s E := by
  obtain ⟨nb, nh, n3, n4⟩ := q.2.2.2.2.1
  exact Si_n q (fun a a1 a2 a3 a4 => h1 a a2 (by omega) a4) (fun k _ => by rw [h1 56 (by decide) (by decide) (by decide)]) ⟨nb, nh, cMo_f (fun a _ _ => h1 a (by omega) (by omega) (by omega)) n3, mMo_g q.2.1.2.2.2.1 h2 (by rw [h1 56 (by decide) (by decide) (by decide)]) n4⟩
def fe (a b : Nat) : Nat := a &&& (255 ^^^ b)
theorem n_fe {a b : Nat} (ha : a < 256) : nI a &&& (nI b ^^^ (-1)) = nI (fe a b) := by
  apply Int32.toBitVec_inj.1
  show BitVec.ofNat 32 a &&& (BitVec.ofNat 32 b ^^^ BitVec.allOnes 32) = BitVec.ofNat 32 (a &&& (255 ^^^ b))
  apply BitVec.eq_of_getLsbD_eq
  intro i hi
  by_cases h8 : i < 8
  · have : Nat.testBit 255 i = true := by
      have : ∀ j, j < 8 → Nat.testBit 255 j = true := by decide
      exact this i h8
    rw [BitVec.getLsbD_and, BitVec.getLsbD_xor, BitVec.getLsbD_ofNat, BitVec.getLsbD_ofNat, BitVec.getLsbD_ofNat, BitVec.getLsbD_allOnes, Nat.testBit_and, Nat.testBit_xor, this]
    simp [hi]
  · have : a.testBit i = false := Nat.testBit_lt_two_pow (Nat.lt_of_lt_of_le ha (show 2 ^ 8 ≤ 2 ^ i from Nat.pow_le_pow_right (by decide) (by omega)))
    rw [BitVec.getLsbD_and, BitVec.getLsbD_xor, BitVec.getLsbD_ofNat, BitVec.getLsbD_ofNat, BitVec.getLsbD_ofNat, Nat.testBit_and, this]
    simp
theorem fe_lt {a b : Nat} (ha : a < 256) : fe a b < 256 := Nat.lt_of_le_of_lt Nat.and_le_left ha
theorem fe_bit {a b j : Nat} (h : (fe a b).testBit j = true) (ha : a < 256) : a.testBit j = true ∧ b.testBit j = false := by
  have h8 : j < 8 := by
    apply Classical.byContradiction
    intro h8
    have : a.testBit j = false := Nat.testBit_lt_two_pow (Nat.lt_of_lt_of_le ha (show 2 ^ 8 ≤ 2 ^ j from Nat.pow_le_pow_right (by decide) (by omega)))
    unfold fe at h
    rw [Nat.testBit_and, this] at h
    cases h
  have h255 : Nat.testBit 255 j = true := by
    have : ∀ j, j < 8 → Nat.testBit 255 j = true := by decide
    exact this j h8
  unfold fe at h
  rw [Nat.testBit_and, Nat.testBit_xor, h255] at h
  cases h1 : a.testBit j <;> cases h2 : b.testBit j <;> simp [h1, h2] at h ⊢
theorem sD_bits {t : To} {hr : Nat} {q : Dq} : ∀ (n j : Nat), (sDs t hr n q).2.2.testBit j = true → q.2.2.testBit j = true ∨ (j < n ∧ q_dh t j = hr) := by
  intro n
  induction n with
  | zero => intro j h; exact Or.inl h
  | succ n ih =>
    intro j h
    rw [sDs] at h
    unfold sD at h
    have up : ((sDs t hr n q).2.2.testBit j = true) → q.2.2.testBit j = true ∨ (j < n + 1 ∧ q_dh t j = hr) := fun h => (ih j h).imp id (fun x => ⟨by omega, x.2⟩)
    split at h
    · rename_i he
      split at h
      · exact up h
      · have h' : ((sDs t hr n q).2.2 ||| 2 ^ n).testBit j = true := h
        rw [Nat.testBit_or, Bool.or_eq_true, Nat.testBit_two_pow] at h'
        rcases h' with h' | h'
        · exact up h'
        · have : n = j := by simpa using h'
          subst this
          exact Or.inr ⟨by omega, he⟩
    · exact up h
theorem fe_j {t : To} {s : Mo} {j : Nat} (hb : o_mi (sHour t s) < 256) (h : (fe (o_mi (sHour t s)) (o_mi s)).testBit j = true) : j < q_dn t ∧ q_dh t j = o_hr s := by
  obtain ⟨h1, h2⟩ := fe_bit h hb
  rcases sD_bits (t := t) (hr := o_hr s) (q_dn t) j h1 with h3 | h3
  · have h3' : (o_mi s).testBit j = true := h3
    rw [h2] at h3'
    cases h3'
  · exact h3
theorem fe_0 {x : Nat} (h : x ≠ 0) : ∃ j, x.testBit j = true := Nat.exists_testBit_of_ne_zero h
def lb (x : Nat) : Nat → Nat → Nat
  | 0, k => k
  | m + 1, k => if x.testBit k = true then k else lb x m (k + 1)
theorem lb_ok : ∀ x, x < 256 → x ≠ 0 → lb x 8 0 < 8 ∧ x.testBit (lb x 8 0) = true ∧ ∀ j, j < lb x 8 0 → x.testBit j = false := by decide +kernel
def fS (t : To) : Nat → Mo → Option (Nat × Nat)
  | 0, _ => none
  | m + 1, s => if fe (o_mi (sHour t s)) (o_mi s) = 0 then fS t m (sHour t s) else some (lb (fe (o_mi (sHour t s)) (o_mi s)) 8 0, o_hr s)
def aF (x : Int32) : Option (Nat × Nat) → Int32
  | none => -1
  | some q => if x = 0 then nI q.1 else nI q.2
theorem fS_none {t : To} (ht : bTo t) : ∀ (m : Nat) (s : Mo), bMo (q_pe t) s → 71 < o_hr s → fS t m s = none := by
  intro m
  induction m with
  | zero => intro s _ _; rfl
  | succ m ih =>
    intro s hs h
    have hb := sHour_b ht rfl hs
    have h0 : fe (o_mi (sHour t s)) (o_mi s) = 0 := by
      apply Classical.byContradiction
      intro h0
      obtain ⟨j, hj⟩ := fe_0 h0
      obtain ⟨j1, j2⟩ := fe_j hb.2.2.2.2.2.1 hj
      have := (ht.2.2.2.2.2.2.2.1 j j1).2.1
      omega
    rw [fS, if_pos h0]
    exact ih _ hb (by show 71 < o_hr s + 1; omega)
theorem c_least {x : Nat} {D : am_M} (hx : x < 256) (h0 : x ≠ 0) : ∀ (m k n : Nat), k + m = lb x 8 0 → m < n → b_X5_leastOf_2 n (nI x) (nI k) D = some (nI (lb x 8 0), D) := by
  obtain ⟨h8, hb, hn⟩ := lb_ok x hx h0
  intro m
  induction m with
  | zero =>
    intro k n hk hn'
    obtain ⟨n, rfl⟩ : ∃ q, n = q + 1 := ⟨n - 1, by omega⟩
    have : k = lb x 8 0 := by omega
    rw [this]
    have hi : ¬ f_X5_isIn (nI x) (nI (lb x 8 0)) = 0 := by
      rw [f_X5_isIn, if_pos ((n_in (by omega) (by omega)).mpr hb)]; decide
    rw [b_X5_leastOf_2, if_neg (show ¬ (31 : Int32) ≤ nI (lb x 8 0) from nI_ge (b := 31) (by omega) (by omega)), if_neg hi]
  | succ m ih =>
    intro k n hk hn'
    obtain ⟨n, rfl⟩ : ∃ q, n = q + 1 := ⟨n - 1, by omega⟩
    have hf := hn k (by omega)
    have hi : f_X5_isIn (nI x) (nI k) = 0 := by
      rw [f_X5_isIn, if_neg (fun q => by rw [n_in (by omega) (by omega), hf] at q; cases q)]
    rw [b_X5_leastOf_2, if_neg (show ¬ (31 : Int32) ≤ nI k from nI_ge (b := 31) (by omega) (by omega)), if_pos hi, nI_1]
    exact ih (k + 1) n (by omega) (by omega)
theorem c_fs {tw : Nat} {t : To} (hl : tw ≤ 14) (ht : bTo t) (x1 : Int32) : ∀ (m i n : Nat) (s : Mo) (D : am_M), i + m = 80 → m < n → bMo (q_pe t) s → o_hr s + m ≤ 200000 → cTo tw t D → cMo 30 (q_pe t) s D → ∃ D', b_X5_firstShort_25 tw n x1 (nI i) D = some (aF x1 (fS t m s), D') ∧ ∀ a, a < 30 ∨ 35 ≤ a → D' a = D a := by
  intro m
  induction m with
  | zero =>
    intro i n s D hm hn hs hh hT hM
    obtain ⟨n, rfl⟩ : ∃ q, n = q + 1 := ⟨n - 1, by omega⟩
    have : i = 80 := by omega
    subst this
    exact ⟨D, by rw [b_X5_firstShort_25, if_pos (show (80 : Int32) ≤ nI 80 by decide)]; rfl, fun _ _ => rfl⟩
  | succ m ih =>
    intro i n s D hm hn hs hh hT hM
    obtain ⟨n, rfl⟩ : ∃ q, n = q + 1 := ⟨n - 1, by omega⟩
    have hb := sHour_b ht rfl hs
    by_cases h71 : 71 < o_hr s
    · refine ⟨D, ?_, fun _ _ => rfl⟩
      rw [b_X5_firstShort_25, if_neg (show ¬ (80 : Int32) ≤ nI i from nI_ge (b := 80) (by omega) (by omega)), hM.2.2.2.2.2.2.1, if_pos (show (71 : Int32) < nI (o_hr s) from nI_lt (a := 71) h71 (by omega)), fS_none ht _ s hs h71]
      rfl
    · obtain ⟨D1, c1, c2, c3⟩ := c_hour (M := 30) (T := tw) (by omega) rfl ht hs (by omega) hT hM
      have hT1 : cTo tw t D1 := cTo_f (fun a _ _ => c3 a (by omega) (by omega) (by omega) (by omega)) hT
      have hm8 : o_mi (sHour t s) < 256 := hb.2.2.2.2.2.1
      have e0 : b_X5_firstShort_25 tw (n + 1) x1 (nI i) D = if nI (fe (o_mi (sHour t s)) (o_mi s)) = 0 then b_X5_firstShort_25 tw n x1 (nI (i + 1)) D1 else if x1 = 0 then (f_X5_leastOf (nI (fe (o_mi (sHour t s)) (o_mi s))) D1).bind fun q86 => some (q86.1, q86.2) else some (nI (o_hr s + 1) - 1, D1) := by
        rw [b_X5_firstShort_25, if_neg (show ¬ (80 : Int32) ≤ nI i from nI_ge (b := 80) (by omega) (by omega)), hM.2.2.2.2.2.2.1, if_neg (show ¬ (71 : Int32) < nI (o_hr s) from nI_nlt (b := o_hr s) (a := 71) (by omega) (by decide)), c1, Option.bind_some, c2.2.2.2.2.2.1, hM.2.2.2.2.2.1, n_fe hm8, nI_1, c2.2.2.2.2.2.2.1]
        rfl
      rw [e0, fS]
      by_cases h0 : fe (o_mi (sHour t s)) (o_mi s) = 0
      · rw [if_pos h0, h0, if_pos (show nI 0 = 0 from rfl)]
        obtain ⟨D', i1, i2⟩ := ih (i + 1) n (sHour t s) D1 (by omega) (by omega) hb (by show o_hr s + 1 + m ≤ _; omega) hT1 c2
        exact ⟨D', i1, fun a ha => by rw [i2 a ha, c3 a (by omega) (by omega) (by omega) (by omega)]⟩
      · rw [if_neg h0, if_neg (nI_ne0 (by omega) (by have := fe_lt (b := o_mi s) hm8; omega))]
        have hl8 := lb_ok _ (fe_lt (b := o_mi s) hm8) h0
        refine ⟨D1, ?_, fun a ha => by rw [c3 a (by omega) (by omega) (by omega) (by omega)]⟩
        show _ = some ((if x1 = 0 then nI (lb _ 8 0) else nI (o_hr s)), D1)
        by_cases hx : x1 = 0
        · rw [if_pos hx, if_pos hx, f_X5_leastOf]
          have := c_least (D := D1) (fe_lt (b := o_mi s) hm8) h0 (lb (fe (o_mi (sHour t s)) (o_mi s)) 8 0) 0 am_N (by omega) (by show _ < 100000; omega)
          rw [show (0 : Int32) = nI 0 from rfl, this]
          rfl
        · rw [if_neg hx, if_neg hx, nI_pred]
def mfl (x : Nat) (w hh : Int32) : Nat → Int32 → Int32
  | 0, y => y
  | d + 1, y => mfl x w hh d (if x.testBit d = true then (if w = 0 then nI d else hh) else y)
theorem mfl_n {x : Nat} {w hh : Int32} : ∀ (d : Nat) (y : Int32), (∀ j, j < d → x.testBit j = false) → mfl x w hh d y = y := by
  intro d
  induction d with
  | zero => intro y _; rfl
  | succ d ih => intro y h; rw [mfl, h d (by omega), if_neg (by decide)]; exact ih y (fun j hj => h j (by omega))
theorem mfl_l {x l : Nat} {w hh : Int32} (hl : x.testBit l = true) (hn : ∀ j, j < l → x.testBit j = false) : ∀ (d : Nat) (y : Int32), l < d → mfl x w hh d y = if w = 0 then nI l else hh := by
  intro d
  induction d with
  | zero => intro y h; omega
  | succ d ih =>
    intro y h
    rw [mfl]
    by_cases e : l = d
    · subst e
      rw [hl, if_pos rfl]
      exact mfl_n l _ hn
    · exact ih _ (by omega)
theorem m_fl {x : Nat} {k21 : Int32 → Int32 → Int32 → am_M → Option (Int32 × am_M)} {x1 x3 x5 : Int32} {D : am_M} (hx : x < 256) : ∀ (d n : Nat) (y : Int32), d ≤ 8 → d < n → b_X6_firstShort_78 k21 n x1 y x3 x5 (nI x) (nI d - 1) D = k21 x1 (mfl x x1 x5 d y) (x3 + 1) D := by
  intro d
  induction d with
  | zero =>
    intro n y h8 hn
    obtain ⟨n, rfl⟩ : ∃ q, n = q + 1 := ⟨n - 1, by omega⟩
    rw [b_X6_firstShort_78, if_pos (show nI 0 - 1 < 0 by decide), mfl]
  | succ d ih =>
    intro n y h8 hn
    obtain ⟨n, rfl⟩ : ∃ q, n = q + 1 := ⟨n - 1, by omega⟩
    rw [b_X6_firstShort_78, nI_pred, if_neg (nI_pos (by omega)), show nI d + (-1) = nI d - 1 from (Int32.sub_eq_add_neg _ _).symm, ih n _ (by omega) (by omega), mfl]
    have he : f_X6_has (nI x) (nI d) = 0 ↔ ¬ x.testBit d = true := by
      rw [has_is, f_X5_isIn, ← n_in (by omega) (by omega : d < 31)]
      split
      · rename_i h; exact ⟨fun q => absurd q (by decide), fun q => absurd h q⟩
      · rename_i h; exact ⟨fun _ => h, fun _ => rfl⟩
    by_cases hb : x.testBit d = true
    · rw [if_neg (fun q => he.mp q hb), if_pos hb]
    · rw [if_pos (he.mpr hb), if_neg hb]
theorem m_fs {t : To} (ht : bTo t) (x1 : Int32) : ∀ (m i n : Nat) (s : Mo) (D : am_M), i + m = 80 → m < n → bMo (q_pe t) s → o_hr s + m ≤ 200000 → mTo t D → mMo (q_pe t) s D → ∃ D', b_X6_firstShort_21 n x1 (-1) (nI i) D = b_X6_firstShort_121 (aF x1 (fS t m s)) D' ∧ ∀ a, a ≠ 62 → D' a = D a := by
  intro m
  induction m with
  | zero =>
    intro i n s D hm hn hs hh hT hM
    obtain ⟨n, rfl⟩ : ∃ q, n = q + 1 := ⟨n - 1, by omega⟩
    have : i = 80 := by omega
    subst this
    exact ⟨D, by rw [b_X6_firstShort_21, if_pos (show (80 : Int32) ≤ nI 80 by decide)]; rfl, fun _ _ => rfl⟩
  | succ m ih =>
    intro i n s D hm hn hs hh hT hM
    obtain ⟨n, rfl⟩ : ∃ q, n = q + 1 := ⟨n - 1, by omega⟩
    have hb := sHour_b ht rfl hs
    have hm8 : o_mi (sHour t s) < 256 := hb.2.2.2.2.2.1
    obtain ⟨D1, c1, c2, c3⟩ := m_hour rfl ht hs (by omega) hT hM
    have hT1 : mTo t D1 := mTo_f (fun k _ => by rw [c3 56 (by decide)]) (fun a _ _ => c3 a (by omega)) hT
    have hd8 := ht.2.2.2.2.2.1
    have e0 : b_X6_firstShort_21 (n + 1) x1 (-1) (nI i) D = b_X6_firstShort_21 n x1 (mfl (fe (o_mi (sHour t s)) (o_mi s)) x1 (nI (o_hr s)) (q_dn t) (-1)) (nI (i + 1)) D1 := by
      rw [b_X6_firstShort_21, if_neg (show ¬ (80 : Int32) ≤ nI i from nI_ge (b := 80) (by omega) (by omega)), if_neg (by decide), c1, Option.bind_some, c2.2.2.2.2.2.1, hM.2.2.2.2.2.1, n_fe hm8, hT1.2.2.2.2.2.1, hM.2.2.2.2.2.2.1, m_fl (fe_lt hm8) (q_dn t) am_N (-1) (by omega) (by show _ < 100000; omega), nI_1]
    rw [e0, fS]
    by_cases h0 : fe (o_mi (sHour t s)) (o_mi s) = 0
    · rw [if_pos h0, mfl_n _ _ (fun j _ => by rw [h0]; exact Nat.zero_testBit j)]
      obtain ⟨D', i1, i2⟩ := ih (i + 1) n (sHour t s) D1 (by omega) (by omega) hb (by show o_hr s + 1 + m ≤ _; omega) hT1 c2
      exact ⟨D', i1, fun a ha => by rw [i2 a ha, c3 a ha]⟩
    · obtain ⟨l8, lt, ln⟩ := lb_ok _ (fe_lt (b := o_mi s) hm8) h0
      obtain ⟨ld, -⟩ := fe_j hm8 lt
      rw [if_neg h0, mfl_l lt ln _ _ ld]
      obtain ⟨n, rfl⟩ : ∃ q, n = q + 1 := ⟨n - 1, by omega⟩
      refine ⟨D1, ?_, c3⟩
      have hp : (0 : Int32) ≤ (if x1 = 0 then nI (lb (fe (o_mi (sHour t s)) (o_mi s)) 8 0) else nI (o_hr s)) := by
        split
        · exact nI_pos' (by omega)
        · exact nI_pos' (by omega)
      rw [b_X6_firstShort_21, if_pos hp]
      show (if _ then _ else _) = b_X6_firstShort_121 (if x1 = 0 then _ else _) D1
      split <;> rfl
theorem so_firstShort {k tw : Nat} {tp : Bool} {D : am_M} (h : Sim k tw tp D) (a : Int32) : ∃ (r : Int32) (D1 D2 : am_M), f_X5_firstShort tw a D = some (r, D1) ∧ f_X6_firstShort a D1 = some (r, D2) ∧ Sim (k + 1) tw tp D2 := by
  have h0 := h
  obtain ⟨t, s, q⟩ := h
  have q3 := q.2.2.1
  have q4 := q.2.2.2.1
  have ht := q.2.1
  obtain ⟨l1, l2⟩ := lyT_le q.1
  obtain ⟨nb, nh, n3, n4⟩ := q.2.2.2.2.1
  by_cases hw : f_X5_isWithin a 0 1 = 0
  · exact ⟨_, D, D, by rw [f_X5_firstShort, if_pos hw], by rw [f_X6_firstShort, in_6 a 0 1 0 1 rfl rfl, if_pos hw], h0⟩
  · obtain ⟨D0, y1, y2, y3⟩ := c_copyM (M := 30) (N := 25) (Or.inl (by decide)) ht.2.2.2.1 n3
    obtain ⟨D1, c1, c2⟩ := c_fs l2 ht a 80 0 am_N s D0 rfl (by decide) nb (by omega) (cTo_f (fun a _ _ => y3 a (by omega)) q3) y2
    have g : ∀ a, a < 30 ∨ 35 ≤ a → D1 a = D a := fun a ha => by rw [c2 a ha, y3 a ha]
    obtain ⟨D3, s1, s2, s3⟩ := m_save 138 0 am_N D1 rfl (by decide)
    have g3 : ∀ a, a ≠ 73 → a < 30 ∨ 35 ≤ a → D3 a = D a := fun a h1 h2 => by rw [s2 a h1, g a h2]
    obtain ⟨D4, m1, m2⟩ := m_fs ht a 80 0 am_N s D3 rfl (by decide) nb (by omega) (mTo_f (fun k _ => by rw [g3 56 (by decide) (by decide)]) (fun a _ _ => g3 a (by omega) (by omega)) q4) (mMo_f (g3 62 (by decide) (by decide)) (by rw [g3 56 (by decide) (by decide)]) n4)
    obtain ⟨D2, p1, p2, p3⟩ := m_back 138 0 am_N D4 rfl (by decide)
    refine ⟨aF a (fS t 80 s), D1, D2, ?_, ?_, t, s, Si_try q (fun a a1 a2 a3 => by rw [p2 a a1, m2 a a1, g3 a (by omega) a2]) (fun k hk => ?_)⟩
    · rw [f_X5_firstShort, if_neg hw, y1, Option.bind_some]
      exact c1
    · rw [f_X6_firstShort, in_6 a 0 1 0 1 rfl rfl, if_neg hw, show f_X6_save D1 = some D3 from s1, Option.bind_some]
      show b_X6_firstShort_21 am_N a (-1) (nI 0) D3 = _
      rw [m1, b_X6_firstShort_121, show f_X6_putBack D4 = some D2 from p1]
      rfl
    · rw [p3 k hk, if_neg (by omega), m2 73 (by decide), s3 k hk, if_neg (by omega), g 62 (by decide)]
/-! the richest -/
def ax (f : Nat → Nat) : Nat → Nat
  | 0 => 0
  | p + 1 => if f (ax f p) < f (p + 1) then p + 1 else ax f p
theorem ax_le (f : Nat → Nat) : ∀ p, ax f p ≤ p := by
  intro p
  induction p with
  | zero => exact Nat.le_refl _
  | succ p ih => rw [ax]; split <;> omega
theorem c_rich {tw P : Nat} {f : Nat → Nat} {D : am_M} {x2 : Int32} (hP : P ≤ 5) (h3 : D tw 3 = nI P) (hb : ∀ p, p < P → f p ≤ 9999) (h : ∀ p, p < P → D 33 p = nI (f p)) : ∀ (m p n : Nat), p + 1 + m = P → m < n → b_X5_richest_63 tw n x2 (nI (ax f p)) (nI (p + 1)) D = some ((if x2 = 0 then nI (ax f (P - 1)) else nI (f (ax f (P - 1)))), D) := by
  intro m
  induction m with
  | zero =>
    intro p n hm hn
    obtain ⟨n, rfl⟩ : ∃ q, n = q + 1 := ⟨n - 1, by omega⟩
    have := ax_le f p
    have hp : P - 1 = p := by omega
    rw [b_X5_richest_63, h3, if_pos (nI_le (by omega) (by omega)), if_pos (tl_ai (by omega) (by omega)), tl_cl2 (by omega), h _ (by omega), hp]
    split <;> rfl
  | succ m ih =>
    intro p n hm hn
    obtain ⟨n, rfl⟩ : ∃ q, n = q + 1 := ⟨n - 1, by omega⟩
    have hx := ax_le f p
    have b1 := hb (p + 1) (by omega)
    have b2 := hb (ax f p) (by omega)
    have e : (if nI (f (p + 1)) ≤ nI (f (ax f p)) then nI (ax f p) else nI (p + 1)) = nI (ax f (p + 1)) := by
      rw [ax]
      by_cases hc : f (ax f p) < f (p + 1)
      · rw [if_neg (nI_ge hc (by omega)), if_pos hc]
      · rw [if_pos (nI_le (by omega) (by omega)), if_neg hc]
    rw [b_X5_richest_63, h3, if_neg (nI_ge (by omega) (by omega)), if_pos (tl_ai (by omega) (by omega)), if_pos (tl_ai (by omega) (by omega)), tl_cl2 (by omega), tl_cl2 (by omega), h _ (by omega), h _ (by omega), e, nI_1]
    exact ih (p + 1) n (by omega) (by omega)
theorem m_rich {P : Nat} {f : Nat → Nat} {D D2 : am_M} {x2 : Int32} (hP : P ≤ 5) (h3 : D 56 3 = nI P) (hb : ∀ p, p < P → f p ≤ 9999) (h : ∀ p, p < P → D 62 (10 + p) = nI (f p)) (hp : f_X6_putBack D = some D2) : ∀ (m p n : Nat), p + 1 + m = P → m < n → b_X6_richest_54 n x2 (nI (ax f p)) (nI (f (ax f p))) (nI (p + 1)) D = some ((if x2 = 0 then nI (ax f (P - 1)) else nI (f (ax f (P - 1)))), D2) := by
  intro m
  induction m with
  | zero =>
    intro p n hm hn
    obtain ⟨n, rfl⟩ : ∃ q, n = q + 1 := ⟨n - 1, by omega⟩
    have hp' : P - 1 = p := by omega
    rw [b_X6_richest_54, h3, if_pos (nI_le (by omega) (by omega)), hp, Option.bind_some, hp']
    split <;> rfl
  | succ m ih =>
    intro p n hm hn
    obtain ⟨n, rfl⟩ : ∃ q, n = q + 1 := ⟨n - 1, by omega⟩
    have hx := ax_le f p
    have b1 := hb (p + 1) (by omega)
    have b2 := hb (ax f p) (by omega)
    rw [b_X6_richest_54, h3, if_neg (nI_ge (by omega) (by omega)), n_10, if_pos (tl_ai (by omega) (by omega)), b_X6_richest_84, n_10, if_pos (tl_ai (by omega) (by omega)), tl_cl2 (by omega), h _ (by omega), nI_1, ← ih (p + 1) n (by omega) (by omega), ax]
    by_cases hc : f (ax f p) < f (p + 1)
    · rw [if_neg (nI_ge hc (by omega)), if_neg (nI_ge hc (by omega)), if_pos hc]
    · rw [if_pos (nI_le (by omega) (by omega)), if_pos (nI_le (by omega) (by omega)), if_neg hc]
theorem m_hours3 {t : To} {N : Nat} {x2 : Int32} (ht : bTo t) (hN : N ≤ 1000) : ∀ (m i n : Nat) (s : Mo) (D : am_M), i + m = N → m < n → bMo (q_pe t) s → o_hr s + m ≤ 200000 → mTo t D → mMo (q_pe t) s D → ∃ D', b_X6_richest_31 n (nI N) x2 (nI i) D = b_X6_richest_54 am_N x2 (-1) (-1) 0 D' ∧ mMo (q_pe t) (itH t m s) D' ∧ ∀ a, a ≠ 62 → D' a = D a := by
  intro m
  induction m with
  | zero =>
    intro i n s D hm hn hs hh hT hM
    obtain ⟨n, rfl⟩ : ∃ q, n = q + 1 := ⟨n - 1, by omega⟩
    have : i = N := by omega
    subst this
    exact ⟨D, by rw [b_X6_richest_31, if_pos (nI_le (Nat.le_refl _) (by omega))], hM, fun _ _ => rfl⟩
  | succ m ih =>
    intro i n s D hm hn hs hh hT hM
    obtain ⟨n, rfl⟩ : ∃ q, n = q + 1 := ⟨n - 1, by omega⟩
    obtain ⟨D1, c1, c2, c3⟩ := m_hour rfl ht hs (by omega) hT hM
    obtain ⟨D', i1, i2, i3⟩ := ih (i + 1) n (sHour t s) D1 (by omega) (by omega) (sHour_b ht rfl hs) (by show o_hr s + 1 + m ≤ _; omega) (mTo_f (fun k _ => by rw [c3 56 (by decide)]) (fun a _ _ => c3 a (by omega)) hT) c2
    refine ⟨D', ?_, i2, fun a a1 => by rw [i3 a a1, c3 a a1]⟩
    rw [b_X6_richest_31, if_neg (nI_ge (by omega) (by omega)), c1, Option.bind_some, nI_1, i1]
theorem so_richest {k tw : Nat} {tp : Bool} {D : am_M} (h : Sim k tw tp D) (a b : Int32) : ∃ (r : Int32) (D1 D2 : am_M), f_X5_richest tw a b D = some (r, D1) ∧ f_X6_richest a b D1 = some (r, D2) ∧ Sim (k + 1) tw tp D2 := by
  have h0 := h
  obtain ⟨t, s, q⟩ := h
  have q3 := q.2.2.1
  have q4 := q.2.2.2.1
  have ht := q.2.1
  obtain ⟨l1, l2⟩ := lyT_le q.1
  obtain ⟨nb, nh, n3, n4⟩ := q.2.2.2.2.1
  have hP := ht.2.2.2.1
  by_cases hw : f_X5_isWithin a 0 200 = 0
  · exact ⟨_, D, D, by rw [f_X5_richest, if_pos hw], by rw [f_X6_richest, in_6 a 0 200 0 200 rfl rfl, if_pos hw], h0⟩
  by_cases hw2 : f_X5_isWithin b 0 1 = 0
  · exact ⟨_, D, D, by rw [f_X5_richest, if_neg hw, if_pos hw2], by rw [f_X6_richest, in_6 a 0 200 0 200 rfl rfl, if_neg hw, in_6 b 0 1 0 1 rfl rfl, if_pos hw2], h0⟩
  obtain ⟨N, -, hN, rfl⟩ := tl_w1n (a := 0) (b := 200) (by decide) hw (by decide)
  have back : ∀ D1 : am_M, (∀ a, a < 30 ∨ 35 ≤ a → D1 a = D a) → ∃ D3 D4 D2 : am_M, f_X6_save D1 = some D3 ∧ b_X6_richest_31 am_N (nI N) b 0 D3 = b_X6_richest_54 am_N b (-1) (-1) 0 D4 ∧ mMo (q_pe t) (itH t N s) D4 ∧ D4 56 3 = nI (q_pe t) ∧ f_X6_putBack D4 = some D2 ∧ Si tw t s D2 := by
    intro D1 g
    obtain ⟨D3, s1, s2, s3⟩ := m_save 138 0 am_N D1 rfl (by decide)
    have g3 : ∀ a, a ≠ 73 → a < 30 ∨ 35 ≤ a → D3 a = D a := fun a h1 h2 => by rw [s2 a h1, g a h2]
    obtain ⟨D4, m1, m2, m3⟩ := m_hours3 (N := N) (x2 := b) ht (by omega) N 0 am_N s D3 (by omega) (by show N < 100000; omega) nb (by omega) (mTo_f (fun k _ => by rw [g3 56 (by decide) (by decide)]) (fun a _ _ => g3 a (by omega) (by omega)) q4) (mMo_f (g3 62 (by decide) (by decide)) (by rw [g3 56 (by decide) (by decide)]) n4)
    obtain ⟨D2, p1, p2, p3⟩ := m_back 138 0 am_N D4 rfl (by decide)
    refine ⟨D3, D4, D2, s1, m1, m2, by rw [m3 56 (by decide), g3 56 (by decide) (by decide)]; exact q4.2.2.2.1, p1, Si_try q (fun a a1 a2 a3 => by rw [p2 a a1, m3 a a1, g3 a (by omega) a2]) (fun k hk => ?_)⟩
    rw [p3 k hk, if_neg (by omega), m3 73 (by decide), s3 k hk, if_neg (by omega), g 62 (by decide)]
  by_cases hp0 : q_pe t = 0
  · obtain ⟨D3, D4, D2, s1, m1, m2, m3, p1, p2⟩ := back D (fun _ _ => rfl)
    refine ⟨-1, D, D2, ?_, ?_, t, s, p2⟩
    · rw [f_X5_richest, if_neg hw, if_neg hw2, q3.2.2.2.1, hp0, if_pos (show nI 0 = 0 from rfl)]
    · rw [f_X6_richest, in_6 _ 0 200 0 200 rfl rfl, if_neg hw, in_6 b 0 1 0 1 rfl rfl, if_neg hw2, s1, Option.bind_some, m1, tl_N, b_X6_richest_54, m3, hp0, if_pos (show nI 0 ≤ 0 by decide), p1, Option.bind_some]
      split <;> rfl
  · obtain ⟨D0, y1, y2, y3⟩ := c_copyM (M := 30) (N := 25) (Or.inl (by decide)) ht.2.2.2.1 n3
    have hT0 : cTo tw t D0 := cTo_f (fun a _ _ => y3 a (by omega)) q3
    obtain ⟨D1, c1, c2, c3⟩ := c_hours (M := 30) (T := tw) (N := N) (by omega) ht (by omega) N 0 am_N s D0 (by omega) (by show N < 100000; omega) nb (by omega) hT0 y2
    have c1' : f_X2_passHours 30 tw (nI N) D0 = some D1 := c1
    obtain ⟨D3, D4, D2, s1, m1, m2, m3, p1, p2⟩ := back D1 (fun a ha => by rw [c3 a (by omega) (by omega) (by omega) (by omega), y3 a ha])
    have hb := (itH_b ht N s nb).2.2.1
    have e1 : D1 tw 3 = nI (q_pe t) := by rw [c3 tw (by omega) (by omega) (by omega) (by omega)]; exact hT0.2.2.2.1
    refine ⟨(if b = 0 then nI (ax (o_pu (itH t N s)) (q_pe t - 1)) else nI (o_pu (itH t N s) (ax (o_pu (itH t N s)) (q_pe t - 1)))), D1, D2, ?_, ?_, t, s, p2⟩
    · rw [f_X5_richest, if_neg hw, if_neg hw2, q3.2.2.2.1, if_neg (nI_ne0 (by omega) (by omega)), y1, Option.bind_some, c1', Option.bind_some]
      exact c_rich (P := q_pe t) (f := o_pu (itH t N s)) hP e1 hb c2.2.2.1 (q_pe t - 1) 0 am_N (by omega) (by show _ < 100000; omega)
    · rw [f_X6_richest, in_6 _ 0 200 0 200 rfl rfl, if_neg hw, in_6 b 0 1 0 1 rfl rfl, if_neg hw2, s1, Option.bind_some, m1, tl_N, b_X6_richest_54, m3, if_neg (nI_nle (by omega) (by omega))]
      have hm := m_rich (P := q_pe t) (f := o_pu (itH t N s)) (x2 := b) hP m3 hb m2.2.2.1 p1 (q_pe t - 1) 0 99999 (by omega) (by omega)
      rw [← hm]
      have hp1 := hb 0 (by omega)
      rw [show (10 : Int32) + 0 = nI (10 + 0) from rfl, if_pos (tl_ai (by omega) (by omega)), b_X6_richest_84, show (10 : Int32) + 0 = nI (10 + 0) from rfl, if_pos (tl_ai (by omega) (by omega)), tl_cl2 (by omega), m2.2.2.1 0 (by omega)]
      have hn : ¬ nI (o_pu (itH t N s) 0) ≤ (-1) := fun q => by
        have h1 : (0 : Int32) ≤ nI (o_pu (itH t N s) 0) := nI_pos' (by omega)
        exact absurd (Int32.le_trans h1 q) (by decide)
      rw [if_neg hn, if_neg hn]
      rfl
