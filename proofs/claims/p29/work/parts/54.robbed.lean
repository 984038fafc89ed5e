/-! who was robbed -/
def yS (f : Nat → Nat) (x : Nat) : Nat → Nat
  | 0 => 0
  | p + 1 => yS f x p + (if x.testBit p = true then f p else 0)
theorem i_in {x p : Nat} (hx : x < 2 ^ 31) (hp : p < 31) : f_X5_isIn (nI x) (nI p) = 0 ↔ ¬ x.testBit p = true := by
  rw [f_X5_isIn, ← n_in hx hp]
  split
  · rename_i h; exact ⟨fun q => absurd q (by decide), fun q => absurd h q⟩
  · rename_i h; exact ⟨fun _ => h, fun _ => rfl⟩
theorem c_yawns {T P x : Nat} {f : Nat → Nat} {D : am_M} (hP : P ≤ 5) (hx : x < 2 ^ 31) (h3 : D T 3 = nI P) (h : ∀ p, p < P → D (T + 5) p = nI (f p)) : ∀ (m p n : Nat), p + m = P → m < n → b_X4_yawnsOf_4 T n (nI x) (nI (yS f x p)) (nI p) D = some (nI (yS f x P), D) := by
  intro m
  induction m with
  | zero =>
    intro p n hm hn
    obtain ⟨n, rfl⟩ : ∃ q, n = q + 1 := ⟨n - 1, by omega⟩
    have : p = P := by omega
    subst this
    rw [b_X4_yawnsOf_4, h3, if_pos (nI_le (Nat.le_refl _) (by omega))]
  | succ m ih =>
    intro p n hm hn
    obtain ⟨n, rfl⟩ : ∃ q, n = q + 1 := ⟨n - 1, by omega⟩
    have e := ih (p + 1) n (by omega) (by omega)
    rw [yS] at e
    rw [b_X4_yawnsOf_4, h3, if_neg (nI_ge (by omega) (by omega)), nI_1]
    by_cases hb : x.testBit p = true
    · rw [if_pos hb] at e
      rw [if_neg (fun q => (i_in hx (by omega)).mp q hb), if_pos (tl_ai (by omega) (by omega)), tl_cl2 (by omega), h p (by omega), nI_add]
      exact e
    · rw [if_neg hb] at e
      rw [if_pos ((i_in hx (by omega)).mpr hb)]
      exact e
theorem m_yawns {P x : Nat} {f : Nat → Nat} {D : am_M} {k67 : Int32 → Int32 → Int32 → Int32 → Int32 → Int32 → Int32 → am_M → Option (Int32 × am_M)} {x1 x2 x3 x4 x5 x6 : Int32} (hP : P ≤ 5) (hx : x < 2 ^ 31) (h3 : D 56 3 = nI P) (h : ∀ p, p < P → D 57 p = nI (f p)) : ∀ (m p n : Nat), p + m = P → m < n → b_X6_robbed_84 k67 n x1 x2 x3 x4 x5 x6 (nI x) (nI (yS f x p)) (nI p) D = if nI (yS f x P) = x2 then if (x1 &&& (nI x ^^^ (-1))) = 0 then k67 x1 x2 x3 (x4 + 1) (if x4 = 0 then nI x else x5) (x6 &&& nI x) (nI (x + 1)) D else k67 x1 x2 x3 x4 x5 x6 (nI (x + 1)) D else k67 x1 x2 x3 x4 x5 x6 (nI (x + 1)) D := by
  intro m
  induction m with
  | zero =>
    intro p n hm hn
    obtain ⟨n, rfl⟩ : ∃ q, n = q + 1 := ⟨n - 1, by omega⟩
    have : p = P := by omega
    subst this
    rw [b_X6_robbed_84, h3, if_pos (nI_le (Nat.le_refl _) (by omega)), b_X6_robbed_152, nI_1]
  | succ m ih =>
    intro p n hm hn
    obtain ⟨n, rfl⟩ : ∃ q, n = q + 1 := ⟨n - 1, by omega⟩
    have e := ih (p + 1) n (by omega) (by omega)
    rw [yS] at e
    rw [b_X6_robbed_84, h3, if_neg (nI_ge (by omega) (by omega)), has_is, nI_1]
    by_cases hb : x.testBit p = true
    · rw [if_pos hb] at e
      rw [if_neg (fun q => (i_in hx (by omega)).mp q hb), if_pos (tl_ai (by omega) (by omega)), tl_cl2 (by omega), h p (by omega), nI_add]
      exact e
    · rw [if_neg hb] at e
      rw [if_pos ((i_in hx (by omega)).mpr hb), show (0 : Int32) = nI 0 from rfl, nI_add]
      exact e
theorem n_sub (s y : Int32) : (s &&& y = y) ↔ (y &&& (s ^^^ (-1)) = 0) := by
  rw [← Int32.toBitVec_inj, ← Int32.toBitVec_inj]
  show (s.toBitVec &&& y.toBitVec = y.toBitVec) ↔ (y.toBitVec &&& (s.toBitVec ^^^ BitVec.allOnes 32) = 0#32)
  have e : ∀ i, i < 32 → ((s.toBitVec &&& y.toBitVec).getLsbD i = (s.toBitVec.getLsbD i && y.toBitVec.getLsbD i) ∧ (y.toBitVec &&& (s.toBitVec ^^^ BitVec.allOnes 32)).getLsbD i = (y.toBitVec.getLsbD i && ! s.toBitVec.getLsbD i)) := by
    intro i hi
    rw [BitVec.getLsbD_and, BitVec.getLsbD_and, BitVec.getLsbD_xor, BitVec.getLsbD_allOnes]
    simp only [hi, decide_true, Bool.xor_true, and_self]
  constructor
  · intro h
    apply BitVec.eq_of_getLsbD_eq
    intro i hi
    have h' := congrArg (fun z => BitVec.getLsbD z i) h
    simp only [(e i hi).1] at h'
    rw [(e i hi).2, BitVec.getLsbD_zero]
    revert h'
    cases s.toBitVec.getLsbD i <;> cases y.toBitVec.getLsbD i <;> decide
  · intro h
    apply BitVec.eq_of_getLsbD_eq
    intro i hi
    have h' := congrArg (fun z => BitVec.getLsbD z i) h
    simp only [(e i hi).2, BitVec.getLsbD_zero] at h'
    rw [(e i hi).1]
    revert h'
    cases s.toBitVec.getLsbD i <;> cases y.toBitVec.getLsbD i <;> decide
theorem rob {tw P : Nat} {f : Nat → Nat} {D : am_M} (hP : P ≤ 5) (h3 : D tw 3 = nI P) (h : ∀ p, p < P → D (tw + 5) p = nI (f p)) (h3' : D 56 3 = nI P) (h' : ∀ p, p < P → D 57 p = nI (f p)) (x1 x2 x3 : Int32) : ∀ (m x n n' : Nat) (c l u : Int32), x + m = 2 ^ P → m < n → m < n' → ∃ r, b_X5_robbed_64 tw n x1 x2 x3 (nI (2 ^ P)) c l u (nI x) D = some (r, D) ∧ b_X6_robbed_67 n' x1 x2 x3 c l u (nI x) D = some (r, D) := by
  have h32 : 2 ^ P ≤ 2 ^ 5 := Nat.pow_le_pow_right (by decide) hP
  intro m
  induction m with
  | zero =>
    intro x n n' c l u hm hn hn'
    obtain ⟨n, rfl⟩ : ∃ q, n = q + 1 := ⟨n - 1, by omega⟩
    obtain ⟨n', rfl⟩ : ∃ q, n' = q + 1 := ⟨n' - 1, by omega⟩
    rw [b_X5_robbed_64, if_pos (nI_le (by omega) (by omega)), b_X6_robbed_67, h3', n_shl P (by omega), if_pos (nI_le (by omega) (by omega))]
    refine ⟨(if x3 = 0 then c else if x3 = 1 then l else if c = 0 then 0 else u), ?_, ?_⟩
    · repeat' split
      all_goals rfl
    · repeat' split
      all_goals rfl
  | succ m ih =>
    intro x n n' c l u hm hn hn'
    obtain ⟨n, rfl⟩ : ∃ q, n = q + 1 := ⟨n - 1, by omega⟩
    obtain ⟨n', rfl⟩ : ∃ q, n' = q + 1 := ⟨n' - 1, by omega⟩
    have ec : f_X4_yawnsOf tw (nI x) D = some (nI (yS f x P), D) := c_yawns hP (by omega) h3 h P 0 am_N (by omega) (by show P < 100000; omega)
    rw [b_X5_robbed_64, if_neg (nI_ge (by omega) (by omega)), ec, Option.bind_some, b_X6_robbed_67, h3', n_shl P (by omega), if_neg (nI_ge (by omega) (by omega)), b_X5_robbed_104, nI_1]
    have em := m_yawns (k67 := b_X6_robbed_67 n') (x1 := x1) (x2 := x2) (x3 := x3) (x4 := c) (x5 := l) (x6 := u) hP (show x < 2 ^ 31 by omega) h3' h' P 0 am_N (by omega) (by show P < 100000; omega)
    rw [show b_X6_robbed_84 (b_X6_robbed_67 n') am_N x1 x2 x3 c l u (nI x) 0 0 D = _ from em]
    by_cases hs : nI x &&& x1 = x1
    · rw [if_pos hs]
      have hs' := (n_sub _ _).mp hs
      by_cases hy : nI (yS f x P) = x2
      · rw [if_pos hy, if_pos hy, if_pos hs']
        exact ih (x + 1) n n' _ _ _ (by omega) (by omega) (by omega)
      · rw [if_neg hy, if_neg hy]
        exact ih (x + 1) n n' _ _ _ (by omega) (by omega) (by omega)
    · rw [if_neg hs, if_neg (fun q => hs ((n_sub _ _).mpr q))]
      have := ih (x + 1) n n' c l u (by omega) (by omega) (by omega)
      split
      · exact this
      · exact this
theorem so_robbed {k tw : Nat} {tp : Bool} {D : am_M} (h : Sim k tw tp D) (a b c : Int32) : ∃ (r : Int32) (D1 D2 : am_M), f_X5_robbed tw a b c D = some (r, D1) ∧ f_X6_robbed a b c D1 = some (r, D2) ∧ Sim (k + 1) tw tp D2 := by
  have h0 := h
  obtain ⟨t, s, q⟩ := h
  have q3 := q.2.2.1
  have q4 := q.2.2.2.1
  have ht := q.2.1
  have hP := ht.2.2.2.1
  have c5 : f_X5_robbed tw a b c D = if f_X5_isWithin a 0 (nI (2 ^ q_pe t) - 1) = 0 then some ((-1000000001), D) else if f_X5_isWithin b 0 999 = 0 then some ((-1000000002), D) else if f_X5_isWithin c 0 2 = 0 then some ((-1000000002), D) else b_X5_robbed_64 tw am_N a b c (nI (2 ^ q_pe t)) 0 (-1) (nI (2 ^ q_pe t) - 1) 0 D := by
    rw [f_X5_robbed, q3.2.2.2.1, n_shl _ (by omega)]
  have c6 : f_X6_robbed a b c D = if f_X5_isWithin a 0 (nI (2 ^ q_pe t) - 1) = 0 then some ((-1000000001), D) else if f_X5_isWithin b 0 999 = 0 then some ((-1000000002), D) else if f_X5_isWithin c 0 2 = 0 then some ((-1000000002), D) else b_X6_robbed_67 am_N a b c 0 (-1) (nI (2 ^ q_pe t) - 1) 0 D := by
    rw [f_X6_robbed, q4.2.2.2.1, n_shl _ (by omega), in_6 a 0 (nI (2 ^ q_pe t) - 1) 0 _ rfl rfl, in_6 b 0 999 0 999 rfl rfl, in_6 c 0 2 0 2 rfl rfl]
  by_cases hw : f_X5_isWithin a 0 (nI (2 ^ q_pe t) - 1) = 0
  · exact ⟨_, D, D, by rw [c5, if_pos hw], by rw [c6, if_pos hw], h0⟩
  by_cases hw2 : f_X5_isWithin b 0 999 = 0
  · exact ⟨_, D, D, by rw [c5, if_neg hw, if_pos hw2], by rw [c6, if_neg hw, if_pos hw2], h0⟩
  by_cases hw3 : f_X5_isWithin c 0 2 = 0
  · exact ⟨_, D, D, by rw [c5, if_neg hw, if_neg hw2, if_pos hw3], by rw [c6, if_neg hw, if_neg hw2, if_pos hw3], h0⟩
  have h32 : 2 ^ q_pe t ≤ 2 ^ 5 := Nat.pow_le_pow_right (by decide) hP
  obtain ⟨r, r1, r2⟩ := rob (tw := tw) hP q3.2.2.2.1 q3.2.2.2.2.2.2.2.2 q4.2.2.2.1 q4.2.2.2.2.2.2.2.2 a b c (2 ^ q_pe t) 0 am_N am_N 0 (-1) (nI (2 ^ q_pe t) - 1) (by omega) (by show _ < 100000; omega) (by show _ < 100000; omega)
  exact ⟨r, D, D, by rw [c5, if_neg hw, if_neg hw2, if_neg hw3]; exact r1, by rw [c6, if_neg hw, if_neg hw2, if_neg hw3]; exact r2, h0⟩
/-! a run on a bank -/
def nr (ti : Nat → Nat) (x c : Nat) : Nat → Nat → Option Nat
  | 0, _ => none
  | m + 1, p => if x.testBit p = false ∧ ti p / 10 ≤ c then some p else nr ti x c m (p + 1)
theorem nr_lt {ti : Nat → Nat} {x c : Nat} : ∀ (m p p' : Nat), nr ti x c m p = some p' → p' < p + m ∧ x.testBit p' = false := by
  intro m
  induction m with
  | zero => intro p p' h; cases h
  | succ m ih =>
    intro p p' h
    rw [nr] at h
    split at h
    · rename_i hc
      cases h
      exact ⟨by omega, hc.1⟩
    · have := ih _ _ h
      exact ⟨by omega, this.2⟩
theorem nr_all {ti : Nat → Nat} {x c : Nat} : ∀ (m p : Nat), (∀ j, j < p + m → x.testBit j = true) → nr ti x c m p = none := by
  intro m
  induction m with
  | zero => intro p _; rfl
  | succ m ih =>
    intro p h
    rw [nr, if_neg (fun q => by rw [h p (by omega)] at q; exact absurd q.1 (by decide))]
    exact ih (p + 1) (fun j hj => h j (by omega))
def oI : Option Nat → Int32
  | none => -1
  | some p => nI p
theorem n_d10 {a : Nat} (ha : a ≤ 99) : nI a / 10 = nI (a / 10) := pk_div (d := 10) (by omega) (by omega) (by omega)
theorem c_next {tw P x c : Nat} {ti : Nat → Nat} {D : am_M} (hP : P ≤ 5) (hx : x < 2 ^ 31) (hc : c ≤ 5) (hb : ∀ p, p < P → ti p ≤ 99) (h3 : D tw 3 = nI P) (h : ∀ p, p < P → D 26 p = nI (ti p)) : ∀ (m p n : Nat), p + m = P → m < n → b_X5_nextToRun_2 tw n (nI x) (nI c) (nI p) D = some (oI (nr ti x c m p), D) := by
  intro m
  induction m with
  | zero =>
    intro p n hm hn
    obtain ⟨n, rfl⟩ : ∃ q, n = q + 1 := ⟨n - 1, by omega⟩
    rw [b_X5_nextToRun_2, h3, if_pos (nI_le (by omega) (by omega))]
    rfl
  | succ m ih =>
    intro p n hm hn
    obtain ⟨n, rfl⟩ : ∃ q, n = q + 1 := ⟨n - 1, by omega⟩
    have hbp := hb p (by omega)
    rw [b_X5_nextToRun_2, h3, if_neg (nI_ge (by omega) (by omega)), if_pos (tl_ai (by omega) (by omega)), tl_cl2 (by omega), h p (by omega), n_d10 hbp, nI_1, ih (p + 1) n (by omega) (by omega), nr]
    by_cases ht : x.testBit p = true
    · rw [if_neg (fun q => (i_in hx (by omega)).mp q ht), if_neg (fun q => by rw [ht] at q; exact absurd q.1 (by decide))]
    · rw [if_pos ((i_in hx (by omega)).mpr ht)]
      by_cases hl : ti p / 10 ≤ c
      · rw [if_neg (nI_nlt hl (by omega)), if_pos ⟨by simpa using ht, hl⟩]
        rfl
      · rw [if_pos (nI_lt (by omega) (by omega)), if_neg (fun q => hl q.2)]
theorem m_next {P x c : Nat} {ti pu : Nat → Nat} {D : am_M} {x2 y : Int32} {l : Nat} (hP : P ≤ 5) (hx : x < 2 ^ 31) (hc : c ≤ 5) (hb : ∀ p, p < P → ti p ≤ 99) (hbp : ∀ p, p < P → pu p ≤ 9999) (hl : l ≤ 999) (h3 : D 56 3 = nI P) (h : ∀ p, p < P → D 62 p = nI (ti p)) (h2 : ∀ p, p < P → D 62 (10 + p) = nI (pu p)) : ∀ (m p n : Nat), p + m = P → m < n → (nr ti x c m p = none → b_X6_run_39 n x2 (nI x) y (nI c) (nI l) (nI p) D = some ((if x2 = 0 then nI x else y), D)) ∧ (∀ p', nr ti x c m p = some p' → ∃ n', n ≤ n' + m ∧ b_X6_run_39 n x2 (nI x) y (nI c) (nI l) (nI p) D = b_X6_run_39 n' x2 (nI (x ||| 2 ^ p')) (if nI (pu p') ≤ nI l then y else y ||| nI (2 ^ p')) (nI (c + 1)) (nI (l - min (pu p') l)) 0 D) := by
  intro m
  induction m with
  | zero =>
    intro p n hm hn
    obtain ⟨n, rfl⟩ : ∃ q, n = q + 1 := ⟨n - 1, by omega⟩
    refine ⟨fun _ => ?_, fun p' h => by cases h⟩
    rw [b_X6_run_39, h3, if_pos (nI_le (by omega) (by omega))]
    split <;> rfl
  | succ m ih =>
    intro p n hm hn
    obtain ⟨n, rfl⟩ : ∃ q, n = q + 1 := ⟨n - 1, by omega⟩
    have hb1 := hb p (by omega)
    have hb2 := hbp p (by omega)
    obtain ⟨i1, i2⟩ := ih (p + 1) n (by omega) (by omega)
    have go : ¬ (x.testBit p = false ∧ ti p / 10 ≤ c) → b_X6_run_39 (n + 1) x2 (nI x) y (nI c) (nI l) (nI p) D = b_X6_run_39 n x2 (nI x) y (nI c) (nI l) (nI (p + 1)) D := by
      intro hn'
      rw [b_X6_run_39, h3, if_neg (nI_ge (by omega) (by omega)), has_is, if_pos (tl_ai (by omega) (by omega)), tl_cl2 (by omega), h p (by omega), n_d10 hb1, nI_1]
      by_cases ht : x.testBit p = true
      · rw [if_neg (fun q => (i_in hx (by omega)).mp q ht)]
      · rw [if_pos ((i_in hx (by omega)).mpr ht), if_pos (nI_lt (Nat.lt_of_not_le (fun q => hn' ⟨by simpa using ht, q⟩)) (by omega))]
    rw [nr]
    by_cases hc' : x.testBit p = false ∧ ti p / 10 ≤ c
    · rw [if_pos hc']
      refine ⟨fun q => (by cases q), fun p' hp' => ?_⟩
      cases hp'
      refine ⟨n, by omega, ?_⟩
      have ht : ¬ x.testBit p = true := by rw [hc'.1]; decide
      have e1 : f_X6_atMost (nI (pu p)) (nI l) = nI (min (pu p) l) := n_atm2 (by omega) (by omega)
      rw [b_X6_run_39, h3, if_neg (nI_ge (by omega) (by omega)), has_is, if_pos (tl_ai (by omega) (by omega)), tl_cl2 (by omega), h p (by omega), n_d10 hb1, if_pos ((i_in hx (by omega)).mpr ht), if_neg (nI_nlt hc'.2 (by omega)), n_10, if_pos (tl_ai (by omega) (by omega)), tl_cl2 (by omega), h2 p (by omega), e1, b_X6_run_128, n_shl p (by omega), n_or, nI_1, pk_sub (Nat.min_le_right _ _)]
      by_cases hq : pu p ≤ l
      · rw [if_pos (nI_le (show pu p ≤ min (pu p) l by omega) (by omega)), if_pos (nI_le hq (by omega)), show y ||| 0 = y from by simp]
      · rw [if_neg (nI_ge (show min (pu p) l < pu p by omega) (by omega)), if_neg (nI_ge (by omega) (by omega))]
    · rw [if_neg hc', go hc']
      refine ⟨i1, fun p' hp' => ?_⟩
      obtain ⟨n', n1, n2⟩ := i2 p' hp'
      exact ⟨n', by omega, n2⟩
def cnt (x : Nat) : Nat → Nat
  | 0 => 0
  | p + 1 => cnt x p + (if x.testBit p = true then 1 else 0)
theorem cnt_s : ∀ n, n < 6 → ∀ x, x < 32 → ∀ p, p < n → x.testBit p = false → cnt (x ||| 2 ^ p) n = cnt x n + 1 ∧ x ||| 2 ^ p < 32 := by decide +kernel
theorem cnt_a : ∀ n, n < 6 → ∀ x, x < 32 → cnt x n = n → ∀ p, p < n → x.testBit p = true := by decide +kernel
theorem runs {tw P : Nat} {ti pu : Nat → Nat} {D : am_M} {x2 : Int32} (hP : P ≤ 5) (hb : ∀ p, p < P → ti p ≤ 99) (hbp : ∀ p, p < P → pu p ≤ 9999) (h3 : D tw 3 = nI P) (h : ∀ p, p < P → D 26 p = nI (ti p)) (h2 : ∀ p, p < P → D 28 p = nI (pu p)) (g3 : D 56 3 = nI P) (g : ∀ p, p < P → D 62 p = nI (ti p)) (g2 : ∀ p, p < P → D 62 (10 + p) = nI (pu p)) : ∀ (m c x l n n' : Nat) (y : Int32), c + m = P → cnt x P = c → x < 32 → l ≤ 999 → m < n → (m + 1) * 10 ≤ n' → ∃ r, b_X5_run_34 tw n x2 (nI l) (nI x) y (nI c) D = some (r, D) ∧ b_X6_run_39 n' x2 (nI x) y (nI c) (nI l) 0 D = some (r, D) := by
  intro m
  induction m with
  | zero =>
    intro c x l n n' y hm hx hx2 hl hn hn'
    obtain ⟨n, rfl⟩ : ∃ q, n = q + 1 := ⟨n - 1, by omega⟩
    have hnr : nr ti x c P 0 = none := nr_all P 0 (fun j hj => cnt_a P (by omega) x hx2 (by omega) j (by omega))
    refine ⟨_, ?_, (m_next (pu := pu) hP (by omega) (by omega) hb hbp hl g3 g g2 P 0 n' (by omega) (by omega)).1 hnr⟩
    rw [b_X5_run_34, h3, if_pos (nI_le (by omega) (by omega)), b_X5_run_120]
    split <;> rfl
  | succ m ih =>
    intro c x l n n' y hm hx hx2 hl hn hn'
    obtain ⟨n, rfl⟩ : ∃ q, n = q + 1 := ⟨n - 1, by omega⟩
    have ec : f_X5_nextToRun tw (nI x) (nI c) D = some (oI (nr ti x c P 0), D) := c_next hP (by omega) (by omega) hb h3 h P 0 am_N (by omega) (by show P < 100000; omega)
    have em := m_next (x := x) (c := c) (ti := ti) (pu := pu) (x2 := x2) (y := y) (l := l) hP (by omega) (by omega) hb hbp hl g3 g g2 P 0 n' (by omega) (by omega)
    rw [b_X5_run_34, h3, if_neg (nI_ge (by omega) (by omega)), ec, Option.bind_some]
    cases hnr : nr ti x c P 0 with
    | none =>
      refine ⟨_, ?_, em.1 hnr⟩
      rw [show (oI none, D).1 = (-1 : Int32) from rfl, if_pos rfl, b_X5_run_120]
      split <;> rfl
    | some p =>
      obtain ⟨hp, hp2⟩ := nr_lt P 0 p hnr
      obtain ⟨n1, m1, m2⟩ := em.2 p hnr
      obtain ⟨c1, c2⟩ := cnt_s P (by omega) x hx2 p (by omega) hp2
      have hbq := hbp p (by omega)
      obtain ⟨r, r1, r2⟩ := ih (c + 1) (x ||| 2 ^ p) (l - min (pu p) l) n n1 (if nI (pu p) ≤ nI l then y else y ||| nI (2 ^ p)) (by omega) (by omega) c2 (by omega) (by omega) (by omega)
      have hm1 : ¬ nI p = (-1) := fun q => by
        have h1 : (0 : Int32) ≤ nI p := nI_pos' (by omega)
        rw [q] at h1
        exact absurd h1 (by decide)
      refine ⟨r, ?_, m2.trans r2⟩
      rw [show (oI (some p), D).1 = nI p from rfl, show (oI (some p), D).2 = D from rfl, if_neg hm1, if_pos (tl_ai (by omega) (by omega)), tl_cl2 (by omega), b_X5_run_97, if_pos (tl_ai (by omega) (by omega)), tl_cl2 (by omega), h2 p (by omega), n_min (by omega) (by omega), pk_sub (Nat.min_le_right _ _), n_shl p (by omega), n_or, nI_1]
      exact r1
theorem so_run {k tw : Nat} {tp : Bool} {D : am_M} (h : Sim k tw tp D) (a b : Int32) : ∃ (r : Int32) (D1 D2 : am_M), f_X5_run tw a b D = some (r, D1) ∧ f_X6_run a b D1 = some (r, D2) ∧ Sim (k + 1) tw tp D2 := by
  have h0 := h
  obtain ⟨t, s, q⟩ := h
  have q3 := q.2.2.1
  have q4 := q.2.2.2.1
  have ht := q.2.1
  have hP := ht.2.2.2.1
  obtain ⟨nb, nh, n3, n4⟩ := q.2.2.2.2.1
  by_cases hw : f_X5_isWithin a 0 999 = 0
  · exact ⟨_, D, D, by rw [f_X5_run, if_pos hw], by rw [f_X6_run, in_6 a 0 999 0 999 rfl rfl, if_pos hw], h0⟩
  by_cases hw2 : f_X5_isWithin b 0 1 = 0
  · exact ⟨_, D, D, by rw [f_X5_run, if_neg hw, if_pos hw2], by rw [f_X6_run, in_6 a 0 999 0 999 rfl rfl, if_neg hw, in_6 b 0 1 0 1 rfl rfl, if_pos hw2], h0⟩
  obtain ⟨l, -, hl, rfl⟩ := tl_w1n (a := 0) (b := 999) (by decide) hw (by decide)
  have hc0 : ∀ n, cnt 0 n = 0 := by
    intro n
    induction n with
    | zero => rfl
    | succ n ih => rw [cnt, ih, Nat.zero_testBit, if_neg (by decide)]
  obtain ⟨r, r1, r2⟩ := runs (tw := tw) (x2 := b) hP nb.1 nb.2.2.1 q3.2.2.2.1 n3.1 n3.2.2.1 q4.2.2.2.1 n4.1 n4.2.2.1 (q_pe t) 0 0 l am_N am_N 0 (by omega) (hc0 _) (by decide) hl (by show _ < 100000; omega) (by show _ ≤ 100000; omega)
  refine ⟨r, D, D, by rw [f_X5_run, if_neg hw, if_neg hw2]; exact r1, ?_, h0⟩
  rw [f_X6_run, in_6 _ 0 999 0 999 rfl rfl, if_neg hw, in_6 b 0 1 0 1 rfl rfl, if_neg hw2]
  exact r2
