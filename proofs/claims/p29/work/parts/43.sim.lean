/-! what both sides hold alike -/
def isC (t : To) (w : Nat) : Prop := w = 1 ∨ ∃ c, c < q_cn t ∧ q_co t c = w
/-- the fewest coins of a set, up to V -/
def FW (S : Nat → Prop) (V : Nat) (f : Nat → Nat) : Prop := f 0 = 0 ∧ ∀ v, 1 ≤ v → v ≤ V → (∀ c, S c → 1 ≤ c → c ≤ v → f v ≤ f (v - c) + 1) ∧ ∃ c, S c ∧ 1 ≤ c ∧ c ≤ v ∧ f v = f (v - c) + 1
def sm60 (f : Nat → Nat) : Nat → Nat
  | 0 => 0
  | v + 1 => sm60 f v + f (v + 1)
/-- the coin that should be struck: r and its total s, of what is not struck below W -/
def STk (t : To) (W r s : Nat) : Prop := 2 ≤ r ∧ r < W ∧ ¬ isC t r ∧ (∃ f, FW (fun c => isC t c ∨ c = r) 60 f ∧ s = sm60 f 60) ∧ ∀ w f, 2 ≤ w → w < W → ¬ isC t w → FW (fun c => isC t c ∨ c = w) 60 f → (s ≤ sm60 f 60 ∧ (sm60 f 60 = s → r ≤ w))
def Tok (t : To) (D : am_M) : Prop := (∀ w, 1 ≤ w → w ≤ 60 → ((isC t w → D 51 w = 1) ∧ (¬ isC t w → D 51 w = 0))) ∧ ∃ f, FW (isC t) 200 f ∧ ∀ v, v ≤ 200 → D 52 v = nI (f v)
def Tb (t : To) (D : am_M) : Prop := (D 50 3 = 0 ∨ (D 50 3 = 1 ∧ Tok t D)) ∧ (D 50 4 = 0 ∨ (D 50 3 = 1 ∧ D 50 4 = 1 ∧ ∃ r s, STk t 61 r s ∧ D 50 5 = nI r ∧ D 50 6 = nI s)) ∧ D 53 0 = 0
def Rd (D : am_M) : Prop := D 12 6 = D 56 15 ∧ ∃ (n : Nat) (tx : Nat → Nat), n ≤ 250 ∧ D 12 4 = nI n ∧ D 56 14 = nI n ∧ ∀ i, i < n → tx i ≤ 255 ∧ D 13 i = nI (tx i) ∧ D 63 i = nI (tx i)
def Zs (T : Nat) (D : am_M) : Prop := (∀ j, j < 5 → D (T + 8) j = 0) ∧ D (T + 6) 4 = 0 ∧ D (T + 6) 5 = 0 ∧ D (T + 6) 6 = 0 ∧ D (T + 6) 7 = 0
def Bk (P : Nat) (D : am_M) : Prop := ∃ (n : Nat) (bw : Nat → Nat), n ≤ 15 ∧ D 0 11 = nI n ∧ D 56 39 = nI n ∧ ∀ e, e < n → bw e < P ∧ D 54 e = nI (bw e) ∧ D 79 e = nI (bw e) ∧ D 55 e = D 80 e
def iMo (o P : Nat) (s : Mo) (D : am_M) : Prop := (∀ p, p < P → D 81 (o + p) = nI (o_ti s p)) ∧ (∀ p, p < P → D 81 (o + (5 + p)) = nI (o_sl s p)) ∧ (∀ p, p < P → D 81 (o + (10 + p)) = nI (o_pu s p)) ∧ (∀ k, k < 24 * P → D 81 (o + (15 + k)) = nI (o_ro s k)) ∧ D 81 (o + 135) = nI (o_pa s) ∧ D 81 (o + 136) = nI (o_mi s) ∧ D 81 (o + 137) = nI (o_hr s) ∧ D 81 (o + 138) = nI (o_se s)
def kp (k0 k1 : Bool) : Nat := (if k0 = true then 1 else 0) + (if k1 = true then 2 else 0)
def Im (M o P : Nat) (D : am_M) : Prop := ∃ m, bMo P m ∧ o_hr m ≤ 90096 ∧ cMo M P m D ∧ iMo o P m D
def Kp (P : Nat) (D : am_M) : Prop := ∃ k0 k1 : Bool, D 0 6 = nI (kp k0 k1) ∧ D 82 0 = (if k0 = true then 1 else 0) ∧ D 82 1 = (if k1 = true then 1 else 0) ∧ (k0 = true → Im 35 0 P D) ∧ (k1 = true → Im 40 139 P D)
def Pl (D : am_M) : Prop := ∃ e, e ≤ 48 ∧ D 45 2 = nI e
def Nw (t : To) (s : Mo) (D : am_M) : Prop := bMo (q_pe t) s ∧ o_hr s ≤ 90096 ∧ cMo 25 (q_pe t) s D ∧ mMo (q_pe t) s D
def Si (tw : Nat) (t : To) (s : Mo) (D : am_M) : Prop := lyT tw ∧ bTo t ∧ cTo tw t D ∧ mTo t D ∧ Nw t s D ∧ Rd D ∧ (Zs tw D ∧ Zs (15 - tw) D) ∧ Bk (q_pe t) D ∧ Kp (q_pe t) D ∧ Pl D ∧ Tb t D
def Sim (_ : Nat) (tw : Nat) (_ : Bool) (D : am_M) : Prop := ∃ t s, Si tw t s D
/-! frames -/
theorem Tb_f {t : To} {D E : am_M} (h : ∀ a, 50 ≤ a → a < 54 → E a = D a) (q : Tb t D) : Tb t E := by
  unfold Tb Tok at q ⊢
  rw [h 50 (by decide) (by decide), h 51 (by decide) (by decide), h 52 (by decide) (by decide), h 53 (by decide) (by decide)]
  exact q
theorem Rd_f {D E : am_M} (h1 : E 12 = D 12) (h2 : E 13 = D 13) (h3 : E 63 = D 63) (h4 : E 56 14 = D 56 14) (h5 : E 56 15 = D 56 15) (q : Rd D) : Rd E := by
  unfold Rd at q ⊢
  rw [h1, h2, h3, h4, h5]
  exact q
theorem Zs_f {T : Nat} {D E : am_M} (h1 : E (T + 8) = D (T + 8)) (h2 : E (T + 6) = D (T + 6)) (q : Zs T D) : Zs T E := by
  unfold Zs at q ⊢
  rw [h1, h2]
  exact q
theorem Bk_f {P : Nat} {D E : am_M} (h1 : E 0 11 = D 0 11) (h2 : E 56 39 = D 56 39) (h3 : E 54 = D 54) (h4 : E 55 = D 55) (h5 : E 79 = D 79) (h6 : E 80 = D 80) (q : Bk P D) : Bk P E := by
  unfold Bk at q ⊢
  rw [h1, h2, h3, h4, h5, h6]
  exact q
theorem cMo_f {M P : Nat} {s : Mo} {D E : am_M} (h : ∀ a, M ≤ a → a < M + 5 → E a = D a) (q : cMo M P s D) : cMo M P s E := by
  unfold cMo at q ⊢
  rw [h M (by omega) (by omega), h (M + 1) (by omega) (by omega), h (M + 2) (by omega) (by omega), h (M + 3) (by omega) (by omega), h (M + 4) (by omega) (by omega)]
  exact q
theorem Im_f {M o P : Nat} {D E : am_M} (h : ∀ a, M ≤ a → a < M + 5 → E a = D a) (h2 : E 81 = D 81) (q : Im M o P D) : Im M o P E := by
  obtain ⟨m, q1, q2, q3, q4⟩ := q
  refine ⟨m, q1, q2, cMo_f h q3, ?_⟩
  unfold iMo at q4 ⊢
  rw [h2]
  exact q4
theorem Kp_f {P : Nat} {D E : am_M} (h1 : E 0 6 = D 0 6) (h2 : ∀ a, 35 ≤ a → a < 45 → E a = D a) (h3 : E 81 = D 81) (h4 : E 82 = D 82) (q : Kp P D) : Kp P E := by
  obtain ⟨k0, k1, q1, q2, q3, q4, q5⟩ := q
  exact ⟨k0, k1, by rw [h1]; exact q1, by rw [h4]; exact q2, by rw [h4]; exact q3, fun h => Im_f (fun a a1 a2 => h2 a (by omega) (by omega)) h3 (q4 h), fun h => Im_f (fun a a1 a2 => h2 a (by omega) (by omega)) h3 (q5 h)⟩
theorem cTo_f {T : Nat} {t : To} {D E : am_M} (h : ∀ a, T ≤ a → a < T + 6 → E a = D a) (q : cTo T t D) : cTo T t E := by
  unfold cTo at q ⊢
  rw [h T (by omega) (by omega), h (T + 1) (by omega) (by omega), h (T + 2) (by omega) (by omega), h (T + 3) (by omega) (by omega), h (T + 4) (by omega) (by omega), h (T + 5) (by omega) (by omega)]
  exact q
theorem mTo_f {t : To} {D E : am_M} (h : ∀ k, k < 8 → E 56 k = D 56 k) (h2 : ∀ a, 57 ≤ a → a < 62 → E a = D a) (q : mTo t D) : mTo t E := by
  unfold mTo at q ⊢
  rw [h 0 (by omega), h 1 (by omega), h 2 (by omega), h 3 (by omega), h 5 (by omega), h 7 (by omega), h2 57 (by omega) (by omega), h2 58 (by omega) (by omega), h2 59 (by omega) (by omega), h2 60 (by omega) (by omega), h2 61 (by omega) (by omega)]
  exact q
theorem mMo_f {P : Nat} {s : Mo} {D E : am_M} (h : E 62 = D 62) (h2 : E 56 12 = D 56 12) (q : mMo P s D) : mMo P s E := by
  unfold mMo at q ⊢
  rw [h, h2]
  exact q
theorem Nw_f {t : To} {s : Mo} {D E : am_M} (h : ∀ a, 25 ≤ a → a < 30 → E a = D a) (h1 : E 62 = D 62) (h2 : E 56 12 = D 56 12) (q : Nw t s D) : Nw t s E := ⟨q.1, q.2.1, cMo_f (fun a a1 a2 => h a a1 (by omega)) q.2.2.1, mMo_f h1 h2 q.2.2.2⟩
theorem Pl_f {D E : am_M} (h : E 45 2 = D 45 2) (q : Pl D) : Pl E := by
  unfold Pl at q ⊢
  rw [h]
  exact q
/-- what stays: all but the moments 25.., 30.., the plan, the coins' table, and of the reference the moment, the seed, rows for trials -/
def Fr (D E : am_M) : Prop := (∀ a, a < 25 → E a = D a) ∧ (∀ a, 35 ≤ a → a < 45 → E a = D a) ∧ (∀ a, 54 ≤ a → a < 56 → E a = D a) ∧ (∀ k, k < 8 ∨ (14 ≤ k ∧ k < 16) ∨ k = 39 → E 56 k = D 56 k) ∧ (∀ a, 57 ≤ a → a < 62 → E a = D a) ∧ E 63 = D 63 ∧ ∀ a, 79 ≤ a → a < 83 → E a = D a
theorem lyT_le {tw : Nat} (h : lyT tw) : 1 ≤ tw ∧ tw ≤ 14 := by
  rcases h with h | h <;> omega
theorem Si_f {tw : Nat} {t : To} {s s' : Mo} {D E : am_M} (q : Si tw t s D) (h : Fr D E) (n : Nw t s' E) (p : Pl E) (b : Tb t E) : Si tw t s' E := by
  obtain ⟨q1, q2, q3, q4, -, q6, ⟨q7, q8⟩, q9, q10, -, -⟩ := q
  obtain ⟨h1, h2, h3, h4, h5, h6, h7⟩ := h
  obtain ⟨l1, l2⟩ := lyT_le q1
  exact ⟨q1, q2, cTo_f (fun a _ _ => h1 a (by omega)) q3, mTo_f (fun k hk => h4 k (Or.inl hk)) h5 q4, n, Rd_f (h1 12 (by decide)) (h1 13 (by decide)) h6 (h4 14 (by omega)) (h4 15 (by omega)) q6, ⟨Zs_f (h1 _ (by omega)) (h1 _ (by omega)) q7, Zs_f (h1 _ (by omega)) (h1 _ (by omega)) q8⟩, Bk_f (by rw [h1 0 (by decide)]) (h4 39 (by omega)) (h3 54 (by decide) (by decide)) (h3 55 (by decide) (by decide)) (h7 79 (by decide) (by decide)) (h7 80 (by decide) (by decide)) q9, Kp_f (by rw [h1 0 (by decide)]) h2 (h7 81 (by decide) (by decide)) (h7 82 (by decide) (by decide)) q10, p, b⟩
/-- only the moment in force has changed -/
theorem Si_n {tw : Nat} {t : To} {s s' : Mo} {D E : am_M} (q : Si tw t s D) (h1 : ∀ a, a ≠ 56 → a ≠ 62 → a < 25 ∨ 35 ≤ a → a < 73 ∨ 78 < a → E a = D a) (h2 : ∀ k, k ≠ 12 → E 56 k = D 56 k) (n : Nw t s' E) : Si tw t s' E :=
  Si_f q ⟨fun a h => h1 a (by omega) (by omega) (by omega) (by omega), fun a h h' => h1 a (by omega) (by omega) (by omega) (by omega), fun a h h' => h1 a (by omega) (by omega) (by omega) (by omega), fun k h => h2 k (by omega), fun a h h' => h1 a (by omega) (by omega) (by omega) (by omega), h1 63 (by decide) (by decide) (by decide) (by decide), fun a h h' => h1 a (by omega) (by omega) (by omega) (by omega)⟩ n (Pl_f (by rw [h1 45 (by decide) (by decide) (by decide) (by decide)]) q.2.2.2.2.2.2.2.2.2.1) (Tb_f (fun a h h' => h1 a (by omega) (by omega) (by omega) (by omega)) q.2.2.2.2.2.2.2.2.2.2)
/-! the refusals -/
theorem in_6 (x : Int32) (lo hi : Int32) (l h : Int64) (hl : l = lo.toInt64) (hh : h = hi.toInt64) : f_X6_in x.toInt64 l h = f_X5_isWithin x lo hi := by rw [hl, hh]; exact tl_in x lo hi
theorem m1_w {P : Nat} (hP : P < 1000) {x : Int32} (h : ¬ f_X5_isWithin x 0 (nI P - 1) = 0) : ∃ p, p < P ∧ x = nI p := by
  cases P with
  | zero => exact absurd (tl_wm1 x) h
  | succ n =>
    have e : nI (n + 1) - 1 = nI n := pk_sub (a := n + 1) (b := 1) (by omega)
    rw [e] at h
    obtain ⟨j, -, h2, h3⟩ := tl_w1n (a := 0) (by omega) h (by decide)
    exact ⟨j, by omega, h3⟩
theorem has_is (x y : Int32) : f_X6_has x y = f_X5_isIn x y := rfl
