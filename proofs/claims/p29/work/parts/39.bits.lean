/-! bits (two rows begun from the kit's NUMBERS text) -/
theorem n_and (a b : Nat) : nI a &&& nI b = nI (a &&& b) := by
  apply Int32.toBitVec_inj.1
  show BitVec.ofNat 32 a &&& BitVec.ofNat 32 b = BitVec.ofNat 32 (a &&& b)
  apply BitVec.eq_of_getLsbD_eq
  intro i hi
  simp [hi]
theorem n_or (a b : Nat) : nI a ||| nI b = nI (a ||| b) := by
  apply Int32.toBitVec_inj.1
  show BitVec.ofNat 32 a ||| BitVec.ofNat 32 b = BitVec.ofNat 32 (a ||| b)
  apply BitVec.eq_of_getLsbD_eq
  intro i hi
  simp [hi]
theorem n_shl : ∀ d, d < 31 → (1 : Int32) <<< (nI d &&& 31) = nI (2 ^ d) := by decide +kernel
theorem n_sm : ∀ d, d < 31 → ((nI d &&& 31).toBitVec.smod 32).toNat = d := by decide +kernel
/-- whether k is in a SET -/
theorem n_in {m k : Nat} (hm : m < 2 ^ 31) (hk : k < 31) : (((nI m >>> (nI k &&& 31)) &&& 1) = (1 : Int32)) ↔ m.testBit k = true := by
  have e1 : nI m >>> (nI k &&& 31) = nI (m / 2 ^ k) := pk_shrN hm _ k (n_sm k hk)
  rw [e1, show (1 : Int32) = nI 1 from rfl, n_and, nI_eq (Nat.lt_of_le_of_lt Nat.and_le_right (by omega)) (by omega), Nat.and_one_is_mod, Nat.testBit_eq_decide_div_mod_eq]
  simp
