/-! draws -/
def nx (s : Nat) : Nat := (s * 1103515245 + 12345) % 2147483648
theorem d_l {s : Nat} (hs : s < 2147483648) : (nI s).toInt64 * 1103515245 + 12345 = Int64.ofNat (s * 1103515245 + 12345) := by
  have e : (nI s).toInt64 = Int64.ofNat s := by
    apply Int64.toInt_inj.mp
    rw [Int32.toInt_toInt64, Int64.toInt_ofNat_of_lt (by omega)]
    exact Int32.toInt_ofNat_of_lt (by omega)
  rw [e, show (1103515245 : Int64) = Int64.ofNat 1103515245 from rfl, show (12345 : Int64) = Int64.ofNat 12345 from rfl, ← Int64.ofNat_mul, ← Int64.ofNat_add]
theorem d_32 {x : Nat} (hx : x < 2147483648) : (Int64.ofNat x).toInt32 = nI x := by
  apply Int32.toBitVec_inj.1
  show (BitVec.ofNat 64 x).signExtend 32 = BitVec.ofNat 32 x
  apply BitVec.eq_of_toNat_eq
  rw [BitVec.toNat_signExtend, BitVec.toNat_ofNat]
  simp
theorem d_c {s : Nat} (hs : s < 2147483648) : ((((nI s).toInt64 * 1103515245) + 12345) &&& 2147483647).toInt32 = nI (nx s) := by
  rw [d_l hs]
  have e : Int64.ofNat (s * 1103515245 + 12345) &&& 2147483647 = Int64.ofNat (nx s) := by
    apply Int64.toBitVec_inj.1
    show BitVec.ofNat 64 (s * 1103515245 + 12345) &&& BitVec.ofNat 64 2147483647 = BitVec.ofNat 64 (nx s)
    apply BitVec.eq_of_toNat_eq
    rw [BitVec.toNat_and, BitVec.toNat_ofNat, BitVec.toNat_ofNat, BitVec.toNat_ofNat, Nat.mod_eq_of_lt (by omega : s * 1103515245 + 12345 < 2 ^ 64), Nat.mod_eq_of_lt (by decide : 2147483647 < 2 ^ 64), show 2147483647 = 2 ^ 31 - 1 from rfl, Nat.and_two_pow_sub_one_eq_mod]
    unfold nx
    omega
  rw [e]
  exact d_32 (Nat.mod_lt _ (by decide))
theorem d_m {s : Nat} (hs : s < 2147483648) : ((((nI s).toInt64 * 1103515245) + 12345) - (((nI s).toInt64 * 1103515245) + 12345) / 2147483648 * 2147483648).toInt32 = nI (nx s) := by
  rw [d_l hs]
  have e : Int64.ofNat (s * 1103515245 + 12345) - Int64.ofNat (s * 1103515245 + 12345) / 2147483648 * 2147483648 = Int64.ofNat (nx s) := by
    have hd : Int64.ofNat (s * 1103515245 + 12345) / 2147483648 = Int64.ofNat ((s * 1103515245 + 12345) / 2147483648) := by
      apply Int64.toInt_inj.mp
      rw [Int64.toInt_div_of_ne_right _ _ (by decide), Int64.toInt_ofNat_of_lt (by omega), Int64.toInt_ofNat_of_lt (by omega), show Int64.toInt 2147483648 = 2147483648 from by decide]
      rw [Int.tdiv_eq_ediv_of_nonneg (by omega)]
      omega
    rw [hd, show (2147483648 : Int64) = Int64.ofNat 2147483648 from rfl, ← Int64.ofNat_mul, ← Int64.ofNat_sub _ _ (by omega)]
    have hq : s * 1103515245 + 12345 - (s * 1103515245 + 12345) / 2147483648 * 2147483648 = nx s := by unfold nx; omega
    rw [hq]
  rw [e]
  exact d_32 (Nat.mod_lt _ (by decide))
