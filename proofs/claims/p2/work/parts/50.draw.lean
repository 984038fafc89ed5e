/-! draws -/
def nx (s : Nat) : Nat := (s * 1103515245 + 12345) % 2147483648
theorem d_l {s : Nat} (hs : s < 2147483648) : (nI s).toInt64 * 1103515245 + 12345 = Int64.ofNat (s * 1103515245 + 12345) := by
  have e : (nI s).toInt64 = Int64.ofNat s := by
    apply Int64.toInt_inj.mp
    rw [Int32.toInt_toInt64, Int64.toInt_ofNat_of_lt (by omega)]
    exact Int32.toInt_ofNat_of_lt (by omega)
  rw [e, show (1103515245 : Int64) = Int64.ofNat 1103515245 from rfl, show (12345 : Int64) = Int64.ofNat 12345 from rfl, ← Int64.ofNat_mul, ← Int64.ofNat_add]
