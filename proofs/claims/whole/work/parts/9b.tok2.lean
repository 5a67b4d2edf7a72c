/-! Layer 3: numbers of tokens -/
theorem rq_lcmp0 {x y : Int} (h1 : -9223372036854775808 ≤ x) (h2 : x < 9223372036854775808) (h3 : -9223372036854775808 ≤ y) (h4 : y < 9223372036854775808) : rt_lcmp x y = 0 ↔ x = y := by
  unfold rt_lcmp
  rw [show ((lg_cmp (Int64.ofInt x) (Int64.ofInt y)).toInt = 0) ↔ (lg_cmp (Int64.ofInt x) (Int64.ofInt y) = 0) from ⟨fun h => Int32.toInt_inj.mp h, fun h => by rw [h]; rfl⟩, lg_cmp_eq]
  constructor
  · intro h
    have a : (Int64.ofInt x).toInt = x := by rw [Int64.toInt_ofInt]; exact rq_bl h1 h2
    have b : (Int64.ofInt y).toInt = y := by rw [Int64.toInt_ofInt]; exact rq_bl h3 h4
    rw [← a, ← b, h]
  · intro h; rw [h]
theorem rq_lbv {x : Nat} (hx : x < 9223372036854775808) : (Int64.ofInt (x : Int)).toBitVec.toNat = x := by
  show (BitVec.ofInt 64 (x : Int)).toNat = x
  rw [BitVec.toNat_ofInt]
  omega
theorem rq_lor {x y : Nat} (hx : x < 9223372036854775808) (hy : y < 9223372036854775808) : rt_lor (x : Int) (y : Int) = ((x ||| y : Nat) : Int) := by
  unfold rt_lor
  have h : x ||| y < 2 ^ 63 := Nat.or_lt_two_pow hx hy
  show ((Int64.ofInt (x : Int)).toBitVec ||| (Int64.ofInt (y : Int)).toBitVec).toInt = _
  have e : ((Int64.ofInt (x : Int)).toBitVec ||| (Int64.ofInt (y : Int)).toBitVec).toNat = x ||| y := by rw [BitVec.toNat_or, rq_lbv hx, rq_lbv hy]
  rw [BitVec.toInt_eq_toNat_of_lt (by rw [e]; omega), e]
theorem rq_lshl7 {x : Nat} (hx : x < 1125899906842624) : rt_lshl (x : Int) 7 = ((x * 128 : Nat) : Int) := by
  unfold rt_lshl
  rw [show ((Int32.ofInt 7).toInt64 &&& 63) = (7 : Int64) by decide]
  show ((Int64.ofInt (x : Int)).toBitVec <<< ((7 : Int64).toBitVec.smod 64)).toInt = _
  rw [show (7 : Int64).toBitVec.smod 64 = 7#64 by decide]
  have e : ((Int64.ofInt (x : Int)).toBitVec <<< (7#64)).toNat = x * 128 := by
    rw [BitVec.shiftLeft_eq', BitVec.toNat_shiftLeft, rq_lbv (by omega)]
    show x <<< 7 % 2 ^ 64 = x * 128
    rw [Nat.shiftLeft_eq]
    omega
  rw [BitVec.toInt_eq_toNat_of_lt (by rw [e]; omega), e]
/-- one sign more -/
theorem rq_pk1 {v c : Int} (h0 : 0 ≤ v) (h1 : v < 1125899906842624) (h2 : 0 ≤ c) (h3 : c < 128) : rt_lor (rt_lshl v 7) c = v * 128 + c := by
  obtain ⟨x, rfl⟩ := Int.eq_ofNat_of_zero_le h0
  obtain ⟨y, rfl⟩ := Int.eq_ofNat_of_zero_le h2
  rw [rq_lshl7 (by omega), rq_lor (by omega) (by omega)]
  have := Nat.shiftLeft_add_eq_or_of_lt (i := 7) (b := y) (by omega) x
  rw [Nat.shiftLeft_eq] at this
  rw [show x * 128 = x * 2 ^ 7 by omega, ← this]
  omega
