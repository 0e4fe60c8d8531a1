/-! codes of places and rows in a long -/
set_option maxHeartbeats 400000 in
theorem lN_of {n : Nat} (h : n < 2 ^ 31) : (nI n).toInt64 = lN n := by
  refine Int64.toInt_inj.mp ?_
  rw [Int32.toInt_toInt64, nI_toInt h, pk_lT (by omega)]
set_option maxHeartbeats 400000 in
theorem lN_32 {n : Nat} (h : n < 2 ^ 31) : (lN n).toInt32 = nI n := by rw [← lN_of h]; exact t3264 _
set_option maxHeartbeats 400000 in
theorem lN_shl (n : Nat) : lN n <<< (Int32.toInt64 6 &&& 63) = lN (n * 64) := by
  rw [show (Int32.toInt64 6 &&& 63 : Int64) = 6 from rfl]
  refine Int64.toBitVec_inj.mp ?_
  rw [Int64.toBitVec_shiftLeft]
  refine BitVec.eq_of_toNat_eq ?_
  show ((BitVec.ofNat 64 n) <<< (6 : Nat)).toNat = (BitVec.ofNat 64 (n * 64)).toNat
  rw [BitVec.toNat_shiftLeft, BitVec.toNat_ofNat, BitVec.toNat_ofNat, Nat.shiftLeft_eq]
  omega
set_option maxHeartbeats 400000 in
theorem lN_and (v : Nat) : lN v &&& 63 = lN (v % 64) := by
  refine Int64.toBitVec_inj.mp ?_
  rw [Int64.toBitVec_and]
  refine BitVec.eq_of_toNat_eq ?_
  rw [BitVec.toNat_and]
  show (BitVec.ofNat 64 v).toNat &&& 63 = (BitVec.ofNat 64 (v % 64)).toNat
  rw [BitVec.toNat_ofNat, BitVec.toNat_ofNat, show (63 : Nat) = 2 ^ 6 - 1 from rfl, Nat.and_two_pow_sub_one_eq_mod]
  omega
