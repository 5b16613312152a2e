/-- where a key is looked for first -/
def hsh (v : Int64) : Nat := (v * (-7046029254386353131)).toBitVec.toNat / 2 ^ 53
theorem hsh_lt (v : Int64) : hsh v < 2048 := by
  unfold hsh
  have := (v * (-7046029254386353131)).toBitVec.isLt
  omega
theorem lus_53 (y : Int64) : lus y 53 = lN (y.toBitVec.toNat / 2 ^ 53) := by
  apply Int64.toBitVec_inj.mp
  apply BitVec.eq_of_toNat_eq
  have b := y.toBitVec.isLt
  rw [lq_tn (by omega)]
  have e : (lus y 53).toBitVec = y.toBitVec >>> 53 := rfl
  rw [e, BitVec.toNat_ushiftRight, Nat.shiftRight_eq_div_pow]
theorem spot_h (v : Int64) : f_MO_spot v = nI (hsh v) := by
  unfold f_MO_spot hsh
  rw [lus_53, lN_i]
