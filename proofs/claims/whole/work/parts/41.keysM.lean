theorem lq_shl (a s : Int64) (k : Nat) (hs : (s.toBitVec.smod 64).toNat = k) : (a <<< s).toBitVec.toNat = a.toBitVec.toNat * 2 ^ k % 2 ^ 64 := by
  show (a.toBitVec <<< (s.toBitVec.smod 64).toNat).toNat = _
  rw [hs, BitVec.toNat_shiftLeft, Nat.shiftLeft_eq]
theorem lq_shr (a s : Int64) (k : Nat) (hs : (s.toBitVec.smod 64).toNat = k) : (a >>> s).toInt = a.toInt >>> k := by
  show (a.toBitVec.sshiftRight (s.toBitVec.smod 64).toNat).toInt = _
  rw [hs, BitVec.toInt_sshiftRight]
  rfl
theorem lq_tn {n : Nat} (h : n < 2 ^ 64) : (lN n).toBitVec.toNat = n := Nat.mod_eq_of_lt h
theorem lq_shrN {n : Nat} (h : n < 2 ^ 63) (s : Int64) (k : Nat) (hs : (s.toBitVec.smod 64).toNat = k) : lN n >>> s = lN (n / 2 ^ k) := by
  apply Int64.toInt_inj.mp
  have h2 : n / 2 ^ k ≤ n := Nat.div_le_self _ _
  rw [lq_shr _ _ k hs, pk_lT h, pk_lT (by omega), Int.shiftRight_eq_div_pow]
  rfl
theorem lq_or {n x : Nat} (h : n * 4096 + x < 2 ^ 63) (hx : x < 4096) : lsl (lN n) 12 ||| lN x = lN (n * 4096 + x) := by
  apply Int64.toBitVec_inj.mp
  apply BitVec.eq_of_toNat_eq
  show ((lsl (lN n) 12).toBitVec ||| (lN x).toBitVec).toNat = _
  unfold lsl
  have e1 : n * 2 ^ 12 % 2 ^ 64 = n * 4096 := by omega
  rw [BitVec.toNat_or, lq_shl _ _ 12 (by decide), lq_tn (n := n) (by omega), lq_tn (n := x) (by omega), lq_tn (n := n * 4096 + x) (by omega), e1]
  have := Nat.shiftLeft_add_eq_or_of_lt (i := 12) (b := x) hx n
  rw [Nat.shiftLeft_eq] at this
  exact this.symm
theorem lq_and (n : Nat) : nI n &&& 4095 = nI (n % 4096) := by
  rw [pk_and (nI n) 12 (by decide)]
  congr 1
  show (n % 2 ^ 32) % 2 ^ 12 = n % 4096
  omega
def mD (n : Nat) (a : Nat → Nat) (j : Nat) : Nat := if j < n then mOf (a j) else 0
def kM (n h : Nat) (a : Nat → Nat) : Nat := ky 4096 h (mD n a) 4
theorem mD_lt {n h : Nat} {a : Nat → Nat} (hv : wV n h a) (j : Nat) : mD n a j < 4096 := by
  unfold mD
  split
  · rename_i q
    have := mOf_lt (hv.2.2.2 j q)
    omega
  · decide
theorem shutM {n h : Nat} {a : Nat → Nat} {m : zM} (ht : wT n h a m) (hv : wV n h a) : f_MO_shut m = some (lN (kM n h a)) := by
  have h7 := hv.2.2.1
  refine ok_eq.mp ?_
  unfold f_MO_shut f_MO_shut_L10
  refine ok_loop (fun s : Int64 × Int32 => ∃ k, k ≤ 4 ∧ s.2 = nI k ∧ s.1 = lN (ky 4096 h (mD n a) k)) (fun s => 4 - s.2.toNatClampNeg) ?_ _ ⟨0, by omega, rfl, ?_⟩ (by show 4 - _ < _; omega)
  rotate_left
  · show (m.1 0 38 + 1).toInt64 = lN h
    rw [ht.1, Int32.sub_add_cancel, nI_l (by omega)]
  rintro ⟨x, y⟩ ⟨k, hk, e1, e2⟩
  have e1 : y = nI k := e1
  have e2 : x = lN (ky 4096 h (mD n a) k) := e2
  subst e1
  subst e2
  unfold f_MO_shut_B10
  refine ok_it (fun q => ?_) (fun q => ?_)
  · have := (nI_leI (a := 4) (b := k) (by omega) (by omega)).mp q
    exact ok_mk (show lN (ky 4096 h (mD n a) k) = lN (ky 4096 h (mD n a) 4) by rw [show k = 4 by omega])
  · have hk4 : k < 4 := by
      rcases Nat.lt_or_ge k 4 with z | z
      · exact z
      · exact absurd ((nI_leI (a := 4) (b := k) (by omega) (by omega)).mpr z) q
    refine ok_ix rfl hk4 (by decide) (ok_mk ⟨⟨k + 1, by omega, nI_1 k, ?_⟩, ?_⟩)
    · show lsl (lN (ky 4096 h (mD n a) k)) 12 ||| (m.1 26 k).toInt64 = lN (ky 4096 h (mD n a) k * 4096 + mD n a k)
      have d := mD_lt hv k
      rw [ht.2 k hk4, show (if k < n then mOf (a k) else 0) = mD n a k from rfl, nI_l (by omega), lq_or _ d]
      have b := ky_lt (b := 4096) (h := h) (n := k + 1) (a := mD n a) (fun j _ => mD_lt hv j)
      have e : ky 4096 h (mD n a) (k + 1) = ky 4096 h (mD n a) k * 4096 + mD n a k := rfl
      rw [e] at b
      have : (4096 : Nat) ^ (k + 1) ≤ 4096 ^ 4 := Nat.pow_le_pow_right (by decide) (by omega)
      have h1 : (h + 1) * 4096 ^ (k + 1) ≤ 7 * 4096 ^ 4 := Nat.mul_le_mul (by omega) this
      have : 7 * 4096 ^ 4 < 2 ^ 63 := by decide
      omega
    · show 4 - (nI k + 1).toNatClampNeg < 4 - (nI k).toNatClampNeg
      rw [nI_1, nI_clamp (by omega), nI_clamp (by omega)]; omega
theorem kM_lt {n h : Nat} {a : Nat → Nat} (hv : wV n h a) : kM n h a < 2 ^ 51 := by
  have b := ky_lt (b := 4096) (h := h) (n := 4) (a := mD n a) (fun j _ => mD_lt hv j)
  have h1 : (h + 1) * 4096 ^ 4 ≤ 7 * 4096 ^ 4 := Nat.mul_le_mul (by have := hv.2.2.1; omega) (Nat.le_refl _)
  have : 7 * 4096 ^ 4 < 2 ^ 51 := by decide
  unfold kM
  omega
theorem kM_eq (n h : Nat) (a : Nat → Nat) : kM n h a = (((h * 4096 + mD n a 0) * 4096 + mD n a 1) * 4096 + mD n a 2) * 4096 + mD n a 3 := rfl
theorem opensM {n h : Nat} {a : Nat → Nat} {m : zM} (hv : wV n h a) : ok (f_MO_opens (lN (kM n h a)) m) (fun p => fl2 [25] [(0, 36)] m p ∧ wM n h a p) := by
  have h7 := hv.2.2.1
  have kb := kM_lt hv
  have d0 := mD_lt hv 0
  have d1 := mD_lt hv 1
  have d2 := mD_lt hv 2
  have d3 := mD_lt hv 3
  have ke := kM_eq n h a
  unfold f_MO_opens
  refine ok_lt ?_
  unfold f_MO_opens_L13
  refine ok_loop (fun s : Int32 × zM => ∃ k, k ≤ 4 ∧ s.1 = nI k ∧ fl2 [25] [(0, 36)] m s.2 ∧ s.2.1 0 36 = nI h - 1 ∧ ∀ j, j < k → s.2.1 25 j = nI (mD n a j)) (fun s => 4 - s.1.toNatClampNeg) ?_ _ ⟨0, by omega, rfl, fl2_I (inS_f (by simp)), ?_, fun j hj => absurd hj (Nat.not_lt_zero _)⟩ (by show 4 - _ < _; omega)
  rotate_left
  · show (sI m 0 36 _).1 0 36 = _
    rw [rd_I1]
    unfold lsr
    rw [lq_shrN (by omega) _ 48 (by decide), lN_i, show kM n h a / 2 ^ 48 = h by omega]
  rintro ⟨x, m1⟩ ⟨k, hk, e1, gf, g36, gn⟩
  have e1 : x = nI k := e1
  subst e1
  have g36 : m1.1 0 36 = nI h - 1 := g36
  have gn : ∀ j, j < k → m1.1 25 j = nI (mD n a j) := gn
  unfold f_MO_opens_B13
  refine ok_it (fun q => ?_) (fun q => ?_)
  · have := (nI_leI (a := 4) (b := k) (by omega) (by omega)).mp q
    exact ok_mk ⟨gf, g36, fun j hj => gn j (by omega)⟩
  · have hk4 : k < 4 := by
      rcases Nat.lt_or_ge k 4 with z | z
      · exact z
      · exact absurd ((nI_leI (a := 4) (b := k) (by omega) (by omega)).mpr z) q
    refine ok_ix rfl hk4 (by decide) (ok_lt (ok_mk ⟨⟨k + 1, by omega, nI_1 k, fl2_tr gf (fl2_I (inS_c (by simp))), ?_, fun j hj => ?_⟩, ?_⟩))
    · show (sI m1 25 k _).1 0 36 = _
      rw [rd_I0 (by omega)]; exact g36
    · show (sI m1 25 k _).1 25 j = _
      by_cases e : j = k
      · rw [e, rd_I1]
        unfold lsr
        rcases (show k = 0 ∨ k = 1 ∨ k = 2 ∨ k = 3 by omega) with z | z | z | z <;> rw [z]
        · rw [lq_shrN (by omega) _ 36 (show ((((36 : Int32) - 12 * nI 0).toInt64 &&& 63).toBitVec.smod 64).toNat = 36 by decide), lN_i, lq_and]
          congr 1
          omega
        · rw [lq_shrN (by omega) _ 24 (show ((((36 : Int32) - 12 * nI 1).toInt64 &&& 63).toBitVec.smod 64).toNat = 24 by decide), lN_i, lq_and]
          congr 1
          omega
        · rw [lq_shrN (by omega) _ 12 (show ((((36 : Int32) - 12 * nI 2).toInt64 &&& 63).toBitVec.smod 64).toNat = 12 by decide), lN_i, lq_and]
          congr 1
          omega
        · rw [lq_shrN (by omega) _ 0 (show ((((36 : Int32) - 12 * nI 3).toInt64 &&& 63).toBitVec.smod 64).toNat = 0 by decide), lN_i, lq_and]
          congr 1
          omega
      · rw [rd_I0 (by omega)]; exact gn j (by omega)
    · show 4 - (nI k + 1).toNatClampNeg < 4 - (nI k).toNatClampNeg
      rw [nI_1, nI_clamp (by omega), nI_clamp (by omega)]; omega
