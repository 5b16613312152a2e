/-- the digits a 0 .. a (n-1) behind h, to the base b -/
def ky (b h : Nat) (a : Nat → Nat) : Nat → Nat
  | 0 => h
  | n + 1 => ky b h a n * b + a n
theorem ky_cg {b h : Nat} {a a' : Nat → Nat} {n : Nat} (e : ∀ j, j < n → a j = a' j) : ky b h a n = ky b h a' n := by
  induction n with
  | zero => rfl
  | succ n ih => show ky b h a n * b + a n = ky b h a' n * b + a' n; rw [ih (fun j hj => e j (by omega)), e n (by omega)]
theorem ky_dv {b h : Nat} {a : Nat → Nat} {n : Nat} (ha : a n < b) : ky b h a (n + 1) / b = ky b h a n ∧ ky b h a (n + 1) % b = a n := by
  have hb : 0 < b := by omega
  have e : ky b h a (n + 1) = a n + b * ky b h a n := by show ky b h a n * b + a n = _; rw [Nat.mul_comm, Nat.add_comm]
  rw [e]
  exact ⟨by rw [Nat.add_mul_div_left _ _ hb, Nat.div_eq_of_lt ha, Nat.zero_add], by rw [Nat.add_mul_mod_self_left, Nat.mod_eq_of_lt ha]⟩
theorem ky_lt {b h : Nat} {a : Nat → Nat} {n : Nat} (ha : ∀ j, j < n → a j < b) : ky b h a n < (h + 1) * b ^ n := by
  induction n with
  | zero => show h < (h + 1) * 1; omega
  | succ n ih =>
    have i := ih (fun j hj => ha j (by omega))
    have j := ha n (by omega)
    show ky b h a n * b + a n < (h + 1) * (b ^ n * b)
    have : (ky b h a n + 1) * b ≤ (h + 1) * b ^ n * b := Nat.mul_le_mul_right b i
    rw [Nat.add_mul, Nat.one_mul] at this
    rw [← Nat.mul_assoc]
    omega
theorem ky_in {b h h' : Nat} {a a' : Nat → Nat} {n : Nat} (ha : ∀ j, j < n → a j < b) (ha' : ∀ j, j < n → a' j < b) (e : ky b h a n = ky b h' a' n) : h = h' ∧ ∀ j, j < n → a j = a' j := by
  induction n with
  | zero => exact ⟨e, fun j hj => absurd hj (Nat.not_lt_zero _)⟩
  | succ n ih =>
    have d := ky_dv (h := h) (ha n (by omega))
    have d' := ky_dv (h := h') (ha' n (by omega))
    rw [e] at d
    have e1 := d.1.symm.trans d'.1
    have e2 := d.2.symm.trans d'.2
    have i := ih (fun j hj => ha j (by omega)) (fun j hj => ha' j (by omega)) e1
    refine ⟨i.1, fun j hj => ?_⟩
    by_cases q : j = n
    · rw [q]; exact e2
    · exact i.2 j (by omega)
theorem ky4 {h n : Nat} {a : Nat → Nat} (hv : wV n h a) : ky 2058 h a n < 2 ^ 48 := by
  have k := ky_lt (h := h) (n := n) hv.2.2.2
  have : (2058 : Nat) ^ n ≤ 2058 ^ 4 := Nat.pow_le_pow_right (by decide) hv.2.1
  have h1 : (h + 1) * 2058 ^ n ≤ 7 * 2058 ^ 4 := Nat.mul_le_mul (by have := hv.2.2.1; omega) this
  have : 7 * 2058 ^ 4 < 2 ^ 48 := by decide
  omega
theorem keyX {w c n h : Nat} {a : Nat → Nat} {m : zM} (h0 : m.1 w 0 = nI h - 1) (h1 : m.1 w 1 = nI n) (hc : ∀ i, i < n → m.1 c i = nI (a i)) (hz : zlen gX c = 4) (hv : wV n h a) : f_World_keyOf w c m = some (lN (ky 2058 h a n)) := by
  have n4 := hv.2.1
  have h7 := hv.2.2.1
  refine ok_eq.mp ?_
  unfold f_World_keyOf f_World_keyOf_L11
  refine ok_loop (fun s : Int64 × Int32 => ∃ k, k ≤ n ∧ s.2 = nI k ∧ s.1 = lN (ky 2058 h a k)) (fun s => n - s.2.toNatClampNeg) ?_ _ ⟨0, by omega, rfl, ?_⟩ (by show n - _ < _; omega)
  rotate_left
  · show (m.1 w 0 + 1).toInt64 = lN h
    rw [h0, Int32.sub_add_cancel, nI_l (by omega)]
  rintro ⟨x, y⟩ ⟨k, hk, e1, e2⟩
  have e1 : y = nI k := e1
  have e2 : x = lN (ky 2058 h a k) := e2
  subst e1
  subst e2
  unfold f_World_keyOf_B11
  rw [h1]
  refine ok_it (fun q => ?_) (fun q => ?_)
  · have := (nI_leI (a := n) (b := k) (by omega) (by omega)).mp q
    exact ok_mk (show lN (ky 2058 h a k) = lN (ky 2058 h a n) by rw [show k = n by omega])
  · have hkn : k < n := by
      rcases Nat.lt_or_ge k n with z | z
      · exact z
      · exact absurd ((nI_leI (a := n) (b := k) (by omega) (by omega)).mpr z) q
    rw [hz]
    refine ok_ix rfl (by omega : k < 4) (by decide) (ok_mk ⟨⟨k + 1, by omega, nI_1 k, ?_⟩, ?_⟩)
    · show lN (ky 2058 h a k) * 2058 + (m.1 c k).toInt64 = lN (ky 2058 h a k * 2058 + a k)
      rw [hc k hkn, nI_l (by have := hv.2.2.2 k hkn; omega), show (2058 : Int64) = lN 2058 from rfl, lN_mul, lN_add]
    · show n - (nI k + 1).toNatClampNeg < n - (nI k).toNatClampNeg
      rw [nI_1, nI_clamp (by omega), nI_clamp (by omega)]; omega
theorem loadX {w n h : Nat} {a : Nat → Nat} {m : zM} (hv : wV n h a) : ok (f_World_load w (lN (ky 2058 h a n)) (nI n) m) (fun p => fl2 [w, w + 1] [] m p ∧ wX w n h a p) := by
  have n4 := hv.2.1
  have n0 := hv.1
  have h7 := hv.2.2.1
  unfold f_World_load
  refine ok_lt ?_
  unfold f_World_load_L13
  refine ok_loop (fun s : Int64 × Int32 × zM => ∃ k, k ≤ n ∧ s.2.1 = nI k - 1 ∧ s.1 = lN (ky 2058 h a k) ∧ fl2 [w, w + 1] [] m s.2.2 ∧ s.2.2.1 w 1 = nI n ∧ (∀ j, j < n → k ≤ j → s.2.2.1 (w + 1) j = nI (a j))) (fun s => (s.2.1 + 1).toNatClampNeg) ?_ _ ⟨n, Nat.le_refl _, rfl, rfl, fl2_I (inS_c (by simp)), rd_I1 _ _ _ _, fun j hj hz => by omega⟩ (by show (nI n - 1 + 1).toNatClampNeg < _; rw [Int32.sub_add_cancel, nI_clamp (by omega)]; omega)
  rintro ⟨x, y, m1⟩ ⟨k, hk, e1, e2, gf, g1, gn⟩
  have e1 : y = nI k - 1 := e1
  have e2 : x = lN (ky 2058 h a k) := e2
  subst e1
  subst e2
  have g1 : m1.1 w 1 = nI n := g1
  unfold f_World_load_B13
  cases k with
  | zero =>
    refine ok_ip (show nI 0 - 1 < 0 by decide) (ok_zl ?_)
    unfold f_World_load_J46
    refine ok_lt (ok_mk ⟨fl2_tr gf (fl2_I (inS_c (by simp))), ?_, ?_, fun j hj => ?_⟩)
    · rw [rd_I1]
      show (lN h).toInt32 - 1 = _
      rw [lN_i]
    · rw [rd_I0 (by omega)]; exact g1
    · rw [rd_I0 (by omega)]; exact gn j hj (by omega)
  | succ k =>
    have hc := hv.2.2.2 k (by omega)
    have b : ky 2058 h a (k + 1) < 2 ^ 48 := ky4 ⟨by omega, by omega, h7, fun j hj => hv.2.2.2 j (by omega)⟩
    have d := ky_dv (b := 2058) (h := h) hc
    rw [nI_pred]
    refine ok_in (nI_pos (by omega)) (ok_ix rfl (by omega : k < 4) (by decide) (ok_lt (ok_mk ⟨⟨k, by omega, ?_, ?_, fl2_tr gf (fl2_I (inS_c (by simp))), ?_, fun j hj hz => ?_⟩, ?_⟩)))
    · show nI k + (-1) = nI k - 1
      rw [Int32.sub_eq_add_neg]
    · show lN (ky 2058 h a (k + 1)) / 2058 = _
      rw [show (2058 : Int64) = lN 2058 from rfl, pk_lDiv (by omega) (by decide) (by decide), d.1]
    · show (sI m1 (w + 1) k _).1 w 1 = _
      rw [rd_I0 (by omega)]; exact g1
    · show (sI m1 (w + 1) k _).1 (w + 1) j = _
      by_cases e : j = k
      · rw [e, rd_I1]
        unfold irl
        rw [show (2058 : Int64) = lN 2058 from rfl, pk_lRem (by omega) (by decide) (by decide), d.2, lN_i]
      · rw [rd_I0 (by omega)]; exact gn j hj (by omega)
    · show (nI k + (-1) + 1).toNatClampNeg < (nI k + 1).toNatClampNeg
      rw [show nI k + (-1) + 1 = nI k by rw [Int32.add_assoc]; exact Int32.add_zero _, nI_1, nI_clamp (by omega), nI_clamp (by omega)]; omega
