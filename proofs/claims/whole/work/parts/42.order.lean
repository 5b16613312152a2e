theorem ky_s {b x y u v : Nat} (hu : u < b) (hv : v < b) : (x * b + u < y * b + v ↔ x < y ∨ (x = y ∧ u < v)) ∧ (x * b + u = y * b + v ↔ x = y ∧ u = v) := by
  rcases Nat.lt_trichotomy x y with h | h | h
  · have : (x + 1) * b ≤ y * b := Nat.mul_le_mul_right b h
    rw [Nat.add_mul, Nat.one_mul] at this
    omega
  · subst h; omega
  · have : (y + 1) * b ≤ x * b := Nat.mul_le_mul_right b h
    rw [Nat.add_mul, Nat.one_mul] at this
    omega
/-- numbers whose digits stand in one order do so themselves -/
theorem ky_o {b B h h' : Nat} {a a' d d' : Nat → Nat} {n : Nat} (ha : ∀ j, j < n → a j < b) (ha' : ∀ j, j < n → a' j < b) (hd : ∀ j, j < n → d j < B) (hd' : ∀ j, j < n → d' j < B) (hl : ∀ j, j < n → (a j < a' j ↔ d j < d' j)) (he : ∀ j, j < n → (a j = a' j ↔ d j = d' j)) : (ky b h a n < ky b h' a' n ↔ ky B h d n < ky B h' d' n) ∧ (ky b h a n = ky b h' a' n ↔ ky B h d n = ky B h' d' n) := by
  induction n with
  | zero => exact ⟨Iff.rfl, Iff.rfl⟩
  | succ n ih =>
    have i := ih (fun j hj => ha j (by omega)) (fun j hj => ha' j (by omega)) (fun j hj => hd j (by omega)) (fun j hj => hd' j (by omega)) (fun j hj => hl j (by omega)) (fun j hj => he j (by omega))
    have s1 := ky_s (x := ky b h a n) (y := ky b h' a' n) (ha n (by omega)) (ha' n (by omega))
    have s2 := ky_s (x := ky B h d n) (y := ky B h' d' n) (hd n (by omega)) (hd' n (by omega))
    have l := hl n (by omega)
    have e := he n (by omega)
    refine ⟨?_, ?_⟩
    · show ky b h a n * b + a n < ky b h' a' n * b + a' n ↔ ky B h d n * B + d n < ky B h' d' n * B + d' n
      rw [s1.1, s2.1, i.1, i.2, l]
    · show ky b h a n * b + a n = ky b h' a' n * b + a' n ↔ ky B h d n * B + d n = ky B h' d' n * B + d' n
      rw [s1.2, s2.2, i.2, e]
def dg (c j : Nat) : Nat := if j = 0 then o1 c else if j = 1 then o2 c else o3 c
theorem dg_lt (c j : Nat) : dg c j < 7 := by
  unfold dg
  split
  · exact o1_lt c
  · split
    · exact o2_lt c
    · exact o3_lt c
theorem mOf_o (c d : Nat) : (c < d ↔ mOf c < mOf d) ∧ (c = d ↔ mOf c = mOf d) := by
  have k := ky_o (b := 7) (B := 8) (h := oS c) (h' := oS d) (a := dg c) (a' := dg d) (d := dg c) (d' := dg d) (n := 3) (fun j _ => dg_lt c j) (fun j _ => dg_lt d j) (fun j _ => by have := dg_lt c j; omega) (fun j _ => by have := dg_lt d j; omega) (fun _ _ => Iff.rfl) (fun _ _ => Iff.rfl)
  have e1 : ∀ c, ky 7 (oS c) (dg c) 3 = c := fun c => oC_eta c
  have e2 : ∀ c, ky 8 (oS c) (dg c) 3 = mOf c := fun c => rfl
  rw [e1, e1, e2, e2] at k
  exact k
theorem ky_0 {b h : Nat} {a : Nat → Nat} {n : Nat} (k : Nat) (hz : ∀ j, n ≤ j → a j = 0) : ky b h a (n + k) = ky b h a n * b ^ k := by
  induction k with
  | zero => exact (Nat.mul_one _).symm
  | succ k ih =>
    show ky b h a (n + k) * b + a (n + k) = _
    rw [ih, hz _ (by omega), Nat.add_zero, Nat.mul_assoc, Nat.pow_succ]
/-- the two sides' keys stand in one order -/
theorem key_o {n h h' : Nat} {a a' : Nat → Nat} (hv : wV n h a) (hv' : wV n h' a') : (ky 2058 h a n < ky 2058 h' a' n ↔ kM n h a < kM n h' a') ∧ (ky 2058 h a n = ky 2058 h' a' n ↔ kM n h a = kM n h' a') := by
  have n4 := hv.2.1
  have md : ∀ (a : Nat → Nat) j, j < n → mD n a j = mOf (a j) := fun a j hj => by unfold mD; rw [if_pos hj]
  have k := ky_o (b := 2058) (B := 4096) (h := h) (h' := h') (a := a) (a' := a') (d := mD n a) (d' := mD n a') (n := n) hv.2.2.2 hv'.2.2.2 (fun j _ => mD_lt hv j) (fun j _ => mD_lt hv' j) (fun j hj => by rw [md a j hj, md a' j hj]; exact (mOf_o _ _).1) (fun j hj => by rw [md a j hj, md a' j hj]; exact (mOf_o _ _).2)
  have z : ∀ a : Nat → Nat, ∀ j, n ≤ j → mD n a j = 0 := fun a j hj => by unfold mD; rw [if_neg (by omega)]
  have e : ∀ (h : Nat) (a : Nat → Nat), kM n h a = ky 4096 h (mD n a) n * 4096 ^ (4 - n) := by
    intro h a
    have := ky_0 (b := 4096) (h := h) (4 - n) (z a)
    rw [show n + (4 - n) = 4 by omega] at this
    exact this
  have p : 0 < (4096 : Nat) ^ (4 - n) := Nat.pow_pos (by decide)
  rw [k.1, k.2, e, e]
  exact ⟨(Nat.mul_lt_mul_right p).symm, ⟨fun q => by rw [q], fun q => Nat.eq_of_mul_eq_mul_right p q⟩⟩
