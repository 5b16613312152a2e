/-- slots of a table by linear probing -/
def prb (sl : Nat → Int32) (ke : Nat → Int64) (N : Nat) : Prop :=
  (∀ i, i < N → ∃ d, d < 2048 ∧ sl ((hsh (ke i) + d) % 2048) = nI i ∧ ∀ e, e < d → sl ((hsh (ke i) + e) % 2048) ≠ -1) ∧ (∀ s, s < 2048 → sl s = -1 ∨ ∃ i, i < N ∧ sl s = nI i) ∧ cn (fun s => decide (sl s ≠ -1)) 2048 ≤ N
/-- a blank is there, as long as not all is taken -/
theorem prb_b {sl : Nat → Int32} {ke : Nat → Int64} {N : Nat} (h : prb sl ke N) (hN : N < 2048) : ∃ s, s < 2048 ∧ sl s = -1 := by
  by_cases q : ∃ s, s < 2048 ∧ sl s = -1
  · exact q
  · have := cn_hi (p := fun s => decide (sl s ≠ -1)) (n := 2048) (k := 2048) (Nat.le_refl _) (fun j hj => decide_eq_true (fun z => q ⟨j, hj, z⟩))
    have := h.2.2
    omega
theorem prb_d {sl : Nat → Int32} {ke : Nat → Int64} {N : Nat} (h : prb sl ke N) (hN : N < 2048) (t : Nat) (ht : t < 2048) : ∃ d, d < 2048 ∧ sl ((t + d) % 2048) = -1 := by
  obtain ⟨s, hs, e⟩ := prb_b h hN
  refine ⟨(s + 2048 - t) % 2048, by omega, ?_⟩
  rw [show (t + (s + 2048 - t) % 2048) % 2048 = s by omega]
  exact e
