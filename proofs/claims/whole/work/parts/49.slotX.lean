/-- the class keeps the key beside the slot -/
def sky (v0 : Nat) (ke : Nat → Int64) (N : Nat) (m : zM) : Prop := ∀ s i, s < 2048 → i < N → m.1 (v0 + 2) s = nI i → m.2.1 (v0 + 1) s = ke i
theorem slotX {v0 N : Nat} {v : Int64} {ke : Nat → Int64} {m : zM} (hp : prb (m.1 (v0 + 2)) ke N) (hk : sky v0 ke N m) (hN : N ≤ 608) : ok (f_Index_slotOf v0 v m) (fun r => ∃ d, d < 2048 ∧ r = nI ((hsh v + d) % 2048) ∧ (∀ e, e < d → m.1 (v0 + 2) ((hsh v + e) % 2048) ≠ -1) ∧ ((∃ i, i < N ∧ m.1 (v0 + 2) ((hsh v + d) % 2048) = nI i ∧ ke i = v) ∨ (m.1 (v0 + 2) ((hsh v + d) % 2048) = -1 ∧ ∀ i, i < N → ke i ≠ v))) := by
  have hl := hsh_lt v
  obtain ⟨D, hD, eD⟩ := prb_d hp (by omega) (hsh v) hl
  unfold f_Index_slotOf f_Index_slotOf_L13
  have e0 : (lus (v * (-7046029254386353131)) 53).toInt32 = nI (hsh v) := spot_h v
  rw [e0]
  refine ok_loop (fun x : Int32 => ∃ d, d ≤ D ∧ x = nI d ∧ ∀ e, e < d → ∃ i, i < N ∧ m.1 (v0 + 2) ((hsh v + e) % 2048) = nI i ∧ ke i ≠ v) (fun x => D - x.toNatClampNeg) ?_ _ ⟨0, by omega, rfl, fun e he => absurd he (Nat.not_lt_zero _)⟩ (by show D - _ < _; omega)
  rintro x ⟨d, hd, rfl, hb⟩
  have sl : (hsh v + d) % 2048 < 2048 := Nat.mod_lt _ (by decide)
  have ea : (nI (hsh v) + nI d) &&& 2047 = nI ((hsh v + d) % 2048) := by rw [nI_add, pk_andN (by omega) 11 (by decide)]
  have nb : ∀ e, e < d → m.1 (v0 + 2) ((hsh v + e) % 2048) ≠ -1 := by
    intro e he z
    obtain ⟨i, h1, h2, h3⟩ := hb e he
    rw [z] at h2
    exact nI_ne_m1 (by omega) h2.symm
  unfold f_Index_slotOf_B13
  refine ok_in (nI_ge (a := d) (b := 2048) (by omega) (by decide)) ?_
  rw [ea]
  refine ok_ix rfl sl (by decide) ?_
  refine ok_it (fun q => ?_) (fun q => ?_)
  · refine ok_mk ⟨d, by omega, rfl, nb, Or.inr ⟨q, fun i hi e => ?_⟩⟩
    obtain ⟨di, h1, h2, h3⟩ := hp.1 i hi
    rw [e] at h2 h3
    rcases Nat.lt_trichotomy di d with z | z | z
    · obtain ⟨i', h4, h5, h6⟩ := hb di z
      rw [h2] at h5
      have := (nI_eq (by omega) (by omega)).mp h5
      rw [← this] at h6
      exact h6 e
    · rw [z, q] at h2
      exact nI_ne_m1 (by omega) h2.symm
    · exact h3 d z q
  · rcases hp.2.1 _ sl with z | ⟨i, hi, ei⟩
    · exact absurd z q
    · refine ok_ix rfl sl (by decide) ?_
      rw [hk _ i sl hi ei]
      refine ok_it (fun t => ?_) (fun t => ?_)
      · exact ok_mk ⟨d, by omega, rfl, nb, Or.inl ⟨i, hi, ei, (lg_cmp_eq _ _).mp t⟩⟩
      · have nD : d ≠ D := fun z => q (by rw [z]; exact eD)
        refine ok_mk ⟨⟨d + 1, by omega, nI_1 d, fun e he => ?_⟩, ?_⟩
        · by_cases u : e = d
          · rw [u]; exact ⟨i, hi, ei, fun z => t ((lg_cmp_eq _ _).mpr z)⟩
          · exact hb e (by omega)
        · show D - (nI d + 1).toNatClampNeg < D - (nI d).toNatClampNeg
          rw [nI_1, nI_clamp (by omega), nI_clamp (by omega)]
          omega
