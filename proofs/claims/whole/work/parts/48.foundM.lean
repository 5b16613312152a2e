theorem nx_47 {n : Nat} (h : n < 2048) : (nI n + 1) &&& 2047 = nI ((n + 1) % 2048) := by
  rw [nI_1, pk_andN (by omega) 11 (by decide)]
theorem foundM {N : Nat} {v : Int64} {m : zM} (hp : prb (m.1 29) (m.2.1 27) N) (hN : N ≤ 608) : ok (f_MO_found v m) (fun r => (∃ i, i < N ∧ m.2.1 27 i = v ∧ r = nI i) ∨ (r = -1 ∧ ∀ i, i < N → m.2.1 27 i ≠ v)) := by
  have hl := hsh_lt v
  obtain ⟨D, hD, eD⟩ := prb_d hp (by omega) (hsh v) hl
  unfold f_MO_found f_MO_found_L5
  rw [spot_h]
  refine ok_loop (fun x : Int32 => ∃ d, d ≤ D ∧ x = nI ((hsh v + d) % 2048) ∧ ∀ e, e < d → ∃ i, i < N ∧ m.1 29 ((hsh v + e) % 2048) = nI i ∧ m.2.1 27 i ≠ v) (fun x => D - (x.toNatClampNeg + 2048 - hsh v) % 2048) ?_ _ ⟨0, by omega, (by rw [Nat.add_zero, Nat.mod_eq_of_lt hl]), fun e he => absurd he (Nat.not_lt_zero _)⟩ (by show D - _ < _; omega)
  rintro x ⟨d, hd, rfl, hb⟩
  have sl : (hsh v + d) % 2048 < 2048 := Nat.mod_lt _ (by decide)
  unfold f_MO_found_B5 f_MO_found_J42
  refine ok_ix rfl sl (by decide) ?_
  refine ok_it (fun q => ?_) (fun q => ?_)
  · refine ok_zl (ok_ix rfl sl (by decide) (ok_mk (Or.inr ⟨q, fun i hi e => ?_⟩)))
    obtain ⟨di, h1, h2, h3⟩ := hp.1 i hi
    rw [e] at h2 h3
    rcases Nat.lt_trichotomy di d with z | z | z
    · obtain ⟨i', h4, h5, h6⟩ := hb di z
      rw [h2] at h5
      have := (nI_eq (by omega) (by omega)).mp h5
      rw [← this] at h6
      exact h6 e
    · rw [z, q] at h2
      exact nI_ne_m1 (by omega) h2.symm
    · exact h3 d z q
  · rcases hp.2.1 _ sl with z | ⟨i, hi, ei⟩
    · exact absurd z q
    · refine ok_ix rfl sl (by decide) ?_
      rw [ei]
      refine ok_ix rfl (by omega : i < 608) (by decide) ?_
      refine ok_it (fun t => ?_) (fun t => ?_)
      · refine ok_zl (ok_ix rfl sl (by decide) (ok_mk (Or.inl ⟨i, hi, (lg_cmp_eq _ _).mp t, ei⟩)))
      · have nD : d ≠ D := fun z => q (by rw [z]; exact eD)
        rw [nx_47 sl]
        refine ok_mk ⟨⟨d + 1, by omega, ?_, fun e he => ?_⟩, ?_⟩
        · congr 1
          omega
        · by_cases u : e = d
          · rw [u]; exact ⟨i, hi, ei, fun z => t ((lg_cmp_eq _ _).mpr z)⟩
          · exact hb e (by omega)
        · show D - ((nI (((hsh v + d) % 2048 + 1) % 2048)).toNatClampNeg + 2048 - hsh v) % 2048 < D - ((nI ((hsh v + d) % 2048)).toNatClampNeg + 2048 - hsh v) % 2048
          rw [nI_clamp (by omega), nI_clamp (by omega)]
          omega
