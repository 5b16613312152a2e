theorem entersM {N : Nat} {m : zM} (hp : prb (m.1 29) (m.2.1 27) N) (hN : N < 608) : ok (f_MO_enters (nI N) m) (fun p => prb (p.1 29) (p.2.1 27) (N + 1) ∧ fl2 [29] [] m p) := by
  unfold f_MO_enters
  refine ok_ix rfl hN (by decide) ?_
  have hl := hsh_lt (m.2.1 27 N)
  obtain ⟨D, hD, eD⟩ := prb_d hp (by omega) (hsh (m.2.1 27 N)) hl
  rw [spot_h]
  unfold f_MO_enters_L10
  refine ok_loop (fun x : Int32 => ∃ d, d ≤ D ∧ x = nI ((hsh (m.2.1 27 N) + d) % 2048) ∧ ∀ e, e < d → m.1 29 ((hsh (m.2.1 27 N) + e) % 2048) ≠ -1) (fun x => D - (x.toNatClampNeg + 2048 - hsh (m.2.1 27 N)) % 2048) ?_ _ ⟨0, by omega, (by rw [Nat.add_zero, Nat.mod_eq_of_lt hl]), fun e he => absurd he (Nat.not_lt_zero _)⟩ (by show D - _ < _; omega)
  rintro x ⟨d, hd, rfl, hb⟩
  have sl : (hsh (m.2.1 27 N) + d) % 2048 < 2048 := Nat.mod_lt _ (by decide)
  unfold f_MO_enters_B10 f_MO_enters_J31
  refine ok_ix rfl sl (by decide) ?_
  refine ok_it (fun q => ?_) (fun q => ?_)
  · refine ok_zl (ok_ix rfl sl (by decide) (ok_lt (ok_mk ⟨?_, fl2_I (inS_c (by simp))⟩)))
    exact prb_put hp (by omega) (by omega) hb q (fun _ _ => rfl) rfl (rd_I1 _ _ _ _) (fun s hs => rd_I0 (by omega))
  · have nD : d ≠ D := fun z => q (by rw [z]; exact eD)
    rw [nx_47 sl]
    refine ok_mk ⟨⟨d + 1, by omega, ?_, fun e he => ?_⟩, ?_⟩
    · congr 1
      omega
    · by_cases u : e = d
      · rw [u]; exact q
      · exact hb e (by omega)
    · show D - ((nI (((hsh (m.2.1 27 N) + d) % 2048 + 1) % 2048)).toNatClampNeg + 2048 - hsh (m.2.1 27 N)) % 2048 < D - ((nI ((hsh (m.2.1 27 N) + d) % 2048)).toNatClampNeg + 2048 - hsh (m.2.1 27 N)) % 2048
      rw [nI_clamp (by omega), nI_clamp (by omega)]
      omega
