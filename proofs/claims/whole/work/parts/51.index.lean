theorem findX {v0 N : Nat} {v : Int64} {ke : Nat → Int64} {m : zM} (hp : prb (m.1 (v0 + 2)) ke N) (hk : sky v0 ke N m) (hN : N ≤ 608) : ok (f_Index_find v0 v m) (fun r => (∃ i, i < N ∧ ke i = v ∧ r = nI i) ∨ (r = -1 ∧ ∀ i, i < N → ke i ≠ v)) := by
  unfold f_Index_find
  refine ok_bi (slotX hp hk hN) (fun r ⟨d, hd, er, hb, hz⟩ => ?_)
  have sl : (hsh v + d) % 2048 < 2048 := Nat.mod_lt _ (by decide)
  rw [er]
  refine ok_in (nI_ne_m1 (by omega)) (ok_ix rfl sl (by decide) (ok_mk ?_))
  rcases hz with ⟨i, hi, e1, e2⟩ | ⟨e1, e2⟩
  · exact Or.inl ⟨i, hi, e2, e1⟩
  · exact Or.inr ⟨e1, e2⟩
theorem putX {v0 N : Nat} {v : Int64} {ke ke' : Nat → Int64} {m : zM} (hp : prb (m.1 (v0 + 2)) ke N) (hk : sky v0 ke N m) (hN : N ≤ 600) (hn : ∀ i, i < N → ke i ≠ v) (k1 : ∀ i, i < N → ke' i = ke i) (k2 : ke' N = v) : ok (f_Index_put v0 v (nI N) m) (fun p => prb (p.1 (v0 + 2)) ke' (N + 1) ∧ sky v0 ke' (N + 1) p ∧ fl2 [v0 + 1, v0 + 2] [] m p) := by
  unfold f_Index_put
  refine ok_bi (slotX (v := v) hp hk (by omega)) (fun r ⟨d, hd, er, hb, hz⟩ => ?_)
  have sl : (hsh v + d) % 2048 < 2048 := Nat.mod_lt _ (by decide)
  have hs : m.1 (v0 + 2) ((hsh v + d) % 2048) = -1 := by
    rcases hz with ⟨i, hi, e1, e2⟩ | ⟨e1, e2⟩
    · exact absurd e2 (hn i hi)
    · exact e1
  rw [er]
  refine ok_in (nI_ne_m1 (by omega)) (ok_ix rfl sl (by decide) (ok_lt (ok_ix rfl sl (by decide) (ok_lt (ok_mk ⟨?_, ?_, fl2_tr (fl2_J (inS_c (by simp))) (fl2_I (inS_c (by simp)))⟩)))))
  · refine prb_put hp (by omega) hd hb hs k1 k2 (rd_I1 _ _ _ _) (fun s hsn => ?_)
    rw [rd_I0 (by omega), rd_JI]
  · intro s i hs2 hi e
    show (sJ m (v0 + 1) ((hsh v + d) % 2048) v).2.1 (v0 + 1) s = ke' i
    by_cases u : s = (hsh v + d) % 2048
    · rw [u, rd_I1] at e
      have := (nI_eq (by omega) (by omega)).mp e
      rw [u, rd_J1, ← this, k2]
    · rw [rd_I0 (by omega), rd_JI] at e
      rw [rd_J0 (by omega)]
      by_cases w : i = N
      · rcases hp.2.1 s hs2 with z | ⟨i', hi', z⟩
        · rw [z] at e; exact absurd e.symm (nI_ne_m1 (by omega))
        · rw [z] at e
          have := (nI_eq (by omega) (by omega)).mp e
          omega
      · rw [k1 i (by omega)]
        exact hk s i hs2 (by omega) e
