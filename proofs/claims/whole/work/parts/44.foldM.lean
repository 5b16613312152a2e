theorem wT_mD {n h : Nat} {a : Nat → Nat} {m : zM} : wT n h a m ↔ (m.1 0 38 = nI h - 1 ∧ ∀ i, i < 4 → m.1 26 i = nI (mD n a i)) := Iff.rfl
theorem mOf_le (c d : Nat) : mOf c ≤ mOf d ↔ c ≤ d := by
  have := mOf_o d c
  omega
theorem foldsM {n h : Nat} {a : Nat → Nat} {m : zM} (hn : m.1 23 3 = nI n) (ht : wT n h a m) (hv : wV n h a) : ok (f_MO_folds m) (fun p => fl2 [26] [] m p ∧ ∃ b, Ior n a b ∧ Sm n a b ∧ (∀ j, j < n → b j < 2058) ∧ wT n h b p) := by
  have n4 := hv.2.1
  have n0 := hv.1
  have sm8 : ∀ b, Sm n a b → ∀ j, j < n → b j < 2058 := fun b hb j hj => of_decide_eq_true (Sm_al hb (p := fun x => decide (x < 2058)) (fun j hj => decide_eq_true (hv.2.2.2 j hj)) j hj)
  unfold f_MO_folds f_MO_folds_L2
  refine ok_loop (fun s : Int32 × zM => ∃ k b, k ≤ n ∧ 0 < k ∧ s.1 = nI k ∧ fl2 [26] [] m s.2 ∧ Sm n a b ∧ (∀ i j, i ≤ j → j < k → b i ≤ b j) ∧ (∀ i, i < 4 → s.2.1 26 i = nI (mD n b i))) (fun s => n - s.1.toNatClampNeg) ?_ _ ⟨1, a, by omega, by omega, rfl, fl2_rf, Sm_rf, (fun i j hi hj => by rw [show i = j by omega]; exact Nat.le_refl _), ht.2⟩ (by show n - _ < _; omega)
  rintro ⟨x, m1⟩ ⟨k, b, hk, hk0, e1, gf, gs, go, gn⟩
  have e1 : x = nI k := e1
  subst e1
  have gf : fl2 [26] [] m m1 := gf
  unfold f_MO_folds_B2
  refine ok_eb (agM (n := n) (by rw [fl2_i gf (by decide)]; exact hn)) ?_
  refine ok_it (fun q => ?_) (fun q => ?_)
  · have := (nI_leI (a := n) (b := k) (by omega) (by omega)).mp q
    have ek : k = n := by omega
    subst ek
    refine ok_mk ⟨gf, b, Ior_so go gs, gs, sm8 b gs, ?_, gn⟩
    show m1.1 0 38 = _
    rw [fl2_i gf (by decide)]; exact ht.1
  · have hkn : k < n := by
      rcases Nat.lt_or_ge k n with z | z
      · exact z
      · exact absurd ((nI_leI (a := n) (b := k) (by omega) (by omega)).mpr z) q
    unfold f_MO_folds_L12
    refine ok_loop (fun s : Int32 × zM => ∃ j b, j ≤ k ∧ s.1 = nI j ∧ fl2 [26] [] m s.2 ∧ Sm n a b ∧ (∀ i i', i ≤ i' → i' ≤ k → i ≠ j → i' ≠ j → b i ≤ b i') ∧ (∀ i, j ≤ i → i ≤ k → b j ≤ b i) ∧ (∀ i, i < 4 → s.2.1 26 i = nI (mD n b i))) (fun s => s.1.toNatClampNeg) ?_ _ ⟨k, b, Nat.le_refl _, rfl, gf, gs, (fun i i' h1 h2 h3 h4 => go i i' h1 (by omega)), (fun i h1 h2 => by rw [show i = k by omega]; exact Nat.le_refl _), gn⟩ (by show (nI k).toNatClampNeg < _; rw [nI_clamp (by omega)]; omega)
    rintro ⟨y, m2⟩ ⟨j, c, hj, e2, hf, hs, hp, hq, hn'⟩
    have e2 : y = nI j := e2
    subst e2
    have hf : fl2 [26] [] m m2 := hf
    have hn' : ∀ i, i < 4 → m2.1 26 i = nI (mD n c i) := hn'
    have c8 := sm8 c hs
    have md : ∀ i, i < n → mD n c i = mOf (c i) := fun i hi => by unfold mD; rw [if_pos hi]
    have mb : ∀ i, i < n → mOf (c i) < 3072 := fun i hi => mOf_lt (c8 i hi)
    have fin : (j = 0 ∨ c (j - 1) ≤ c j) → ok (f_MO_folds_J69 (nI k) m2) (lp (fun p => fl2 [26] [] m p ∧ ∃ b, Ior n a b ∧ Sm n a b ∧ (∀ j, j < n → b j < 2058) ∧ wT n h b p) (fun s' : Int32 × zM => (∃ k b, k ≤ n ∧ 0 < k ∧ s'.1 = nI k ∧ fl2 [26] [] m s'.2 ∧ Sm n a b ∧ (∀ i j, i ≤ j → j < k → b i ≤ b j) ∧ (∀ i, i < 4 → s'.2.1 26 i = nI (mD n b i))) ∧ n - s'.1.toNatClampNeg < n - (nI k).toNatClampNeg)) := by
      intro hz
      unfold f_MO_folds_J69
      refine ok_mk ⟨⟨k + 1, c, by omega, by omega, nI_1 k, hf, hs, fun i i' h1 h2 => ?_, hn'⟩, ?_⟩
      · by_cases u : i = j
        · rw [u]; exact hq i' (by omega) (by omega)
        · by_cases v : i' = j
          · rcases hz with z | z
            · omega
            · rw [v]
              by_cases w : i = j - 1
              · rw [w]; exact z
              · exact Nat.le_trans (hp i (j - 1) (by omega) (by omega) u (by omega)) z
          · exact hp i i' h1 (by omega) u v
      · show n - (nI k + 1).toNatClampNeg < n - (nI k).toNatClampNeg
        rw [nI_1, nI_clamp (by omega), nI_clamp (by omega)]; omega
    unfold f_MO_folds_B12
    refine ok_it (fun t => ?_) (fun t => ?_)
    · have := (nI_leI (a := j) (b := 0) (by omega) (by omega)).mp t
      exact ok_zl (ok_mo (fin (Or.inl (by omega))) (fun _ z => z))
    · have j0 : 0 < j := by
        rcases Nat.eq_zero_or_pos j with z | z
        · exact absurd ((nI_leI (a := j) (b := 0) (by omega) (by omega)).mpr (by omega)) t
        · exact z
      have ej : nI j - 1 = nI (j - 1) := by rw [show j = j - 1 + 1 by omega, nI_pred, Nat.add_sub_cancel]
      rw [ej]
      refine ok_ix rfl (by omega : j - 1 < 4) (by decide) (ok_ix rfl (by omega : j < 4) (by decide) ?_)
      rw [hn' (j - 1) (by omega), hn' j (by omega), md (j - 1) (by omega), md j (by omega)]
      have b1 := mb (j - 1) (by omega)
      have b2 := mb j (by omega)
      refine ok_it (fun u => ?_) (fun u => ?_)
      · have := (nI_leI (by omega) (by omega)).mp u
        exact ok_zl (ok_mo (fin (Or.inr ((mOf_le _ _).mp this))) (fun _ z => z))
      · have lt : c j < c (j - 1) := by
          rcases Nat.lt_or_ge (c j) (c (j - 1)) with z | z
          · exact z
          · exact absurd ((nI_leI (by omega) (by omega)).mpr ((mOf_le _ _).mpr z)) u
        refine ok_ix rfl (by omega : j < 4) (by decide) (ok_ix rfl (by omega : j - 1 < 4) (by decide) (ok_ix rfl (by omega : j < 4) (by decide) (ok_lt (ok_ix rfl (by omega : j - 1 < 4) (by decide) (ok_lt (ok_mk ⟨⟨j - 1, fun i => if i = j then c (j - 1) else if i = j - 1 then c j else c i, by omega, ?_, fl2_tr hf (fl2_tr (fl2_I (inS_c (by simp))) (fl2_I (inS_c (by simp)))), ?_, ?_, ?_, ?_⟩, ?_⟩))))))
        · show nI j + (-1) = nI (j - 1)
          rw [show j = j - 1 + 1 by omega, pk_m1, Nat.add_sub_cancel]
        · refine Sm_sw (k := j - 1) hs (by omega) ?_ ?_ (fun i hi h1 h2 => ?_)
          · show (if j - 1 = j then _ else if j - 1 = j - 1 then c j else _) = c (j - 1 + 1)
            rw [if_neg (by omega), if_pos rfl, show j - 1 + 1 = j by omega]
          · show (if j - 1 + 1 = j then c (j - 1) else _) = c (j - 1)
            rw [if_pos (by omega)]
          · show (if i = j then _ else if i = j - 1 then _ else c i) = c i
            rw [if_neg (by omega), if_neg (by omega)]
        · intro i i' h1 h2 h3 h4
          show (if i = j then c (j - 1) else if i = j - 1 then c j else c i) ≤ (if i' = j then c (j - 1) else if i' = j - 1 then c j else c i')
          rw [if_neg h3, if_neg h4]
          by_cases v : i = j
          · by_cases w : i' = j
            · rw [if_pos v, if_pos w]; exact Nat.le_refl _
            · rw [if_pos v, if_neg w]; exact hp (j - 1) i' (by omega) h2 (by omega) w
          · by_cases w : i' = j
            · rw [if_neg v, if_pos w]; exact hp i (j - 1) (by omega) (by omega) v (by omega)
            · rw [if_neg v, if_neg w]; exact hp i i' h1 h2 v w
        · intro i h1 h2
          show (if j - 1 = j then c (j - 1) else if j - 1 = j - 1 then c j else _) ≤ (if i = j then c (j - 1) else if i = j - 1 then c j else c i)
          rw [if_neg (show ¬ j - 1 = j by omega), if_pos rfl]
          by_cases v : i = j
          · rw [if_pos v]; omega
          · by_cases w : i = j - 1
            · rw [if_neg v, if_pos w]; exact Nat.le_refl _
            · rw [if_neg v, if_neg w]; exact hq i (by omega) h2
        · intro i hi
          show (sI (sI m2 26 j _) 26 (j - 1) _).1 26 i = nI (mD n (fun i => if i = j then c (j - 1) else if i = j - 1 then c j else c i) i)
          by_cases v : i = j - 1
          · rw [v, rd_I1]
            show m2.1 26 j = nI (if j - 1 < n then mOf (if j - 1 = j then c (j - 1) else if j - 1 = j - 1 then c j else c (j - 1)) else 0)
            rw [if_pos (by omega), if_neg (by omega), if_pos rfl, hn' j (by omega), md j (by omega)]
          · rw [rd_I0 (by omega)]
            by_cases w : i = j
            · rw [w, rd_I1]
              show m2.1 26 (j - 1) = nI (if j < n then mOf (if j = j then c (j - 1) else if j = j - 1 then c j else c j) else 0)
              rw [if_pos (by omega), if_pos rfl, hn' (j - 1) (by omega), md (j - 1) (by omega)]
            · rw [rd_I0 (by omega)]
              show m2.1 26 i = nI (if i < n then mOf (if i = j then c (j - 1) else if i = j - 1 then c j else c i) else 0)
              rw [hn' i hi]
              unfold mD
              rw [if_neg w, if_neg v]
        · show (nI j + (-1)).toNatClampNeg < (nI j).toNatClampNeg
          rw [show nI j + (-1) = nI (j - 1) by rw [show j = j - 1 + 1 by omega, pk_m1, Nat.add_sub_cancel], nI_clamp (by omega), nI_clamp (by omega)]; omega
