theorem atM {r n h l i : Nat} {F a : Nat → Nat} {m0 m : zM} (hr16 : r < 16) (hr : rM r F m) (hF : fV F) (hn : m.1 23 3 = nI n) (hl : m.1 23 4 = nI l) (hl1 : l ≤ 1) (hw : wM n h a m) (ht : wT n h a m) (hv : wV n h a) (hi : i < n) (h0 : F 0 ≠ 0) (hf : fl2 [26] [(0, 38)] m0 m) : ok (f_MO_isMovedAt (nI r) (nI i) m) (mvM l n F h a i m0) := by
  have n4 := hv.2.1
  have h6b := hv.2.2.1
  have hF' := hF
  obtain ⟨f0, f1, f2, f3, f4, f5, f6, f7⟩ := hF
  have hc := hv.2.2.2 i hi
  have b3 := o3_lt (a i)
  have ei : m.1 25 i = nI (mOf (a i)) := by rw [hw.2 i (by omega), if_pos hi]
  have go : (h = F 1 + 1 ∧ o3 (a i) = F 2 ∧ (F 6 = 0 ∨ oth n a i (F 6 - 1) = decide (F 7 = 1))) → ok (f_MO_isMovedAt_J79 (nI r) (nI i) m) (mvM l n F h a i m0) := by
    intro hc3
    unfold f_MO_isMovedAt_J79
    refine ok_ix rfl (by omega : i < 4) (by decide) (ok_ix rfl (by omega : i < 4) (by decide) (ok_lt ?_))
    rw [ei, (ms_S _ hc).2.2.2.2]
    have g23 : (sI m 26 i (nI (mOf (oC (oS (a i)) (o1 (a i)) (o2 (a i)) 0)))).1 23 = m.1 23 := rd_Ic (by decide)
    refine atL hr16 (fun k hk => by rw [g23]; exact hr k hk) hF' (by rw [g23]; exact hn) (by rw [g23]; exact hl) hl1 hv hi h0 hc3 (fl2_tr hf (fl2_I (inS_c (by simp)))) (fun j hj => ?_)
    unfold sv0
    by_cases e : j = i
    · rw [e, rd_I1, if_pos hi, if_pos rfl]
    · rw [rd_I0 (by omega), if_neg e]; exact ht.2 j hj
  unfold f_MO_isMovedAt
  refine ok_eb (ruleM (k := 1) hr hr16 (by decide)) ?_
  rw [hw.1, show fI F 1 = nI (F 1 + 1) - 1 from (nI_pred _).symm]
  refine ok_it (fun q => ?_) (fun q => ?_)
  · have q1 := (sd_eq (by omega) (by omega)).mp q
    refine ok_ix rfl (by omega : i < 4) (by decide) (ok_eb (ruleM (k := 2) hr hr16 (by decide)) ?_)
    rw [ei, (ms_S _ hc).2.2.2.1, show fI F 2 + 1 = nI (F 2) from Int32.sub_add_cancel _ _]
    refine ok_it (fun p => ?_) (fun p => ?_)
    · have p1 := (nI_eq (by omega) (by omega)).mp p
      refine ok_eb (ruleM (k := 6) hr hr16 (by decide)) ?_
      refine ok_it (fun t => ?_) (fun t => ?_)
      · exact go ⟨q1, p1, Or.inl ((sd_m1 (by omega)).mp t)⟩
      · have t6 : F 6 ≠ 0 := fun z => t ((sd_m1 (by omega)).mpr z)
        refine ok_eb (ruleM (k := 6) hr hr16 (by decide)) ?_
        rw [show fI F 6 = nI (F 6 - 1) by show nI (F 6) - 1 = _; rw [show F 6 = F 6 - 1 + 1 by omega, nI_pred, Nat.add_sub_cancel]]
        refine ok_eb (othM hn hw hv hi (by omega)) (ok_eb (ruleM (k := 7) hr hr16 (by decide)) ?_)
        rw [show fI F 7 = nI (F 7) from rfl]
        have fin : ∀ b : Bool, b = decide (F 7 = 1) → ok (f_MO_isMovedAt_J74 (nI r) (nI i) (oth n a i (F 6 - 1)) b m) (mvM l n F h a i m0) := by
          intro b hb
          unfold f_MO_isMovedAt_J74
          have eb : ∀ x y : Bool, b2i x = b2i y ↔ x = y := by decide
          refine ok_it (fun u => ?_) (fun u => ?_)
          · exact go ⟨q1, p1, Or.inr (((eb _ _).mp u).trans hb)⟩
          · refine ok_mk (mvM_no hf (mv_an h0 (fun z => ?_)))
            rcases z.2.2.1 with y | y
            · exact t6 y
            · exact u ((eb _ _).mpr (y.trans hb.symm))
        refine ok_it (fun u => ?_) (fun u => ?_)
        · exact fin true (decide_eq_true ((no_i (by omega)).mp u)).symm
        · exact fin false (decide_eq_false (fun z => u ((no_i (by omega)).mpr z))).symm
    · exact ok_mk (mvM_no hf (mv_an h0 (fun z => p (by rw [z.2.1]))))
  · exact ok_mk (mvM_no hf (mv_an h0 (fun z => q (by rw [z.1]))))
theorem goM {r n h l i : Nat} {F a : Nat → Nat} {m : zM} (hr16 : r < 16) (hr : rM r F m) (hF : fV F) (hn : m.1 23 3 = nI n) (hl : m.1 23 4 = nI l) (hl1 : l ≤ 1) (hw : wM n h a m) (hv : wV n h a) (hi : i < n) : ok (f_MO_isMoved (nI r) (nI i) m) (mvM l n F h a i m) := by
  unfold f_MO_isMoved
  refine ok_lt ?_
  unfold f_MO_isMoved_L10
  refine ok_loop (fun s : Int32 × zM => ∃ k, k ≤ 4 ∧ s.1 = nI k ∧ fl2 [26] [(0, 38)] m s.2 ∧ s.2.1 0 38 = nI h - 1 ∧ (∀ j, j < k → s.2.1 26 j = m.1 25 j)) (fun s => 4 - s.1.toNatClampNeg) ?_ _ ⟨0, by omega, rfl, fl2_I (inS_f (by simp)), ?_, fun j hj => absurd hj (Nat.not_lt_zero _)⟩ (by show 4 - _ < _; omega)
  rotate_left
  · show (sI m 0 38 _).1 0 38 = _
    rw [rd_I1]; exact hw.1
  rintro ⟨x, m1⟩ ⟨k, hk, e, gf, g38, gn⟩
  have e : x = nI k := e
  subst e
  have g := fl26 gf
  have g38 : m1.1 0 38 = nI h - 1 := g38
  have gn : ∀ j, j < k → m1.1 26 j = m.1 25 j := gn
  unfold f_MO_isMoved_B10
  refine ok_it (fun q => ?_) (fun q => ?_)
  · have := (nI_leI (a := 4) (b := k) (by omega) (by omega)).mp q
    have hr1 : rM r F m1 := fun k hk => by rw [g.1]; exact hr k hk
    have hw1 : wM n h a m1 := ⟨by rw [g.2.2]; exact hw.1, fun j hj => by rw [g.2.1]; exact hw.2 j hj⟩
    have ht1 : wT n h a m1 := ⟨g38, fun j hj => by rw [gn j (by omega)]; exact hw.2 j hj⟩
    have f0 := hF.1
    unfold f_MO_isMoved_J33
    refine ok_zl (ok_eb (ruleM (k := 0) hr1 hr16 (by decide)) ?_)
    refine ok_it (fun p => ?_) (fun p => ?_)
    · exact ok_bi (onM hr16 hr1 hF (by rw [g.1]; exact hl) hl1 hw1 ht1 hv hi ((nz_i (by omega)).mp p) gf) (fun x hx => ok_mk hx)
    · exact ok_bi (atM hr16 hr1 hF (by rw [g.1]; exact hn) (by rw [g.1]; exact hl) hl1 hw1 ht1 hv hi (fun z => p ((nz_i (by omega)).mpr z)) gf) (fun x hx => ok_mk hx)
  · have hk4 : k < 4 := by
      rcases Nat.lt_or_ge k 4 with z | z
      · exact z
      · exact absurd ((nI_leI (a := 4) (b := k) (by omega) (by omega)).mpr z) q
    refine ok_ix rfl hk4 (by decide) (ok_ix rfl hk4 (by decide) (ok_lt (ok_mk ⟨⟨k + 1, by omega, nI_1 k, fl2_tr gf (fl2_I (inS_c (by simp))), ?_, fun j hj => ?_⟩, ?_⟩)))
    · show (sI m1 26 k _).1 0 38 = _
      rw [rd_I0 (by omega)]; exact g38
    · show (sI m1 26 k _).1 26 j = _
      by_cases e : j = k
      · rw [e, rd_I1, g.2.1]
      · rw [rd_I0 (by omega)]; exact gn j (by omega)
    · show 4 - (nI k + 1).toNatClampNeg < 4 - (nI k).toNatClampNeg
      rw [nI_1, nI_clamp (by omega), nI_clamp (by omega)]; omega
/-- what comes out of a move is a world -/
theorem mv_wV {l n h i : Nat} {F a : Nat → Nat} {q : Nat × (Nat → Nat)} (hF : fV F) (hv : wV n h a) (hi : i < n) (e : mv l n F h a i = some q) : wV n q.1 q.2 := by
  have hF' := hF
  obtain ⟨f0, f1, f2, f3, f4, f5, f6, f7⟩ := hF
  by_cases h0 : F 0 = 0
  · rw [mv_on h0] at e
    cases hs : stp l F (a i) with
    | none => rw [hs] at e; cases e
    | some d =>
      rw [hs] at e
      cases e
      refine ⟨hv.1, hv.2.1, hv.2.2.1, fun j hj => ?_⟩
      show (if j = i then d else a j) < 2058
      split
      · have hc := hv.2.2.2 i hi
        unfold stp at hs
        split at hs
        · have key : ∀ c, c < 2058 → (if F 4 = 0 ∨ o3 c = 0 then some (oC (F 3) (o1 c) (o2 c) (o3 c + F 4)) else none) = some d → d < 2058 := by
            intro c _ hd
            have := o3_lt c
            split at hd
            · cases hd; exact oC_lt f3 (o1_lt _) (o2_lt _) (by omega)
            · cases hd
          split at hs
          · exact key _ hc hs
          · cases ht : tk l (a i) (F 2) with
            | none => rw [ht] at hs; cases hs
            | some c => rw [ht] at hs; exact key c (tk_lt hc ht) hs
        · cases hs
      · exact hv.2.2.2 j hj
  · by_cases hc : srvC l n F h a i
    · rw [mv_at h0 hc] at e
      cases e
      exact ⟨hv.1, hv.2.1, (by show F 3 + 1 < 7; omega), fun j hj => srv_lt hF' hv hj⟩
    · rw [mv_an h0 hc] at e; cases e
