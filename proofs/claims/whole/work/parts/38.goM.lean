theorem othM {n h i s : Nat} {a : Nat → Nat} {m : zM} (hn : m.1 23 3 = nI n) (hw : wM n h a m) (hv : wV n h a) (hi : i < n) (hs : s < 6) : f_MO_isOther (nI s) (nI i) m = some (oth n a i s) := by
  have n4 := hv.2.1
  refine ok_eq.mp ?_
  unfold f_MO_isOther f_MO_isOther_L2
  refine ok_loop (fun x : Int32 => ∃ k, k ≤ n ∧ x = nI k ∧ ∀ j, j < k → ¬ (j ≠ i ∧ oS (a j) = s)) (fun x => n - x.toNatClampNeg) ?_ _ ⟨0, by omega, rfl, fun j hj => absurd hj (Nat.not_lt_zero _)⟩ (by show n - _ < _; omega)
  rintro x ⟨k, hk, rfl, hj⟩
  have nxt : ∀ {K : Bool → Prop}, k < n → ¬ (k ≠ i ∧ oS (a k) = s) → ok (f_MO_isOther_J30 (nI s) (nI i) (nI k) m) (lp K (fun x' : Int32 => (∃ k, k ≤ n ∧ x' = nI k ∧ ∀ j, j < k → ¬ (j ≠ i ∧ oS (a j) = s)) ∧ n - x'.toNatClampNeg < n - (nI k).toNatClampNeg)) := by
    intro K hkn q
    unfold f_MO_isOther_J30
    refine ok_mk ⟨⟨k + 1, by omega, nI_1 k, fun j hj' => ?_⟩, ?_⟩
    · by_cases e : j = k
      · rw [e]; exact q
      · exact hj j (by omega)
    · rw [nI_1, nI_clamp (by omega), nI_clamp (by omega)]
      omega
  unfold f_MO_isOther_B2
  refine ok_eb (agM hn) ?_
  refine ok_it (fun q => ?_) (fun q => ?_)
  · have := (nI_leI (a := n) (b := k) (by omega) (by omega)).mp q
    refine ok_mk ?_
    show false = oth n a i s
    unfold oth
    symm
    rw [List.any_eq_false]
    intro j hj'
    have := hj j (by have := List.mem_range.mp hj'; omega)
    simp only [ne_eq, decide_not, Bool.and_eq_true, Bool.not_eq_true', decide_eq_false_iff_not, decide_eq_true_eq]
    exact this
  · have hkn : k < n := by
      rcases Nat.lt_or_ge k n with z | z
      · exact z
      · exact absurd ((nI_leI (a := n) (b := k) (by omega) (by omega)).mpr z) q
    refine ok_it (fun p => ?_) (fun p => ?_)
    · have := (nI_eq (by omega) (by omega)).mp p
      exact nxt hkn (fun z => z.1 this)
    · have hki : k ≠ i := fun z => p (by rw [z])
      refine ok_ix rfl (by omega : k < 4) (by decide) ?_
      rw [hw.2 k (by omega), if_pos hkn, (ms_S _ (hv.2.2.2 k hkn)).1]
      have := oS_lt (hv.2.2.2 k hkn)
      refine ok_it (fun p => ?_) (fun p => ?_)
      · refine ok_mk ?_
        show true = oth n a i s
        unfold oth
        symm
        rw [List.any_eq_true]
        refine ⟨k, List.mem_range.mpr hkn, ?_⟩
        have := (nI_eq (by omega) (by omega)).mp p
        simp [hki, this]
      · exact nxt hkn (fun z => p (by rw [z.2]))
/-- what lies there before the home's rule has given out its messages -/
def sv0 (a : Nat → Nat) (i j : Nat) : Nat := if j = i then oC (oS (a j)) (o1 (a j)) (o2 (a j)) 0 else a j
def svF (F : Nat → Nat) (i j : Nat) : Nat := if j = i then F 4 else F 5
theorem srv_eq (l : Nat) (F a : Nat → Nat) (i j : Nat) : srv l F a i j = if svF F i j = 0 then some (sv0 a i j) else rc l (sv0 a i j) (svF F i j) := by
  unfold srv svF sv0
  by_cases e : j = i
  · simp only [if_pos e]
  · simp only [if_neg e]
theorem atL {r n h l i : Nat} {F a : Nat → Nat} {m0 m : zM} (hr16 : r < 16) (hr : rM r F m) (hF : fV F) (hn : m.1 23 3 = nI n) (hl : m.1 23 4 = nI l) (hl1 : l ≤ 1) (hv : wV n h a) (hi : i < n) (h0 : F 0 ≠ 0) (hc3 : h = F 1 + 1 ∧ o3 (a i) = F 2 ∧ (F 6 = 0 ∨ oth n a i (F 6 - 1) = decide (F 7 = 1))) (hf : fl2 [26] [(0, 38)] m0 m) (h26 : ∀ j, j < 4 → m.1 26 j = nI (if j < n then mOf (sv0 a i j) else 0)) : ok (f_MO_isMovedAt_L96 (nI r) (nI i) 0 m) (mvM l n F h a i m0) := by
  have n4 := hv.2.1
  have hF' := hF
  obtain ⟨f0, f1, f2, f3, f4, f5, f6, f7⟩ := hF
  have s0 : ∀ j, j < n → sv0 a i j < 2058 := by
    intro j hj
    have hc := hv.2.2.2 j hj
    unfold sv0
    split
    · exact oC_lt (oS_lt hc) (o1_lt _) (o2_lt _) (by omega)
    · exact hc
  have sF : ∀ j, svF F i j < 7 := by
    intro j
    unfold svF
    split <;> assumption
  unfold f_MO_isMovedAt_L96
  refine ok_loop (fun s : Int32 × zM => ∃ k, k ≤ n ∧ s.1 = nI k ∧ fl2 [26] [(0, 38)] m s.2 ∧ (∀ j, j < k → (srv l F a i j).isSome = true) ∧ (∀ j, j < 4 → s.2.1 26 j = nI (if j < n then mOf (if j < k then (srv l F a i j).getD 0 else sv0 a i j) else 0))) (fun s => n - s.1.toNatClampNeg) ?_ _ ⟨0, by omega, rfl, fl2_rf, fun j hj => absurd hj (Nat.not_lt_zero _), fun j hj => ?_⟩ (by show n - _ < _; omega)
  rotate_left
  · show m.1 26 j = _
    rw [h26 j hj]
    simp only [if_neg (Nat.not_lt_zero _)]
  rintro ⟨x, m1⟩ ⟨k, hk, e, gf, gd, gn⟩
  have e : x = nI k := e
  subst e
  have g23 := (fl26 gf).1
  have gn : ∀ j, j < 4 → m1.1 26 j = nI (if j < n then mOf (if j < k then (srv l F a i j).getD 0 else sv0 a i j) else 0) := gn
  have hn1 : m1.1 23 3 = nI n := by rw [g23]; exact hn
  have hl1' : m1.1 23 4 = nI l := by rw [g23]; exact hl
  have hr1 : rM r F m1 := fun k hk => by rw [g23]; exact hr k hk
  unfold f_MO_isMovedAt_B96
  refine ok_eb (agM hn1) ?_
  refine ok_it (fun q => ?_) (fun q => ?_)
  · have := (nI_leI (a := n) (b := k) (by omega) (by omega)).mp q
    have ek : k = n := by omega
    have em := mv_at h0 (⟨hc3.1, hc3.2.1, hc3.2.2, fun j hj => gd j (by omega)⟩ : srvC l n F h a i)
    unfold f_MO_isMovedAt_J164
    refine ok_zl (ok_eb (ruleM (k := 3) hr1 hr16 (by decide)) (ok_lt (ok_mk ⟨fl2_tr hf (fl2_tr gf (fl2_I (inS_f (by simp)))), fun x hx => ?_, fun z => by rw [em] at z; cases z⟩)))
    rw [em] at hx
    cases hx
    refine ⟨rfl, ?_, fun j hj => ?_⟩
    · show (sI m1 0 38 _).1 0 38 = nI (F 3 + 1) - 1
      rw [rd_I1, nI_pred]
      rfl
    · show (sI m1 0 38 _).1 26 j = _
      rw [rd_I0 (by omega), gn j hj]
      by_cases ej : j < n
      · rw [if_pos ej, if_pos ej, if_pos (by omega)]
      · rw [if_neg ej, if_neg ej]
  · have hkn : k < n := by
      rcases Nat.lt_or_ge k n with z | z
      · exact z
      · exact absurd ((nI_leI (a := n) (b := k) (by omega) (by omega)).mpr z) q
    have mu : n - (nI k + 1).toNatClampNeg < n - (nI k).toNatClampNeg := by
      rw [nI_1, nI_clamp (by omega), nI_clamp (by omega)]; omega
    have ek : m1.1 26 k = nI (mOf (sv0 a i k)) := by rw [gn k (by omega), if_pos hkn, if_neg (by omega)]
    have step : ∀ t : Nat, t < 8 → fI F t = nI (svF F i k) - 1 → ok (f_MO_isMovedAt_J116 (nI r) (nI i) (nI k) (nI r) (nI t) m1) (lp (mvM l n F h a i m0) (fun s' : Int32 × zM => (∃ k, k ≤ n ∧ s'.1 = nI k ∧ fl2 [26] [(0, 38)] m s'.2 ∧ (∀ j, j < k → (srv l F a i j).isSome = true) ∧ (∀ j, j < 4 → s'.2.1 26 j = nI (if j < n then mOf (if j < k then (srv l F a i j).getD 0 else sv0 a i j) else 0))) ∧ n - s'.1.toNatClampNeg < n - (nI k).toNatClampNeg)) := by
      intro t ht et
      have fk := sF k
      unfold f_MO_isMovedAt_J116
      refine ok_eb (ruleM hr1 hr16 ht) ?_
      rw [et]
      refine ok_it (fun p => ?_) (fun p => ?_)
      · have p0 := (sd_m1 (by omega)).mp p
        have es : srv l F a i k = some (sv0 a i k) := by rw [srv_eq, if_pos p0]
        unfold f_MO_isMovedAt_J147
        refine ok_ix rfl (by omega : k < 4) (by decide) ?_
        rw [ek]
        refine ok_ip (nI_pos' (by have := mOf_lt (s0 k hkn); omega)) (ok_mk ⟨⟨k + 1, by omega, nI_1 k, gf, fun j hj => ?_, fun j hj => ?_⟩, mu⟩)
        · by_cases e : j = k
          · rw [e, es]; rfl
          · exact gd j (by omega)
        · show m1.1 26 j = _
          by_cases e : j = k
          · rw [e, ek, if_pos hkn, if_pos (by omega), es]; rfl
          · rw [gn j hj]
            by_cases ej : j < k
            · rw [if_pos ej, if_pos (show j < k + 1 by omega)]
            · rw [if_neg ej, if_neg (show ¬ j < k + 1 by omega)]
      · have p0 : svF F i k ≠ 0 := fun z => p ((sd_m1 (by omega)).mpr z)
        have es : srv l F a i k = rc l (sv0 a i k) (svF F i k) := by rw [srv_eq, if_neg p0]
        refine ok_ix rfl (by omega : k < 4) (by decide) ?_
        rw [ek, Int32.sub_add_cancel]
        refine ok_eb (with0 hl1' hl1 (s0 k hkn) fk) (ok_ix rfl (by omega : k < 4) (by decide) (ok_lt ?_))
        unfold f_MO_isMovedAt_J147
        refine ok_ix rfl (by omega : k < 4) (by decide) ?_
        rw [rd_I1]
        cases hrc : rc l (sv0 a i k) (svF F i k) with
        | none =>
          refine ok_in (show ¬ (0 : Int32) ≤ -1 by decide) (ok_mk (mvM_no (fl2_tr hf (fl2_tr gf (fl2_I (inS_c (by simp))))) (mv_an h0 (fun z => ?_))))
          have := z.2.2.2 k hkn
          rw [es, hrc] at this
          cases this
        | some d =>
          have hd := rc_lt (s0 k hkn) fk hrc
          refine ok_ip (nI_pos' (by have := mOf_lt hd; omega)) (ok_mk ⟨⟨k + 1, by omega, nI_1 k, fl2_tr gf (fl2_I (inS_c (by simp))), fun j hj => ?_, fun j hj => ?_⟩, mu⟩)
          · by_cases e : j = k
            · rw [e, es, hrc]; rfl
            · exact gd j (by omega)
          · show (sI m1 26 k _).1 26 j = _
            by_cases e : j = k
            · rw [e, rd_I1, if_pos hkn, if_pos (by omega), es, hrc]; rfl
            · rw [rd_I0 (by omega), gn j hj]
              by_cases ej : j < k
              · rw [if_pos ej, if_pos (show j < k + 1 by omega)]
              · rw [if_neg ej, if_neg (show ¬ j < k + 1 by omega)]
    refine ok_it (fun p => ?_) (fun p => ?_)
    · have := (nI_eq (by omega) (by omega)).mp p
      exact step 4 (by decide) (by unfold svF; rw [if_pos this]; rfl)
    · have : k ≠ i := fun z => p (by rw [z])
      exact step 5 (by decide) (by unfold svF; rw [if_neg this]; rfl)
