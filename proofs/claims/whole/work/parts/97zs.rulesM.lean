theorem fldE {n t k : Nat} {g P : Nat → Nat} {x : Int32} {m : zM} (h8 : P 8 < 16) (h : MSt n g t P m) (hk : k < 8) : f_MO_ruleField (nI k) x m = some (sI m 22 (56 + 8 * P 8 + k) x) := by
  refine ok_eq.mp ?_
  unfold f_MO_ruleField
  refine ok_ip h.2.1 (ok_ix (i := 8) rfl (by decide) (by decide) ?_)
  rw [tM_n h.2.2 (by decide) (by decide)]
  exact ok_ix (i := 56 + 8 * P 8 + k) (by rw [show (8 : Int32) = nI 8 from rfl, pk_mul, show (56 : Int32) = nI 56 from rfl, nI_add, nI_add]) (by omega) (by decide) (ok_lt (ok_mk rfl))
theorem MSt_r {n t k : Nat} {g P : Nat → Nat} {x : Int32} {m : zM} (h : MSt n g t P m) : MSt n g t P (sI m 22 (56 + 8 * P 8 + k) x) := by
  obtain ⟨⟨p, R⟩, h5, tm⟩ := h
  refine ⟨⟨p, RsM_d R⟩, by rw [rd_I0 (by omega)]; exact h5, fun i hi => ?_⟩
  rw [rd_I0 (by omega)]; exact tm i hi
/-- the fields of a rule before it is told -/
theorem fI_0 (v : Nat) : ∀ j, j < 8 → fI (rwF v neg1 0 neg1 0 0 0 0) j = if j = 0 then nI v else if j = 7 then 0 else -1 := by
  intro j hj
  rcases (show j = 0 ∨ j = 1 ∨ j = 2 ∨ j = 3 ∨ j = 4 ∨ j = 5 ∨ j = 6 ∨ j = 7 by omega) with z | z | z | z | z | z | z | z <;> subst z
  · rfl
  · show nI neg1 = -1; decide
  · show nI 0 - 1 = -1; decide
  · show nI neg1 = -1; decide
  · show nI 0 - 1 = -1; decide
  · show nI 0 - 1 = -1; decide
  · show nI 0 - 1 = -1; decide
  · rfl
theorem on104 {n t t' : Nat} {g P F F' : Nat → Nat} {R : PRs} {m0 m : zM} (h8 : P 8 < 16) (h : RWm n g t P F m) (f0 : RFm m0 m) (e : R = .inr (t, rwA P F')) (hF : ∀ k, k < 8 → F k = F' k) : ok (f_MO_onTold_J104 m) (MOu n g R m0) := by
  unfold f_MO_onTold_J104
  refine ok_ix (i := 8) rfl (by decide) (by decide) (ok_ix (i := 8) rfl (by decide) (by decide) (ok_lt (ok_mk ?_)))
  rw [tM_n h.1.2.2 (by decide) (by decide), nI_1]
  exact MOu_r (fl2_tr f0 RFm_I) e (tM_rw h8 h hF)
theorem at180 {n t : Nat} {g P F F' : Nat → Nat} {R : PRs} {m0 m : zM} (h8 : P 8 < 16) (h : RWm n g t P F m) (f0 : RFm m0 m) (e : R = .inr (t, rwA P F')) (hF : ∀ k, k < 8 → F k = F' k) : ok (f_MO_atTold_J180 m) (MOu n g R m0) := by
  unfold f_MO_atTold_J180
  refine ok_ix (i := 8) rfl (by decide) (by decide) (ok_ix (i := 8) rfl (by decide) (by decide) (ok_lt (ok_mk ?_)))
  rw [tM_n h.1.2.2 (by decide) (by decide), nI_1]
  exact MOu_r (fl2_tr f0 RFm_I) e (tM_rw h8 h hF)
theorem on65 {n t a w : Nat} {g P F : Nat → Nat} {R : PRs} {m0 m : zM} (hd : dV P) (h8 : P 8 < 16) (hS : RWm n g t P F m) (f0 : RFm m0 m) (hF : ∀ k, k < 8 → F k = rwF 0 a w neg1 0 0 0 0 k) (hR : R = if iWb n g t 12 = true then (match knR n g P 0 (t + 1) with
      | .inl e => .inl e
      | .inr d => match mbR n g P 13 2 (t + 2) with
        | .inl e => .inl e
        | .inr (t4, gv) => .inr (t4, rwA P (rwF 0 a w d gv 0 0 0))) else .inl (1, tst n g t)) : ok (f_MO_onTold_J65 m) (MOu n g R m0) := by
  unfold f_MO_onTold_J65
  refine asW (w := 12) hS f0 (by decide) (fun m6 i6 F6 S6 => ?_) (fun m6 i6 F6 l6 => ?_)
  rotate_left
  · have n5 := FlM_n l6
    rw [namedN n5]
    refine ok_eb rfl ?_
    rw [fieldN n5]
    refine ok_eb rfl ?_
    rw [takesN n5]
    exact ok_eb rfl (ok_in Bool.false_ne_true (on104f l6 F6 (by rw [hR, if_neg (iWb_n i6)])))
  rw [if_pos (iWb_t i6)] at hR
  refine ndW (k := 0) hd S6 F6 (by decide) (fun d m7 r7 d7 F7 S7 => ?_) (fun c q x m7 r7 F7 l7 => ?_)
  rotate_left
  · have n5 := FlM_n l7
    rw [fieldN n5]
    refine ok_eb rfl ?_
    rw [takesN n5]
    exact ok_eb rfl (ok_in Bool.false_ne_true (on104f l7 F7 (by rw [hR, r7])))
  simp only [r7] at hR
  refine fldM (k := 3) (v := d) h8 S7 F7 (by decide) (by unfold fI; rw [if_neg (by decide), upn_e]) (fun m8 F8 S8 => ?_)
  refine tkW (w := 13) S8 F8 (by decide) (fun m9 i9 F9 S9 => ok_ip rfl ?_) (fun m9 i9 F9 S9 => ok_in Bool.false_ne_true ?_)
  · rw [show mbR n g P 13 2 (t + 2) = (match knR n g P 2 (t + 3) with | .inl e => .inl e | .inr j => .inr (t + 4, j + 1)) from if_pos (iWb_t i9)] at hR
    refine ndW (k := 2) hd S9 F9 (by decide) (fun j mA rA jA FA SA => ?_) (fun c q x mA rA FA lA => ?_)
    rotate_left
    · rw [fieldN (FlM_n lA)]
      exact ok_eb rfl (on104f lA FA (by rw [hR]; simp only [rA]))
    simp only [rA] at hR
    refine fldM (k := 4) (v := j + 1) h8 SA FA (by decide) (by unfold fI; rw [if_pos (by decide), upn_e, nI_pred]) (fun mB FB SB => on104 (t' := 0) h8 SB FB hR (fun k hk => ?_))
    rcases (show k = 0 ∨ k = 1 ∨ k = 2 ∨ k = 3 ∨ k = 4 ∨ k = 5 ∨ k = 6 ∨ k = 7 by omega) with z | z | z | z | z | z | z | z <;> subst z
    · exact hF 0 (by decide)
    · exact hF 1 (by decide)
    · exact hF 2 (by decide)
    · rfl
    · rfl
    · exact hF 5 (by decide)
    · exact hF 6 (by decide)
    · exact hF 7 (by decide)
  · rw [show mbR n g P 13 2 (t + 2) = .inr (t + 2, 0) from if_neg (iWb_n i9)] at hR
    refine on104 (t' := 0) h8 S9 F9 hR (fun k hk => ?_)
    rcases (show k = 0 ∨ k = 1 ∨ k = 2 ∨ k = 3 ∨ k = 4 ∨ k = 5 ∨ k = 6 ∨ k = 7 by omega) with z | z | z | z | z | z | z | z <;> subst z
    · exact hF 0 (by decide)
    · exact hF 1 (by decide)
    · exact hF 2 (by decide)
    · rfl
    · exact hF 4 (by decide)
    · exact hF 5 (by decide)
    · exact hF 6 (by decide)
    · exact hF 7 (by decide)
theorem onM_ {n t : Nat} {g P : Nat → Nat} {m : zM} (hd : dV P) (h8 : P 8 < 16) (hS : MSt n g t P m) : ok (f_MO_onTold m) (MOu n g (agR n g t P) m) := by
  unfold f_MO_onTold f_MO_onTold_L2
  refine ok_for 8 (fun k (s : Int32 × zM) => s.1 = nI k ∧ RFm m s.2 ∧ MSt n g t P s.2 ∧ ∀ j, j < k → s.2.1 22 (56 + 8 * P 8 + j) = fI (rwF 0 neg1 0 neg1 0 0 0 0) j) (k0 := 0) ⟨rfl, fl2_rf, hS, fun j hj => absurd hj (Nat.not_lt_zero _)⟩ (Nat.zero_le _) ?_
  rintro k ⟨x, m1⟩ - hk ⟨e, f1, S1, h1⟩
  have e : x = nI k := e
  subst e
  have f1 : RFm m m1 := f1
  have S1 : MSt n g t P m1 := S1
  have h1 : ∀ j, j < k → m1.1 22 (56 + 8 * P 8 + j) = fI (rwF 0 neg1 0 neg1 0 0 0 0) j := h1
  unfold f_MO_onTold_B2
  refine ok_le 8 k (fun q => ok_zl ?_) (fun q => ?_)
  · have W1 : RWm n g t P (rwF 0 neg1 0 neg1 0 0 0 0) m1 := ⟨S1, fun j hj => h1 j (by omega)⟩
    unfold f_MO_onTold_J34
    refine ndW (k := 0) hd W1 f1 (by decide) (fun a m2 r2 a2 F2 S2 => ?_) (fun c q x m2 r2 F2 l2 => ?_)
    rotate_left
    · have n5 := FlM_n l2
      rw [fieldN n5]
      refine ok_eb rfl ?_
      rw [takesN n5]
      exact ok_eb rfl (ok_in Bool.false_ne_true (on65f l2 F2 (by unfold agR; rw [r2])))
    refine fldM (k := 1) (v := a) h8 S2 F2 (by decide) (by unfold fI; rw [if_neg (by decide), upn_e]) (fun m3 F3 S3 => ?_)
    refine tkW (w := 11) S3 F3 (by decide) (fun m4 i4 F4 S4 => ok_ip rfl ?_) (fun m4 i4 F4 S4 => ok_in Bool.false_ne_true ?_)
    · have mx : mbR n g P 11 2 (t + 1) = (match knR n g P 2 (t + 2) with | .inl e => .inl e | .inr j => .inr (t + 3, j + 1)) := if_pos (iWb_t i4)
      refine ndW (k := 2) hd S4 F4 (by decide) (fun j m5 r5 j5 F5 S5 => ?_) (fun c q x m5 r5 F5 l5 => ?_)
      rotate_left
      · rw [fieldN (FlM_n l5)]
        exact ok_eb rfl (on65f l5 F5 (by unfold agR; simp only [r2, mx, r5]))
      refine fldM (k := 2) (v := j + 1) h8 S5 F5 (by decide) (by unfold fI; rw [if_pos (by decide), upn_e, nI_pred]) (fun m6 F6 S6 => on65 (a := a) (w := j + 1) hd h8 S6 F6 (fun k hk => ?_) (by unfold agR; simp only [r2, mx, r5]; rfl))
      rcases (show k = 0 ∨ k = 1 ∨ k = 2 ∨ k = 3 ∨ k = 4 ∨ k = 5 ∨ k = 6 ∨ k = 7 by omega) with z | z | z | z | z | z | z | z <;> subst z <;> rfl
    · have mx : mbR n g P 11 2 (t + 1) = .inr (t + 1, 0) := if_neg (iWb_n i4)
      refine on65 (a := a) (w := 0) hd h8 S4 F4 (fun k hk => ?_) (by unfold agR; simp only [r2, mx]; rfl)
      rcases (show k = 0 ∨ k = 1 ∨ k = 2 ∨ k = 3 ∨ k = 4 ∨ k = 5 ∨ k = 6 ∨ k = 7 by omega) with z | z | z | z | z | z | z | z <;> subst z <;> rfl
  · have put : ∀ y : Int32, y = (if k = 0 then nI 0 else if k = 7 then 0 else -1) → ok (f_MO_onTold_J25 (nI k) (nI k) y m1) (lp (MOu n g (agR n g t P) m) (fun s : Int32 × zM => k < 8 ∧ s.1 = nI (k + 1) ∧ RFm m s.2 ∧ MSt n g t P s.2 ∧ ∀ j, j < k + 1 → s.2.1 22 (56 + 8 * P 8 + j) = fI (rwF 0 neg1 0 neg1 0 0 0 0) j)) := by
      intro y hy
      unfold f_MO_onTold_J25
      refine ok_eb (fldE h8 S1 q) (ok_mk ⟨q, nI_1 k, fl2_tr f1 RFm_I, MSt_r S1, fun j hj => ?_⟩)
      show (sI m1 22 (56 + 8 * P 8 + k) y).1 22 (56 + 8 * P 8 + j) = _
      by_cases z : j = k
      · rw [z, rd_I1, fI_0 0 k q]; exact hy
      · rw [rd_I0 (by omega)]; exact h1 j (by omega)
    unfold f_MO_onTold_J20
    refine ok_ee k 0 (fun z => put 0 (by rw [if_pos z]; rfl)) (fun z => ok_ee k 7 (fun y => put 0 (by rw [if_neg z, if_pos y])) (fun y => put (-1) (by rw [if_neg z, if_neg y])))
theorem at126 {n t a w d gv tl : Nat} {g P F : Nat → Nat} {R : PRs} {m0 m : zM} (hd : dV P) (h8 : P 8 < 16) (hS : RWm n g t P F m) (f0 : RFm m0 m) (hF : ∀ k, k < 8 → F k = rwF 1 a w d gv tl 0 0 k) (hR : R = match mbR n g P (if iWb n g t 18 = true then 18 else 17) 0 t with
            | .inl e => .inl e
            | .inr (t4, ot) => .inr (t4, rwA P (rwF 1 a w d gv tl ot (if iWb n g t 18 = true then 1 else 0)))) : ok (f_MO_atTold_J126 m) (MOu n g R m0) := by
  have eF : ∀ (F2 : Nat → Nat) ot sm, (∀ k, k < 8 → F2 k = (if k = 6 then ot else if k = 7 then sm else F k)) → ∀ k, k < 8 → F2 k = rwF 1 a w d gv tl ot sm k := by
    intro F2 ot sm h k hk
    rw [h k hk]
    rcases (show k = 0 ∨ k = 1 ∨ k = 2 ∨ k = 3 ∨ k = 4 ∨ k = 5 ∨ k = 6 ∨ k = 7 by omega) with z | z | z | z | z | z | z | z <;> subst z
    · exact hF 0 (by decide)
    · exact hF 1 (by decide)
    · exact hF 2 (by decide)
    · exact hF 3 (by decide)
    · exact hF 4 (by decide)
    · exact hF 5 (by decide)
    · rfl
    · rfl
  have k6 := hF 6 (by decide)
  have k7 := hF 7 (by decide)
  unfold f_MO_atTold_J126
  refine tkW (w := 17) hS f0 (by decide) (fun m1 i1 F1 S1 => ok_ip rfl ?_) (fun m1 i1 F1 S1 => ok_in Bool.false_ne_true ?_)
  · have n18 : ¬ iWw n g t 18 := fun z => by have := iWw_u (by decide) (by decide) i1 z; omega
    rw [if_neg (iWb_n n18), if_neg (iWb_n n18), show mbR n g P 17 0 t = (match knR n g P 0 (t + 1) with | .inl e => .inl e | .inr j => .inr (t + 2, j + 1)) from if_pos (iWb_t i1)] at hR
    refine ndW (k := 0) hd S1 F1 (by decide) (fun j m2 r2 j2 F2 S2 => ?_) (fun c q x m2 r2 F2 l2 => ?_)
    rotate_left
    · rw [fieldN (FlM_n l2)]
      exact ok_eb rfl (at180f l2 F2 (by rw [hR]; simp only [r2]))
    simp only [r2] at hR
    refine fldM (k := 6) (v := j + 1) h8 S2 F2 (by decide) (by unfold fI; rw [if_pos (by decide), upn_e, nI_pred]) (fun m3 F3 S3 => at180 h8 S3 F3 hR (eF _ _ _ (fun k hk => ?_)))
    by_cases z : k = 6
    · rw [z, upn_e]; rfl
    · rw [upn_o z, if_neg z]
      by_cases y : k = 7
      · rw [if_pos y, y, k7]; rfl
      · rw [if_neg y]
  · refine tkW (w := 18) S1 F1 (by decide) (fun m2 i2 F2 S2 => ok_ip rfl ?_) (fun m2 i2 F2 S2 => ok_in Bool.false_ne_true ?_)
    · rw [if_pos (iWb_t i2), if_pos (iWb_t i2), show mbR n g P 18 0 t = (match knR n g P 0 (t + 1) with | .inl e => .inl e | .inr j => .inr (t + 2, j + 1)) from if_pos (iWb_t i2)] at hR
      refine ndW (k := 0) hd S2 F2 (by decide) (fun j m3 r3 j3 F3 S3 => ?_) (fun c q x m3 r3 F3 l3 => ?_)
      rotate_left
      · rw [fieldN (FlM_n l3)]
        refine ok_eb rfl ?_
        rw [fieldN (FlM_n l3)]
        exact ok_eb rfl (at180f l3 F3 (by rw [hR]; simp only [r3]))
      simp only [r3] at hR
      refine fldM (k := 6) (v := j + 1) h8 S3 F3 (by decide) (by unfold fI; rw [if_pos (by decide), upn_e, nI_pred]) (fun m4 F4 S4 => ?_)
      refine fldM (k := 7) (v := 1) h8 S4 F4 (by decide) (by unfold fI; rw [if_neg (by decide), upn_e]; rfl) (fun m5 F5 S5 => at180 h8 S5 F5 hR (eF _ _ _ (fun k hk => ?_)))
      by_cases z : k = 7
      · rw [z, upn_e]; rfl
      · rw [upn_o z]
        by_cases y : k = 6
        · rw [y, upn_e]; rfl
        · rw [upn_o y, if_neg y, if_neg z]
    · rw [if_neg (iWb_n i2), if_neg (iWb_n i2), show mbR n g P 17 0 t = .inr (t, 0) from if_neg (iWb_n i1)] at hR
      refine at180 h8 S2 F2 hR (fun k hk => ?_)
      exact hF k hk
theorem at105 {n t a w d gv : Nat} {g P F : Nat → Nat} {R : PRs} {m0 m : zM} (hd : dV P) (h8 : P 8 < 16) (hS : RWm n g t P F m) (f0 : RFm m0 m) (hF : ∀ k, k < 8 → F k = rwF 1 a w d gv 0 0 0 k) (hR : R = match mbR n g P 16 2 t with
          | .inl e => .inl e
          | .inr (t3, tl) => match mbR n g P (if iWb n g t3 18 = true then 18 else 17) 0 t3 with
            | .inl e => .inl e
            | .inr (t4, ot) => .inr (t4, rwA P (rwF 1 a w d gv tl ot (if iWb n g t3 18 = true then 1 else 0)))) : ok (f_MO_atTold_J105 m) (MOu n g R m0) := by
  unfold f_MO_atTold_J105
  refine tkW (w := 16) hS f0 (by decide) (fun m1 i1 F1 S1 => ok_ip rfl ?_) (fun m1 i1 F1 S1 => ok_in Bool.false_ne_true ?_)
  · rw [show mbR n g P 16 2 t = (match knR n g P 2 (t + 1) with | .inl e => .inl e | .inr j => .inr (t + 2, j + 1)) from if_pos (iWb_t i1)] at hR
    refine ndW (k := 2) hd S1 F1 (by decide) (fun j m2 r2 j2 F2 S2 => ?_) (fun c q x m2 r2 F2 l2 => ?_)
    rotate_left
    · rw [fieldN (FlM_n l2)]
      exact ok_eb rfl (at126f l2 F2 (by rw [hR]; simp only [r2]))
    simp only [r2] at hR
    refine fldM (k := 5) (v := j + 1) h8 S2 F2 (by decide) (by unfold fI; rw [if_pos (by decide), upn_e, nI_pred]) (fun m3 F3 S3 => at126 (a := a) (w := w) (d := d) (gv := gv) (tl := j + 1) hd h8 S3 F3 (fun k hk => ?_) hR)
    rcases (show k = 0 ∨ k = 1 ∨ k = 2 ∨ k = 3 ∨ k = 4 ∨ k = 5 ∨ k = 6 ∨ k = 7 by omega) with z | z | z | z | z | z | z | z <;> subst z
    · exact hF 0 (by decide)
    · exact hF 1 (by decide)
    · exact hF 2 (by decide)
    · exact hF 3 (by decide)
    · exact hF 4 (by decide)
    · rfl
    · exact hF 6 (by decide)
    · exact hF 7 (by decide)
  · rw [show mbR n g P 16 2 t = .inr (t, 0) from if_neg (iWb_n i1)] at hR
    exact at126 (a := a) (w := w) (d := d) (gv := gv) (tl := 0) hd h8 S1 F1 hF hR
theorem atM_ {n t : Nat} {g P : Nat → Nat} {m : zM} (hd : dV P) (h8 : P 8 < 16) (hS : MSt n g t P m) : ok (f_MO_atTold m) (MOu n g (hmR n g t P) m) := by
  unfold f_MO_atTold f_MO_atTold_L2
  refine ok_for 8 (fun k (s : Int32 × zM) => s.1 = nI k ∧ RFm m s.2 ∧ MSt n g t P s.2 ∧ ∀ j, j < k → s.2.1 22 (56 + 8 * P 8 + j) = fI (rwF 1 neg1 0 neg1 0 0 0 0) j) (k0 := 0) ⟨rfl, fl2_rf, hS, fun j hj => absurd hj (Nat.not_lt_zero _)⟩ (Nat.zero_le _) ?_
  rintro k ⟨x, m1⟩ - hk ⟨e, f1, S1, h1⟩
  have e : x = nI k := e
  subst e
  have f1 : RFm m m1 := f1
  have S1 : MSt n g t P m1 := S1
  have h1 : ∀ j, j < k → m1.1 22 (56 + 8 * P 8 + j) = fI (rwF 1 neg1 0 neg1 0 0 0 0) j := h1
  unfold f_MO_atTold_B2
  refine ok_le 8 k (fun q => ok_zl ?_) (fun q => ?_)
  · have W1 : RWm n g t P (rwF 1 neg1 0 neg1 0 0 0 0) m1 := ⟨S1, fun j hj => h1 j (by omega)⟩
    unfold f_MO_atTold_J38
    have tail : ∀ (m' : zM) (c q : Nat), FlM c q m' → RFm m m' → hmR n g t P = .inl (c, q) → ok ((f_MO_takes 18 m').bind fun p9 => if p9.1 = true then (f_MO_named 2 p9.2).bind fun p10 => (f_MO_ruleField 4 p10.1 p10.2).bind fun p11 => f_MO_atTold_J105 p11 else f_MO_atTold_J105 p9.2) (MOu n g (hmR n g t P) m) := by
      intro m' c q l fm e
      rw [takesN (FlM_n l)]
      exact ok_eb rfl (ok_in Bool.false_ne_true (at105f l fm e))
    refine ndW (k := 1) hd W1 f1 (by decide) (fun a m2 r2 a2 F2 S2 => ?_) (fun c q x m2 r2 F2 l2 => ?_)
    rotate_left
    · have n5 := FlM_n l2
      rw [fieldN n5]
      refine ok_eb rfl ?_
      rw [asksN n5]
      refine ok_eb rfl ?_
      rw [namedN n5]
      refine ok_eb rfl ?_
      show ok ((f_MO_ruleField 2 0 m2).bind _) _
      rw [fieldN n5]
      refine ok_eb rfl ?_
      show ok ((f_MO_asks 15 m2).bind _) _
      rw [asksN n5]
      refine ok_eb rfl ?_
      rw [namedN n5]
      refine ok_eb rfl ?_
      show ok ((f_MO_ruleField 3 0 m2).bind _) _
      rw [fieldN n5]
      exact ok_eb rfl (tail m2 c q l2 F2 (by unfold hmR; rw [r2]))
    refine fldM (k := 1) (v := a) h8 S2 F2 (by decide) (by unfold fI; rw [if_neg (by decide), upn_e]) (fun m3 F3 S3 => ?_)
    refine asW (w := 11) S3 F3 (by decide) (fun m4 i4 F4 S4 => ?_) (fun m4 i4 F4 l4 => ?_)
    rotate_left
    · have n5 := FlM_n l4
      rw [namedN n5]
      refine ok_eb rfl ?_
      show ok ((f_MO_ruleField 2 0 m4).bind _) _
      rw [fieldN n5]
      refine ok_eb rfl ?_
      rw [asksN n5]
      refine ok_eb rfl ?_
      rw [namedN n5]
      refine ok_eb rfl ?_
      show ok ((f_MO_ruleField 3 0 m4).bind _) _
      rw [fieldN n5]
      exact ok_eb rfl (tail m4 1 _ l4 F4 (by unfold hmR; simp only [r2]; rw [if_neg (iWb_n i4)]))
    refine ndW (k := 2) hd S4 F4 (by decide) (fun w m5 r5 w5 F5 S5 => ?_) (fun c q x m5 r5 F5 l5 => ?_)
    rotate_left
    · have n5 := FlM_n l5
      rw [fieldN n5]
      refine ok_eb rfl ?_
      rw [asksN n5]
      refine ok_eb rfl ?_
      rw [namedN n5]
      refine ok_eb rfl ?_
      show ok ((f_MO_ruleField 3 0 m5).bind _) _
      rw [fieldN n5]
      exact ok_eb rfl (tail m5 c q l5 F5 (by unfold hmR; simp only [r2, r5]; rw [if_pos (iWb_t i4)]))
    refine fldM (k := 2) (v := w + 1) h8 S5 F5 (by decide) (by unfold fI; rw [if_pos (by decide), upn_e, nI_pred]) (fun m6 F6 S6 => ?_)
    refine asW (w := 12) S6 F6 (by decide) (fun m7 i7 F7 S7 => ?_) (fun m7 i7 F7 l7 => ?_)
    rotate_left
    · have n5 := FlM_n l7
      rw [namedN n5]
      refine ok_eb rfl ?_
      show ok ((f_MO_ruleField 3 0 m7).bind _) _
      rw [fieldN n5]
      exact ok_eb rfl (tail m7 1 _ l7 F7 (by unfold hmR; simp only [r2, r5]; rw [if_pos (iWb_t i4), if_neg (iWb_n i7)]))
    refine ndW (k := 1) hd S7 F7 (by decide) (fun d m8 r8 d8 F8 S8 => ?_) (fun c q x m8 r8 F8 l8 => ?_)
    rotate_left
    · rw [fieldN (FlM_n l8)]
      exact ok_eb rfl (tail m8 c q l8 F8 (by unfold hmR; simp only [r2, r5, r8]; rw [if_pos (iWb_t i4), if_pos (iWb_t i7)]))
    refine fldM (k := 3) (v := d) h8 S8 F8 (by decide) (by unfold fI; rw [if_neg (by decide), upn_e]) (fun m9 F9 S9 => ?_)
    have hq : hmR n g t P = (match mbR n g P 15 2 (t + 5) with
        | .inl e => .inl e
        | .inr (t2, gv) => match mbR n g P 16 2 t2 with
          | .inl e => .inl e
          | .inr (t3, tl) => match mbR n g P (if iWb n g t3 18 = true then 18 else 17) 0 t3 with
            | .inl e => .inl e
            | .inr (t4, ot) => .inr (t4, rwA P (rwF 1 a (w + 1) d gv tl ot (if iWb n g t3 18 = true then 1 else 0)))) := by
      unfold hmR
      simp only [r2, r5, r8]
      rw [if_pos (iWb_t i4), if_pos (iWb_t i7)]
      rfl
    refine tkW (w := 15) S9 F9 (by decide) (fun mA iA FA SA => ok_ip rfl ?_) (fun mA iA FA SA => ok_in Bool.false_ne_true ?_)
    · have mx : mbR n g P 15 2 (t + 5) = (match knR n g P 2 (t + 6) with | .inl e => .inl e | .inr j => .inr (t + 7, j + 1)) := if_pos (iWb_t iA)
      refine ndW (k := 2) hd SA FA (by decide) (fun j mB rB jB FB SB => ?_) (fun c q x mB rB FB lB => ?_)
      rotate_left
      · rw [fieldN (FlM_n lB)]
        exact ok_eb rfl (at105f lB FB (by rw [hq, mx]; simp only [rB]))
      refine fldM (k := 4) (v := j + 1) h8 SB FB (by decide) (by unfold fI; rw [if_pos (by decide), upn_e, nI_pred]) (fun mC FC SC => at105 (a := a) (w := w + 1) (d := d) (gv := j + 1) hd h8 SC FC (fun k hk => ?_) (by rw [hq, mx]; simp only [rB]))
      rcases (show k = 0 ∨ k = 1 ∨ k = 2 ∨ k = 3 ∨ k = 4 ∨ k = 5 ∨ k = 6 ∨ k = 7 by omega) with z | z | z | z | z | z | z | z <;> subst z <;> rfl
    · have mx : mbR n g P 15 2 (t + 5) = .inr (t + 5, 0) := if_neg (iWb_n iA)
      refine at105 (a := a) (w := w + 1) (d := d) (gv := 0) hd h8 SA FA (fun k hk => ?_) (by rw [hq, mx])
      rcases (show k = 0 ∨ k = 1 ∨ k = 2 ∨ k = 3 ∨ k = 4 ∨ k = 5 ∨ k = 6 ∨ k = 7 by omega) with z | z | z | z | z | z | z | z <;> subst z <;> rfl
  · have put : ∀ y : Int32, y = (if k = 0 then nI 1 else if k = 7 then 0 else -1) → ok (f_MO_atTold_J29 (nI k) (nI k) y m1) (lp (MOu n g (hmR n g t P) m) (fun s : Int32 × zM => k < 8 ∧ s.1 = nI (k + 1) ∧ RFm m s.2 ∧ MSt n g t P s.2 ∧ ∀ j, j < k + 1 → s.2.1 22 (56 + 8 * P 8 + j) = fI (rwF 1 neg1 0 neg1 0 0 0 0) j)) := by
      intro y hy
      unfold f_MO_atTold_J29
      refine ok_eb (fldE h8 S1 q) (ok_mk ⟨q, nI_1 k, fl2_tr f1 RFm_I, MSt_r S1, fun j hj => ?_⟩)
      show (sI m1 22 (56 + 8 * P 8 + k) y).1 22 (56 + 8 * P 8 + j) = _
      by_cases z : j = k
      · rw [z, rd_I1, fI_0 1 k q]; exact hy
      · rw [rd_I0 (by omega)]; exact h1 j (by omega)
    refine ok_ee k 0 (fun z => put 1 (by rw [if_pos z]; rfl)) (fun z => ok_ee k 7 (fun y => put 0 (by rw [if_neg z, if_pos y])) (fun y => put (-1) (by rw [if_neg z, if_neg y])))
