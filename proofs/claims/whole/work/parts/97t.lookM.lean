theorem goOnM {P : Nat → Nat} {N : Nat} {W D : Nat → Nat} {A : Nat → Bool} {m : zM} (hL : LMx P 16 N W D m) (h54 : ∀ w, w < N → m.1 54 w = b2i (A w)) : ok (f_MO_couldGoOn m) (fun p => fl2 [54, 55] [] m p ∧ ∀ w, w < N → p.1 54 w = b2i (nxA P N W A w)) := by
  obtain ⟨l1, l2, l3, l4, l5⟩ := hL
  unfold f_MO_couldGoOn f_MO_couldGoOn_L2
  refine ok_for N (fun k (s : Int32 × zM) => s.1 = nI k ∧ fl2 [54, 55] [] m s.2 ∧ (∀ w, w < k → s.2.1 55 w = b2i (A w) ∧ s.2.1 54 w = b2i false) ∧ ∀ w, k ≤ w → w < N → s.2.1 54 w = b2i (A w)) (k0 := 0) ⟨rfl, fl2_rf, fun i hi => absurd hi (Nat.not_lt_zero _), fun w _ hw => h54 w hw⟩ (Nat.zero_le _) ?_
  rintro k ⟨x, m1⟩ - hk ⟨e, f1, g1, g1'⟩
  have e : x = nI k := e
  subst e
  have f1 : fl2 [54, 55] [] m m1 := f1
  have g1 : ∀ w, w < k → m1.1 55 w = b2i (A w) ∧ m1.1 54 w = b2i false := g1
  have g1' : ∀ w, k ≤ w → w < N → m1.1 54 w = b2i (A w) := g1'
  unfold f_MO_couldGoOn_B2
  refine ok_le N k (fun q => ok_zl ?_) (fun q => ok_ix rfl (by omega : k < 608) (by decide) (ok_ix rfl (by omega : k < 608) (by decide) (ok_lt (ok_ix rfl (by omega : k < 608) (by decide) (ok_lt (ok_mk ⟨q, nI_1 k, fl2_tr f1 (fl2_tr (fl2_I (inS_c (by simp))) (fl2_I (inS_c (by simp)))), fun w hw => ?_, fun w w1 w2 => ?_⟩)))))) (hx := by rw [fl2_i f1 (by decide)]; exact l4.1)
  rotate_left
  · show (sI (sI m1 55 k (vp_nar .boolean (m1.1 54 k))) 54 k _).1 55 w = _ ∧ (sI (sI m1 55 k _) 54 k _).1 54 w = _
    by_cases z : w = k
    · rw [z, rd_I0 (by omega), rd_I1, rd_I1, g1' k (Nat.le_refl _) q, b2i_nar]; exact ⟨rfl, rfl⟩
    · rw [rd_I0 (by omega), rd_I0 (by omega), rd_I0 (by omega), rd_I0 (by omega)]; exact g1 w (by omega)
  · show (sI (sI m1 55 k _) 54 k _).1 54 w = _
    rw [rd_I0 (by omega), rd_I0 (by omega)]; exact g1' w (by omega) w2
  unfold f_MO_couldGoOn_J35 f_MO_couldGoOn_L37
  refine ok_for (64 * N) (fun u (s : Int32 × zM) => s.1 = nI u ∧ fl2 [54] [] m1 s.2 ∧ ∀ w, w < N → s.2.1 54 w = b2i (cBo (∃ i c, 64 * i + c < u ∧ c < 64 ∧ A i = true ∧ nxw P 16 N W i c = w + 1))) (k0 := 0) ⟨rfl, fl2_rf, fun w hw => ?_⟩ (Nat.zero_le _) ?_
  · show m1.1 54 w = _
    rw [(g1 w (by omega)).2, cBo_f (fun ⟨i, c, h, _⟩ => absurd h (Nat.not_lt_zero _))]
  rintro u ⟨x, m2⟩ - hu ⟨e, f2, g2⟩
  have e : x = nI u := e
  subst e
  have f2 : fl2 [54] [] m1 m2 := f2
  have g2 : ∀ w, w < N → m2.1 54 w = b2i (cBo (∃ i c, 64 * i + c < u ∧ c < 64 ∧ A i = true ∧ nxw P 16 N W i c = w + 1)) := g2
  have fa : fl2 [54, 55] [] m m2 := fl2_tr f1 (fl2_su f2 (by decide))
  unfold f_MO_couldGoOn_B37 f_MO_couldGoOn_J82
  have e41 : 64 * m2.1 0 41 = nI (64 * N) := by rw [fl2_i fa (by decide), l4.1]; exact pk_mul 64 N
  rw [e41]
  refine ok_le (64 * N) u (fun q => ok_mk ⟨fa, fun w hw => ?_⟩) (fun q => ?_)
  · refine cBo_d ⟨fun ⟨i, c, h1, h2, h3, h4⟩ => ⟨i, h3, by omega, c, h2, h4⟩, fun ⟨i, h1, h2, c, h3, h4⟩ => ⟨i, c, by omega, h3, h1, h4⟩⟩ (g2 w hw)
  · have ed : nI u / 64 = nI (u / 64) := pk_div (d := 64) (by omega) (by decide) (by decide)
    have um : 64 * (u / 64) + u % 64 = u := by omega
    have nx : ¬ (A (u / 64) = true ∧ nxw P 16 N W (u / 64) (u % 64) ≠ 0) → ok (some (Sum.inr (nI u + 1, m2))) (lp (fun p => fl2 [54, 55] [] m p ∧ ∀ w, w < N → p.1 54 w = b2i (nxA P N W A w)) (fun s : Int32 × zM => u < 64 * N ∧ s.1 = nI (u + 1) ∧ fl2 [54] [] m1 s.2 ∧ ∀ w, w < N → s.2.1 54 w = b2i (cBo (∃ i c, 64 * i + c < u + 1 ∧ c < 64 ∧ A i = true ∧ nxw P 16 N W i c = w + 1)))) := by
      intro hno
      refine ok_mk ⟨q, nI_1 u, f2, fun w hw => cBo_d ⟨fun ⟨i, c, h1, h2, h3, h4⟩ => ⟨i, c, by omega, h2, h3, h4⟩, fun ⟨i, c, h1, h2, h3, h4⟩ => ⟨i, c, ?_, h2, h3, h4⟩⟩ (g2 w hw)⟩
      rcases Nat.lt_or_ge (64 * i + c) u with z | z
      · exact z
      · exfalso
        have e1 : i = u / 64 := by omega
        have e2 : c = u % 64 := by omega
        subst e1 e2
        exact hno ⟨h3, by omega⟩
    refine ok_ix ed (by omega : u / 64 < 608) (by decide) ?_
    show ok (if m2.1 55 (u / 64) = 0 then _ else _) _
    rw [fl2_ic f2 (fun j => by simp [inS]), (g1 (u / 64) (by omega)).1]
    refine ok_it (fun z => nx (fun y => by rw [b2i_f z] at y; cases y.1)) (fun z => ok_ix rfl (by omega : u < 38912) (by decide) ?_)
    have e30 : m2.1 30 u = nI (nxw P 16 N W (u / 64) (u % 64)) - 1 := by
      have := l5 (u / 64) (by omega) (u % 64) (by omega)
      rw [um] at this
      rw [fl2_ic fa (fun j => by simp [inS])]; exact this
    have nl := nxw_le (w := 16) l3 (show u / 64 < N by omega) (show u % 64 < 64 by omega)
    refine ok_mm (nxw P 16 N W (u / 64) (u % 64)) (fun y => nx (fun v => v.2 y)) (fun y => ok_ix rfl (by omega : u < 38912) (by decide) ?_) (hx := e30)
    refine ok_ix (i := nxw P 16 N W (u / 64) (u % 64) - 1) (by show m2.1 30 u = _; rw [e30, nI_pr y]) (by omega) (by decide) (ok_lt (ok_mk ⟨q, nI_1 u, fl2_tr f2 (fl2_I (inS_c (by simp))), fun w hw => ?_⟩))
    show (sI m2 54 (nxw P 16 N W (u / 64) (u % 64) - 1) (b2i true)).1 54 w = _
    by_cases v : w = nxw P 16 N W (u / 64) (u % 64) - 1
    · rw [v, rd_I1, cBo_t ⟨u / 64, u % 64, by omega, by omega, b2i_t z, by omega⟩]
    · rw [rd_I0 (fun y => v y.2)]
      refine cBo_d ⟨fun ⟨i, c, h1, h2, h3, h4⟩ => ⟨i, c, by omega, h2, h3, h4⟩, fun ⟨i, c, h1, h2, h3, h4⟩ => ⟨i, c, ?_, h2, h3, h4⟩⟩ (g2 w hw)
      rcases Nat.lt_or_ge (64 * i + c) u with z' | z'
      · exact z'
      · exfalso
        have e1 : i = u / 64 := by omega
        have e2 : c = u % 64 := by omega
        subst e1 e2
        omega
theorem inStM {P : Nat → Nat} {N i s : Nat} {W D : Nat → Nat} {m : zM} (hP : tV P) (ht : tM 23 P m) (hL : LMx P 16 N W D m) (hi : i < N) (hs : s < 2 ^ 31) : ok (f_MO_inState (nI i) (nI s) m) (fun p => fl2 [25] [(0, 36)] m p.2 ∧ p.1 = nI (cst P (W i) s)) := by
  have p3 := hP.1.2.1
  have l2 := hL.2.1
  have hkv := (W_kv hP hL.2.2.1 hi).1
  unfold f_MO_inState
  refine ok_ix rfl (by omega : i < 608) (by decide) ?_
  rw [(hL.2.2.2.1.2.1 i hi).1]
  refine ok_bi (opensK hkv) (fun p2 ⟨o1, o2⟩ => ?_)
  have t2 := tM_fl ht o1 (by decide)
  unfold f_MO_inState_L15
  refine ok_for (P 3) (fun k (t : Int32 × Int32) => t.1 = nI (cn (fun j => decide (oS (da (P 3) (W i) j) = s)) k) ∧ t.2 = nI k) (k0 := 0) ⟨rfl, rfl⟩ (Nat.zero_le _) ?_
  rintro k ⟨x, y⟩ - hk ⟨e1, e2⟩
  have e1 : x = nI (cn (fun j => decide (oS (da (P 3) (W i) j) = s)) k) := e1
  have e2 : y = nI k := e2
  subst e1 e2
  unfold f_MO_inState_B15 f_MO_inState_J41
  refine ok_eb (agM (tM_n t2 (by decide) (by decide))) (ok_le (P 3) k (fun q => ok_mk ⟨o1, show nI (cn (fun j => decide (oS (da (P 3) (W i) j) = s)) k) = _ by rw [show k = P 3 by omega]; rfl⟩) (fun q => ok_ix rfl (by omega : k < 4) (by decide) ?_))
  show ok (if f_MO_stateOf (p2.1 25 k) = nI s then _ else _) _
  have dl := da_lt (P 3) (W i) k
  have ol := oS_lt dl
  rw [o2.2 k (by omega), if_pos q, (ms_S _ dl).1]
  refine ok_ee (oS (da (P 3) (W i) k)) s (fun z => ok_mk ⟨q, ?_, nI_1 k⟩) (fun z => ok_mk ⟨q, ?_, nI_1 k⟩)
  · rw [cn_s1 (decide_eq_true z)]; exact nI_1 _
  · rw [cn_s0 (decide_eq_false z)]
/-- the reference's sight -/
def sigM (r s : Nat) (st mn : Nat → Nat) (m : zM) : Prop := r ≤ 6 ∧ m.1 0 77 = nI r ∧ (0 < r → m.1 0 78 = nI s) ∧ ∀ i, i < r → st i < 256 ∧ mn i < 256 ∧ m.1 53 (2 * i) = nI (st i) ∧ m.1 53 (2 * i + 1) = nI (mn i)
theorem sigM_f {r s : Nat} {st mn : Nat → Nat} {m m' : zM} {S : List Nat} {F : List (Nat × Nat)} (h : sigM r s st mn m) (hf : fl2 S F m m') (hk : kps [53] [(0, 77), (0, 78)] S F = true) : sigM r s st mn m' := by
  unfold sigM
  rw [show m'.1 53 = m.1 53 from fl2_ic hf (kps_c hk (by simp)), show m'.1 0 77 = m.1 0 77 from fl2_i hf (kps_g hk (by simp)), show m'.1 0 78 = m.1 0 78 from fl2_i hf (kps_g hk (by simp))]
  exact h
theorem asSeenM {P : Nat → Nat} {N r s w : Nat} {W D st mn : Nat → Nat} {m : zM} (hP : tV P) (ht : tM 23 P m) (hL : LMx P 16 N W D m) (hS : sigM r s st mn m) (hw : w < N) : ok (f_MO_isAsSeen (nI w) m) (fun b => fl2 [25] [(0, 36)] m b.2 ∧ (b.1 = true ↔ ∀ i, i < r → cst P (W w) (st i) = mn i)) := by
  have p3 := hP.1.2.1
  have r6 := hS.1
  unfold f_MO_isAsSeen f_MO_isAsSeen_L2
  refine ok_for r (fun k (t : Int32 × zM) => t.1 = nI k ∧ fl2 [25] [(0, 36)] m t.2 ∧ ∀ i, i < k → cst P (W w) (st i) = mn i) (k0 := 0) ⟨rfl, fl2_rf, fun i hi => absurd hi (Nat.not_lt_zero _)⟩ (Nat.zero_le _) ?_
  rintro k ⟨x, m1⟩ - hk ⟨e, f1, hi⟩
  have e : x = nI k := e
  subst e
  have f1 : fl2 [25] [(0, 36)] m m1 := f1
  have S1 := sigM_f hS f1 (by decide)
  obtain ⟨s1, s2, s3, s4⟩ := S1
  unfold f_MO_isAsSeen_B2
  refine ok_le r k (fun q => ok_mk ⟨f1, fun _ i hir => hi i (by omega), fun _ => rfl⟩) (fun q => ok_ix (pk_mul 2 k) (by omega : 2 * k < 12) (by decide) ?_) (hx := s2)
  obtain ⟨t1, t2, t3, t4⟩ := s4 k q
  have cl := cst_l3 (P := P) (x := W w) (s := st k)
  show ok ((f_MO_inState (nI w) (m1.1 53 (2 * k)) m1).bind _) _
  rw [t3]
  refine ok_bi (inStM hP (tM_fl ht f1 (by decide)) (LMx_fl hL f1 (by decide) (by decide)) hw (by omega)) (fun p ⟨fp, ep⟩ => ok_ix (i := 2 * k + 1) (by rw [show 2 * nI k = nI (2 * k) from pk_mul 2 k, nI_1]) (by omega) (by decide) ?_)
  have f2 : fl2 [25] [(0, 36)] m p.2 := fl2_tr f1 fp
  refine ok_ee (cst P (W w) (st k)) (mn k) (fun z => ok_mk ⟨q, nI_1 k, f2, fun i hik => ?_⟩) (fun z => ok_mk ⟨f2, fun y => (by cases y), fun y => absurd (y k q) z⟩) (hx := ep) (hy := by rw [fl2_ic fp (fun j => by simp [inS])]; exact t4)
  rcases Nat.lt_or_ge i k with v | v
  · exact hi i v
  · rw [show i = k by omega]; exact z
theorem laysM {P : Nat → Nat} {N r s f x : Nat} {W D st mn : Nat → Nat} {m : zM} (hP : tV P) (ht : tM 23 P m) (hL : LMx P 16 N W D m) (hS : sigM r s st mn m) (hs6 : s ≤ 6) (hr0 : r = 0 → s = 0) (hx : kv (P 3) x) (hk72 : m.2.1 0 72 = lN (km (P 3) x)) (hf : f < N) (hfx : W f = fo (P 3) x) : ok (f_MO_laysCould m) (fun p => fl2 [25, 26, 54, 55] [(0, 36), (0, 38)] m p.2 ∧ p.1 = nI (cn (cou P N W r s st mn f) N) ∧ ∀ w, w < N → p.2.1 54 w = b2i (cou P N W r s st mn f w)) := by
  have l2 := hL.2.1
  have l3 := hL.2.2.1
  unfold f_MO_laysCould f_MO_laysCould_L2
  refine ok_for N (fun k (t : Int32 × zM) => t.1 = nI k ∧ fl2 [54] [] m t.2 ∧ ∀ w, w < k → t.2.1 54 w = b2i false) (k0 := 0) ⟨rfl, fl2_rf, fun i hi => absurd hi (Nat.not_lt_zero _)⟩ (Nat.zero_le _) ?_
  rintro k ⟨y, m1⟩ - hk ⟨e, f1, g1⟩
  have e : y = nI k := e
  subst e
  have f1 : fl2 [54] [] m m1 := f1
  have g1 : ∀ w, w < k → m1.1 54 w = b2i false := g1
  unfold f_MO_laysCould_B2
  refine ok_le N k (fun q => ok_zl ?_) (fun q => ok_ix rfl (by omega : k < 608) (by decide) (ok_lt (ok_mk ⟨q, nI_1 k, fl2_tr f1 (fl2_I (inS_c (by simp))), fun w hw => ?_⟩))) (hx := by rw [fl2_i f1 (by decide)]; exact hL.2.2.2.1.1)
  rotate_left
  · show (sI m1 54 k _).1 54 w = _
    by_cases z : w = k
    · rw [z, rd_I1]
    · rw [rd_I0 (by omega)]; exact g1 w (by omega)
  unfold f_MO_laysCould_J23
  rw [show m1.2.1 0 72 = lN (km (P 3) x) by rw [fl2_j f1 (by decide)]; exact hk72]
  refine ok_bi (foldedOfM hP (tM_fl ht f1 (by decide)) (LMx_fl hL f1 (by decide) (by decide)) hx) (fun p3 ⟨f3, hh⟩ => ?_)
  have e3 : p3.1 = nI f := by
    rcases hh with ⟨l, h1, h2, h3⟩ | ⟨h1, _⟩
    · rw [h3, Lst_in l3 h1 hf (h2.trans hfx.symm)]
    · exact absurd hfx (h1 f hf)
  refine ok_ix e3 (by omega : f < 608) (by decide) (ok_lt ?_)
  have f4 : fl2 [25, 26, 54, 55] [(0, 36), (0, 38)] m (sI p3.2 54 f (b2i true)) := fl2_tr (fl2_su f1 (by decide)) (fl2_tr (fl2_su f3 (by decide)) (fl2_I (inS_c (by simp))))
  have g4 : ∀ w, w < N → (sI p3.2 54 f (b2i true)).1 54 w = b2i (reA P N W f 0 w) := by
    intro w hw
    by_cases z : w = f
    · rw [z, rd_I1]
      exact congrArg b2i (cBo_t (show Rn (EWo P N W) f 0 f from rfl)).symm
    · rw [rd_I0 (fun y => z y.2), fl2_ic f3 (fun j => by simp [inS]), g1 w (by omega)]
      exact congrArg b2i (cBo_f (show ¬ Rn (EWo P N W) f 0 w from z)).symm
  have S4 := sigM_f hS f4 (by decide)
  have fin : ∀ m5, fl2 [25, 26, 54, 55] [(0, 36), (0, 38)] m m5 → (∀ w, w < N → m5.1 54 w = b2i (reA P N W f s w)) → ok (f_MO_laysCould_J64 m5) (fun p => fl2 [25, 26, 54, 55] [(0, 36), (0, 38)] m p.2 ∧ p.1 = nI (cn (cou P N W r s st mn f) N) ∧ ∀ w, w < N → p.2.1 54 w = b2i (cou P N W r s st mn f w)) := by
    intro m5 f5 g5
    unfold f_MO_laysCould_J64 f_MO_laysCould_L68
    refine ok_for N (fun k (t : Int32 × Int32 × zM) => t.1 = nI (cn (cou P N W r s st mn f) k) ∧ t.2.1 = nI k ∧ fl2 [25, 26, 54, 55] [(0, 36), (0, 38)] m t.2.2 ∧ (∀ w, w < k → t.2.2.1 54 w = b2i (cou P N W r s st mn f w)) ∧ ∀ w, k ≤ w → w < N → t.2.2.1 54 w = b2i (reA P N W f s w)) (k0 := 0) ⟨rfl, rfl, f5, fun w hw => absurd hw (Nat.not_lt_zero _), fun w _ hw => g5 w hw⟩ (Nat.zero_le _) ?_
    rintro k ⟨z1, z2, m6⟩ - hk ⟨e1, e2, f6, g6, g6'⟩
    have e1 : z1 = nI (cn (cou P N W r s st mn f) k) := e1
    have e2 : z2 = nI k := e2
    subst e1 e2
    have f6 : fl2 [25, 26, 54, 55] [(0, 36), (0, 38)] m m6 := f6
    have g6 : ∀ w, w < k → m6.1 54 w = b2i (cou P N W r s st mn f w) := g6
    have g6' : ∀ w, k ≤ w → w < N → m6.1 54 w = b2i (reA P N W f s w) := g6'
    have L6 := LMx_fl hL f6 (by decide) (by decide)
    unfold f_MO_laysCould_B68
    refine ok_le N k (fun q => ok_mk ⟨f6, ?_, fun w hw => g6 w (by omega)⟩) (fun q => ok_ix rfl (by omega : k < 608) (by decide) ?_) (hx := L6.2.2.2.1.1)
    · show nI (cn (cou P N W r s st mn f) k) = _
      rw [show k = N by omega]
    · have put : ∀ (c : Bool) (m7 : zM), c = cou P N W r s st mn f k → fl2 [25] [(0, 36)] m6 m7 → ok (f_MO_laysCould_J103 (nI (cn (cou P N W r s st mn f) k)) (nI k) 54 (nI k) c m7) (lp (fun p => fl2 [25, 26, 54, 55] [(0, 36), (0, 38)] m p.2 ∧ p.1 = nI (cn (cou P N W r s st mn f) N) ∧ ∀ w, w < N → p.2.1 54 w = b2i (cou P N W r s st mn f w)) (fun t : Int32 × Int32 × zM => k < N ∧ t.1 = nI (cn (cou P N W r s st mn f) (k + 1)) ∧ t.2.1 = nI (k + 1) ∧ fl2 [25, 26, 54, 55] [(0, 36), (0, 38)] m t.2.2 ∧ (∀ w, w < k + 1 → t.2.2.1 54 w = b2i (cou P N W r s st mn f w)) ∧ ∀ w, k + 1 ≤ w → w < N → t.2.2.1 54 w = b2i (reA P N W f s w))) := by
        intro c m7 hc f7
        unfold f_MO_laysCould_J103 f_MO_laysCould_J116
        have g8 : ∀ w, w < k + 1 → (sI m7 54 k (b2i c)).1 54 w = b2i (cou P N W r s st mn f w) := by
          intro w hw
          by_cases z : w = k
          · rw [z, rd_I1, hc]
          · rw [rd_I0 (fun y => z y.2), fl2_ic f7 (fun j => by simp [inS])]; exact g6 w (by omega)
        have g8' : ∀ w, k + 1 ≤ w → w < N → (sI m7 54 k (b2i c)).1 54 w = b2i (reA P N W f s w) := by
          intro w w1 w2
          rw [rd_I0 (by omega), fl2_ic f7 (fun j => by simp [inS])]; exact g6' w (by omega) w2
        have f8 : fl2 [25, 26, 54, 55] [(0, 36), (0, 38)] m (sI m7 54 k (b2i c)) := fl2_tr f6 (fl2_tr (fl2_su f7 (by decide)) (fl2_I (inS_c (by simp))))
        refine ok_ix rfl (show k < zlen gM 54 from (by have : zlen gM 54 = 608 := rfl; omega)) (by decide) (ok_lt (ok_ix rfl (by omega : k < 608) (by decide) ?_))
        show ok (if (sI m7 54 k (b2i c)).1 54 k = 0 then _ else _) _
        rw [rd_I1]
        refine ok_it (fun z => ok_mk ⟨q, ?_, nI_1 k, f8, g8, g8'⟩) (fun z => ok_mk ⟨q, ?_, nI_1 k, f8, g8, g8'⟩)
        · rw [cn_s0 (hc ▸ b2i_f z)]
        · rw [cn_s1 (hc ▸ b2i_t z)]; exact nI_1 _
      show ok (if m6.1 54 k = 0 then _ else _) _
      rw [g6' k (Nat.le_refl _) q]
      unfold f_MO_laysCould_J102
      refine ok_it (fun z => put false m6 (cBo_f (fun y => ?_)).symm fl2_rf) (fun z => ok_bi (asSeenM hP (tM_fl ht f6 (by decide)) L6 (sigM_f hS f6 (by decide)) q) (fun b ⟨fb, hb⟩ => ok_it (fun y => put true b.2 (cBo_t ⟨cBo_iff.mp (b2i_t z), hb.mp y⟩).symm fb) (fun y => put false b.2 (cBo_f (fun u => y (hb.mpr u.2))).symm fb)))
      have z := b2i_f z
      rw [show reA P N W f s k = true from cBo_t y.1] at z
      cases z
  unfold f_MO_laysCould_L39
  refine ok_for s (fun t (v : Int32 × zM) => v.1 = nI t ∧ fl2 [25, 26, 54, 55] [(0, 36), (0, 38)] m v.2 ∧ ∀ w, w < N → v.2.1 54 w = b2i (reA P N W f t w)) (k0 := 0) ⟨rfl, f4, g4⟩ (Nat.zero_le _) ?_
  rintro t ⟨y, m5⟩ - ht5 ⟨e, f5, g5⟩
  have e : y = nI t := e
  subst e
  have f5 : fl2 [25, 26, 54, 55] [(0, 36), (0, 38)] m m5 := f5
  have g5 : ∀ w, w < N → m5.1 54 w = b2i (reA P N W f t w) := g5
  have S5 := sigM_f hS f5 (by decide)
  have r6 := hS.1
  unfold f_MO_laysCould_B39
  rcases Nat.eq_zero_or_pos r with hr | hr
  · have := hr0 hr
    have et : t = s := by omega
    rw [et] at g5
    refine ok_it (fun _ => ok_zl (fin m5 f5 g5)) (fun _ => ok_le r 0 (fun _ => ok_zl (fin m5 f5 g5)) (fun z => absurd z (by omega)) (hx := S5.2.1))
  · refine ok_le s t (fun q => ok_zl (fin m5 f5 (by rw [show s = t by omega]; exact g5))) (fun q => ok_le r 0 (fun z => absurd z (by omega)) (fun _ => ok_bi (goOnM (LMx_fl hL f5 (by decide) (by decide)) g5) (fun p ⟨fp, gp⟩ => ok_mk ⟨q, nI_1 t, fl2_tr f5 (fl2_su fp (by decide)), fun w hw => ?_⟩)) (hx := S5.2.1)) (hx := S5.2.2.1 hr)
    show p.1 54 w = _
    rw [gp w hw, nxA_r]
