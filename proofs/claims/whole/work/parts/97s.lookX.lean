/-- where the e-th move of a world leads -/
def trg (P : Nat → Nat) (N : Nat) (W : Nat → Nat) (i e : Nat) : Nat := nxw P 16 N W i (cea P (W i) e) - 1
theorem EWo_T {P : Nat → Nat} {N i j : Nat} {W D : Nat → Nat} (hL : Lst (Ed P 16) (wx0 P) N W D) (hi : i < N) : EWo P N W i j ↔ ∃ e, e < cn (psb P (W i)) 64 ∧ trg P N W i e = j := by
  constructor
  · rintro ⟨_, c, hc, e⟩
    have p := (nxw_nz.mp (by rw [e]; omega : nxw P 16 N W i c ≠ 0)).1
    obtain ⟨k1, k2⟩ := cea_cn hc p
    refine ⟨_, k1, ?_⟩
    unfold trg
    rw [k2, e]; rfl
  · rintro ⟨e, he, et⟩
    obtain ⟨c1, c2, c3⟩ := cea_sp he
    have := psb_r c2
    have nz : nxw P 16 N W i (cea P (W i) e) ≠ 0 := nxw_nz.mpr ⟨c2, by omega⟩
    refine ⟨hi, _, c1, ?_⟩
    unfold trg at et
    omega
/-- one move on -/
noncomputable def nxA (P : Nat → Nat) (N : Nat) (W : Nat → Nat) (A : Nat → Bool) (w : Nat) : Bool := cBo (∃ i, A i = true ∧ EWo P N W i w)
noncomputable def reA (P : Nat → Nat) (N : Nat) (W : Nat → Nat) (f t w : Nat) : Bool := cBo (Rn (EWo P N W) f t w)
theorem nxA_r {P : Nat → Nat} {N : Nat} {W : Nat → Nat} {f t : Nat} : nxA P N W (reA P N W f t) = reA P N W f (t + 1) := by
  funext w
  unfold nxA reA
  refine cBo_cg ⟨fun ⟨i, h1, h2⟩ => ⟨i, cBo_iff.mp h1, h2⟩, fun ⟨i, h1, h2⟩ => ⟨i, cBo_iff.mpr h1, h2⟩⟩
theorem cBo_d {p q : Prop} (h : p ↔ q) {x : Int32} (e : x = b2i (cBo p)) : x = b2i (cBo q) := by rw [e, cBo_cg h]
theorem goOnX {P : Nat → Nat} {N : Nat} {W D pr sp : Nat → Nat} {A : Nat → Bool} {m : zM} (hP : tV P) (hN : N ≤ 600) (hL : Lst (Ed P 16) (wx0 P) N W D) (hA : AXm P N W D pr sp m) (h51 : ∀ w, w < N → m.1 51 w = b2i (A w)) : ok (f_Sight_goOn m) (fun p => fl2 [51, 52] [] m p ∧ ∀ w, w < N → p.1 51 w = b2i (nxA P N W A w)) := by
  unfold f_Sight_goOn f_Sight_goOn_L2
  refine ok_for N (fun k (s : Int32 × zM) => s.1 = nI k ∧ fl2 [52] [] m s.2 ∧ ∀ w, w < k → s.2.1 52 w = b2i false) (k0 := 0) ⟨rfl, fl2_rf, fun i hi => absurd hi (Nat.not_lt_zero _)⟩ (Nat.zero_le _) ?_
  rintro k ⟨x, m1⟩ - hk ⟨e, f1, g1⟩
  have e : x = nI k := e
  subst e
  have f1 : fl2 [52] [] m m1 := f1
  have g1 : ∀ w, w < k → m1.1 52 w = b2i false := g1
  unfold f_Sight_goOn_B2
  refine ok_le N k (fun q => ok_zl ?_) (fun q => ok_ix rfl (by omega : k < 600) (by decide) (ok_lt (ok_mk ⟨q, nI_1 k, fl2_tr f1 (fl2_I (inS_c (by simp))), fun w hw => ?_⟩))) (hx := by rw [fl2_i f1 (by decide)]; exact hA.1.1.1)
  rotate_left
  · show (sI m1 52 k _).1 52 w = _
    by_cases z : w = k
    · rw [z, rd_I1]
    · rw [rd_I0 (by omega)]; exact g1 w (by omega)
  unfold f_Sight_goOn_J23 f_Sight_goOn_L25
  refine ok_for N (fun i (s : Int32 × zM) => s.1 = nI i ∧ fl2 [52] [] m s.2 ∧ ∀ w, w < N → s.2.1 52 w = b2i (cBo (∃ i', i' < i ∧ A i' = true ∧ EWo P N W i' w))) (k0 := 0) ⟨rfl, f1, fun w hw => ?_⟩ (Nat.zero_le _) ?_
  · show m1.1 52 w = _
    rw [g1 w (by omega), cBo_f (fun ⟨i, h, _⟩ => absurd h (Nat.not_lt_zero _))]
  rintro i ⟨x, m2⟩ - hi ⟨e, f2, g2⟩
  have e : x = nI i := e
  subst e
  have f2 : fl2 [52] [] m m2 := f2
  have g2 : ∀ w, w < N → m2.1 52 w = b2i (cBo (∃ i', i' < i ∧ A i' = true ∧ EWo P N W i' w)) := g2
  unfold f_Sight_goOn_B25
  refine ok_le N i (fun q => ok_zl ?_) (fun q => ok_ix rfl (by omega : i < 601) (by decide) ?_) (hx := by rw [fl2_i f2 (by decide)]; exact hA.1.1.1)
  · unfold f_Sight_goOn_J84 f_Sight_goOn_L86
    have g2' : ∀ w, w < N → m2.1 52 w = b2i (nxA P N W A w) := fun w hw => cBo_d ⟨fun ⟨i', _, h2, h3⟩ => ⟨i', h2, h3⟩, fun ⟨i', h2, h3⟩ => ⟨i', by have := h3.1; omega, h2, h3⟩⟩ (g2 w hw)
    refine ok_for N (fun k (s : Int32 × zM) => s.1 = nI k ∧ fl2 [51] [] m2 s.2 ∧ ∀ w, w < k → s.2.1 51 w = b2i (nxA P N W A w)) (k0 := 0) ⟨rfl, fl2_rf, fun i hi => absurd hi (Nat.not_lt_zero _)⟩ (Nat.zero_le _) ?_
    rintro k ⟨x, m3⟩ - hk ⟨e, f3, g3⟩
    have e : x = nI k := e
    subst e
    have f3 : fl2 [51] [] m2 m3 := f3
    have g3 : ∀ w, w < k → m3.1 51 w = b2i (nxA P N W A w) := g3
    unfold f_Sight_goOn_B86
    refine ok_le N k (fun q => ok_mk ⟨fl2_tr (fl2_su f2 (by decide)) (fl2_su f3 (by decide)), fun w hw => g3 w (by omega)⟩) (fun q => ok_ix rfl (by omega : k < 600) (by decide) (ok_ix rfl (by omega : k < 600) (by decide) (ok_lt (ok_mk ⟨q, nI_1 k, fl2_tr f3 (fl2_I (inS_c (by simp))), fun w hw => ?_⟩)))) (hx := by rw [fl2_i f3 (by decide), fl2_i f2 (by decide)]; exact hA.1.1.1)
    show (sI m3 51 k (vp_nar .boolean (m3.1 52 k))).1 51 w = _
    by_cases z : w = k
    · rw [z, rd_I1, fl2_ic f3 (fun j => by simp [inS]), g2' k q, b2i_nar]
    · rw [rd_I0 (by omega)]; exact g3 w (by omega)
  · have e36 : m2.1 36 i = nI (frm P W i) := by rw [fl2_ic f2 (fun j => by simp [inS])]; exact hA.2.2.1 i (by omega)
    show ok (f_Sight_goOn_L40 (nI i) (m2.1 36 i) m2) _
    rw [e36]
    have fb := frm_le P W (i + 1)
    have fb' : frm P W (i + 1) = frm P W i + cn (psb P (W i)) 64 := rfl
    unfold f_Sight_goOn_L40
    refine ok_for (cn (psb P (W i)) 64) (fun e (s : Int32 × zM) => s.1 = nI (frm P W i + e) ∧ fl2 [52] [] m s.2 ∧ ∀ w, w < N → s.2.1 52 w = b2i (cBo ((∃ i', i' < i ∧ A i' = true ∧ EWo P N W i' w) ∨ (A i = true ∧ ∃ e', e' < e ∧ trg P N W i e' = w)))) (k0 := 0) ⟨rfl, f2, fun w hw => ?_⟩ (Nat.zero_le _) ?_
    · exact cBo_d ⟨Or.inl, fun z => z.elim id (fun ⟨_, e', h, _⟩ => absurd h (Nat.not_lt_zero _))⟩ (g2 w hw)
    rintro e ⟨x, m3⟩ - he ⟨ex, f3, g3⟩
    have ex : x = nI (frm P W i + e) := ex
    subst ex
    have f3 : fl2 [52] [] m m3 := f3
    have g3 : ∀ w, w < N → m3.1 52 w = b2i (cBo ((∃ i', i' < i ∧ A i' = true ∧ EWo P N W i' w) ∨ (A i = true ∧ ∃ e', e' < e ∧ trg P N W i e' = w))) := g3
    unfold f_Sight_goOn_B40 f_Sight_goOn_J78
    have e51 : m3.1 51 i = b2i (A i) := by rw [fl2_ic f3 (fun j => by simp [inS])]; exact h51 i q
    refine ok_ix rfl (by omega : i < 600) (by decide) ?_
    show ok (if m3.1 51 i = 0 then _ else _) _
    rw [e51]
    refine ok_it (fun z => ok_zl (ok_mk ⟨q, nI_1 i, f3, fun w hw => ?_⟩)) (fun z => ?_)
    · have z := b2i_f z
      refine cBo_d ⟨fun y => ?_, fun ⟨i', h1, h2, h3⟩ => Or.inl ⟨i', ?_, h2, h3⟩⟩ (g3 w hw)
      · rcases y with ⟨i', h1, h2⟩ | ⟨h1, _⟩
        · exact ⟨i', by omega, h2⟩
        · rw [z] at h1; cases h1
      · rcases Nat.lt_or_ge i' i with u | u
        · exact u
        · rw [show i' = i by omega, z] at h2; cases h2
    · have z := b2i_t z
      refine ok_ix (nI_1 i) (by omega : i + 1 < 601) (by decide) (ok_le (frm P W (i + 1)) (frm P W i + e) (fun y => ok_zl (ok_mk ⟨q, nI_1 i, f3, fun w hw => ?_⟩)) (fun y => ?_) (hx := by rw [fl2_ic f3 (fun j => by simp [inS])]; exact hA.2.2.1 (i + 1) (by omega)))
      · refine cBo_d ⟨fun y2 => ?_, fun ⟨i', h1, h2, h3⟩ => ?_⟩ (g3 w hw)
        · rcases y2 with ⟨i', h1, h2⟩ | ⟨h1, e', h2, h3⟩
          · exact ⟨i', by omega, h2⟩
          · exact ⟨i, by omega, z, (EWo_T hL q).mpr ⟨e', by omega, h3⟩⟩
        · rcases Nat.lt_or_ge i' i with u | u
          · exact Or.inl ⟨i', u, h2, h3⟩
          · rw [show i' = i by omega] at h3
            obtain ⟨e', u1, u2⟩ := (EWo_T hL q).mp h3
            exact Or.inr ⟨z, e', by omega, u2⟩
      · have mv := movA (e := e) hP hN hL (AXm_fl hA f3 (by decide)) q (by omega)
        have tl : trg P N W i e < N := by
          have h1 := mv.2.1
          have h2 := mv.2.2.1
          unfold trg
          omega
        refine ok_eb mv.2.2.2.1 (ok_ix (i := trg P N W i e) rfl (by omega) (by decide) (ok_lt (ok_mk ⟨by omega, nI_1 _, fl2_tr f3 (fl2_I (inS_c (by simp))), fun w hw => ?_⟩)))
        show (sI m3 52 (trg P N W i e) (b2i true)).1 52 w = _
        by_cases u : w = trg P N W i e
        · rw [u, rd_I1, cBo_t (Or.inr ⟨z, e, by omega, rfl⟩)]
        · rw [rd_I0 (fun y => u y.2)]
          refine cBo_d ⟨fun y2 => y2.imp id (fun ⟨h1, e', h2, h3⟩ => ⟨h1, e', by omega, h3⟩), fun y2 => y2.imp id (fun ⟨h1, e', h2, h3⟩ => ⟨h1, e', ?_, h3⟩)⟩ (g3 w hw)
          rcases Nat.lt_or_ge e' e with v | v
          · exact v
          · exact absurd (by rw [← h3, show e' = e by omega]) u
/-- how many agents of a world are in a state -/
theorem cst_l3 {P : Nat → Nat} {x s : Nat} : cst P x s ≤ P 3 := cn_le _ _
theorem inStA {P : Nat → Nat} {N i s : Nat} {W D pr sp : Nat → Nat} {m : zM} (hP : tV P) (hN : N ≤ 600) (hA : AXm P N W D pr sp m) (hi : i < N) (hs : s < 2 ^ 31) : f_Atlas_inState (nI i) (nI s) m = some (nI (cst P (W i) s)) := by
  have p3 := hP.1.2.1
  refine ok_eq.mp ?_
  unfold f_Atlas_inState f_Atlas_inState_L5
  refine ok_for (P 3) (fun k (t : Int32 × Int32) => t.1 = nI (cn (fun j => decide (oS (da (P 3) (W i) j) = s)) k) ∧ t.2 = nI k) (k0 := 0) ⟨rfl, rfl⟩ (Nat.zero_le _) ?_
  rintro k ⟨x, y⟩ - hk ⟨e1, e2⟩
  have e1 : x = nI (cn (fun j => decide (oS (da (P 3) (W i) j) = s)) k) := e1
  have e2 : y = nI k := e2
  subst e1 e2
  unfold f_Atlas_inState_B5 f_Atlas_inState_J39
  refine ok_le (P 3) k (fun q => ok_mk (show nI (cn (fun j => decide (oS (da (P 3) (W i) j) = s)) k) = _ by rw [show k = P 3 by omega]; rfl)) (fun q => ok_ix nI_4 (by omega : 4 * i + k < 2400) (by decide) ?_) (hx := hA.1.1.2)
  show ok (if f_PA_held (m.1 34 (4 * i + k)) 0 = nI s then _ else _) _
  have dl := da_lt (P 3) (W i) k
  have ol := oS_lt dl
  rw [((hA.2.1 i hi).2.2 k q).1, hd0 dl]
  refine ok_ee (oS (da (P 3) (W i) k)) s (fun z => ok_mk ⟨q, ?_, nI_1 k⟩) (fun z => ok_mk ⟨q, ?_, nI_1 k⟩)
  · rw [cn_s1 (decide_eq_true z)]; exact nI_1 _
  · rw [cn_s0 (decide_eq_false z)]
    show nI _ + 0 = _
    exact Int32.add_zero _
/-- the class's sight: r rows -/
def sigX (r s : Nat) (st mn : Nat → Nat) (m : zM) : Prop := r ≤ 6 ∧ m.1 48 2 = nI r ∧ m.1 48 3 = nI s ∧ ∀ i, i < r → st i < 256 ∧ mn i < 256 ∧ m.1 49 i = nI (st i) ∧ m.1 50 i = nI (mn i)
theorem sigX_f {r s : Nat} {st mn : Nat → Nat} {m m' : zM} {S : List Nat} {F : List (Nat × Nat)} (h : sigX r s st mn m) (hf : fl2 S F m m') (hk : kps [49, 50] [(48, 2), (48, 3)] S F = true) : sigX r s st mn m' := by
  unfold sigX
  rw [show m'.1 49 = m.1 49 from fl2_ic hf (kps_c hk (by simp)), show m'.1 50 = m.1 50 from fl2_ic hf (kps_c hk (by simp)), show m'.1 48 2 = m.1 48 2 from fl2_i hf (kps_g hk (by simp)), show m'.1 48 3 = m.1 48 3 from fl2_i hf (kps_g hk (by simp))]
  exact h
theorem asSeenX {P : Nat → Nat} {N r s w : Nat} {W D pr sp st mn : Nat → Nat} {m : zM} (hP : tV P) (hN : N ≤ 600) (hA : AXm P N W D pr sp m) (hS : sigX r s st mn m) (hw : w < N) : ok (f_Sight_isAsSeen (nI w) m) (fun b => b = true ↔ ∀ i, i < r → cst P (W w) (st i) = mn i) := by
  have p3 := hP.1.2.1
  obtain ⟨s1, s2, s3, s4⟩ := hS
  unfold f_Sight_isAsSeen f_Sight_isAsSeen_L2
  refine ok_for r (fun k (t : Int32) => t = nI k ∧ ∀ i, i < k → cst P (W w) (st i) = mn i) (k0 := 0) ⟨rfl, fun i hi => absurd hi (Nat.not_lt_zero _)⟩ (Nat.zero_le _) ?_
  rintro k t - hk ⟨e, hi⟩
  subst e
  unfold f_Sight_isAsSeen_B2
  refine ok_le r k (fun q => ok_mk ⟨fun _ i hir => hi i (by omega), fun _ => rfl⟩) (fun q => ok_ix rfl (by omega : k < 6) (by decide) ?_) (hx := s2)
  obtain ⟨t1, t2, t3, t4⟩ := s4 k q
  have cl := cst_l3 (P := P) (x := W w) (s := st k)
  show ok ((f_Atlas_inState (nI w) (m.1 49 k) m).bind _) _
  rw [t3]
  refine ok_eb (inStA hP hN hA hw (by omega)) (ok_ix rfl (by omega : k < 6) (by decide) (ok_ee (cst P (W w) (st k)) (mn k) (fun z => ok_mk ⟨q, nI_1 k, fun i hik => ?_⟩) (fun z => ok_mk ⟨fun y => (by cases y), fun y => absurd (y k q) z⟩) (hy := t4)))
  rcases Nat.lt_or_ge i k with v | v
  · exact hi i v
  · rw [show i = k by omega]; exact z
/-- the worlds that could be, laid in the class -/
def couX (P : Nat → Nat) (N : Nat) (W : Nat → Nat) (r s : Nat) (st mn : Nat → Nat) (f : Nat) (m : zM) : Prop := m.1 48 7 = nI (cn (cou P N W r s st mn f) N) ∧ ∀ w, w < N → cou P N W r s st mn f w = true → m.1 53 (cn (cou P N W r s st mn f) w) = nI w
theorem lookX {P : Nat → Nat} {N r s f : Nat} {W D pr sp st mn : Nat → Nat} {m : zM} (hP : tV P) (hN : N ≤ 600) (hL : Lst (Ed P 16) (wx0 P) N W D) (hA : AXm P N W D pr sp m) (hS : sigX r s st mn m) (hs6 : s ≤ 6) (hf : f < N) (h8 : m.1 48 8 = -1 ∨ ∃ f', f' < N ∧ m.1 48 8 = nI f' ∧ couX P N W r s st mn f' m) : ok (f_Sight_look (nI f) m) (fun p => fl2 [51, 52, 53] [(48, 7), (48, 8)] m p ∧ p.1 48 8 = nI f ∧ couX P N W r s st mn f p) := by
  unfold f_Sight_look
  refine ok_in (nI_ne_m1 (by omega)) (ok_it (fun q => ok_mk ⟨fl2_rf, q.symm, ?_⟩) (fun q => ?_))
  · rcases h8 with z | ⟨f', z1, z2, z3⟩
    · exact absurd (q.trans z) (nI_ne_m1 (by omega))
    · have : f = f' := (nI_eq (by omega) (by omega)).mp (q.trans z2)
      rw [this]; exact z3
  unfold f_Sight_look_L16
  refine ok_for N (fun k (t : Int32 × zM) => t.1 = nI k ∧ fl2 [51, 52, 53] [(48, 7), (48, 8)] m t.2 ∧ ∀ w, w < k → t.2.1 51 w = b2i (reA P N W f 0 w)) (k0 := 0) ⟨rfl, fl2_rf, fun i hi => absurd hi (Nat.not_lt_zero _)⟩ (Nat.zero_le _) ?_
  rintro k ⟨x, m1⟩ - hk ⟨e, f1, g1⟩
  have e : x = nI k := e
  subst e
  have f1 : fl2 [51, 52, 53] [(48, 7), (48, 8)] m m1 := f1
  have g1 : ∀ w, w < k → m1.1 51 w = b2i (reA P N W f 0 w) := g1
  unfold f_Sight_look_B16
  refine ok_le N k (fun q1 => ok_zl ?_) (fun q1 => ?_) (hx := by rw [fl2_i f1 (by decide)]; exact hA.1.1.1)
  rotate_left
  · have go : ∀ c : Bool, c = reA P N W f 0 k → ok (f_Sight_look_J39 (nI f) (nI k) 51 (nI k) c m1) (lp (fun p => fl2 [51, 52, 53] [(48, 7), (48, 8)] m p ∧ p.1 48 8 = nI f ∧ couX P N W r s st mn f p) (fun t : Int32 × zM => k < N ∧ t.1 = nI (k + 1) ∧ fl2 [51, 52, 53] [(48, 7), (48, 8)] m t.2 ∧ ∀ w, w < k + 1 → t.2.1 51 w = b2i (reA P N W f 0 w))) := by
      intro c hc
      unfold f_Sight_look_J39
      refine ok_ix rfl (show k < zlen gX 51 from Nat.lt_of_lt_of_le q1 hN) (by decide) (ok_lt (ok_mk ⟨q1, nI_1 k, fl2_tr f1 (fl2_I (inS_c (by simp))), fun w hw => ?_⟩))
      show (sI m1 51 k _).1 51 w = _
      by_cases z : w = k
      · rw [z, rd_I1, hc]
      · rw [rd_I0 (by omega)]; exact g1 w (by omega)
    refine ok_ee k f (fun z => go true ?_) (fun z => go false ?_)
    · exact (cBo_t (show Rn (EWo P N W) f 0 k from z)).symm
    · exact (cBo_f (show ¬ Rn (EWo P N W) f 0 k from z)).symm
  unfold f_Sight_look_J46 f_Sight_look_L48
  have fS := sigX_f hS f1 (by decide)
  refine ok_for s (fun t (v : Int32 × zM) => v.1 = nI t ∧ fl2 [51, 52, 53] [(48, 7), (48, 8)] m v.2 ∧ ∀ w, w < N → v.2.1 51 w = b2i (reA P N W f t w)) (k0 := 0) ⟨rfl, f1, fun w hw => g1 w (by omega)⟩ (Nat.zero_le _) ?_
  rintro t ⟨x, m2⟩ - ht ⟨e, f2, g2⟩
  have e : x = nI t := e
  subst e
  have f2 : fl2 [51, 52, 53] [(48, 7), (48, 8)] m m2 := f2
  have g2 : ∀ w, w < N → m2.1 51 w = b2i (reA P N W f t w) := g2
  have S2 := sigX_f hS f2 (by decide)
  have A2 := AXm_fl hA f2 (by decide)
  unfold f_Sight_look_B48
  refine ok_le s t (fun q2 => ok_zl ?_) (fun q2 => ok_bi (goOnX hP hN hL A2 g2) (fun p ⟨fp, gp⟩ => ok_mk ⟨q2, nI_1 t, fl2_tr f2 (fl2_su fp (by decide)), fun w hw => ?_⟩)) (hx := S2.2.2.1)
  rotate_left
  · show p.1 51 w = _
    rw [gp w hw, nxA_r]
  have et : t = s := by omega
  subst et
  unfold f_Sight_look_J67 f_Sight_look_L74
  refine ok_lt ?_
  have f3 : fl2 [51, 52, 53] [(48, 7), (48, 8)] m (sI m2 48 7 0) := fl2_tr f2 (fl2_I (inS_f (by simp)))
  refine ok_for N (fun k (v : Int32 × zM) => v.1 = nI k ∧ fl2 [51, 52, 53] [(48, 7), (48, 8)] m v.2 ∧ (∀ w, w < N → v.2.1 51 w = b2i (reA P N W f t w)) ∧ v.2.1 48 7 = nI (cn (cou P N W r t st mn f) k) ∧ ∀ w, w < k → cou P N W r t st mn f w = true → v.2.1 53 (cn (cou P N W r t st mn f) w) = nI w) (k0 := 0) ⟨rfl, f3, fun w hw => ?_, rd_I1 _ _ _ _, fun w hw => absurd hw (Nat.not_lt_zero _)⟩ (Nat.zero_le _) ?_
  · show (sI m2 48 7 0).1 51 w = _
    rw [rd_I0 (by omega)]; exact g2 w hw
  rintro k' ⟨x, m4⟩ - hk' ⟨e, f4, g4, c4, d4⟩
  have e : x = nI k' := e
  subst e
  have f4 : fl2 [51, 52, 53] [(48, 7), (48, 8)] m m4 := f4
  have g4 : ∀ w, w < N → m4.1 51 w = b2i (reA P N W f t w) := g4
  have c4 : m4.1 48 7 = nI (cn (cou P N W r t st mn f) k') := c4
  have d4 : ∀ w, w < k' → cou P N W r t st mn f w = true → m4.1 53 (cn (cou P N W r t st mn f) w) = nI w := d4
  have cl := cn_le (cou P N W r t st mn f) k'
  unfold f_Sight_look_B74 f_Sight_look_J120
  refine ok_le N k' (fun q3 => ok_zl ?_) (fun q3 => ok_ix rfl (by omega : k' < 600) (by decide) ?_) (hx := by rw [fl2_i f4 (by decide)]; exact hA.1.1.1)
  · unfold f_Sight_look_J126
    have ek : k' = N := by omega
    rw [ek] at c4 d4
    refine ok_lt (ok_mk ⟨fl2_tr f4 (fl2_I (inS_f (by simp))), rd_I1 _ _ _ _, ?_, fun w hw hc => ?_⟩)
    · rw [rd_I0 (by omega)]; exact c4
    · rw [rd_I0 (by omega)]; exact d4 w hw hc
  · have nx : cou P N W r t st mn f k' = false → ok (some (Sum.inr (nI k' + 1, m4))) (lp (fun p => fl2 [51, 52, 53] [(48, 7), (48, 8)] m p ∧ p.1 48 8 = nI f ∧ couX P N W r t st mn f p) (fun v : Int32 × zM => k' < N ∧ v.1 = nI (k' + 1) ∧ fl2 [51, 52, 53] [(48, 7), (48, 8)] m v.2 ∧ (∀ w, w < N → v.2.1 51 w = b2i (reA P N W f t w)) ∧ v.2.1 48 7 = nI (cn (cou P N W r t st mn f) (k' + 1)) ∧ ∀ w, w < k' + 1 → cou P N W r t st mn f w = true → v.2.1 53 (cn (cou P N W r t st mn f) w) = nI w)) := by
      intro hc
      refine ok_mk ⟨q3, nI_1 k', f4, g4, by rw [cn_s0 hc]; exact c4, fun w hw hc' => ?_⟩
      rcases Nat.lt_or_ge w k' with u | u
      · exact d4 w u hc'
      · rw [show w = k' by omega, hc] at hc'; cases hc'
    show ok (if m4.1 51 k' = 0 then _ else _) _
    rw [g4 k' q3]
    refine ok_it (fun z => nx (cBo_f (fun y => ?_))) (fun z => ok_bi (asSeenX hP hN (AXm_fl hA f4 (by decide)) (sigX_f hS f4 (by decide)) q3) (fun b hb => ok_it (fun y => ?_) (fun y => nx (cBo_f (fun u => y (hb.mpr u.2))))))
    · have z := b2i_f z
      rw [show reA P N W f t k' = true from cBo_t y.1] at z
      cases z
    · have hc : cou P N W r t st mn f k' = true := cBo_t ⟨cBo_iff.mp (b2i_t z), hb.mp y⟩
      refine ok_ix c4 (by omega) (by decide) (ok_lt (ok_lt (ok_mk ⟨q3, nI_1 k', fl2_tr f4 (fl2_tr (fl2_I (inS_c (by simp))) (fl2_I (inS_f (by simp)))), fun w hw => ?_, ?_, fun w hw hc' => ?_⟩)))
      · show (sI (sI m4 53 _ _) 48 7 _).1 51 w = _
        rw [rd_I0 (by omega), rd_I0 (by omega)]; exact g4 w hw
      · show (sI (sI m4 53 (cn (cou P N W r t st mn f) k') (nI k')) 48 7 ((sI m4 53 (cn (cou P N W r t st mn f) k') (nI k')).1 48 7 + 1)).1 48 7 = _
        rw [rd_I1, rd_I0 (by omega), c4, cn_s1 hc, nI_1]
      · show (sI (sI m4 53 (cn (cou P N W r t st mn f) k') (nI k')) 48 7 _).1 53 _ = _
        rw [rd_I0 (by omega)]
        rcases Nat.lt_or_ge w k' with u | u
        · have ne : ¬ cn (cou P N W r t st mn f) w = cn (cou P N W r t st mn f) k' := fun z => by have := cn_un hc' hc z; omega
          rw [rd_I0 (fun z => ne z.2)]; exact d4 w u hc'
        · rw [show w = k' by omega, rd_I1]
