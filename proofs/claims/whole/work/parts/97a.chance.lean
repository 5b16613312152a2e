theorem lq_m31 {n : Nat} (h : n < 2 ^ 63) : lN n &&& 2147483647 = lN (n % 2 ^ 31) := by
  apply Int64.toBitVec_inj.mp
  apply BitVec.eq_of_toNat_eq
  show ((lN n).toBitVec &&& (2147483647 : Int64).toBitVec).toNat = _
  rw [BitVec.toNat_and, lq_tn (n := n) (by omega), lq_tn (n := n % 2 ^ 31) (by omega), show ((2147483647 : Int64).toBitVec).toNat = 2 ^ 31 - 1 by decide]
  exact Nat.and_two_pow_sub_one_eq_mod n 31
theorem psb_n {P : Nat → Nat} {x c : Nat} (h : ¬ (c / 4 < P 8 ∧ c % 4 < P 3)) : psb P x c = false := by
  cases e : psb P x c with
  | false => rfl
  | true => exact absurd (psb_r e) h
theorem cn_psb4 {P : Nat → Nat} {x r : Nat} (h3 : P 3 ≤ 4) : cn (psb P x) (4 * r + P 3) = cn (psb P x) (4 * (r + 1)) := by
  have key : ∀ d, d ≤ 4 - P 3 → cn (psb P x) (4 * r + P 3 + d) = cn (psb P x) (4 * r + P 3) := by
    intro d
    induction d with
    | zero => exact fun _ => rfl
    | succ d ih =>
      intro hd
      rw [show 4 * r + P 3 + (d + 1) = (4 * r + P 3 + d) + 1 by omega, cn_s0 (psb_n (by omega)), ih (by omega)]
  have := key (4 - P 3) (Nat.le_refl _)
  rw [← this]
  congr 1
  omega
theorem cn_psbP {P : Nat → Nat} {x : Nat} (h8 : P 8 ≤ 16) : cn (psb P x) (4 * P 8) = cn (psb P x) 64 := by
  have key : ∀ d, cn (psb P x) (4 * P 8 + d) = cn (psb P x) (4 * P 8) := by
    intro d
    induction d with
    | zero => rfl
    | succ d ih => rw [show 4 * P 8 + (d + 1) = (4 * P 8 + d) + 1 by omega, cn_s0 (psb_n (by omega)), ih]
  rw [← key (64 - 4 * P 8)]
  congr 1
  omega
theorem choicesX {P : Nat → Nat} {b x : Nat} {m : zM} (hb : tbv b) (hP : tV P) (ht : tX b P m) (hx : kv (P 3) x) (hw : wX 55 (P 3) (dh (P 3) x) (da (P 3) x) m) : ok (f_Table_choices b 55 59 m) (fun p => fl2 [59, 60] [] m p.2 ∧ p.1 = nI (cn (psb P x) 64)) := by
  have p8 := hP.1.2.2.2.2.2.2.2.2.2.2.1
  have p3 := hP.1.2.1
  unfold f_Table_choices f_Table_choices_L5
  refine ok_for (P 8) (fun r (s : Int32 × Int32 × zM) => s.2.1 = nI r ∧ s.1 = nI (cn (psb P x) (4 * r)) ∧ fl2 [59, 60] [] m s.2.2) ⟨rfl, rfl, fl2_rf⟩ (Nat.zero_le _) ?_
  rintro r ⟨u, v, m1⟩ - hr ⟨e1, e2, f1⟩
  have e1 : v = nI r := e1
  have e2 : u = _ := e2
  subst e1
  subst e2
  have f1 : fl2 [59, 60] [] m m1 := f1
  have t1 := tX_fl hb ht f1 (by decide) p8
  unfold f_Table_choices_B5
  refine ok_le (P 8) r (fun q => ok_mk ⟨f1, ?_⟩) (fun q => ?_) (hx := t1.1.2.2.1)
  · show nI (cn (psb P x) (4 * r)) = _
    rw [show r = P 8 by omega, cn_psbP p8]
  · unfold f_Table_choices_L17
    refine ok_for (P 3) (fun a (s : Int32 × Int32 × zM) => s.2.1 = nI a ∧ s.1 = nI (cn (psb P x) (4 * r + a)) ∧ fl2 [59, 60] [] m s.2.2) ⟨rfl, rfl, f1⟩ (Nat.zero_le _) ?_
    rintro a ⟨u, v, m2⟩ - ha ⟨e1, e2, f2⟩
    have e1 : v = nI a := e1
    have e2 : u = _ := e2
    subst e1
    subst e2
    have f2 : fl2 [59, 60] [] m m2 := f2
    have t2 := tX_fl hb ht f2 (by decide) p8
    unfold f_Table_choices_B17
    refine ok_le (P 3) a (fun q' => ok_zl (ok_mk ⟨q, nI_1 r, ?_, f2⟩)) (fun q' => ?_) (hx := t2.1.1)
    · show nI (cn (psb P x) (4 * r + a)) = _
      rw [show a = P 3 by omega, cn_psb4 p3]
    · refine ok_bi (goP hb hP t2 hx (wX_fl hw f2 (by decide)) q q' (by decide) (by decide) (by decide) (by decide)) (fun p ⟨g1, g2, g3⟩ => ?_)
      cases em : sP P x (4 * r + a) with
      | none =>
        rw [g3 em]
        refine ok_in Bool.false_ne_true (ok_mk ⟨q', nI_1 a, ?_, fl2_tr f2 g1⟩)
        show nI (cn (psb P x) (4 * r + a)) + 0 = nI (cn (psb P x) (4 * r + a + 1))
        rw [cn_s0 (by unfold psb; rw [em]; rfl), Int32.add_zero]
      | some y =>
        rw [(g2 y em).1]
        refine ok_ip rfl (ok_mk ⟨q', nI_1 a, ?_, fl2_tr f2 g1⟩)
        show nI (cn (psb P x) (4 * r + a)) + 1 = nI (cn (psb P x) (4 * r + a + 1))
        rw [cn_s1 (by unfold psb; rw [em]; rfl), nI_1]
theorem chooseX {P : Nat → Nat} {b x e : Nat} {m : zM} (hb : tbv b) (hP : tV P) (ht : tX b P m) (hx : kv (P 3) x) (hw : wX 55 (P 3) (dh (P 3) x) (da (P 3) x) m) (he : e < cn (psb P x) 64) : ok (f_Table_choose b 55 (nI e) 59 m) (fun p => fl2 [59, 60] [] m p ∧ ∃ y, sP P x (cea P x e) = some y ∧ wX 59 (P 3) (dh (P 3) y) (da (P 3) y) p) := by
  have p8 := hP.1.2.2.2.2.2.2.2.2.2.2.1
  have p3 := hP.1.2.1
  have cl := cn_le (psb P x) 64
  unfold f_Table_choose f_Table_choose_L6
  refine ok_for (P 8) (fun r (s : Int32 × Int32 × zM) => s.2.1 = nI r ∧ (cn (psb P x) (4 * r) ≤ e ∧ s.1 = nI (e - cn (psb P x) (4 * r))) ∧ fl2 [59, 60] [] m s.2.2) ⟨rfl, ⟨Nat.zero_le _, rfl⟩, fl2_rf⟩ (Nat.zero_le _) ?_
  rintro r ⟨u, v, m1⟩ - hr ⟨e1, ⟨e0, e2⟩, f1⟩
  have e1 : v = nI r := e1
  have e2 : u = _ := e2
  subst e1
  subst e2
  have f1 : fl2 [59, 60] [] m m1 := f1
  have t1 := tX_fl hb ht f1 (by decide) p8
  unfold f_Table_choose_B6
  refine ok_le (P 8) r (fun q => ?_) (fun q => ?_) (hx := t1.1.2.2.1)
  · rw [show r = P 8 by omega, cn_psbP p8] at e0
    omega
  · unfold f_Table_choose_L18
    refine ok_for (P 3) (fun a (s : Int32 × Int32 × zM) => s.2.1 = nI a ∧ (cn (psb P x) (4 * r + a) ≤ e ∧ s.1 = nI (e - cn (psb P x) (4 * r + a))) ∧ fl2 [59, 60] [] m s.2.2) ⟨rfl, ⟨e0, rfl⟩, f1⟩ (Nat.zero_le _) ?_
    rintro a ⟨u, v, m2⟩ - ha ⟨e1, ⟨e0', e2⟩, f2⟩
    have e1 : v = nI a := e1
    have e2 : u = _ := e2
    subst e1
    subst e2
    have f2 : fl2 [59, 60] [] m m2 := f2
    have t2 := tX_fl hb ht f2 (by decide) p8
    unfold f_Table_choose_B18
    refine ok_le (P 3) a (fun q' => ok_zl (ok_mk ⟨q, nI_1 r, ?_, f2⟩)) (fun q' => ?_) (hx := t2.1.1)
    · show cn (psb P x) (4 * (r + 1)) ≤ e ∧ nI (e - cn (psb P x) (4 * r + a)) = nI (e - cn (psb P x) (4 * (r + 1)))
      rw [← cn_psb4 p3, show P 3 = a by omega]
      exact ⟨e0', rfl⟩
    · refine ok_bi (goP hb hP t2 hx (wX_fl hw f2 (by decide)) q q' (by decide) (by decide) (by decide) (by decide)) (fun p ⟨g1, g2, g3⟩ => ?_)
      cases em : sP P x (4 * r + a) with
      | none =>
        rw [g3 em]
        refine ok_in Bool.false_ne_true (ok_mk ⟨q', nI_1 a, ?_, fl2_tr f2 g1⟩)
        show cn (psb P x) (4 * r + a + 1) ≤ e ∧ nI (e - cn (psb P x) (4 * r + a)) = nI (e - cn (psb P x) (4 * r + a + 1))
        rw [cn_s0 (by unfold psb; rw [em]; rfl)]
        exact ⟨e0', rfl⟩
      | some y =>
        rw [(g2 y em).1]
        have ps : psb P x (4 * r + a) = true := by unfold psb; rw [em]; rfl
        refine ok_ip rfl (ok_ee (e - cn (psb P x) (4 * r + a)) 0 (fun z => ok_mk ?_) (fun z => ok_mk ⟨q', nI_1 a, ?_, fl2_tr f2 g1⟩))
        · show fl2 [59, 60] [] m p.2 ∧ _
          have ce := (cea_cn (show 4 * r + a < 64 by omega) ps).2
          rw [show cn (psb P x) (4 * r + a) = e by omega] at ce
          exact ⟨fl2_tr f2 g1, y, by rw [ce]; exact em, (g2 y em).2.2⟩
        · show cn (psb P x) (4 * r + a + 1) ≤ e ∧ nI (e - cn (psb P x) (4 * r + a)) + (-1) = nI (e - cn (psb P x) (4 * r + a + 1))
          rw [cn_s1 ps, nI_pm (by omega)]
          exact ⟨by omega, by rw [show e - cn (psb P x) (4 * r + a) - 1 = e - (cn (psb P x) (4 * r + a) + 1) by omega]⟩
/-- the reference: counts the moves of the walk, and takes one of them, if it is told which -/
theorem mowM {P : Nat → Nat} {x : Nat} {v1 : Int32} {m : zM} (hP : tV P) (ht : tM 23 P m) (hx : kv (P 3) x) (hm : m.2.1 0 72 = lN (km (P 3) x)) : ok (f_MO_movesOfWalk v1 m) (fun p => fl2 [25, 26] [(0, 36), (0, 38), (0, 72)] m p.2 ∧ p.1 = nI (cn (psb P x) 64) ∧ (v1 = -1 → p.2.2.1 0 72 = lN (km (P 3) x)) ∧ ∀ e y, e < cn (psb P x) 64 → v1 = nI e → sP P x (cea P x e) = some y → p.2.2.1 0 72 = lN (km (P 3) y)) := by
  have p8 := hP.1.2.2.2.2.2.2.2.2.2.2.1
  have p3 := hP.1.2.1
  have cl := cn_le (psb P x) 64
  unfold f_MO_movesOfWalk
  rw [hm]
  refine ok_bi (opensK hx) (fun p1 ⟨o1, o2⟩ => ?_)
  unfold f_MO_movesOfWalk_L12
  refine ok_for 64 (fun c (s : Int32 × Int32 × zM) => s.2.1 = nI c ∧ s.1 = nI (cn (psb P x) c) ∧ fl2 [26] [(0, 38), (0, 72)] p1 s.2.2 ∧ ((∀ e, e < cn (psb P x) c → v1 ≠ nI e) → s.2.2.2.1 0 72 = lN (km (P 3) x)) ∧ ∀ e y, e < cn (psb P x) c → v1 = nI e → sP P x (cea P x e) = some y → s.2.2.2.1 0 72 = lN (km (P 3) y)) (k0 := 0) ⟨rfl, rfl, fl2_rf, (fun _ => by rw [fl2_j o1 (by decide)]; exact hm), fun e y he => absurd he (Nat.not_lt_zero _)⟩ (Nat.zero_le _) ?_
  rintro c ⟨u, v, m2⟩ - hc ⟨e1, e2, f2, w1, w2⟩
  have e1 : v = nI c := e1
  have e2 : u = _ := e2
  subst e1
  subst e2
  have f2 : fl2 [26] [(0, 38), (0, 72)] p1 m2 := f2
  have w1 : (∀ e, e < cn (psb P x) c → v1 ≠ nI e) → m2.2.1 0 72 = lN (km (P 3) x) := w1
  have w2 : ∀ e y, e < cn (psb P x) c → v1 = nI e → sP P x (cea P x e) = some y → m2.2.1 0 72 = lN (km (P 3) y) := w2
  have t2 := tM_fl (tM_fl ht o1 (by decide)) f2 (by decide)
  have cc := cn_ms (p := psb P x) hc
  unfold f_MO_movesOfWalk_B12
  have e4 : nI c / 4 = nI (c / 4) := pk_div (d := 4) (by omega) (by decide) (by decide)
  have e5 : ir (nI c) 4 = nI (c % 4) := pk_rem (d := 4) (by omega) (by decide) (by decide)
  refine ok_le 64 c (fun q => ok_mk ⟨?_, ?_, fun z => w1 (fun e he ee => ?_), ?_⟩) (fun q => ?_)
  · exact fl2_tr (fl2_su o1 (by decide)) (fl2_su f2 (by decide))
  · show nI (cn (psb P x) c) = _
    rw [show c = 64 by omega]
  · rw [z] at ee; exact nI_ne_m1 (by omega) ee.symm
  · have c64 : c = 64 := by omega
    subst c64
    exact w2
  · have skip : psb P x c = false → ∀ m3 : zM, fl2 [26] [(0, 38), (0, 72)] p1 m3 → m3.2.1 0 72 = m2.2.1 0 72 → ok (f_MO_movesOfWalk_J70 v1 (nI (cn (psb P x) c)) (nI c) m3) (lp (fun p : Int32 × zM => fl2 [25, 26] [(0, 36), (0, 38), (0, 72)] m p.2 ∧ p.1 = nI (cn (psb P x) 64) ∧ (v1 = -1 → p.2.2.1 0 72 = lN (km (P 3) x)) ∧ ∀ e y, e < cn (psb P x) 64 → v1 = nI e → sP P x (cea P x e) = some y → p.2.2.1 0 72 = lN (km (P 3) y)) (fun s : Int32 × Int32 × zM => c < 64 ∧ s.2.1 = nI (c + 1) ∧ s.1 = nI (cn (psb P x) (c + 1)) ∧ fl2 [26] [(0, 38), (0, 72)] p1 s.2.2 ∧ ((∀ e, e < cn (psb P x) (c + 1) → v1 ≠ nI e) → s.2.2.2.1 0 72 = lN (km (P 3) x)) ∧ ∀ e y, e < cn (psb P x) (c + 1) → v1 = nI e → sP P x (cea P x e) = some y → s.2.2.2.1 0 72 = lN (km (P 3) y))) := by
      intro ps m3 f3 e3
      unfold f_MO_movesOfWalk_J70
      refine ok_mk ⟨q, nI_1 c, ?_, f3, ?_, ?_⟩
      · show _ = nI (cn (psb P x) (c + 1))
        rw [cn_s0 ps]
      · show _ → m3.2.1 0 72 = _
        rw [cn_s0 ps, e3]; exact w1
      · show ∀ e y, _ → _ → _ → m3.2.1 0 72 = _
        rw [cn_s0 ps, e3]; exact w2
    refine ok_eb (rulesM t2) (ok_le (P 8) (c / 4) (fun z => skip (psb_n (by omega)) m2 f2 rfl) (fun z => ?_) (hy := e4))
    refine ok_eb (agM (tM_n t2 (k := 3) (by decide) (by decide))) (ok_le (P 3) (c % 4) (fun z' => skip (psb_n (by omega)) m2 f2 rfl) (fun z' => ?_) (hy := e5))
    rw [e4, e5]
    have wo : wM (P 3) (dh (P 3) x) (da (P 3) x) m2 := by
      unfold wM
      rw [fl2_i f2 (by decide), fl2_ic f2 (fun j => by simp [inS])]
      exact o2
    refine ok_bi (movedK hP t2 hx wo z z') (fun p4 ⟨g1, g2, g3⟩ => ?_)
    rw [show 4 * (c / 4) + c % 4 = c by omega] at g2 g3
    have f4 : fl2 [26] [(0, 38), (0, 72)] p1 p4.2 := fl2_tr f2 (fl2_su g1 (by decide))
    have e72 : p4.2.2.1 0 72 = m2.2.1 0 72 := fl2_j g1 (by decide)
    cases em : sP P x c with
    | none =>
      rw [g3 em]
      exact ok_in Bool.false_ne_true (skip (by unfold psb; rw [em]; rfl) p4.2 f4 e72)
    | some y =>
      obtain ⟨y1, y2, y3⟩ := g2 y em
      have ps : psb P x c = true := by unfold psb; rw [em]; rfl
      have ce := cea_cn q ps
      rw [y1]
      refine ok_ip rfl (ok_it (fun ev => ?_) (fun ev => ?_))
      · refine ok_eb (shutK y3 y2) (ok_lt ?_)
        unfold f_MO_movesOfWalk_J67 f_MO_movesOfWalk_J70
        refine ok_mk ⟨q, nI_1 c, ?_, fl2_tr f4 (fl2_J (inS_f (by simp))), fun w => ?_, fun e y' he ee ey => ?_⟩
        · show nI (cn (psb P x) c) + 1 = nI (cn (psb P x) (c + 1))
          rw [cn_s1 ps, nI_1]
        · exact absurd ev.symm (w (cn (psb P x) c) (by rw [cn_s1 ps]; omega))
        · show (sJ p4.2 0 72 _).2.1 0 72 = _
          rw [rd_J1]
          have : e = cn (psb P x) c := (nI_eq (by rw [cn_s1 ps] at he; omega) (by omega)).mp (ee.symm.trans ev.symm)
          rw [this, ce.2, em] at ey
          cases ey
          rfl
      · unfold f_MO_movesOfWalk_J67 f_MO_movesOfWalk_J70
        refine ok_mk ⟨q, nI_1 c, ?_, f4, fun w => ?_, fun e y' he ee ey => ?_⟩
        · show nI (cn (psb P x) c) + 1 = nI (cn (psb P x) (c + 1))
          rw [cn_s1 ps, nI_1]
        · show p4.2.2.1 0 72 = _
          rw [e72]
          exact w1 (fun e he => w e (by rw [cn_s1 ps]; omega))
        · show p4.2.2.1 0 72 = _
          rw [e72]
          rw [cn_s1 ps] at he
          refine w2 e y' ?_ ee ey
          rcases Nat.lt_or_ge e (cn (psb P x) c) with l | l
          · exact l
          · refine absurd ?_ ev
            show nI (cn (psb P x) c) = v1
            rw [ee, show e = cn (psb P x) c by omega]
