/-- the walk has gone on -/
theorem IvWk {P : Nat → Nat} {N : Nat} {W D pr sp : Nat → Nat} {b : Nat} {mx mm p mx' p' : zM} {S S' : List Nat} {F F' : List (Nat × Nat)} (hq : Qy P N W D pr sp b mx mm p) (hf : fl2 S F mx mx') (hf' : fl2 S' F' p p') (hc : CoR mx' p') (hw : WaR P N W mx' p') (ho : offT S F = true) (hk : kps [26, 27, 28, 29, 30, 31, 32, 33, 34, 35, 36, 37] [(24, 0), (24, 1)] S F = true) (hk2 : kps [117, 118, 119, 120] [(116, 3)] S F = true) (hk3 : kps [122, 123] [] S F = true) (hk4 : kps [127, 128] [(0, 13)] S F = true) (k6 : kps [49, 50, 53] [(48, 2), (48, 3), (48, 7), (48, 8)] S F = true) (m0 : kps [23] [] S' F' = true) (m1 : kps [27, 28, 29] [(0, 41)] S' F' = true) (m2 : kps [30] [] S' F' = true) (m3 : kps [32, 35, 36] [] S' F' = true) (m4 : kps [] [(0, 40), (0, 46)] S' F' = true) (m6 : kps [53] [(0, 77), (0, 78)] S' F' = true) (m7 : kps [] [(0, 33)] S' F' = true) : IvW mx' p' := by
  obtain ⟨_, ⟨h1, h2, h3, h4⟩, z2, z3, z4⟩ := hq
  refine ⟨hc, Or.inr ⟨P, N, W, D, pr, sp, b, TdX_f h1 hf ho hk hk2 hk3 hk4, ⟨?_, tM_fl z3 hf' m0, MaK_c (MaK_fl z4 hf' m1 m2 m3 m4) h1.1.2.2.2.2.1 h1.1.2.2.2.2.2.1⟩, hw, SiR_m (SiR_m (SiR_x h4 hf k6) z2 (by decide)) hf' m6⟩⟩
  rw [fl2_i hf' (kps_g m7 (by simp)), fl2_i z2 (by decide)]; exact h2.1
theorem Qy_c {P : Nat → Nat} {N : Nat} {W D pr sp : Nat → Nat} {b : Nat} {mx mm p : zM} (hq : Qy P N W D pr sp b mx mm p) : CoR mx p := CoR_m hq.1 hq.2.2.1 (by decide)
theorem Qy_t {P : Nat → Nat} {N : Nat} {W D pr sp : Nat → Nat} {b : Nat} {mx mm p : zM} (hq : Qy P N W D pr sp b mx mm p) : WaR P N W mx p := WaR_m hq.2.1.2.2.1 hq.2.2.1 (by decide)
def WXs : List Nat := [55, 56, 57, 58, 59, 60, 63]
def WMs : List Nat := [25, 26, 52]
def WMf : List (Nat × Nat) := [(0, 36), (0, 38), (0, 72), (0, 74), (0, 75)]
theorem IvWz {P : Nat → Nat} {N : Nat} {W D pr sp : Nat → Nat} {b : Nat} {mx mm p mx' p' : zM} (hq : Qy P N W D pr sp b mx mm p) (hf : fl2 WXs [(0, 14)] mx mx') (hf' : fl2 WMs WMf p p') (hw : WaR P N W mx' p') : IvW mx' p' :=
  IvWk hq hf hf' (CoR_x (CoR_m (Qy_c hq) hf' (by decide)) hf (by decide)) hw (by decide) (by decide) (by decide) (by decide) (by decide) (by decide) (by decide) (by decide) (by decide) (by decide) (by decide) (by decide) (by decide)
theorem TrR_f {P : Nat → Nat} {N : Nat} {W : Nat → Nat} {mx mm mx' mm' : zM} {S S' : List Nat} {F F' : List (Nat × Nat)} (h : TrR P N W mx mm) (hf : fl2 S F mx mx') (hf' : fl2 S' F' mm mm') (k1 : kps [63] [(0, 14)] S F = true) (k2 : kps [52] [(0, 74), (0, 75)] S' F' = true) : TrR P N W mx' mm' := by
  unfold TrR
  rw [show mx'.1 0 14 = mx.1 0 14 from fl2_i hf (kps_g k1 (by simp)), show mx'.2.1 63 = mx.2.1 63 from fl2_jc hf (kps_c k1 (by simp)), show mm'.1 0 74 = mm.1 0 74 from fl2_i hf' (kps_g k2 (by simp)), show mm'.1 0 75 = mm.1 0 75 from fl2_i hf' (kps_g k2 (by simp)), show mm'.2.1 52 = mm.2.1 52 from fl2_jc hf' (kps_c k2 (by simp))]
  exact h
theorem c_jump {a1 : Int32} {mx mm : zM} (h : IvW mx mm) : Alk ((f_PA_jump a1 mx).bind fun p => some (b2i p.1, p.2)) ((f_MO_jump a1 mm).bind fun p => some (b2i p.1, p.2)) := by
  refine Alk_bb ?_
  unfold f_PA_jump f_MO_jump
  obtain ⟨hc, hn | ⟨P, N, W, D, pr, sp, b, ht⟩⟩ := id h
  · rw [ntX hn, ntW hn]
    exact refBB (i := 2) (by decide) rfl rfl h
  · obtain ⟨p, ep, z1, z2, z3, z4⟩ := wldT (x := a1) ht
    have hq : Qy P N W D pr sp b mx mm p.2 := ⟨hc, ht, z2, z3, z4⟩
    obtain ⟨⟨h1, h2, h3, h4, h5, h6, h7⟩, r0, g1, g2, g3, g4, g5⟩ := ht.1
    rw [ep]
    by_cases c : f_PA_isWorld a1 mx = true
    · obtain ⟨i, hi, e⟩ := (wldX ht).mp c
      subst e
      rw [if_pos c]
      obtain ⟨⟨x, rx, wx, wm⟩, tr⟩ := Qy_t hq
      refine ok_bi (remX rx wx wm tr) (fun px ⟨f1, hk⟩ => ?_)
      have A1 := AXm_fl g3 f1 (by decide)
      have T1 := tX_fl r0.1 g2 f1 (by decide) h1.1.2.2.2.2.2.2.2.2.2.2.1
      have hkv := (W_kv h1 h4 hi).1
      have hl := loadX (w := 55) (m := px) (kv_w hkv)
      rw [ky_d] at hl
      refine ok_ix rfl (by omega : i < 600) (by decide) (ok_eb (tb_ok (b := b) (by rw [f1.2]; exact r0.2.1) r0.1) ?_)
      rw [(A1.1.2.1 i hi).1, T1.1.1]
      refine ok_bi hl (fun p4 ⟨l1, l2⟩ => ok_mk ?_)
      show ok (if p.1 = true then _ else _) _
      refine ok_ip (z1.mpr ⟨i, hi, rfl⟩) (ok_bi hk (fun pm ⟨f2, t2⟩ => ok_ix rfl (by omega : i < 608) (by decide) (ok_lt (ok_mk ⟨rfl, ?_⟩))))
      have L1 := (LMx_fl z4.2.1 f2 (by decide) (by decide)).2.2.2.1.2.1 i hi
      have f3 : fl2 [] [(0, 72)] pm (sJ pm 0 72 (pm.2.1 27 i)) := fl2_J (inS_f (by simp))
      refine IvWz hq (fl2_tr (fl2_su f1 (by decide)) (fl2_su l1 (by decide))) (fl2_tr (fl2_su f2 (by decide)) (fl2_su f3 (by decide))) ⟨⟨W i, ⟨hkv, i, hi, (W_kv h1 h4 hi).2.symm⟩, l2, ?_⟩, TrR_f t2 l1 f3 (by decide) (by decide)⟩
      rw [rd_J1, L1.1]
    · rw [if_neg c]
      have z : ¬ p.1 = true := fun y => c ((wldX ht).mpr (z1.mp y))
      refine ok_mo (refBB (i := 2) (v := 2) (w := 2) (by decide) rfl rfl (Qy_i hq)) (fun r hr => ?_)
      show ok (if p.1 = true then _ else _) _
      exact ok_in z hr
theorem c_undo {mx mm : zM} (h : IvW mx mm) : Alk ((f_PA_undo mx).bind fun p => some (b2i p.1, p.2)) ((f_MO_undo mm).bind fun p => some (b2i p.1, p.2)) := by
  refine Alk_bb ?_
  unfold f_PA_undo f_MO_undo f_PA_undo_J14
  have no := refBB (i := 4) (v := 4) (w := 4) (by decide) rfl rfl h
  obtain ⟨hc, hn | ⟨P, N, W, D, pr, sp, b, ht⟩⟩ := id h
  · rw [if_pos hn.1, if_pos hn.2.2.1]
    exact no
  · obtain ⟨⟨h1, h2, h3, h4, h5, h6, h7⟩, r0, g1, g2, g3, g4, g5⟩ := ht.1
    obtain ⟨⟨x, rx, wx, wm⟩, k, q, tr, hk, hq, e1, e2, e3, hT⟩ := ht.2.2.1
    rw [if_neg (by rw [g1]; decide), e1, e2]
    by_cases c : k = 0
    · subst c
      rw [if_pos (show nI 0 = 0 from rfl), if_pos (show nI 0 = 0 from rfl)]
      exact no
    · have ck : ¬ nI k = 0 := fun z => c ((nI_eq (a := k) (b := 0) (by omega) (by decide)).mp z)
      rw [if_neg ck, if_neg ck]
      obtain ⟨t1, t2, t3⟩ := hT (k - 1) (by omega)
      rw [show (q + 20 - (k - 1 - (k - 1))) % 20 = q by omega] at t3
      have ek : nI k - 1 = nI (k - 1) := nI_pr (by omega)
      have s1 : fl2 [] [(0, 14)] mx (sI mx 0 14 (nI k - 1)) := fl2_I (inS_f (by simp))
      have T1 := tX_fl r0.1 g2 s1 (by decide) h1.1.2.2.2.2.2.2.2.2.2.2.1
      have hl := loadX (w := 55) (m := sI mx 0 14 (nI k - 1)) (kv_w t1.1)
      rw [ky_d] at hl
      refine ok_lt (ok_ix (i := k - 1) (by rw [rd_I1]; exact ek) (by omega) (by decide) (ok_eb (tb_ok (b := b) r0.2.1 r0.1) ?_))
      rw [T1.1.1, rd_IJ, t2]
      refine ok_bi hl (fun p4 ⟨l1, l2⟩ => ok_mk ?_)
      rw [e3]
      refine ok_ix rfl hq (by decide) (ok_lt (ok_lt (ok_lt (ok_mk ⟨rfl, ?_⟩))))
      rw [t3]
      have er : ir (nI q + 20 - 1) 20 = nI ((q + 19) % 20) := by
        rw [show (20 : Int32) = nI 20 from rfl, nI_add, nI_pr (by omega), show q + 20 - 1 = q + 19 by omega]
        exact pk_rem (d := 20) (by omega) (by decide) (by decide)
      rw [show (sJ mm 0 72 (lN (km (P 3) (tr (k - 1))))).1 0 75 = nI q from e3, er]
      rw [show (sI (sJ mm 0 72 (lN (km (P 3) (tr (k - 1))))) 0 75 (nI ((q + 19) % 20))).1 0 74 = nI k by rw [rd_I0 (by omega)]; exact e2, ek]
      have fm : fl2 [] [(0, 72), (0, 74), (0, 75)] mm (sI (sI (sJ mm 0 72 (lN (km (P 3) (tr (k - 1))))) 0 75 (nI ((q + 19) % 20))) 0 74 (nI (k - 1))) := fl2_tr (fl2_J (inS_f (by simp))) (fl2_tr (fl2_I (inS_f (by simp))) (fl2_I (inS_f (by simp))))
      have fx : fl2 [55, 56] [(0, 14)] mx p4 := fl2_tr (fl2_su s1 (by decide)) (fl2_su l1 (by decide))
      refine ⟨CoR_x (CoR_m hc fm (by decide)) fx (by decide), Or.inr ⟨P, N, W, D, pr, sp, b, TdX_f ht.1 fx (by decide) (by decide) (by decide) (by decide) (by decide), ⟨by rw [fl2_i fm (by decide)]; exact ht.2.1.1, tM_fl ht.2.1.2.1 fm (by decide), MCa_fl ht.2.1.2.2 fm (by decide) (by decide) (by decide) (by decide)⟩, ⟨⟨tr (k - 1), t1, l2, ?_⟩, k - 1, (q + 19) % 20, tr, by omega, Nat.mod_lt _ (by decide), ?_, ?_, ?_, fun i hi => ?_⟩, SiR_m (SiR_x ht.2.2.2 fx (by decide)) fm (by decide)⟩⟩
      · rw [rd_IJ, rd_IJ, rd_J1]
      · rw [fl2_i l1 (by decide), rd_I1]; exact ek
      · rw [rd_I1]
      · rw [rd_I0 (by omega), rd_I1]
      · obtain ⟨u1, u2, u3⟩ := hT i (by omega)
        refine ⟨u1, ?_, ?_⟩
        · rw [fl2_j l1 (by simp [inS]), rd_IJ]; exact u2
        · rw [rd_IJ, rd_IJ, rd_J0 (by omega), ← u3, show ((q + 19) % 20 + 20 - (k - 1 - 1 - i)) % 20 = (q + 20 - (k - 1 - i)) % 20 by omega]
theorem c_move {a1 a2 : Int32} {mx mm : zM} (h : IvW mx mm) : Alk (f_PA_move a1 a2 mx) (f_MO_move a1 a2 mm) := by
  unfold f_PA_move f_MO_move f_PA_move_J36 f_MO_can
  obtain ⟨hc, hn | ⟨P, N, W, D, pr, sp, b, ht⟩⟩ := id h
  · unfold f_PA_isRule
    rw [if_pos hn.1, ntA hn]
    exact refNN (i := 2) (by decide) rfl rfl h
  · obtain ⟨p, ep, z1, z2, z3, z4⟩ := askT ht
    obtain ⟨⟨h1, h2, h3, h4, h5, h6, h7⟩, r0, g1, g2, g3, g4, g5⟩ := ht.1
    have hq : Qy P N W D pr sp b mx mm p.2 := ⟨hc, ht, z2, z3, z4⟩
    rw [ep]
    have no : (¬ ((∃ k, k < P 8 ∧ a1 = nI k) ∧ ∃ k, k < P 3 ∧ a2 = nI k)) → ok ((f_PA_refuse 2 mx).bind fun p8 => some (p8.1, p8.2)) (fun pp => ok (((some p).bind fun p1 => if p1.1 = true then (f_MO_isMove a1 a2 p1.2).bind fun r2 => if r2 = true then (f_MO_opens (p1.2.2.1 0 72) p1.2).bind fun p3 => (f_MO_isMoved a1 a2 p3).bind fun p4 => if p4.1 = true then some ((1 : Int32), p4.2) else some (0, p4.2) else some (-1, p1.2) else some (-1, p1.2)).bind fun p1 => if p1.1 = 1 then (f_MO_keeps p1.2).bind fun p2 => (f_MO_shut p2).bind fun r3 => lt (sJ p2 0 72 r3) fun m4 => (f_MO_foldedOf (m4.2.1 0 72) m4).bind fun p5 => some (p5.1, p5.2) else (f_MO_refuses 2 p1.2).bind fun p6 => some (p6.1, p6.2)) (fun q => pp.1 = q.1 ∧ IvW pp.2 q.2)) := by
      intro z
      refine ok_mo (refNN (i := 2) (v := 2) (w := 2) (by decide) rfl rfl (Qy_i hq)) (fun pp hp => ok_bi (G := fun s => s = ((-1 : Int32), p.2)) ?_ (fun s es => ?_))
      · exact ok_ip z1 (ok_bi (isMvM h1 z3) (fun s hs => ok_in (fun y => z (hs.mp y)) (ok_mk rfl)))
      · rw [es]
        exact ok_in (show ¬ (-1 : Int32) = 1 by decide) hp
    refine ok_bi (isRuT ht.1) (fun r hr => ok_it (fun q1 => ok_bi (isAgT ht.1) (fun r' hr' => ok_it (fun q2 => ?_) (fun q2 => no (fun z => q2 (hr'.mpr z.2))))) (fun q1 => no (fun z => q1 (hr.mpr z.1))))
    obtain ⟨i, hi, e2⟩ := hr.mp q1
    obtain ⟨j, hj, e3⟩ := hr'.mp q2
    subst e2 e3
    obtain ⟨⟨x, rx, wx, wm⟩, tr⟩ := Qy_t hq
    have p3 := h1.1.2.1
    refine ok_eb (tb_ok r0.2.1 r0.1) (ok_bi (goP r0.1 h1 g2 rx.1 wx hi hj (by decide) (by decide) (by decide) (by decide)) (fun px ⟨gx1, gx2, gx3⟩ => ?_))
    obtain ⟨s, es, hs⟩ := isMvM (x := nI i) (y := nI j) h1 z3
    obtain ⟨po, eo, o1, o2⟩ := opensK (m := p.2) rx.1
    obtain ⟨pv, ev, v1, v2, v3⟩ := movedK h1 (tM_fl z3 o1 (by decide)) rx.1 o2 hi hj
    have eC : ((some p).bind fun p1 => if p1.1 = true then (f_MO_isMove (nI i) (nI j) p1.2).bind fun r2 => if r2 = true then (f_MO_opens (p1.2.2.1 0 72) p1.2).bind fun p3 => (f_MO_isMoved (nI i) (nI j) p3).bind fun p4 => if p4.1 = true then some ((1 : Int32), p4.2) else some (0, p4.2) else some (-1, p1.2) else some (-1, p1.2)) = if pv.1 = true then some ((1 : Int32), pv.2) else some (0, pv.2) := by
      rw [Option.bind_some, if_pos z1, es, Option.bind_some, if_pos (hs.mpr ⟨⟨i, hi, rfl⟩, j, hj, rfl⟩), wm, eo, Option.bind_some, ev, Option.bind_some]
    rw [eC]
    have fv : fl2 [25, 26] [(0, 36), (0, 38)] p.2 pv.2 := fl2_tr (fl2_su o1 (by decide)) (fl2_su v1 (by decide))
    cases em : sP P x (4 * i + j) with
    | none =>
      rw [gx3 em, v3 em, if_neg Bool.false_ne_true, if_neg Bool.false_ne_true]
      refine ok_mo (refNN (i := 2) (v := 2) (w := 2) (by decide) rfl rfl (IvW_x (Qy_s hq fv (by decide) (by decide) (by decide) (by decide) (by decide)) gx1 (by decide) (by decide) (by decide) (by decide) (by decide) (by decide) (by decide) (by decide))) (fun pp hp => ?_)
      exact ok_eb rfl (ok_in (show ¬ (0 : Int32) = 1 by decide) hp)
    | some y =>
      obtain ⟨y1, y2, y3⟩ := gx2 y em
      obtain ⟨w1, _, w3⟩ := v2 y em
      have ry := rchd_s h1 h4 rx em
      rw [y1, w1, if_pos rfl, if_pos rfl]
      refine ok_bi (remX (mm := pv.2) rx (wX_fl wx gx1 (by decide)) (by rw [fl2_j fv (by decide)]; exact wm) (TrR_f tr gx1 fv (by decide) (by decide))) (fun p5 ⟨f5, hk⟩ => ?_)
      refine ok_bi (copyX (w := 55) (wX_fl y3 f5 (by decide)) (by omega) (by decide) (by decide) (by decide)) (fun p6 ⟨f6, w6⟩ => ?_)
      have fx : fl2 [55, 56, 59, 60, 63] [(0, 14)] mx p6 := fl2_tr (fl2_su gx1 (by decide)) (fl2_tr (fl2_su f5 (by decide)) (fl2_su f6 (by decide)))
      refine ok_bi (numX h1 h4 h3 (AXm_fl g3 fx (by decide)) ry w6 (by decide) (by decide)) (fun p7 ⟨f7, k, k1, k2, k3⟩ => ok_mk ?_)
      refine ok_eb rfl (ok_ip rfl (ok_bi hk (fun pm ⟨fm, tm⟩ => ?_)))
      have w4 : wT (P 3) (dh (P 3) y) (da (P 3) y) pm := by
        unfold wT
        rw [fl2_i fm (by decide), fl2_ic fm (fun j => by simp [inS])]
        exact w3
      refine ok_eb (shutK w4 y2) (ok_lt ?_)
      have f8 : fl2 [] [(0, 72)] pm (sJ pm 0 72 (lN (km (P 3) y))) := fl2_J (inS_f (by simp))
      have fa : fl2 WMs WMf p.2 (sJ pm 0 72 (lN (km (P 3) y))) := fl2_tr (fl2_su fv (by decide)) (fl2_tr (fl2_su fm (by decide)) (fl2_su f8 (by decide)))
      rw [rd_J1]
      refine ok_bi (foldedOfM h1 (tM_fl z3 fa (by decide)) (LMx_fl z4.2.1 fa (by decide) (by decide)) y2) (fun pf ⟨ff, hh⟩ => ok_mk ⟨?_, ?_⟩)
      · rcases hh with ⟨l, l1, l2, l3⟩ | ⟨l1, _⟩
        · show p7.1 = pf.1
          rw [k3, l3, Lst_in h4 k1 l1 (k2.trans l2.symm)]
        · exact absurd k2 (l1 k k1)
      · refine IvWz hq (fl2_tr (fl2_su fx (by decide)) (fl2_su f7 (by decide))) (fl2_tr fa (fl2_su ff (by decide))) ⟨⟨y, ry, wX_fl w6 f7 (by decide), ?_⟩, ?_⟩
        · rw [fl2_j ff (by decide), rd_J1]
        · exact TrR_f (TrR_f (TrR_f tm f6 f8 (by decide) (by decide)) f7 ff (by decide) (by decide)) fl2_rf fl2_rf (S := []) (F := []) (S' := []) (F' := []) (by decide) (by decide)
