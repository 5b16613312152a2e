theorem nodeOfM {P : Nat → Nat} {w N i a : Nat} {W D : Nat → Nat} {m : zM} (hP : tV P) (ht : tM 23 P m) (hL : LMx P w N W D m) (hi : i < N) (ha : a < P 3) : ok (f_MO_nodeOf (nI i) (nI a) m) (fun p => fl2 [25] [(0, 36)] m p.2 ∧ p.1 = nI (fln P W (4 * i + a))) := by
  obtain ⟨l1, l2, l3, l4, l5⟩ := id hL
  have n4 := hP.1.2.1
  obtain ⟨kw, fw⟩ := Rn_kv hP (l3.1 i hi).1
  unfold f_MO_nodeOf
  refine ok_ix rfl (show i < 608 by omega) (by decide) ?_
  rw [(l4.2.1 i hi).1]
  refine ok_bi (opensK kw) (fun p2 ⟨o1, o2⟩ => ?_)
  refine ok_ix rfl (show a < 4 by omega) (by decide) ?_
  rw [wM_a o2 ha n4]
  have mo := fo_mo kw
  rw [fw] at mo
  refine ok_eb (likeM (c := 25) (n := P 3) (j := a) (a := da (P 3) (W i)) (m := p2) (Or.inl rfl) n4 ha (fun i _ => da_lt _ _ _) (fun i hi => wM_a o2 hi n4) mo) (ok_mk ⟨o1, ?_⟩)
  show (4 : Int32) * nI i + nI _ = _
  rw [show (4 : Int32) = nI 4 from rfl, pk_mul, nI_add]
  unfold fln
  rw [show (4 * i + a) / 4 = i by omega, show (4 * i + a) % 4 = a by omega]
theorem wantM {P : Nat → Nat} {w N i a : Nat} {W D : Nat → Nat} {m : zM} (hP : tV P) (ht : tM 23 P m) (hL : LMx P w N W D m) (hK : LKm P w N W m) (hi : i < N) (ha : a < P 3) : ok (f_MO_isStarving (nI i) (nI a) m) (fun p => fl2 [25] [(0, 36)] m p.2 ∧ p.1 = stvB P w N W (4 * i + a)) ∧ ok (f_MO_isLeftOut (nI i) (nI a) m) (fun p => fl2 [25] [(0, 36)] m p.2 ∧ p.1 = cBo (P 6 ≠ 0 ∧ instA P W (4 * i + a) (P 6 - 1) = true ∧ lefoQ P w N W (fln P W (4 * i + a)))) := by
  have n4 := hP.1.2.1
  have b6 : P 6 ≤ 6 := hP.1.2.2.2.2.2.2.2.2.1
  have i67 := hP.1.2.2.2.2.2.2.2.2.2.2.2
  have e1 : (4 * i + a) / 4 = i := by omega
  have e2 : (4 * i + a) % 4 = a := by omega
  obtain ⟨f1, f2, f3⟩ := fln_n (P := P) (W := W) (v := 4 * i + a) n4 (by omega)
  have fb : fln P W (4 * i + a) < 4 * N := by have := nod_a f3; omega
  have lk : lkd P W (fln P W (4 * i + a)) = oS (da (P 3) (W i) a) + 1 := by
    unfold lkd
    rw [if_pos f3, f1, f2, e1, e2, (lkf_id (da (P 3) (W i)) a).1]
  have ib : instA P W (4 * i + a) (P 6 - 1) = true ↔ oS (da (P 3) (W i) a) = P 6 - 1 := by
    rw [instA_iff, e1, e2]
    exact ⟨fun z => z.2, fun z => ⟨ha, z⟩⟩
  have ob := oS_lt (da_lt (P 3) (W i) a)
  constructor
  · unfold f_MO_isStarving
    refine ok_ix (show (6 : Int32) = nI 6 from rfl) (by decide) (by decide) ?_
    refine ok_mm (P 6) (fun q => ok_mk ⟨fl2_rf, ?_⟩) (fun q => ?_) (hx := tM_o ht (by decide) (by decide))
    · show false = _
      unfold stvB
      rw [cBo_f (fun z => z.1 q)]
    · have h7 : P 7 ≠ 0 := fun z => by have := i67.mpr z; omega
      refine ok_bi (nodeOfM hP ht hL hi ha) (fun p2 ⟨g1, g2⟩ => ?_)
      rw [g2]
      refine ok_ix rfl (show fln P W (4 * i + a) < 2432 by have := hL.2.1; omega) (by decide) (ok_ix (show (6 : Int32) = nI 6 from rfl) (by decide) (by decide) ?_)
      rw [show p2.2.1 32 (fln P W (4 * i + a)) = nI (lkd P W (fln P W (4 * i + a))) - 1 by rw [fl2_i g1 (by simp [inS])]; exact hK.1 _ fb, show p2.2.1 23 6 = nI (P 6) - 1 from tM_o (tM_fl ht g1 (by decide)) (by decide) (by decide), lk]
      refine ok_it (fun z => ?_) (fun z => ok_mk ⟨g1, ?_⟩)
      · have z := (sd_eq (by omega) (by omega)).mp z
        refine ok_ix rfl (show fln P W (4 * i + a) < 2432 by have := hL.2.1; omega) (by decide) ?_
        rw [show p2.2.1 35 (fln P W (4 * i + a)) = b2i (cBo (hopeP P w N W (fln P W (4 * i + a)))) by rw [fl2_i g1 (by simp [inS])]; exact (hK.2 _ fb f3).1 h7]
        refine ok_it (fun y => ok_mk ⟨g1, cBo_of ⟨fun _ => ⟨by omega, ib.mpr (by omega), fun t => ?_⟩, fun _ => rfl⟩⟩) (fun y => ok_mk ⟨g1, cBo_of ⟨fun t => (by cases t), fun t => ?_⟩⟩)
        · have := b2i_0.mp y
          rw [cBo_t t] at this; cases this
        · exact absurd (by rw [cBo_f t.2.2]; rfl) y
      · refine cBo_of ⟨fun t => (by cases t), fun t => absurd ?_ z⟩
        have := ib.mp t.2.1
        rw [show oS (da (P 3) (W i) a) + 1 = P 6 by omega]
  · unfold f_MO_isLeftOut
    refine ok_ix (show (6 : Int32) = nI 6 from rfl) (by decide) (by decide) ?_
    refine ok_mm (P 6) (fun q => ok_mk ⟨fl2_rf, ?_⟩) (fun q => ?_) (hx := tM_o ht (by decide) (by decide))
    · show false = _
      rw [cBo_f (fun z => z.1 q)]
    · refine ok_bi (nodeOfM hP ht hL hi ha) (fun p2 ⟨g1, g2⟩ => ?_)
      rw [g2]
      refine ok_ix rfl (show fln P W (4 * i + a) < 2432 by have := hL.2.1; omega) (by decide) (ok_ix (show (6 : Int32) = nI 6 from rfl) (by decide) (by decide) ?_)
      rw [show p2.2.1 32 (fln P W (4 * i + a)) = nI (lkd P W (fln P W (4 * i + a))) - 1 by rw [fl2_i g1 (by simp [inS])]; exact hK.1 _ fb, show p2.2.1 23 6 = nI (P 6) - 1 from tM_o (tM_fl ht g1 (by decide)) (by decide) (by decide), lk]
      refine ok_it (fun z => ?_) (fun z => ok_mk ⟨g1, ?_⟩)
      · have z := (sd_eq (by omega) (by omega)).mp z
        refine ok_ix rfl (show fln P W (4 * i + a) < 2432 by have := hL.2.1; omega) (by decide) ?_
        rw [show p2.2.1 36 (fln P W (4 * i + a)) = b2i (cBo (lefoQ P w N W (fln P W (4 * i + a)))) by rw [fl2_i g1 (by simp [inS])]; exact (hK.2 _ fb f3).2]
        refine ok_it (fun y => ok_mk ⟨g1, cBo_of ⟨fun t => (by cases t), fun t => ?_⟩⟩) (fun y => ok_mk ⟨g1, cBo_of ⟨fun _ => ⟨by omega, ib.mpr (by omega), ?_⟩, fun _ => rfl⟩⟩)
        · have := b2i_0.mp y
          rw [cBo_t t.2.2] at this; cases this
        · cases e : cBo (lefoQ P w N W (fln P W (4 * i + a))) with
          | true => exact cBo_iff.mp e
          | false => rw [e] at y; exact absurd rfl y
      · refine cBo_of ⟨fun t => (by cases t), fun t => absurd ?_ z⟩
        have := ib.mp t.2.1
        rw [show oS (da (P 3) (W i) a) + 1 = P 6 by omega]
/-- who starves (0), who is left out (else), of a node -/
noncomputable def wnB (P : Nat → Nat) (w N : Nat) (W : Nat → Nat) (what : Int32) (v : Nat) : Bool := if what = 0 then stvB P w N W v else cBo (P 6 ≠ 0 ∧ instA P W v (P 6 - 1) = true ∧ lefoQ P w N W (fln P W v))
theorem wantInM {P : Nat → Nat} {w N i : Nat} {W D : Nat → Nat} {what : Int32} {m : zM} (hP : tV P) (ht : tM 23 P m) (hL : LMx P w N W D m) (hK : LKm P w N W m) (hi : i < N) : ok (f_MO_wantingIn (nI i) what m) (fun p => fl2 [25] [(0, 36)] m p.2 ∧ p.1 = nI (cn (fun a => wnB P w N W what (4 * i + a)) (P 3))) := by
  have n4 := hP.1.2.1
  unfold f_MO_wantingIn f_MO_wantingIn_L5
  refine ok_for (P 3) (fun k (s : Int32 × Int32 × zM) => s.2.1 = nI k ∧ s.1 = nI (cn (fun a => wnB P w N W what (4 * i + a)) k) ∧ fl2 [25] [(0, 36)] m s.2.2) ⟨rfl, rfl, fl2_rf⟩ (Nat.zero_le _) ?_
  rintro k ⟨x, y, m1⟩ - hk ⟨e1, e2, f1⟩
  have e1 : y = nI k := e1
  have e2 : x = _ := e2
  subst e1
  subst e2
  have f1 : fl2 [25] [(0, 36)] m m1 := f1
  have t1 := tM_fl ht f1 (by decide)
  unfold f_MO_wantingIn_B5 f_MO_wantingIn_J41 f_MO_wantingIn_J44
  refine ok_eb (agM (tM_n t1 (by decide) (by decide))) ?_
  refine ok_le (P 3) k (fun q => ok_mk ⟨f1, by show nI _ = nI _; rw [show k = P 3 by omega]⟩) (fun q => ?_)
  obtain ⟨s1, s2⟩ := wantM hP t1 (LMx_fl hL f1 (by decide) (by decide)) (LKm_fl hK f1 (by decide)) hi q
  have go : ∀ (b : Bool) (m2 : zM), fl2 [25] [(0, 36)] m1 m2 → b = wnB P w N W what (4 * i + k) → ok (if b = true then some (Sum.inr (nI (cn (fun a => wnB P w N W what (4 * i + a)) k) + 1, nI k + 1, m2)) else some (Sum.inr (nI (cn (fun a => wnB P w N W what (4 * i + a)) k), nI k + 1, m2))) (lp (fun p : Int32 × zM => fl2 [25] [(0, 36)] m p.2 ∧ p.1 = nI (cn (fun a => wnB P w N W what (4 * i + a)) (P 3))) (fun s' : Int32 × Int32 × zM => k < P 3 ∧ s'.2.1 = nI (k + 1) ∧ s'.1 = nI (cn (fun a => wnB P w N W what (4 * i + a)) (k + 1)) ∧ fl2 [25] [(0, 36)] m s'.2.2)) := by
    intro b m2 f2 hb
    refine ok_tf (fun z => ok_mk ⟨q, nI_1 k, ?_, fl2_tr f1 f2⟩) (fun z => ok_mk ⟨q, nI_1 k, ?_, fl2_tr f1 f2⟩)
    · rw [cn_s1 (p := fun a => wnB P w N W what (4 * i + a)) (hb ▸ z)]; exact nI_1 _
    · rw [cn_s0 (p := fun a => wnB P w N W what (4 * i + a)) (hb ▸ z)]
  refine ok_it (fun z => ok_bi s1 (fun p ⟨h1, h2⟩ => go p.1 p.2 h1 ?_)) (fun z => ok_bi s2 (fun p ⟨h1, h2⟩ => go p.1 p.2 h1 ?_))
  · unfold wnB; rw [if_pos z]; exact h2
  · unfold wnB; rw [if_neg z]; exact h2
theorem wantAllM {P : Nat → Nat} {w N : Nat} {W D : Nat → Nat} {what : Int32} {m : zM} (hP : tV P) (ht : tM 23 P m) (hL : LMx P w N W D m) (hc : m.1 0 46 ≠ 0 → LKm P w N W m) : ok (f_MO_wantingAll what m) (fun p => QkFr m p.2 ∧ LKm P w N W p.2 ∧ p.2.1 0 46 ≠ 0 ∧ p.1 = sumI (fun i => timesOf P (W i) * nI (cn (fun a => wnB P w N W what (4 * i + a)) (P 3))) N) := by
  obtain ⟨l1, l2, l3, l4, l5⟩ := id hL
  unfold f_MO_wantingAll
  refine ok_bi (looksM hP ht hL hc) (fun p1 ⟨g1, g2, g3⟩ => ?_)
  have L1 := LMx_fl hL g1 (by decide) (by decide)
  have t1 := tM_fl ht g1 (by decide)
  unfold f_MO_wantingAll_L8
  refine ok_for N (fun k (s : Int32 × Int32 × zM) => s.2.1 = nI k ∧ s.1 = sumI (fun i => timesOf P (W i) * nI (cn (fun a => wnB P w N W what (4 * i + a)) (P 3))) k ∧ fl2 [25] [(0, 36)] p1 s.2.2) ⟨rfl, rfl, fl2_rf⟩ (Nat.zero_le _) ?_
  rintro k ⟨x, y, m1⟩ - hk ⟨e1, e2, f1⟩
  have e1 : y = nI k := e1
  have e2 : x = _ := e2
  subst e1
  subst e2
  have f1 : fl2 [25] [(0, 36)] p1 m1 := f1
  have L2 := LMx_fl L1 f1 (by decide) (by decide)
  have t2 := tM_fl t1 f1 (by decide)
  unfold f_MO_wantingAll_B8
  refine ok_le N k (fun q => ok_mk ⟨fl2_tr g1 (fl2_su f1 (by decide)), LKm_fl g2 f1 (by decide), by rw [fl2_i f1 (by decide)]; exact g3, by show sumI _ k = sumI _ N; rw [show k = N by omega]⟩) (fun q => ?_) (hx := L2.2.2.2.1.1)
  have kw := (Rn_kv hP (l3.1 k q).1).1
  refine ok_bi (copiesM hP t2 L2.2.2.2.1 l2 q kw) (fun p2 ⟨h1, h2⟩ => ok_bi (wantInM hP (tM_fl t2 h1 (by decide)) (LMx_fl L2 h1 (by decide) (by decide)) (LKm_fl (LKm_fl g2 f1 (by decide)) h1 (by decide)) q) (fun p3 ⟨h3, h4⟩ => ok_mk ⟨q, nI_1 k, ?_, fl2_tr f1 (fl2_tr h1 h3)⟩))
  show sumI _ k + p2.1 * p3.1 = sumI _ k + _
  rw [h2, h4]
/-- the reference's sums: worlds, moves, bad ones, stuck ones -/
noncomputable def smF (P : Nat → Nat) (w N : Nat) (W : Nat → Nat) (what : Nat) (i : Nat) : Int32 := if what = 0 then timesOf P (W i) else if what = 1 then timesOf P (W i) * nI (cn (fun c => decide (nxw P w N W i c ≠ 0)) 64) else if what = 2 then (if bd P (W i) = true then timesOf P (W i) else 0) else (if cn (fun c => decide (nxw P w N W i c ≠ 0)) 64 = 0 then timesOf P (W i) else 0)
theorem sumOfM {P : Nat → Nat} {w N what : Nat} {W D : Nat → Nat} {m : zM} (hP : tV P) (ht : tM 23 P m) (hL : LMx P w N W D m) (hw : what < 4) : ok (f_MO_sumOf (nI what) m) (fun p => fl2 [25] [(0, 36)] m p.2 ∧ p.1 = sumI (smF P w N W what) N) := by
  obtain ⟨l1, l2, l3, l4, l5⟩ := id hL
  unfold f_MO_sumOf f_MO_sumOf_L4
  refine ok_for N (fun k (s : Int32 × Int32 × zM) => s.2.1 = nI k ∧ s.1 = sumI (smF P w N W what) k ∧ fl2 [25] [(0, 36)] m s.2.2) ⟨rfl, rfl, fl2_rf⟩ (Nat.zero_le _) ?_
  rintro k ⟨x, y, m1⟩ - hk ⟨e1, e2, f1⟩
  have e1 : y = nI k := e1
  have e2 : x = _ := e2
  subst e1
  subst e2
  have f1 : fl2 [25] [(0, 36)] m m1 := f1
  have L2 := LMx_fl hL f1 (by decide) (by decide)
  have t2 := tM_fl ht f1 (by decide)
  unfold f_MO_sumOf_B4
  refine ok_le N k (fun q => ok_mk ⟨f1, by show sumI _ k = sumI _ N; rw [show k = N by omega]⟩) (fun q => ?_) (hx := L2.2.2.2.1.1)
  have kw := (Rn_kv hP (l3.1 k q).1).1
  have cl := cn_le (fun c => decide (nxw P w N W k c ≠ 0)) 64
  refine ok_bi (copiesM hP t2 L2.2.2.2.1 l2 q kw) (fun p2 ⟨h1, h2⟩ => ?_)
  have L3 := LMx_fl L2 h1 (by decide) (by decide)
  have t3 := tM_fl t2 h1 (by decide)
  have mf : ∀ S : zM, fl2 [25] [(0, 36)] m S → f_MO_movesFrom (nI k) S = some (nI (cn (fun c => decide (nxw P w N W k c ≠ 0)) 64)) := fun S hS => movesFromM (LMx_fl hL hS (by decide) (by decide)).2.2.2.2 l2 q
  have fin : ∀ (v : Int32) (S : zM), fl2 [25] [(0, 36)] m S → v = sumI (smF P w N W what) k + smF P w N W what k → ok (f_MO_sumOf_J85 (nI what) v (nI k) S) (lp (fun p : Int32 × zM => fl2 [25] [(0, 36)] m p.2 ∧ p.1 = sumI (smF P w N W what) N) (fun s' : Int32 × Int32 × zM => k < N ∧ s'.2.1 = nI (k + 1) ∧ s'.1 = sumI (smF P w N W what) (k + 1) ∧ fl2 [25] [(0, 36)] m s'.2.2)) := fun v S hS hv => ok_mk ⟨q, nI_1 k, hv, hS⟩
  have f2 : fl2 [25] [(0, 36)] m p2.2 := fl2_tr f1 h1
  rw [h2]
  rcases (show what = 0 ∨ what = 1 ∨ what = 2 ∨ what = 3 by omega) with e | e | e | e <;> subst e
  · refine ok_ip (show nI 0 = 0 from rfl) ?_
    unfold f_MO_sumOf_J28
    refine ok_in (show ¬ nI 0 = 1 by decide) ?_
    unfold f_MO_sumOf_J44
    refine ok_in (show ¬ nI 0 = 2 by decide) ?_
    unfold f_MO_sumOf_J67
    exact ok_in (show ¬ nI 0 = 3 by decide) (fin _ _ f2 rfl)
  · refine ok_in (show ¬ nI 1 = 0 by decide) ?_
    unfold f_MO_sumOf_J28
    refine ok_ip (show nI 1 = 1 from rfl) (ok_eb (mf _ f2) ?_)
    unfold f_MO_sumOf_J44
    refine ok_in (show ¬ nI 1 = 2 by decide) ?_
    unfold f_MO_sumOf_J67
    exact ok_in (show ¬ nI 1 = 3 by decide) (fin _ _ f2 rfl)
  · refine ok_in (show ¬ nI 2 = 0 by decide) ?_
    unfold f_MO_sumOf_J28
    refine ok_in (show ¬ nI 2 = 1 by decide) ?_
    unfold f_MO_sumOf_J44
    refine ok_ip (show nI 2 = 2 from rfl) (ok_ix rfl (show k < 608 by omega) (by decide) ?_)
    rw [(L3.2.2.2.1.2.1 k q).1]
    refine ok_bi (isBadM hP t3 kw) (fun p4 ⟨g1, g2⟩ => ?_)
    unfold f_MO_sumOf_J67
    have f4 : fl2 [25] [(0, 36)] m p4.2 := fl2_tr f2 g1
    refine ok_tf (fun z => ok_in (show ¬ nI 2 = 3 by decide) (fin _ _ f4 ?_)) (fun z => ok_in (show ¬ nI 2 = 3 by decide) (fin _ _ f4 ?_))
    · show _ = _ + (if bd P (W k) = true then timesOf P (W k) else 0)
      rw [if_pos (g2 ▸ z)]
    · show _ = _ + (if bd P (W k) = true then timesOf P (W k) else 0)
      rw [if_neg (by rw [← g2, z]; decide), Int32.add_zero]
  · refine ok_in (show ¬ nI 3 = 0 by decide) ?_
    unfold f_MO_sumOf_J28
    refine ok_in (show ¬ nI 3 = 1 by decide) ?_
    unfold f_MO_sumOf_J44
    refine ok_in (show ¬ nI 3 = 2 by decide) ?_
    unfold f_MO_sumOf_J67
    refine ok_ip (show nI 3 = 3 from rfl) (ok_eb (mf _ f2) ?_)
    refine ok_ee (cn (fun c => decide (nxw P w N W k c ≠ 0)) 64) 0 (fun z => fin _ _ f2 ?_) (fun z => fin _ _ f2 ?_)
    · show _ = _ + (if cn (fun c => decide (nxw P w N W k c ≠ 0)) 64 = 0 then timesOf P (W k) else 0)
      rw [if_pos z]
    · show _ = _ + (if cn (fun c => decide (nxw P w N W k c ≠ 0)) 64 = 0 then timesOf P (W k) else 0)
      rw [if_neg z, Int32.add_zero]
/-- moves are counted alike -/
theorem cn_nx {P : Nat → Nat} {w N i : Nat} {W : Nat → Nat} (h : P 8 ≤ 16) : cn (fun c => decide (nxw P 16 N W i c ≠ 0)) 64 = cn (psb P (W i)) 64 := cn_cg (fun c hc => by
  cases e : psb P (W i) c with
  | true => exact decide_eq_true (nxw_nz.mpr ⟨e, by omega⟩)
  | false => exact decide_eq_false (fun z => by have := (nxw_nz.mp z).1; rw [e] at this; cases this))
