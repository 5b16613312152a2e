theorem hereS {n t p w : Nat} {g : Nat → Nat} {m : zM} {α : Type} {f : Bool × zM → Option α} {K : α → Prop} (h : RsM n g t p m) (h5 : m.1 0 5 = 0) (hw : w < 19) (hy : iWw n g t w → ∀ m', fl2 [] [(0, 2)] m m' → RsM n g t (tst n g t) m' → ok (f (true, m')) K) (hn : ¬ iWw n g t w → ∀ m', fl2 [] [(0, 2)] m m' → RsM n g t (tst n g t) m' → ok (f (false, m')) K) : ok ((f_MO_isHere (3 + w) m).bind f) K := by
  refine ok_bi (hereM h h5 hw) (fun r ⟨e1, f1, R1⟩ => ?_)
  obtain ⟨b, m'⟩ := r
  have e1 : b = iWb n g t w := e1
  subst e1
  by_cases z : iWw n g t w
  · rw [show iWb n g t w = true from cBo_t z]; exact hy z m' f1 R1
  · rw [show iWb n g t w = false from cBo_f z]; exact hn z m' f1 R1
/-- behind the t-th thing, a word or a number -/
theorem RsM_n {n t : Nat} {g : Nat → Nat} {m m' : zM} {S : List Nat} {F : List (Nat × Nat)} (h : RsM n g t (tst n g t) m) (hl : tst n g t < n) (hk : ibL (g (tst n g t)) = true ∨ ibD (g (tst n g t)) = true) (hf : fl2 S F m m') (hkk : kps [1] [(0, 3)] S F = true) (hw : kps [3, 4, 5, 6, 7, 8, 9, 10, 11, 12, 13, 14, 15, 16, 17, 18, 19, 20, 21] [(0, 6)] S F = true) (e2 : m'.1 0 2 = nI (tst n g t + tln n g (tst n g t))) (e4 : m'.1 0 4 = nI (tst n g t + tln n g (tst n g t))) : RsM n g (t + 1) (tst n g t + tln n g (tst n g t)) m' := by
  obtain ⟨h1, h2, h3, h4, h5, h6, h7, h8⟩ := h
  refine ⟨e2, (tln_sp hl).2, (tst_s hl).symm, ?_, ?_, ?_, WdN_f h7 hf hw, h8⟩
  · rw [fl2_i hf (kps_g hkk (by simp))]; exact h4
  · rw [e4, show tle n g (t + 1) = tst n g t + tln n g (tst n g t) + 1 from if_pos hk, nI_pred]
  · rw [show m'.1 1 = m.1 1 from fl2_ic hf (kps_c hkk (by simp))]; exact h6
theorem takesM {n t p w : Nat} {g : Nat → Nat} {m : zM} (h : RsM n g t p m) (h5 : m.1 0 5 = 0) (hw : w < 19) : ok (f_MO_takes (3 + w) m) (fun r => fl2 [] [(0, 2), (0, 4)] m r.2 ∧ ((iWw n g t w ∧ r.1 = true ∧ ∃ p', RsM n g (t + 1) p' r.2) ∨ (¬ iWw n g t w ∧ r.1 = false ∧ RsM n g t (tst n g t) r.2))) := by
  unfold f_MO_takes
  refine hereS h h5 hw (fun z m' f1 R1 => ok_ip rfl (ok_lt (ok_lt (ok_mk ⟨fl2_tr (fl2_su f1 (by decide)) (fl2_tr (fl2_I (inS_f (by simp))) (fl2_I (inS_f (by simp)))), Or.inl ⟨z, rfl, tst n g t + tln n g (tst n g t), ?_⟩⟩)))) (fun z m' f1 R1 => ok_in Bool.false_ne_true (ok_mk ⟨fl2_su f1 (by decide), Or.inr ⟨z, rfl, R1⟩⟩))
  have el : tln n g (tst n g t) = (owL w).length := by unfold tln; rw [if_pos z.1.2.1]; exact z.2.1
  have e2 : m'.1 0 2 + Int32.ofNat (zlen gM (3 + w)) = nI (tst n g t + tln n g (tst n g t)) := by rw [R1.1, zlM w hw, el]; exact nI_add _ _
  refine RsM_n (S := []) (F := [(0, 2), (0, 4)]) R1 z.1.1 (Or.inl z.1.2.1) (fl2_tr (fl2_I (inS_f (by simp))) (fl2_I (inS_f (by simp)))) (by decide) (by decide) ?_ ?_
  · rw [rd_I0 (by omega), rd_I1, e2]
  · rw [rd_I1, rd_I1, e2]
def MrF : List (Nat × Nat) := [(0, 2), (0, 4), (0, 5), (0, 6), (0, 29)]
theorem failM {c q : Nat} {x y : Int32} {m : zM} (h5 : m.1 0 5 = 0) (hx : x = nI c) (hy : y = nI q) (h0 : 0 < c) (h8 : c < 8) : fl2 [] MrF m (f_MO_fail x y m) ∧ FlM c q (f_MO_fail x y m) := by
  unfold f_MO_fail lt
  rw [if_pos h5, hx, hy]
  refine ⟨fl2_tr (fl2_I (inS_f (by decide))) (fl2_I (inS_f (by decide))), ?_, rd_I1 _ _ _ _, h0, h8⟩
  rw [rd_I0 (by omega), rd_I1]
theorem asksM {n t p w : Nat} {g : Nat → Nat} {m : zM} (h : RsM n g t p m) (h5 : m.1 0 5 = 0) (hw : w < 19) : ok (f_MO_asks (3 + w) m) (fun r => fl2 [] MrF m r ∧ ((iWw n g t w ∧ r.1 0 5 = 0 ∧ ∃ p', RsM n g (t + 1) p' r) ∨ (¬ iWw n g t w ∧ FlM 1 (tst n g t) r))) := by
  unfold f_MO_asks
  refine ok_ip h5 (ok_bi (takesM h h5 hw) (fun r ⟨f1, hr⟩ => ?_))
  have e5 : r.2.1 0 5 = 0 := by rw [fl2_i f1 (by decide)]; exact h5
  rcases hr with ⟨z, e1, p', R1⟩ | ⟨z, e1, R1⟩
  · exact ok_ip e1 (ok_mk ⟨fl2_su f1 (by decide), Or.inl ⟨z, e5, p', R1⟩⟩)
  · obtain ⟨f2, l2⟩ := failM (c := 1) (x := 1) e5 rfl R1.1 (by decide) (by decide)
    exact ok_in (by rw [e1]; decide) (ok_lt (ok_mk ⟨fl2_tr (fl2_su f1 (by decide)) f2, Or.inr ⟨z, l2⟩⟩))
theorem numbM {n t p lo hi : Nat} {g : Nat → Nat} {m : zM} (h : RsM n g t p m) (h5 : m.1 0 5 = 0) (hlo : lo ≤ 9) (hhi : hi ≤ 9) : ok (f_MO_number (nI lo) (nI hi) m) (fun r => fl2 [] MrF m r.2 ∧ ((∃ v, nuR n g t lo hi = .inr v ∧ r.1 = nI v ∧ r.2.1 0 5 = 0 ∧ ∃ p', RsM n g (t + 1) p' r.2) ∨ (∃ c q, nuR n g t lo hi = .inl (c, q) ∧ FlM c q r.2))) := by
  have n16 := h.2.2.2.2.2.2.2
  unfold f_MO_number
  refine ok_ip h5 (ok_bi (lookM h) (fun r ⟨e1, f1, R1⟩ => ?_))
  obtain ⟨a1, a2, a3, a4, a5, a6, a7, a8⟩ := id R1
  have g8 := fun j hj => (a6 j hj).2
  have tl := tle_le n g t
  have e5 : r.2.1 0 5 = 0 := by rw [fl2_i f1 (by decide)]; exact h5
  rw [e1, dgt_m, byA_D g8]
  have no : ¬ iNu n g t → ok (f_MO_number_J30 (nI lo) r.2) (fun r => fl2 [] MrF m r.2 ∧ ((∃ v, nuR n g t lo hi = .inr v ∧ r.1 = nI v ∧ r.2.1 0 5 = 0 ∧ ∃ p', RsM n g (t + 1) p' r.2) ∨ (∃ c q, nuR n g t lo hi = .inl (c, q) ∧ FlM c q r.2))) := by
    intro z
    unfold f_MO_number_J30
    obtain ⟨f2, l2⟩ := failM (c := 1) (x := 1) e5 rfl a1 (by decide) (by decide)
    exact ok_lt (ok_mk ⟨fl2_tr (fl2_su f1 (by decide)) f2, Or.inr ⟨1, tst n g t, if_neg (by rw [cBo_f z]; decide), l2⟩⟩)
  refine ok_tf (fun z => ?_) (fun z => no (fun y => by rw [decide_eq_true y.1, y.2.1] at z; cases z))
  rw [Bool.and_eq_true, decide_eq_true_iff] at z
  obtain ⟨z1, z2⟩ := z
  rw [a1, a5]
  have ge : nI (tst n g t) = nI (tle n g t) - 1 ↔ glu n g t = true := by
    unfold glu
    rw [decide_eq_true_iff, show nI (tst n g t) = nI (tst n g t + 1) - 1 from (nI_pred _).symm, sd_eq (by omega) (by omega)]
  refine ok_it (fun y => no (fun u => ?_)) (fun y => ?_)
  · have v := u.2.2
    rw [ge.mp y] at v
    cases v
  have iN : iNu n g t := ⟨z1, z2, Bool.eq_false_iff.mpr (fun u => y (ge.mpr u))⟩
  have dg := ibD_i.mp z2
  have nl : ¬ ibL (g (tst n g t)) = true := fun a => by have := ibL_i.mp a; omega
  have el : tln n g (tst n g t) = rnK ibD n g (tst n g t) := by unfold tln; rw [if_neg nl, if_pos z2]
  obtain ⟨r1, r2, r3⟩ := rnK_sp (q := ibD) (g := g) (Nat.le_of_lt z1)
  have rp := rnK_p z1 z2
  have nx : nuR n g t lo hi = if 1 < rnK ibD n g (tst n g t) then .inl (1, tst n g t + 1) else if lo ≤ g (tst n g t) - 48 ∧ g (tst n g t) - 48 ≤ hi then .inr (g (tst n g t) - 48) else .inl (2, tst n g t) := if_pos (cBo_t iN)
  refine ok_ix rfl (by omega : tst n g t < 1600) (by decide) (ok_lt (ok_lt ?_))
  have f2 : fl2 [] [(0, 2), (0, 4)] r.2 (sI (sI r.2 0 2 (nI (tst n g t) + 1)) 0 4 ((sI r.2 0 2 (nI (tst n g t) + 1)).1 0 2)) := fl2_tr (fl2_I (inS_f (by simp))) (fl2_I (inS_f (by simp)))
  have c2 : (sI (sI r.2 0 2 (nI (tst n g t) + 1)) 0 4 ((sI r.2 0 2 (nI (tst n g t) + 1)).1 0 2)).1 0 2 = nI (tst n g t + 1) := by rw [rd_I0 (by omega), rd_I1, nI_1]
  have c4 : (sI (sI r.2 0 2 (nI (tst n g t) + 1)) 0 4 ((sI r.2 0 2 (nI (tst n g t) + 1)).1 0 2)).1 0 4 = nI (tst n g t + 1) := by rw [rd_I1, rd_I1, nI_1]
  generalize sI (sI r.2 0 2 (nI (tst n g t) + 1)) 0 4 ((sI r.2 0 2 (nI (tst n g t) + 1)).1 0 2) = m4 at f2 c2 c4 ⊢
  have e54 : m4.1 0 5 = 0 := by rw [fl2_i f2 (by decide)]; exact e5
  have ev : r.2.1 1 (tst n g t) - 48 = nI (g (tst n g t) - 48) := by rw [(a6 _ z1).1, show (48 : Int32) = nI 48 from rfl, pk_sub (by omega)]
  show ok (if m4.1 0 3 ≤ m4.1 0 2 then f_MO_number_J116 (nI lo) (nI hi) (nI (tst n g t)) (r.2.1 1 (tst n g t) - 48) m4 else _) _
  rw [ev]
  have fa : fl2 [] MrF m m4 := fl2_tr (fl2_su f1 (by decide)) (fl2_su f2 (by decide))
  have J116 : rnK ibD n g (tst n g t) = 1 → ok (f_MO_number_J116 (nI lo) (nI hi) (nI (tst n g t)) (nI (g (tst n g t) - 48)) m4) (fun r => fl2 [] MrF m r.2 ∧ ((∃ v, nuR n g t lo hi = .inr v ∧ r.1 = nI v ∧ r.2.1 0 5 = 0 ∧ ∃ p', RsM n g (t + 1) p' r.2) ∨ (∃ c q, nuR n g t lo hi = .inl (c, q) ∧ FlM c q r.2))) := by
    intro hr
    rw [if_neg (by omega)] at nx
    unfold f_MO_number_J116
    have isI : f_MO_isIn (nI (g (tst n g t) - 48)).toInt64 (nI lo).toInt64 (nI hi).toInt64 = true ↔ lo ≤ g (tst n g t) - 48 ∧ g (tst n g t) - 48 ≤ hi := by
      rw [isIn_iff, nI_l (by omega), nI_l (by omega), nI_l (by omega), pk_lLE (by omega) (by omega), pk_lLE (by omega) (by omega)]
    refine ok_it (fun u => ok_mk ⟨fa, Or.inl ⟨_, by rw [nx, if_pos (isI.mp u)], rfl, e54, tst n g t + tln n g (tst n g t), ?_⟩⟩) (fun u => ok_lt ?_)
    · refine RsM_n R1 z1 (Or.inr z2) f2 (by decide) (by decide) ?_ ?_
      · rw [c2, el, hr]
      · rw [c4, el, hr]
    · obtain ⟨f3, l3⟩ := failM (c := 2) (x := 2) (y := nI (tst n g t)) e54 rfl rfl (by decide) (by decide)
      exact ok_mk ⟨fl2_tr fa f3, Or.inr ⟨2, tst n g t, by rw [nx, if_neg (fun w => u (isI.mpr w))], l3⟩⟩
  refine ok_le n (tst n g t + 1) (fun u => J116 (by omega)) (fun u => ok_ix c2 (by omega : tst n g t + 1 < 1600) (by decide) ?_) (hx := by rw [fl2_i f2 (by decide)]; exact a4) (hy := c2)
  rw [show m4.1 1 (tst n g t + 1) = nI (g (tst n g t + 1)) by rw [fl2_ic f2 (fun j => by simp [inS])]; exact (a6 _ u).1, dgt_m, dgt_x (g8 _ u)]
  refine ok_tf (fun v => ok_lt ?_) (fun v => J116 ?_)
  · obtain ⟨f3, l3⟩ := failM (c := 1) (x := 1) e54 rfl c2 (by decide) (by decide)
    have q1 : 1 < rnK ibD n g (tst n g t) := by
      rcases Nat.lt_or_ge 1 (rnK ibD n g (tst n g t)) with q | q
      · exact q
      · have := r3 (by omega)
        rw [show rnK ibD n g (tst n g t) = 1 by omega, v] at this
        cases this
    exact ok_mk ⟨fl2_tr fa f3, Or.inr ⟨1, tst n g t + 1, by rw [nx, if_pos q1], l3⟩⟩
  · rcases Nat.lt_or_ge 1 (rnK ibD n g (tst n g t)) with q | q
    · rw [r2 1 q] at v; cases v
    · omega
theorem ownM {n t p : Nat} {g : Nat → Nat} {m : zM} (h : RsM n g t p m) (h5 : m.1 0 5 = 0) : ok (f_MO_isOwnHere m) (fun r => (r.1 = true ↔ iWo n g t) ∧ fl2 [] [(0, 2)] m r.2 ∧ RsM n g t (tst n g t) r.2) := by
  have yes : ∀ w, w < 19 → iWw n g t w → ∀ m', fl2 [] [(0, 2)] m m' → RsM n g t (tst n g t) m' → ok (some (true, m')) (fun r => (r.1 = true ↔ iWo n g t) ∧ fl2 [] [(0, 2)] m r.2 ∧ RsM n g t (tst n g t) r.2) := fun w hw z m' f1 R1 => ok_mk ⟨⟨fun _ => ⟨w, hw, z⟩, fun _ => rfl⟩, f1, R1⟩
  have k5 : ∀ {m'}, fl2 [] [(0, 2)] m m' → m'.1 0 5 = 0 := fun f => by rw [fl2_i f (by decide)]; exact h5
  unfold f_MO_isOwnHere f_MO_isOwnHere_J55 f_MO_isOwnHere_J60 f_MO_isOwnHere_J120 f_MO_isOwnHere_J125 f_MO_isOwnHere_J185 f_MO_isOwnHere_J190 f_MO_isOwnHere_J239
  refine hereS (w := 0) h h5 (by decide) (fun z m1 f1 R1 => yes 0 (by decide) z m1 f1 R1) (fun n0 m1 f1 R1 => ?_)
  refine hereS (w := 1) R1 (k5 f1) (by decide) (fun z m2 f2 R2 => yes 1 (by decide) z m2 (fl2_tr f1 f2) R2) (fun n1 m2 f2 R2 => ?_)
  replace f2 := fl2_tr f1 f2
  refine hereS (w := 2) R2 (k5 f2) (by decide) (fun z m3 f3 R3 => yes 2 (by decide) z m3 (fl2_tr f2 f3) R3) (fun n2 m3 f3 R3 => ?_)
  replace f3 := fl2_tr f2 f3
  refine hereS (w := 3) R3 (k5 f3) (by decide) (fun z m4 f4 R4 => yes 3 (by decide) z m4 (fl2_tr f3 f4) R4) (fun n3 m4 f4 R4 => ?_)
  replace f4 := fl2_tr f3 f4
  refine hereS (w := 4) R4 (k5 f4) (by decide) (fun z m5 f5 R5 => yes 4 (by decide) z m5 (fl2_tr f4 f5) R5) (fun n4 m5 f5 R5 => ?_)
  replace f5 := fl2_tr f4 f5
  refine ok_in Bool.false_ne_true ?_
  refine hereS (w := 5) R5 (k5 f5) (by decide) (fun z m6 f6 R6 => yes 5 (by decide) z m6 (fl2_tr f5 f6) R6) (fun n5 m6 f6 R6 => ?_)
  replace f6 := fl2_tr f5 f6
  refine hereS (w := 6) R6 (k5 f6) (by decide) (fun z m7 f7 R7 => yes 6 (by decide) z m7 (fl2_tr f6 f7) R7) (fun n6 m7 f7 R7 => ?_)
  replace f7 := fl2_tr f6 f7
  refine hereS (w := 7) R7 (k5 f7) (by decide) (fun z m8 f8 R8 => yes 7 (by decide) z m8 (fl2_tr f7 f8) R8) (fun n7 m8 f8 R8 => ?_)
  replace f8 := fl2_tr f7 f8
  refine hereS (w := 8) R8 (k5 f8) (by decide) (fun z m9 f9 R9 => yes 8 (by decide) z m9 (fl2_tr f8 f9) R9) (fun n8 m9 f9 R9 => ?_)
  replace f9 := fl2_tr f8 f9
  refine hereS (w := 9) R9 (k5 f9) (by decide) (fun z mA fA RA => yes 9 (by decide) z mA (fl2_tr f9 fA) RA) (fun n9 mA fA RA => ?_)
  replace fA := fl2_tr f9 fA
  refine ok_in Bool.false_ne_true ?_
  refine hereS (w := 10) RA (k5 fA) (by decide) (fun z mB fB RB => yes 10 (by decide) z mB (fl2_tr fA fB) RB) (fun nA mB fB RB => ?_)
  replace fB := fl2_tr fA fB
  refine hereS (w := 11) RB (k5 fB) (by decide) (fun z mC fC RC => yes 11 (by decide) z mC (fl2_tr fB fC) RC) (fun nB mC fC RC => ?_)
  replace fC := fl2_tr fB fC
  refine hereS (w := 12) RC (k5 fC) (by decide) (fun z mD fD RD => yes 12 (by decide) z mD (fl2_tr fC fD) RD) (fun nC mD fD RD => ?_)
  replace fD := fl2_tr fC fD
  refine hereS (w := 13) RD (k5 fD) (by decide) (fun z mE fE RE => yes 13 (by decide) z mE (fl2_tr fD fE) RE) (fun nD mE fE RE => ?_)
  replace fE := fl2_tr fD fE
  refine hereS (w := 14) RE (k5 fE) (by decide) (fun z mF fF RF => yes 14 (by decide) z mF (fl2_tr fE fF) RF) (fun nE mF fF RF => ?_)
  replace fF := fl2_tr fE fF
  refine ok_in Bool.false_ne_true ?_
  refine hereS (w := 15) RF (k5 fF) (by decide) (fun z mG fG RG => yes 15 (by decide) z mG (fl2_tr fF fG) RG) (fun nF mG fG RG => ?_)
  replace fG := fl2_tr fF fG
  refine hereS (w := 16) RG (k5 fG) (by decide) (fun z mH fH RH => yes 16 (by decide) z mH (fl2_tr fG fH) RH) (fun nG mH fH RH => ?_)
  replace fH := fl2_tr fG fH
  refine hereS (w := 17) RH (k5 fH) (by decide) (fun z mI fI RI => yes 17 (by decide) z mI (fl2_tr fH fI) RI) (fun nH mI fI RI => ?_)
  replace fI := fl2_tr fH fI
  refine hereS (w := 18) RI (k5 fI) (by decide) (fun z mJ fJ RJ => yes 18 (by decide) z mJ (fl2_tr fI fJ) RJ) (fun nI' mJ fJ RJ => ?_)
  refine ok_mk ⟨⟨fun z => (by cases z), fun ⟨w, w1, w2⟩ => ?_⟩, fl2_tr fI fJ, RJ⟩
  rcases (show w = 0 ∨ w = 1 ∨ w = 2 ∨ w = 3 ∨ w = 4 ∨ w = 5 ∨ w = 6 ∨ w = 7 ∨ w = 8 ∨ w = 9 ∨ w = 10 ∨ w = 11 ∨ w = 12 ∨ w = 13 ∨ w = 14 ∨ w = 15 ∨ w = 16 ∨ w = 17 ∨ w = 18 by omega) with e | e | e | e | e | e | e | e | e | e | e | e | e | e | e | e | e | e | e <;> subst e
  · exact absurd w2 n0
  · exact absurd w2 n1
  · exact absurd w2 n2
  · exact absurd w2 n3
  · exact absurd w2 n4
  · exact absurd w2 n5
  · exact absurd w2 n6
  · exact absurd w2 n7
  · exact absurd w2 n8
  · exact absurd w2 n9
  · exact absurd w2 nA
  · exact absurd w2 nB
  · exact absurd w2 nC
  · exact absurd w2 nD
  · exact absurd w2 nE
  · exact absurd w2 nF
  · exact absurd w2 nG
  · exact absurd w2 nH
  · exact absurd w2 nI'
theorem nameM {n t p : Nat} {g : Nat → Nat} {m : zM} (h : RsM n g t p m) (h5 : m.1 0 5 = 0) : ok (f_MO_name m) (fun r => fl2 [] MrF m r.2 ∧ ((∃ u, nmR n g t = .inr u ∧ ltO u ∧ r.1 = nI u ∧ r.2.1 0 5 = 0 ∧ r.2.1 0 29 = nI (tst n g t) ∧ ∃ p', RsM n g (t + 1) p' r.2) ∨ (∃ c q, nmR n g t = .inl (c, q) ∧ FlM c q r.2))) := by
  have n16 := h.2.2.2.2.2.2.2
  unfold f_MO_name
  refine ok_ip h5 (ok_bi (lookM h) (fun r ⟨e1, f1, R1⟩ => ?_))
  obtain ⟨a1, a2, a3, a4, a5, a6, a7, a8⟩ := id R1
  have g8 := fun j hj => (a6 j hj).2
  have tl := tle_le n g t
  have e5 : r.2.1 0 5 = 0 := by rw [fl2_i f1 (by decide)]; exact h5
  rw [e1, ltr_m, byA_L g8]
  have no : ¬ (iWd n g t ∧ ¬ iWo n g t) → ∀ m', fl2 [] [(0, 2)] m m' → RsM n g t (tst n g t) m' → ok (f_MO_name_J37 m') (fun r => fl2 [] MrF m r.2 ∧ ((∃ u, nmR n g t = .inr u ∧ ltO u ∧ r.1 = nI u ∧ r.2.1 0 5 = 0 ∧ r.2.1 0 29 = nI (tst n g t) ∧ ∃ p', RsM n g (t + 1) p' r.2) ∨ (∃ c q, nmR n g t = .inl (c, q) ∧ FlM c q r.2))) := by
    intro z m' f' R'
    unfold f_MO_name_J37
    obtain ⟨f2, l2⟩ := failM (c := 1) (x := 1) (by rw [fl2_i f' (by decide)]; exact h5) rfl R'.1 (by decide) (by decide)
    exact ok_lt (ok_mk ⟨fl2_tr (fl2_su f' (by decide)) f2, Or.inr ⟨1, tst n g t, if_neg (by rw [cBo_f z]; decide), l2⟩⟩)
  refine ok_tf (fun z => ?_) (fun z => no (fun y => by rw [decide_eq_true y.1.1, y.1.2.1] at z; cases z) _ f1 R1)
  rw [Bool.and_eq_true, decide_eq_true_iff] at z
  obtain ⟨z1, z2⟩ := z
  rw [a1, a5]
  have ge : nI (tst n g t) = nI (tle n g t) - 1 ↔ glu n g t = true := by
    unfold glu
    rw [decide_eq_true_iff, show nI (tst n g t) = nI (tst n g t + 1) - 1 from (nI_pred _).symm, sd_eq (by omega) (by omega)]
  refine ok_it (fun y => no (fun u => ?_) _ f1 R1) (fun y => ?_)
  · have v := u.1.2.2
    rw [ge.mp y] at v
    cases v
  have hd : iWd n g t := ⟨z1, z2, Bool.eq_false_iff.mpr (fun u => y (ge.mpr u))⟩
  refine ok_bi (ownM R1 e5) (fun r2 ⟨o1, o2, o3⟩ => ok_it (fun w => no (fun u => u.2 (o1.mp w)) _ (fl2_tr f1 o2) o3) (fun w => ok_lt ?_))
  have hno : iWd n g t ∧ ¬ iWo n g t := ⟨hd, fun u => w (o1.mpr u)⟩
  have nx : nmR n g t = if rnK ibL n g (tst n g t) ≤ 6 then .inr (pkN 27 (wdf g (tst n g t)) (rnK ibL n g (tst n g t))) else .inl (1, tst n g t + 6) := if_pos (cBo_t hno)
  obtain ⟨r1, r2', r3⟩ := rnK_sp (q := ibL) (g := g) (Nat.le_of_lt z1)
  have wo := wdf_ok (l := rnK ibL n g (tst n g t)) (Nat.le_of_lt z1) (Nat.le_refl _)
  have el : tln n g (tst n g t) = rnK ibL n g (tst n g t) := if_pos z2
  have f3 : fl2 [] MrF m (sI r2.2 0 29 (r2.2.1 0 2)) := fl2_tr (fl2_su (fl2_tr f1 o2) (by decide)) (fl2_I (inS_f (by decide)))
  have f3' : fl2 [] [(0, 29)] r2.2 (sI r2.2 0 29 (r2.2.1 0 2)) := fl2_I (inS_f (by simp))
  have R3 := RsM_f o3 f3' (by decide) (by decide)
  have e29 : (sI r2.2 0 29 (r2.2.1 0 2)).1 0 29 = nI (tst n g t) := by rw [rd_I1]; exact o3.1
  have e53 : (sI r2.2 0 29 (r2.2.1 0 2)).1 0 5 = 0 := by rw [fl2_i f3' (by decide), fl2_i o2 (by decide)]; exact e5
  generalize sI r2.2 0 29 (r2.2.1 0 2) = m3 at *
  unfold f_MO_name_L58
  refine ok_for (min 6 (rnK ibL n g (tst n g t))) (fun k (s : Int32 × zM) => s.1 = nI (pkN 27 (wdf g (tst n g t)) k) ∧ fl2 [] [(0, 2)] m3 s.2 ∧ s.2.1 0 2 = nI (tst n g t + k)) (k0 := 0) ⟨rfl, fl2_rf, R3.1⟩ (Nat.zero_le _) ?_
  rintro k ⟨x, m4⟩ - hk ⟨d1, d2, d3⟩
  have d1 : x = nI (pkN 27 (wdf g (tst n g t)) k) := d1
  subst d1
  have d2 : fl2 [] [(0, 2)] m3 m4 := d2
  have d3 : m4.1 0 2 = nI (tst n g t + k) := d3
  have e54 : m4.1 0 5 = 0 := by rw [fl2_i d2 (by decide)]; exact e53
  have q29 : m4.1 0 29 = nI (tst n g t) := by rw [fl2_i d2 (by decide)]; exact e29
  have J142 : k = rnK ibL n g (tst n g t) → ok (f_MO_name_J142 (nI (pkN 27 (wdf g (tst n g t)) k)) m4) (fun r => fl2 [] MrF m r.2 ∧ ((∃ u, nmR n g t = .inr u ∧ ltO u ∧ r.1 = nI u ∧ r.2.1 0 5 = 0 ∧ r.2.1 0 29 = nI (tst n g t) ∧ ∃ p', RsM n g (t + 1) p' r.2) ∨ (∃ c q, nmR n g t = .inl (c, q) ∧ FlM c q r.2))) := by
    intro ek
    unfold f_MO_name_J142
    have f5 : fl2 [] [(0, 2), (0, 4)] m3 (sI m4 0 4 (m4.1 0 2)) := fl2_tr (fl2_su d2 (by decide)) (fl2_I (inS_f (by simp)))
    refine ok_lt (ok_mk ⟨fl2_tr f3 (fl2_su f5 (by decide)), Or.inl ⟨_, by rw [nx, if_pos (by omega), ek], ltO_pk (by omega) (by rw [ek]; exact wo), rfl, ?_, ?_, tst n g t + tln n g (tst n g t), ?_⟩⟩)
    · rw [rd_I0 (by omega)]; exact e54
    · rw [rd_I0 (by omega)]; exact q29
    · refine RsM_n R3 z1 (Or.inl z2) f5 (by decide) (by decide) ?_ ?_
      · rw [rd_I0 (by omega), d3, el, ek]
      · rw [rd_I1, d3, el, ek]
  unfold f_MO_name_B58
  refine ok_le n (tst n g t + k) (fun u => ok_zl (J142 (by omega))) (fun u => ok_ix d3 (by omega : tst n g t + k < 1600) (by decide) ?_) (hx := by rw [fl2_i d2 (by decide)]; exact R3.2.2.2.1) (hy := d3)
  have eb : m4.1 1 (tst n g t + k) = nI (g (tst n g t + k)) := by rw [fl2_ic d2 (fun j => by simp [inS])]; exact (R3.2.2.2.2.2.1 _ u).1
  rw [eb, ltr_m, ltr_x (g8 _ u)]
  refine ok_tf (fun v => ?_) (fun v => ok_zl (J142 ?_))
  rotate_left
  · rcases Nat.lt_or_ge k (rnK ibL n g (tst n g t)) with q | q
    · rw [r2' k q] at v; cases v
    · omega
  have kl : k < rnK ibL n g (tst n g t) := by
    rcases Nat.lt_or_ge k (rnK ibL n g (tst n g t)) with q | q
    · exact q
    · have := r3 (by omega)
      rw [show rnK ibL n g (tst n g t) = k by omega, v] at this
      cases this
  rw [d3, q29, pk_sub (by omega), show tst n g t + k - tst n g t = k by omega]
  refine ok_ee k 6 (fun u6 => ok_zl ?_) (fun u6 => ok_ix rfl (by omega : tst n g t + k < 1600) (by decide) (ok_lt (ok_mk ⟨by omega, ?_, fl2_tr d2 (fl2_I (inS_f (by simp))), ?_⟩)))
  · unfold f_MO_name_J98
    obtain ⟨f6, l6⟩ := failM (c := 1) (x := 1) e54 rfl d3 (by decide) (by decide)
    refine ok_lt (ok_mk ⟨fl2_tr f3 (fl2_tr (fl2_su d2 (by decide)) f6), Or.inr ⟨1, tst n g t + 6, by rw [nx, if_neg (by omega)], by rw [u6] at l6; exact l6⟩⟩)
  · show 27 * nI (pkN 27 (wdf g (tst n g t)) k) + m4.1 1 (tst n g t + k) - 97 + 1 = nI (pkN 27 (wdf g (tst n g t)) k * 27 + wdf g (tst n g t) k)
    have := ibL_i.mp v
    rw [eb, show (27 : Int32) = nI 27 from rfl, pk_mul, nI_add, show (97 : Int32) = nI 97 from rfl, pk_sub (by omega), nI_1]
    congr 1
    unfold wdf
    omega
  · show (sI m4 0 2 (nI (tst n g t + k) + 1)).1 0 2 = _
    rw [rd_I1, nI_1]
    rfl
