theorem tb_fl {S : List Nat} {F : List (Nat × Nat)} {i v : Nat} {m m' : zM} (h : fl2 S F m m') : fl2 S F (sT m i v) (sT m' i v) := by
  refine ⟨h.1, ?_⟩
  show (fun j => if j = i then v else m'.2.2 j) = (fun j => if j = i then v else m.2.2 j)
  rw [h.2]
/-- what the class changes where a table is read and gone through -/
def tbS (b : Nat) : List Nat := dsL (159 - b) ++ [9, 10, 11, 12, 13, 14, 15, 16, 17, 20, 21, 22, 23, 89, 90, 91, 92]
def tbF : List (Nat × Nat) := [(65, 5), (65, 6), (65, 7), (65, 8), (7, 8), (1, 1)]
/-- and where it is taken -/
def taS : List Nat := [26, 27, 28, 29, 30, 31, 32, 33, 34, 35, 36, 37, 38, 39, 40, 41, 44, 45, 46, 47, 55, 56, 117, 118, 119, 120, 121, 122, 123, 124, 127, 130, 131, 132, 133, 134, 135, 136, 137]
def taF : List (Nat × Nat) := [(0, 13), (0, 14), (24, 0), (24, 1), (48, 2), (48, 3), (48, 8), (116, 3), (129, 1), (129, 2), (129, 3), (129, 4), (129, 13), (129, 14), (129, 15)]
def swp (b : Nat) (m : zM) : zM := sT (sT (sT m 0 (159 - b)) 1 b) 2 (159 - b)
theorem tbv_o {b : Nat} (hb : tbv b) : tbv (159 - b) ∧ 159 - (159 - b) = b := by
  rcases hb with e | e <;> subst e
  · exact ⟨Or.inr rfl, rfl⟩
  · exact ⟨Or.inl rfl, rfl⟩
theorem tb_1 {b : Nat} (hb : tbv b) : sbs (dsL (159 - b) ++ [89, 90, 91, 92]) RdF (tbS b) tbF = true := by rcases hb with e | e <;> subst e <;> decide
theorem tb_2 {b : Nat} (hb : tbv b) : sbs [9, 10, 11, 12, 13, 14, 15, 16, 17, 20, 21, 22, 23] [(7, 8)] (tbS b) tbF = true := by rcases hb with e | e <;> subst e <;> decide
theorem tb_3 {b : Nat} (hb : tbv b) : sbs [] tbF (tbS b) tbF = true := by rcases hb with e | e <;> subst e <;> decide
theorem tb_4 {b : Nat} (hb : tbv b) : sbs (tbS b) tbF (tbS b ++ taS) (tbF ++ taF) = true := by rcases hb with e | e <;> subst e <;> decide
theorem tb_5 {b : Nat} (hb : tbv b) : sbs taS taF (tbS b ++ taS) (tbF ++ taF) = true := by rcases hb with e | e <;> subst e <;> decide
theorem tb_6 {b : Nat} (hb : tbv b) : kps [] [(1, 1)] (dsL (159 - b) ++ [89, 90, 91, 92]) RdF = true := by rcases hb with e | e <;> subst e <;> decide
def TbXn (b n : Nat) (R : PRs) (m0 : zM) (p : Int32 × zM) : Prop := ∃ m, p = (-1, sI m 64 1 (m.1 64 1 + 1)) ∧ fl2 (tbS b) tbF m0 m ∧ m.1 1 1 = nI 0 ∧ ∃ c q, whyN n R c q ∧ m.1 65 7 = nI c ∧ m.1 65 8 = nI q
def TbXy (b : Nat) (R : PRs) (m0 : zM) (p : Int32 × zM) : Prop := ∃ (s : Nat) (P : Nat → Nat) (N : Nat) (W D pr sp : Nat → Nat), R = .inr (s, P) ∧ p.1 = nI s ∧ TdX P N W D pr sp (159 - b) p.2 ∧ fl2 (tbS b ++ taS) (tbF ++ taF) (swp b m0) p.2 ∧ p.2.1 1 1 = nI 0 ∧ p.2.1 65 7 = 0 ∧ p.2.1 65 8 = -1 ∧ wX 55 (P 3) (dh (P 3) (wx0 P)) (da (P 3) (wx0 P)) p.2 ∧ p.2.1 0 14 = 0 ∧ p.2.1 48 2 = 0 ∧ p.2.1 48 3 = 0 ∧ p.2.1 48 8 = -1
def TbX (b n : Nat) (R : PRs) (m0 : zM) (p : Int32 × zM) : Prop := TbXn b n R m0 p ∨ TbXy b R m0 p
theorem J53_f {b n c q : Nat} {R : PRs} {m0 m : zM} (hb : tbv b) (f0 : fl2 (tbS b) tbF m0 m) (h1 : m.1 1 1 = nI n) (hn : n ≤ 1600) (hw : whyN n R c q) (h7 : m.1 65 7 = nI c) (h8 : m.1 65 8 = nI q) : ok (f_PA_table_J53 (-1) m) (TbX b n R m0) := by
  unfold f_PA_table_J53
  obtain ⟨f1, e1⟩ := cut1 h1 (by omega)
  generalize f_Bytes_cut 1 0 m = m1 at f1 e1
  refine ok_lt (ok_ip rfl ?_)
  rw [show (1 : Int32) = nI 1 from rfl, refX (by decide)]
  refine ok_eb rfl (ok_mk (Or.inl ⟨m1, rfl, fl2_tr f0 (fl2_su (fl2_su f1 (by decide) : fl2 [] tbF m m1) (tb_3 hb)), e1, c, q, hw, ?_, ?_⟩))
  · rw [fl2_i f1 (by decide)]; exact h7
  · rw [fl2_i f1 (by decide)]; exact h8
theorem J53_y {b n s N : Nat} {R : PRs} {P ow fk dp pa st : Nat → Nat} {m0 m : zM} (hR : Rfs b m0) (f0 : fl2 (tbS b) tbF m0 m) (h1 : m.1 1 1 = nI n) (hn : n ≤ 1600) (e : R = .inr (s, P)) (hP : tV P) (hG : tGd P) (hs : s ≤ 60) (ht : tX (159 - b) P m) (hS : SF P N ow fk dp pa st m) (h7 : m.1 65 7 = 0) (h8 : m.1 65 8 = -1) : ok (f_PA_table_J53 (nI s) m) (TbX b n R m0) := by
  have hb := hR.1
  obtain ⟨hb', ee⟩ := tbv_o hb
  have p8 := hP.1.2.2.2.2.2.2.2.2.2.2.1
  unfold f_PA_table_J53
  obtain ⟨f1, e1⟩ := cut1 h1 (by omega)
  generalize f_Bytes_cut 1 0 m = m1 at f1 e1
  refine ok_lt (ok_in (nI_ne_m1 (by omega)) ?_)
  have r1 : m1.2.2 = m0.2.2 := f1.2.trans f0.2
  have F1 : fl2 (tbS b) tbF m0 m1 := fl2_tr f0 (fl2_su (fl2_su f1 (by decide) : fl2 [] tbF m m1) (tb_3 hb))
  refine ok_eb (tb_ok (b := b) (by rw [r1]; exact hR.2.1) hb) (ok_eb (tb_ok (b := 159 - b) (by rw [r1]; exact hR.2.2.1) hb') (ok_lt (ok_lt (ok_lt ?_))))
  have t0 : tX (159 - b) P m1 := tX_fl hb' ht f1 (by decide) p8
  have t1 : tX (159 - b) P (sT (sT m1 0 (159 - b)) 1 b) := t0
  have S0 : SF P N ow fk dp pa st m1 := ⟨hS.1, hS.2.1, SXm_fl hS.2.2.1 f1 (by decide), hS.2.2.2⟩
  have S1 : SF P N ow fk dp pa st (sT (sT m1 0 (159 - b)) 1 b) := S0
  have q1 : (sT (sT m1 0 (159 - b)) 1 b).1 1 1 = nI 0 := e1
  have q7 : (sT (sT m1 0 (159 - b)) 1 b).1 65 7 = 0 := by show m1.1 65 7 = 0; rw [fl2_i f1 (by decide)]; exact h7
  have q8 : (sT (sT m1 0 (159 - b)) 1 b).1 65 8 = -1 := by show m1.1 65 8 = -1; rw [fl2_i f1 (by decide)]; exact h8
  have F2 : fl2 (tbS b) tbF (sT (sT m0 0 (159 - b)) 1 b) (sT (sT m1 0 (159 - b)) 1 b) := tb_fl (tb_fl F1)
  have T0 : (sT (sT m1 0 (159 - b)) 1 b).2.2 0 = 159 - b := rfl
  have T1 : (sT (sT m1 0 (159 - b)) 1 b).2.2 1 = b := rfl
  generalize sT (sT m1 0 (159 - b)) 1 b = m2 at t1 S1 q1 q7 q8 F2 T0 T1
  have f3 : fl2 [] [(0, 13)] m2 (sI m2 0 13 1) := fl2_I (inS_f (by simp))
  have t3 := tX_fl hb' t1 f3 (by decide) p8
  have S3 : SF P N ow fk dp pa st (sI m2 0 13 1) := ⟨S1.1, S1.2.1, SXm_fl S1.2.2.1 f3 (by decide), S1.2.2.2⟩
  have e13 : (sI m2 0 13 1).1 0 13 = 1 := rd_I1 _ _ _ _
  generalize sI m2 0 13 1 = m3 at f3 t3 S3 e13
  refine ok_eb (tb_ok (b := 159 - b) (by rw [f3.2]; exact T0) hb') (ok_bi (fillN hb' hP t3 S3) (fun p4 ⟨f4, W, D, pr, sp, hL, hA, hY, z1, z2⟩ => ?_))
  have f4 : fl2 [26, 27, 28, 29, 30, 31, 32, 33, 34, 35, 36, 37, 38, 39, 40, 41, 44, 45, 46, 47] [(24, 0), (24, 1)] m3 p4 := f4
  have t4 := tX_fl hb' t3 f4 (by decide) p8
  refine ok_eb (tb_ok (b := 159 - b) (by rw [f4.2, f3.2]; exact T0) hb') (ok_bi (beginS hb' hP t4 S3.2.1 hL hA) (fun p5 ⟨f5, hT, h127⟩ => ok_lt ?_))
  have f5 : fl2 [117, 118, 119, 120, 121, 122, 123, 124, 127, 130, 131, 132, 133, 134, 135, 136, 137] [(116, 3), (129, 1), (129, 2), (129, 3), (129, 4), (129, 13), (129, 14), (129, 15)] (sT p4 2 (159 - b)) p5 := f5
  have t5 : tX (159 - b) P p5 := tX_fl hb' (show tX (159 - b) P (sT p4 2 (159 - b)) from t4) f5 (by decide) p8
  have A5 : AXm P N W D pr sp p5 := AXm_fl (show AXm P N W D pr sp (sT p4 2 (159 - b)) from hA) f5 (by decide)
  have f6 : fl2 [] [(48, 2), (48, 3), (48, 8)] p5 (sI (sI (sI p5 48 2 0) 48 3 0) 48 8 (-1)) := fl2_tr (fl2_tr (fl2_I (inS_f (by simp))) (fl2_I (inS_f (by simp)))) (fl2_I (inS_f (by simp)))
  have g2 : (sI (sI (sI p5 48 2 0) 48 3 0) 48 8 (-1)).1 48 2 = 0 := by rw [rd_I0 (by omega), rd_I0 (by omega), rd_I1]
  have g3 : (sI (sI (sI p5 48 2 0) 48 3 0) 48 8 (-1)).1 48 3 = 0 := by rw [rd_I0 (by omega), rd_I1]
  have g8 : (sI (sI (sI p5 48 2 0) 48 3 0) 48 8 (-1)).1 48 8 = -1 := by rw [rd_I1]
  have ef : f_Sight_forget p5 = sI (sI (sI p5 48 2 0) 48 3 0) 48 8 (-1) := rfl
  rw [ef]
  generalize sI (sI (sI p5 48 2 0) 48 3 0) 48 8 (-1) = p6 at f6 g2 g3 g8
  have t6 := tX_fl hb' t5 f6 (by decide) p8
  have T5 : p5.2.2 0 = 159 - b ∧ p5.2.2 1 = b ∧ p5.2.2 2 = 159 - b := by
    rw [f5.2]
    refine ⟨?_, ?_, rfl⟩
    · show p4.2.2 0 = _
      rw [f4.2, f3.2]; exact T0
    · show p4.2.2 1 = _
      rw [f4.2, f3.2]; exact T1
  refine ok_eb (tb_ok (b := 159 - b) (by rw [f6.2]; exact T5.1) hb') (ok_bi (beginX (w := 55) hb' hP t6 rfl (by decide)) (fun p7 ⟨f7, hX⟩ => ok_lt (ok_mk (Or.inr ⟨s, P, N, W, D, pr, sp, e, rfl, ?_, ?_, ?_, ?_, ?_, ?_, rd_I1 _ _ _ _, ?_, ?_, ?_⟩))))
  · have f8 : fl2 [55, 56] [(0, 14), (48, 2), (48, 3), (48, 8)] p5 (sI p7 0 14 0) := fl2_tr (fl2_su f6 (by decide)) (fl2_tr (fl2_su f7 (by decide)) (fl2_I (inS_f (by decide))))
    refine ⟨⟨hP, S3.1, S3.2.1, hL, z1, z2, hY, hG⟩, ⟨hb', ?_, ?_, ?_⟩, ?_, tX_fl hb' t5 f8 (by decide) p8, AXm_fl A5 f8 (by decide), STm_fl hT f8 (by decide) (by decide), fun r hr => Or.inl ?_⟩
    · rw [f8.2]; exact T5.1
    · rw [f8.2, ee]; exact T5.2.1
    · rw [f8.2]; exact T5.2.2
    · rw [fl2_i f8 (by decide), fl2_i f5 (by decide)]
      show p4.1 0 13 = 1
      rw [fl2_i f4 (by decide)]; exact e13
    · rw [fl2_i f8 (by simp [inS])]; exact h127 r hr
  · have F3 : fl2 (tbS b ++ taS) (tbF ++ taF) (swp b m0) (sT m2 2 (159 - b)) := fl2_su (tb_fl F2) (tb_4 hb)
    have F4 : fl2 taS taF (sT m2 2 (159 - b)) (sT p4 2 (159 - b)) := fl2_tr (tb_fl (fl2_su f3 (by decide))) (tb_fl (fl2_su f4 (by decide)))
    have F5 : fl2 taS taF (sT p4 2 (159 - b)) (sI p7 0 14 0) := fl2_tr (fl2_su f5 (by decide)) (fl2_tr (fl2_su f6 (by decide)) (fl2_tr (fl2_su f7 (by decide)) (fl2_I (inS_f (by decide)))))
    exact fl2_tr F3 (fl2_su (fl2_tr F4 F5) (tb_5 hb))
  · rw [rd_I0 (by omega), fl2_i f7 (by decide), fl2_i f6 (by decide), fl2_i f5 (by decide)]
    show p4.1 1 1 = _
    rw [fl2_i f4 (by decide), fl2_i f3 (by decide)]; exact q1
  · rw [rd_I0 (by omega), fl2_i f7 (by decide), fl2_i f6 (by decide), fl2_i f5 (by decide)]
    show p4.1 65 7 = _
    rw [fl2_i f4 (by decide), fl2_i f3 (by decide)]; exact q7
  · rw [rd_I0 (by omega), fl2_i f7 (by decide), fl2_i f6 (by decide), fl2_i f5 (by decide)]
    show p4.1 65 8 = _
    rw [fl2_i f4 (by decide), fl2_i f3 (by decide)]; exact q8
  · refine ⟨?_, ?_, fun i hi => ?_⟩
    · rw [rd_I0 (by omega)]; exact hX.1
    · rw [rd_I0 (by omega)]; exact hX.2.1
    · rw [rd_I0 (by omega)]; exact hX.2.2 i hi
  · rw [rd_I0 (by omega), fl2_i f7 (by decide)]; exact g2
  · rw [rd_I0 (by omega), fl2_i f7 (by decide)]; exact g3
  · rw [rd_I0 (by omega), fl2_i f7 (by decide)]; exact g8
theorem tableX {b n : Nat} {g : Nat → Nat} {m : zM} (hR : Rfs b m) (hT : TpX n g m) (hn : n ≤ 1600) : ok (f_PA_table m) (TbX b n (rdR n g 61 0 0 P00) m) := by
  have hb := hR.1
  obtain ⟨hb', ee⟩ := tbv_o hb
  unfold f_PA_table
  refine ok_bi (readX hb' hR.2.2.1 hT hn) (fun p1 ⟨f1, h1⟩ => ?_)
  have n1 : p1.2.1 1 1 = nI n := by rw [fl2_i f1 (kps_g (tb_6 hb) (by simp))]; exact hT.1
  have F1 : fl2 (tbS b) tbF m p1.2 := fl2_su f1 (tb_1 hb)
  rcases h1 with ⟨s, P, e, s0, s60, e1, tx, h7, h8⟩ | ⟨c, q, e, e1, l⟩
  · obtain ⟨hP, hG⟩ := rd0_k e
    rw [e1]
    refine ok_in (nI_ne_m1 (by omega)) (ok_eb (tb_ok (b := 159 - b) (by rw [f1.2]; exact hR.2.2.1) hb') (ok_bi (exploreX hb' hP tx) (fun p2 ⟨f2, h2⟩ => ?_)))
    have F2 : fl2 (tbS b) tbF m p2.2 := fl2_tr F1 (fl2_su f2 (tb_2 hb))
    have n2 : p2.2.1 1 1 = nI n := by rw [fl2_i f2 (by decide)]; exact n1
    rcases h2 with ⟨y, N, ow, fk, dp, pa, st, hS⟩ | ⟨y, big⟩
    · refine ok_ip y (J53_y hR F2 n2 hn e hP hG s60 (tX_fl hb' tx f2 (by decide) hP.1.2.2.2.2.2.2.2.2.2.2.1) hS ?_ ?_)
      · rw [fl2_i f2 (by decide)]; exact h7
      · rw [fl2_i f2 (by decide)]; exact h8
    · refine ok_in (by rw [y]; decide) (ok_lt ?_)
      unfold f_Reader_refuse f_Bytes_size
      rw [n2]
      show ok (f_PA_table_J53 (-1) (sI (sI p2.2 65 7 6) 65 8 (nI n))) _
      refine J53_f (c := 6) (q := n) hb (fl2_tr F2 (fl2_su (fl2_tr (fl2_I (inS_f (by decide))) (fl2_I (inS_f (by decide))) : fl2 [] tbF p2.2 _) (tb_3 hb))) ?_ hn (Or.inr ⟨s, P, e, big, rfl, rfl⟩) ?_ (rd_I1 _ _ _ _)
      · rw [rd_I0 (by omega), rd_I0 (by omega)]; exact n2
      · rw [rd_I0 (by omega), rd_I1]; rfl
  · rw [e1]
    exact ok_ip rfl (J53_f hb F1 n1 hn (Or.inl e) l.1 l.2)
