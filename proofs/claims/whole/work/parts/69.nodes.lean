/-- the code of the e-th move of a world -/
def cea (P : Nat → Nat) (x e : Nat) : Nat := fi (fun c => psb P x c && decide (cn (psb P x) c = e)) 64
theorem cea_sp {P : Nat → Nat} {x e : Nat} (h : e < cn (psb P x) 64) : cea P x e < 64 ∧ psb P x (cea P x e) = true ∧ cn (psb P x) (cea P x e) = e := by
  obtain ⟨c, h1, h2, h3⟩ := cn_at h
  obtain ⟨k1, k2, _⟩ := fi_ex (p := fun c => psb P x c && decide (cn (psb P x) c = e)) h1 (by rw [h2, decide_eq_true h3]; rfl)
  have k2 : (psb P x (cea P x e) && decide (cn (psb P x) (cea P x e) = e)) = true := k2
  rw [Bool.and_eq_true] at k2
  exact ⟨k1, k2.1, of_decide_eq_true k2.2⟩
theorem cea_cn {P : Nat → Nat} {x c : Nat} (hc : c < 64) (h : psb P x c = true) : cn (psb P x) c < cn (psb P x) 64 ∧ cea P x (cn (psb P x) c) = c := by
  have k := cn_ms (p := psb P x) (show c + 1 ≤ 64 by omega)
  rw [cn_s1 h] at k
  refine ⟨by omega, ?_⟩
  obtain ⟨k1, k2, k3⟩ := cea_sp (P := P) (x := x) (e := cn (psb P x) c) (by omega)
  exact cn_un k2 h k3
theorem psb_s {P : Nat → Nat} {x c : Nat} (h : psb P x c = true) : ∃ y, sP P x c = some y ∧ (sP P x c).getD 0 = y := by
  unfold psb at h
  cases e : sP P x c with
  | none => rw [e] at h; cases h
  | some y => exact ⟨y, rfl, rfl⟩
theorem psb_r {P : Nat → Nat} {x c : Nat} (h : psb P x c = true) : c / 4 < P 8 ∧ c % 4 < P 3 := by
  by_cases q : c / 4 < P 8 ∧ c % 4 < P 3
  · exact q
  · unfold psb at h
    rw [sP_no q] at h
    cases h
/-- the row of the e-th move from world i -/
theorem movA {P : Nat → Nat} {N i e : Nat} {W D pr sp : Nat → Nat} {m : zM} (hP : tV P) (hN : N ≤ 600) (hL : Lst (Ed P 16) (wx0 P) N W D) (hA : AXm P N W D pr sp m) (hi : i < N) (he : e < cn (psb P (W i)) 64) : frm P W i + e < 38400 ∧ 0 < nxw P 16 N W i (cea P (W i) e) ∧ nxw P 16 N W i (cea P (W i) e) ≤ N ∧ f_Atlas_target (nI (frm P W i + e)) m = some (nI (nxw P 16 N W i (cea P (W i) e) - 1)) ∧ f_Atlas_by (nI (frm P W i + e)) m = some (nI (cea P (W i) e / 4)) ∧ f_Atlas_mover (nI (frm P W i + e)) m = some (nI (cea P (W i) e % 4)) ∧ ∀ a, a < P 3 → f_Atlas_put (nI (frm P W i + e)) (nI a) m = some (nI (rk (P 3) (da (P 3) ((sP P (W i) (cea P (W i) e)).getD 0)) a)) := by
  have n4 := hP.1.2.1
  obtain ⟨c1, c2, c3⟩ := cea_sp he
  obtain ⟨y, y1, y2⟩ := psb_s c2
  obtain ⟨t, t1, t2, t3⟩ := nxw_e hL hi c1 (by omega) y1
  have row := hA.2.2.2 i hi _ c1 y y1
  rw [c3] at row
  have b := frm_le P W (i + 1)
  have b' : frm P W (i + 1) = frm P W i + cn (psb P (W i)) 64 := rfl
  have ix1 : ix 38400 (nI (frm P W i + e)) = some (frm P W i + e) := ix_nI (by omega) (by decide)
  have rl : ∀ j, j < P 3 → rk (P 3) (da (P 3) y) j < 4 := fun j hj => by have := rk_lt (a := da (P 3) y) hj; omega
  have ql := ppq_lt rl
  have q4 : (4 : Nat) ^ P 3 ≤ 4 ^ 4 := Nat.pow_le_pow_right (by decide) n4
  have em : mrw P N W i (cea P (W i) e) y = (t * 64 + cea P (W i) e) * 256 + ppq (rk (P 3) (da (P 3) y)) (P 3) := by
    unfold mrw mpk
    rw [t3, Nat.add_sub_cancel]
  rw [em] at row
  generalize cea P (W i) e = c at *
  generalize eq : ppq (rk (P 3) (da (P 3) y)) (P 3) = q at *
  refine ⟨by omega, by omega, by omega, ?_, ?_, ?_, fun a ha => ?_⟩
  · unfold f_Atlas_target shr
    rw [ix1, Option.bind_some, row, pk_shrN (by omega) _ 14 (by decide), t3, Nat.add_sub_cancel]
    congr 2
    omega
  · unfold f_Atlas_by shr
    rw [ix1, Option.bind_some, row, pk_shrN (by omega) _ 10 (by decide), pk_andN (by omega) 4 (by decide)]
    congr 2
    omega
  · unfold f_Atlas_mover shr
    rw [ix1, Option.bind_some, row, pk_shrN (by omega) _ 8 (by decide), pk_andN (by omega) 2 (by decide)]
    congr 2
    omega
  · unfold f_Atlas_put shr
    have pa := ppq_at rl n4 ha
    rw [eq] at pa
    rw [ix1, Option.bind_some, row, y2, ← pa]
    rcases (show a = 0 ∨ a = 1 ∨ a = 2 ∨ a = 3 by omega) with z | z | z | z <;> rw [z]
    · rw [pk_shrN (by omega) _ 0 (by decide), pk_andN (by omega) 2 (by decide)]
      congr 2
      omega
    · rw [pk_shrN (by omega) _ 2 (by decide), pk_andN (by omega) 2 (by decide)]
      congr 2
      omega
    · rw [pk_shrN (by omega) _ 4 (by decide), pk_andN (by omega) 2 (by decide)]
      congr 2
      omega
    · rw [pk_shrN (by omega) _ 6 (by decide), pk_andN (by omega) 2 (by decide)]
      congr 2
      omega
/-- a world and one agent in it, the first of those that are like -/
def nod (P W : Nat → Nat) (v : Nat) : Bool := decide (v % 4 < P 3) && decide (lkf (da (P 3) (W (v / 4))) (v % 4) = v % 4)
def avd (P W : Nat → Nat) (av v : Nat) : Bool := decide (av ≠ 0) && decide (oS (da (P 3) (W (v / 4)) (v % 4)) + 1 = av)
/-- the node to which the move c leads, and one; 0: none -/
def nde (P : Nat → Nat) (w N : Nat) (W : Nat → Nat) (v c : Nat) : Nat := if nxw P w N W (v / 4) c = 0 then 0 else 4 * (nxw P w N W (v / 4) c - 1) + lkf (da (P 3) (W (nxw P w N W (v / 4) c - 1))) (rk (P 3) (da (P 3) ((sP P (W (v / 4)) c).getD 0)) (v % 4)) + 1
def nda (P : Nat → Nat) (w N : Nat) (W : Nat → Nat) (av v c : Nat) : Nat := if nde P w N W v c = 0 ∨ avd P W av (nde P w N W v c - 1) = true then 0 else nde P w N W v c
theorem lkf_id (a : Nat → Nat) (i : Nat) : a (lkf a i) = a i ∧ lkf a (lkf a i) = lkf a i := by
  induction i with
  | zero => exact ⟨rfl, rfl⟩
  | succ i ih =>
    have e : lkf a (i + 1) = if a (i + 1) = a i then lkf a i else i + 1 := rfl
    by_cases q : a (i + 1) = a i
    · rw [e, if_pos q]; exact ⟨by rw [ih.1, q], ih.2⟩
    · rw [e, if_neg q]; exact ⟨rfl, by rw [e, if_neg q]⟩
theorem nxw_w {P : Nat → Nat} {w N : Nat} {W : Nat → Nat} {i c : Nat} (h : c / 4 ≠ w) (h' : c / 4 ≠ 16) : nxw P w N W i c = nxw P 16 N W i c := by
  unfold nxw
  rw [if_neg h, if_neg h']
theorem nxw_le {P : Nat → Nat} {w N : Nat} {W D : Nat → Nat} {i c : Nat} (hL : Lst (Ed P 16) (wx0 P) N W D) (hi : i < N) (hc : c < 64) : nxw P w N W i c ≤ N := by
  by_cases q : c / 4 = w
  · rw [nxw_0 (Or.inl q)]; omega
  · cases e : sP P (W i) c with
    | none => rw [nxw_0 (Or.inr e)]; omega
    | some y =>
      obtain ⟨t, t1, t2, t3⟩ := nxw_e hL hi hc (by omega) e
      rw [nxw_w q (by omega)]
      omega
theorem nde_sp {P : Nat → Nat} {w N v c : Nat} {W D : Nat → Nat} (hP : tV P) (hL : Lst (Ed P 16) (wx0 P) N W D) (hv : v < 4 * N) (ha : v % 4 < P 3) (hc : c < 64) (h : nde P w N W v c ≠ 0) : nde P w N W v c - 1 < 4 * N ∧ nod P W (nde P w N W v c - 1) = true := by
  have n4 := hP.1.2.1
  unfold nde at h ⊢
  by_cases q : nxw P w N W (v / 4) c = 0
  · rw [if_pos q] at h; exact absurd rfl h
  · rw [if_neg q]
    have t1 := nxw_le (w := w) hL (show v / 4 < N by omega) hc
    have r := rk_lt (a := da (P 3) ((sP P (W (v / 4)) c).getD 0)) ha
    have l := lkf_le (da (P 3) (W (nxw P w N W (v / 4) c - 1))) (rk (P 3) (da (P 3) ((sP P (W (v / 4)) c).getD 0)) (v % 4))
    have li := (lkf_id (da (P 3) (W (nxw P w N W (v / 4) c - 1))) (rk (P 3) (da (P 3) ((sP P (W (v / 4)) c).getD 0)) (v % 4))).2
    generalize lkf (da (P 3) (W (nxw P w N W (v / 4) c - 1))) (rk (P 3) (da (P 3) ((sP P (W (v / 4)) c).getD 0)) (v % 4)) = k at *
    refine ⟨by omega, ?_⟩
    unfold nod
    rw [show 4 * (nxw P w N W (v / 4) c - 1) + k + 1 - 1 = 4 * (nxw P w N W (v / 4) c - 1) + k by omega, show (4 * (nxw P w N W (v / 4) c - 1) + k) % 4 = k by omega, show (4 * (nxw P w N W (v / 4) c - 1) + k) / 4 = nxw P w N W (v / 4) c - 1 by omega, decide_eq_true li, decide_eq_true (show k < P 3 by omega)]
    rfl
theorem avoidX {P : Nat → Nat} {N v av : Nat} {W D pr sp : Nat → Nat} {fol sk : Int32} {m : zM} (hN : N ≤ 600) (hC : CxG P N W D pr sp fol sk (nI av - 1) m) (hav : av ≤ 6) (hv : v < 4 * N) (ha : v % 4 < P 3) : f_Joined_isAvoided (nI v) m = some (avd P W av v) := by
  refine ok_eq.mp ?_
  have dl := da_lt (P 3) (W (v / 4)) (v % 4)
  have ol := oS_lt dl
  unfold f_Joined_isAvoided avd
  refine ok_mm av (fun q => ok_mk ?_) (fun q => ?_) (hx := hC.2.2.2)
  · show false = _
    rw [decide_eq_false (show ¬ av ≠ 0 by omega)]; rfl
  · refine ok_ix rfl (show v < 2400 by omega) (by decide) ?_
    have e34 : m.1 34 v = nI (da (P 3) (W (v / 4)) (v % 4)) := by
      have := ((hC.1.2.1 (v / 4) (by omega)).2.2 (v % 4) ha).1
      rwa [show 4 * (v / 4) + v % 4 = v by omega] at this
    have ed : m.1 34 v / 343 = nI (oS (da (P 3) (W (v / 4)) (v % 4))) := by rw [e34]; exact pk_div (d := 343) (by omega) (by decide) (by decide)
    have e3 : m.1 129 3 = nI (av - 1) := by rw [hC.2.2.2]; exact nI_pr q
    refine ok_ee (oS (da (P 3) (W (v / 4)) (v % 4))) (av - 1) (fun z => ok_mk ?_) (fun z => ok_mk ?_) (hx := ed) (hy := e3)
    · show true = _
      rw [decide_eq_true (show av ≠ 0 by omega), decide_eq_true (show oS (da (P 3) (W (v / 4)) (v % 4)) + 1 = av by omega)]; rfl
    · show false = _
      rw [decide_eq_false (show ¬ oS (da (P 3) (W (v / 4)) (v % 4)) + 1 = av by omega), Bool.and_false]
def opF (P W : Nat → Nat) (av v : Nat) : Bool := nod P W v && !avd P W av v
theorem isNodeF {P : Nat → Nat} {N v av : Nat} {W D pr sp : Nat → Nat} {sk : Int32} {m : zM} (hP : tV P) (hN : N ≤ 600) (hC : CxG P N W D pr sp 1 sk (nI av - 1) m) (hav : av ≤ 6) (hv : v < 4 * N) : f_Joined_isNode (nI v) m = some (opF P W av v) := by
  refine ok_eq.mp ?_
  have n4 := hP.1.2.1
  have e5 : ir (nI v) 4 = nI (v % 4) := pk_rem (d := 4) (by omega) (by decide) (by decide)
  unfold f_Joined_isNode opF nod
  rw [hC.2.1, e5]
  refine ok_in (show ¬ (1 : Int32) = 0 by decide) ?_
  refine ok_le (P 3) (v % 4) (fun q => ok_mk ?_) (fun q => ?_) (hx := hC.1.1.1.2)
  · show false = _
    rw [decide_eq_false (show ¬ v % 4 < P 3 by omega)]; rfl
  · refine ok_ix rfl (show v < 2400 by omega) (by decide) ?_
    have e35 : m.1 35 v = nI (lkf (da (P 3) (W (v / 4))) (v % 4)) := by
      have := ((hC.1.2.1 (v / 4) (by omega)).2.2 (v % 4) q).2
      rwa [show 4 * (v / 4) + v % 4 = v by omega] at this
    have l := lkf_le (da (P 3) (W (v / 4))) (v % 4)
    rw [decide_eq_true q]
    refine ok_ee (lkf (da (P 3) (W (v / 4))) (v % 4)) (v % 4) (fun z => ?_) (fun z => ok_mk ?_) (hx := e35)
    · refine ok_eb (avoidX hN hC hav hv q) ?_
      rw [decide_eq_true z]
      refine ok_tf (fun y => ok_mk ?_) (fun y => ok_mk ?_)
      · show false = _
        rw [y]; rfl
      · show true = _
        rw [y]; rfl
    · show false = _
      rw [decide_eq_false z]; rfl
theorem nextF {P : Nat → Nat} {N v e w av : Nat} {W D pr sp : Nat → Nat} {sk : Int32} {m : zM} (hP : tV P) (hN : N ≤ 600) (hL : Lst (Ed P 16) (wx0 P) N W D) (hw : wvl w sk) (hC : CxG P N W D pr sp 1 sk (nI av - 1) m) (hav : av ≤ 6) (hv : v < 4 * N) (ha : v % 4 < P 3) (he : e < dgx P W v) : f_Joined_next (nI v) (nI (frm P W (v / 4) + e)) m = some (nI (nda P w N W av v (cea P (W (v / 4)) e)) - 1) := by
  refine ok_eq.mp ?_
  have n4 := hP.1.2.1
  have r16 := hP.1.2.2.2.2.2.2.2.2.2.2.1
  have e5 : ir (nI v) 4 = nI (v % 4) := pk_rem (d := 4) (by omega) (by decide) (by decide)
  have vi : v / 4 < N := by omega
  obtain ⟨b1, b2, b3, b4, b5, b6, b7⟩ := movA hP hN hL hC.1 vi he
  obtain ⟨c1, c2, c3⟩ := cea_sp he
  have r := rk_lt (a := da (P 3) ((sP P (W (v / 4)) (cea P (W (v / 4)) e)).getD 0)) ha
  unfold f_Joined_next
  refine ok_eb b5 ?_
  rw [hC.2.2.1]
  refine ok_it (fun q => ok_mk ?_) (fun q => ?_)
  · have := (wvl_eq hw (by omega)).mp q
    show (-1 : Int32) = _
    have : nda P w N W av v (cea P (W (v / 4)) e) = 0 := by
      unfold nda nde
      rw [nxw_0 (Or.inl this), if_pos rfl, if_pos (Or.inl rfl)]
    rw [this]; decide
  · have cw : cea P (W (v / 4)) e / 4 ≠ w := fun z => q ((wvl_eq hw (by omega)).mpr z)
    have ex : nxw P w N W (v / 4) (cea P (W (v / 4)) e) = nxw P 16 N W (v / 4) (cea P (W (v / 4)) e) := nxw_w cw (by omega)
    refine ok_eb b4 ?_
    rw [hC.2.1]
    refine ok_in (show ¬ (1 : Int32) = 0 by decide) ?_
    rw [e5]
    refine ok_eb (b7 _ ha) ?_
    rw [show ∀ a b : Nat, nI a * 4 + nI b = nI (4 * a + b) from fun a b => nI_4]
    refine ok_ix rfl (show 4 * (nxw P 16 N W (v / 4) (cea P (W (v / 4)) e) - 1) + rk (P 3) (da (P 3) ((sP P (W (v / 4)) (cea P (W (v / 4)) e)).getD 0)) (v % 4) < 2400 by omega) (by decide) ?_
    rw [((hC.1.2.1 (nxw P 16 N W (v / 4) (cea P (W (v / 4)) e) - 1) (by omega)).2.2 _ r).2, show ∀ a b : Nat, nI a * 4 + nI b = nI (4 * a + b) from fun a b => nI_4]
    have en : nde P w N W v (cea P (W (v / 4)) e) = 4 * (nxw P 16 N W (v / 4) (cea P (W (v / 4)) e) - 1) + lkf (da (P 3) (W (nxw P 16 N W (v / 4) (cea P (W (v / 4)) e) - 1))) (rk (P 3) (da (P 3) ((sP P (W (v / 4)) (cea P (W (v / 4)) e)).getD 0)) (v % 4)) + 1 := by
      unfold nde
      rw [ex, if_neg (by omega)]
    obtain ⟨n1, n2⟩ := nde_sp (w := w) hP hL hv ha c1 (by rw [en]; omega)
    have n3 : (nde P w N W v (cea P (W (v / 4)) e) - 1) % 4 < P 3 := by
      unfold nod at n2
      rw [Bool.and_eq_true] at n2
      exact of_decide_eq_true n2.1
    have e2 : 4 * (nxw P 16 N W (v / 4) (cea P (W (v / 4)) e) - 1) + lkf (da (P 3) (W (nxw P 16 N W (v / 4) (cea P (W (v / 4)) e) - 1))) (rk (P 3) (da (P 3) ((sP P (W (v / 4)) (cea P (W (v / 4)) e)).getD 0)) (v % 4)) = nde P w N W v (cea P (W (v / 4)) e) - 1 := by rw [en]; omega
    rw [e2]
    refine ok_eb (avoidX hN hC hav n1 n3) ?_
    have n0 : nde P w N W v (cea P (W (v / 4)) e) ≠ 0 := by rw [en]; omega
    refine ok_tf (fun z => ok_mk ?_) (fun z => ok_mk ?_)
    · show (-1 : Int32) = _
      unfold nda
      rw [if_pos (Or.inr z)]; decide
    · show nI (nde P w N W v (cea P (W (v / 4)) e) - 1) = _
      unfold nda
      rw [if_neg (fun y => by rcases y with y | y; exact n0 y; rw [z] at y; cases y)]
      exact (nI_pr (by omega)).symm
/-- worlds alone -/
def op0 (v : Nat) : Bool := decide (v % 4 = 0)
def xd0 (P : Nat → Nat) (N : Nat) (W : Nat → Nat) (v e : Nat) : Nat := 4 * (nxw P 16 N W (v / 4) (cea P (W (v / 4)) e) - 1) + 1
theorem isNode0 {P : Nat → Nat} {N v : Nat} {W D pr sp : Nat → Nat} {sk av : Int32} {m : zM} (hN : N ≤ 600) (hC : CxG P N W D pr sp 0 sk av m) (hv : v < 4 * N) : f_Joined_isNode (nI v) m = some (op0 v) := by
  refine ok_eq.mp ?_
  have e5 : ir (nI v) 4 = nI (v % 4) := pk_rem (d := 4) (by omega) (by decide) (by decide)
  unfold f_Joined_isNode op0
  rw [hC.2.1, e5]
  refine ok_ip rfl ?_
  refine ok_ee (v % 4) 0 (fun q => ok_mk ?_) (fun q => ok_mk ?_)
  · show true = _
    rw [decide_eq_true q]
  · show false = _
    rw [decide_eq_false q]
theorem next0 {P : Nat → Nat} {N v e : Nat} {W D pr sp : Nat → Nat} {av : Int32} {m : zM} (hP : tV P) (hN : N ≤ 600) (hL : Lst (Ed P 16) (wx0 P) N W D) (hC : CxG P N W D pr sp 0 (-1) av m) (hv : v < 4 * N) (he : e < dgx P W v) : f_Joined_next (nI v) (nI (frm P W (v / 4) + e)) m = some (nI (xd0 P N W v e) - 1) := by
  refine ok_eq.mp ?_
  have r16 := hP.1.2.2.2.2.2.2.2.2.2.2.1
  have vi : v / 4 < N := by omega
  obtain ⟨b1, b2, b3, b4, b5, b6, b7⟩ := movA hP hN hL hC.1 vi he
  obtain ⟨c1, c2, c3⟩ := cea_sp he
  unfold f_Joined_next
  refine ok_eb b5 ?_
  rw [hC.2.2.1]
  refine ok_in (nI_ne_m1 (by omega)) (ok_eb b4 ?_)
  rw [hC.2.1]
  refine ok_ip rfl (ok_mk ?_)
  show nI _ * 4 = nI (4 * _ + 1) - 1
  rw [nI_pred, show (4 : Int32) = nI 4 from rfl, pk_mul, Nat.mul_comm]
theorem join0 {P : Nat → Nat} {N : Nat} {W D pr sp : Nat → Nat} {m : zM} (hP : tV P) (hN : N ≤ 600) (hL : Lst (Ed P 16) (wx0 P) N W D) (hA : AXm P N W D pr sp m) : ok (f_Joined_join 0 (-1) (-1) m) (fun p => YFr m p ∧ CxG P N W D pr sp 0 (-1) (-1) p ∧ ∃ (gp sta mem : Nat → Nat) (G : Nat), JXm P N W op0 (xd0 P N W) gp sta mem G p) := by
  refine joinX hN hA (Or.inl rfl) (fun m' hC v hv => isNode0 hN hC hv) (fun m' hC v hv _ e he => next0 hP hN hL hC hv he) (fun v hv _ e he u hu => ?_)
  obtain ⟨b1, b2, b3, _⟩ := movA hP hN hL hA (show v / 4 < N by omega) he
  unfold xd0 at hu
  refine ⟨by omega, ?_⟩
  unfold op0
  exact decide_eq_true (by omega)
theorem nod_a {P W : Nat → Nat} {v : Nat} (h : nod P W v = true) : v % 4 < P 3 := by
  unfold nod at h
  rw [Bool.and_eq_true] at h
  exact of_decide_eq_true h.1
theorem opF_n {P W : Nat → Nat} {av v : Nat} (h : opF P W av v = true) : nod P W v = true ∧ avd P W av v = false := by
  unfold opF at h
  rw [Bool.and_eq_true] at h
  refine ⟨h.1, ?_⟩
  have := h.2
  cases e : avd P W av v with
  | false => rfl
  | true => rw [e] at this; cases this
def xdF (P : Nat → Nat) (w N : Nat) (W : Nat → Nat) (av v e : Nat) : Nat := nda P w N W av v (cea P (W (v / 4)) e)
theorem nda_sp {P : Nat → Nat} {w N v c av u : Nat} {W D : Nat → Nat} (hP : tV P) (hL : Lst (Ed P 16) (wx0 P) N W D) (hv : v < 4 * N) (ha : v % 4 < P 3) (hc : c < 64) (h : nda P w N W av v c = u + 1) : u < 4 * N ∧ opF P W av u = true := by
  unfold nda at h
  by_cases q : nde P w N W v c = 0 ∨ avd P W av (nde P w N W v c - 1) = true
  · rw [if_pos q] at h; omega
  · rw [if_neg q] at h
    obtain ⟨n1, n2⟩ := nde_sp (w := w) hP hL hv ha hc (by omega)
    rw [h, Nat.add_sub_cancel] at n1 n2 q
    refine ⟨n1, ?_⟩
    unfold opF
    rw [n2]
    cases e : avd P W av u with
    | false => rfl
    | true => exact absurd (Or.inr e) q
theorem joinF {P : Nat → Nat} {N w av : Nat} {W D pr sp : Nat → Nat} {sk : Int32} {m : zM} (hP : tV P) (hN : N ≤ 600) (hL : Lst (Ed P 16) (wx0 P) N W D) (hA : AXm P N W D pr sp m) (hw : wvl w sk) (hav : av ≤ 6) : ok (f_Joined_join 1 sk (nI av - 1) m) (fun p => YFr m p ∧ CxG P N W D pr sp 1 sk (nI av - 1) p ∧ ∃ (gp sta mem : Nat → Nat) (G : Nat), JXm P N W (opF P W av) (xdF P w N W av) gp sta mem G p) := by
  refine joinX hN hA (Or.inr rfl) (fun m' hC v hv => isNodeF hP hN hC hav hv) (fun m' hC v hv ho e he => nextF hP hN hL hw hC hav hv (nod_a (opF_n ho).1) he) (fun v hv ho e he u hu => ?_)
  exact nda_sp hP hL hv (nod_a (opF_n ho).1) (cea_sp he).1 hu
