theorem b2i_1 : b2i true = 1 := rfl
theorem figT {P : Nat → Nat} {N r : Nat} {W D pr sp : Nat → Nat} {b : Nat} {mx : zM} (h : TdX P N W D pr sp b mx) (hr : r < P 8) : ok (f_Study_figure (nI r) mx) (fun p => TdX P N W D pr sp b p ∧ fl2 FgS FgF mx p ∧ p.1 127 r = 1 ∧ ∀ r', r' < 16 → mx.1 127 r' = 1 → p.1 127 r' = 1) := by
  obtain ⟨hA, r0, g1, g2, g3, g4, g5⟩ := id h
  obtain ⟨h1, h2, h3, h4, h5, h6, h7⟩ := id hA
  have r16 := h1.1.2.2.2.2.2.2.2.2.2.2.1
  have b76 := h1.1.2.2.2.2.2.2.2.2.2.2.2
  have b6 := h1.1.2.2.2.2.2.2.2.2.1
  unfold f_Study_figure
  refine ok_ix rfl (by omega : r < 16) (by decide) (ok_it (fun q => ok_ix rfl (by omega : r < 16) (by decide) (ok_lt ?_)) (fun q => ok_mk ⟨h, fl2_rf, ?_, fun r' _ z => z⟩))
  rotate_left
  · rcases g5 r (by omega) with z | z
    · exact absurd z q
    · exact z.2.1
  have f1 : fl2 FgS FgF mx (sI mx 127 r (b2i true)) := fl2_I (inS_c (by decide))
  refine ok_bi (reachX (r := r) h1 h3 h2 h4 (AXm_fl g3 f1 (by decide)) hr) (fun p4 ⟨f4, n, ord, en, Q, im⟩ => ?_)
  rw [en]
  have f5 : fl2 FgS FgF mx p4.2 := fl2_tr f1 (fl2_su f4 (by decide))
  have k127 : ∀ x, p4.2.1 127 x = (sI mx 127 r (b2i true)).1 127 x := fun x => by rw [fl2_ic f4 (fun j => by simp [inS])]
  have k128 : ∀ x, p4.2.1 128 x = mx.1 128 x := fun x => by rw [fl2_ic f4 (fun j => by simp [inS]), rd_I0 (by omega)]
  rw [show nI r * 5 = nI (5 * r) by rw [show (5 : Int32) = nI 5 from rfl, pk_mul, Nat.mul_comm]]
  unfold f_Study_figure_L30
  refine ok_for 5 (fun k (s : Int32 × zM) => s.1 = nI k ∧ fl2 [128] [] p4.2 s.2 ∧ (∀ j, j < k → s.2.1 128 (5 * r + j) = 0) ∧ ∀ x, x < 5 * r ∨ 5 * r + 5 ≤ x → s.2.1 128 x = mx.1 128 x) (k0 := 0) ⟨rfl, fl2_rf, fun j hj => absurd hj (Nat.not_lt_zero _), fun x _ => k128 x⟩ (Nat.zero_le _) ?_
  rintro k ⟨x, m1⟩ - hk ⟨e, d1, d2, d3⟩
  have e : x = nI k := e
  subst e
  have d1 : fl2 [128] [] p4.2 m1 := d1
  have d2 : ∀ j, j < k → m1.1 128 (5 * r + j) = 0 := d2
  have d3 : ∀ x, x < 5 * r ∨ 5 * r + 5 ≤ x → m1.1 128 x = mx.1 128 x := d3
  unfold f_Study_figure_B30
  refine ok_le 5 k (fun q1 => ok_zl ?_) (fun q1 => ok_ix (nI_add (5 * r) k) (by omega : 5 * r + k < 80) (by decide) (ok_lt (ok_mk ⟨q1, nI_1 k, fl2_tr d1 (fl2_I (inS_c (by simp))), fun j hj => ?_, fun x hx => ?_⟩)))
  rotate_left
  · show (sI m1 128 (5 * r + k) 0).1 128 (5 * r + j) = 0
    by_cases z : j = k
    · rw [z, rd_I1]
    · rw [rd_I0 (by omega)]; exact d2 j (by omega)
  · show (sI m1 128 (5 * r + k) 0).1 128 x = _
    rw [rd_I0 (by omega)]; exact d3 x hx
  unfold f_Study_figure_J52
  refine ok_ix rfl (by omega : 5 * r < 80) (by decide) (ok_lt ?_)
  have f6 : fl2 FgS FgF mx (sI m1 128 (5 * r) (nI n)) := fl2_tr f5 (fl2_tr (fl2_su d1 (by decide)) (fl2_I (inS_c (by decide))))
  have f6' : fl2 [128] [] p4.2 (sI m1 128 (5 * r) (nI n)) := fl2_tr d1 (fl2_I (inS_c (by simp)))
  have T6 := tX_fl r0.1 g2 f6 (by decide) r16
  have R6 := Rfs_x r0 f6
  have A6 := AXm_fl g3 f6 (by decide)
  -- the end: all is there
  have fin : ∀ (v4 : Bool) (mk : Nat → Bool) (m7 : zM), fl2 SaS FgF (sI m1 128 (5 * r) (nI n)) m7 → (v4 = true ↔ P 6 ≠ 0) → (v4 = true → (∀ v, v < 4 * N → m7.1 124 v = b2i (mk v)) ∧ ∀ v, v < 4 * N → opF P W 0 v = true → (mk v = true ↔ hopeP P r N W v)) → ok (f_Study_figure_J87 (nI r) (nI (5 * r)) (nI n) v4 m7) (fun p => TdX P N W D pr sp b p ∧ fl2 FgS FgF mx p ∧ p.1 127 r = 1 ∧ ∀ r', r' < 16 → mx.1 127 r' = 1 → p.1 127 r' = 1) := by
    intro v4 mk m7 f7 hv hm
    have f7' : fl2 FgS FgF mx m7 := fl2_tr f6 (fl2_su f7 (by decide))
    have c128 : ∀ x, m7.1 128 x = (sI m1 128 (5 * r) (nI n)).1 128 x := fun x => by rw [fl2_ic f7 (fun j => by simp [inS, SaS, FgF])]
    refine ok_mo (figL (n := n) (ord := ord) (mk := mk) r0.1 (by rw [f7'.2]; exact r0.2.2.2) h1 (tX_fl r0.1 g2 f7' (by decide) r16) h3 h4 (AXm_fl g3 f7' (by decide)) (by omega) (fun j hj => ⟨(Q.2.2.2.1 j hj).1, ?_⟩) Q.2.1 hv hm (fun k k1 k2 => ?_)) (fun p ⟨fp, s1, s2⟩ => ?_)
    · rw [fl2_ic f7 (fun j => by simp [inS, SaS, FgF]), fl2_ic f6' (fun j => by simp [inS])]; exact (Q.2.2.2.1 j hj).2.1
    · rw [c128, rd_I0 (by omega)]; exact d2 k (by omega)
    · have fx : fl2 FgS FgF mx p := fl2_tr f7' (fl2_su fp (by decide))
      have p127 : ∀ x, p.1 127 x = (sI mx 127 r (b2i true)).1 127 x := fun x => by rw [fl2_ic fp (fun j => by simp [inS]), fl2_ic f7 (fun j => by simp [inS, SaS, FgF]), fl2_ic f6' (fun j => by simp [inS])]; exact k127 x
      have pr1 : p.1 127 r = 1 := by rw [p127, rd_I1]; rfl
      refine ⟨⟨hA, Rfs_x r0 fx, by rw [fl2_i fx (by decide)]; exact g1, tX_fl r0.1 g2 fx (by decide) r16, AXm_fl g3 fx (by decide), STm_fl g4 fx (by decide) (by decide), fun r' hr' => ?_⟩, fx, pr1, fun r' hr' z => ?_⟩
      · by_cases e : r' = r
        · subst e
          refine Or.inr ⟨hr, pr1, fun N' W' D' l1 l2 l3 k hk => ?_⟩
          rw [fgI_p h1 h4 l1 (fun j hj => (Q.2.2.2.1 j hj).1) Q.2.2.2.2.1 im k hk]
          rcases Nat.eq_zero_or_pos k with z | z
          · subst z
            rw [if_pos rfl, s2 (5 * r' + 0) (Or.inl (by omega)), c128]
            exact rd_I1 _ _ _ _
          · rw [if_neg (by omega)]; exact s1 k z hk
        · rw [p127, rd_I0 (fun z => e z.2)]
          rcases g5 r' hr' with z | ⟨z1, z2, z3⟩
          · exact Or.inl z
          · refine Or.inr ⟨z1, z2, fun N' W' D' l1 l2 l3 k hk => ?_⟩
            rw [s2 (5 * r' + k) (by omega), c128, rd_I0 (by omega), d3 (5 * r' + k) (by omega)]
            exact z3 N' W' D' l1 l2 l3 k hk
      · by_cases e : r' = r
        · rw [e]; exact pr1
        · rw [p127, rd_I0 (fun y => e y.2)]; exact z
  refine ok_eb (tb_ok R6.2.2.2 r0.1) ?_
  unfold f_Study_figure_J75
  refine ok_mm (P 6) (fun z => ok_in Bool.false_ne_true (fin false (fun _ => false) _ fl2_rf ⟨fun y => (by cases y), fun y => absurd z y⟩ (fun y => (by cases y)))) (fun z => ok_ip rfl ?_) (hx := T6.1.2.2.2.2.1)
  refine ok_bi (markHX r0.1 R6.2.2.2 h1 T6 h3 h4 A6 (show wvl r (nI r) from Or.inr ⟨by omega, rfl⟩) (fun y => by have := b76.mpr y; omega)) (fun p10 ⟨f10, mkk, m1', m2'⟩ => ?_)
  exact fin true mkk p10 f10 ⟨fun _ => by omega, fun _ => rfl⟩ (fun _ => ⟨m1', m2'⟩)
/-- the reference's numbers of the list that is laid -/
theorem withoutM {P : Nat → Nat} {r N' k : Nat} {W' D' : Nat → Nat} {m : zM} (hP : tV P) (ht : tM 23 P m) (hL : LMx P r N' W' D' m) (hc : m.1 0 46 ≠ 0 → LKm P r N' W' m) (hk : k < 5) : ok (f_MO_withoutOf (nI k) m) (fun q => q.1 = fig5 P r N' W' k ∧ fl2 MS MF m q.2 ∧ tM 23 P q.2 ∧ q.2.1 0 40 = m.1 0 40 ∧ LMx P r N' W' D' q.2 ∧ (q.2.1 0 46 ≠ 0 → LKm P r N' W' q.2) ∧ q.2.1 51 = m.1 51) := by
  have sm : ∀ w, w < 4 → ok (f_MO_withoutOf_J35 (nI w) m) (fun q => q.1 = sumI (smF P r N' W' w) N' ∧ fl2 MS MF m q.2 ∧ tM 23 P q.2 ∧ q.2.1 0 40 = m.1 0 40 ∧ LMx P r N' W' D' q.2 ∧ (q.2.1 0 46 ≠ 0 → LKm P r N' W' q.2) ∧ q.2.1 51 = m.1 51) := by
    intro w hw
    unfold f_MO_withoutOf_J35
    refine ok_bi (sumOfM hP ht hL hw) (fun p ⟨f1, e1⟩ => ok_mk ⟨e1, fl2_su f1 (by decide), tM_fl ht f1 (by decide), fl2_i f1 (by decide), LMx_fl hL f1 (by decide) (by decide), fun z => LKm_fl (hc ?_) f1 (by decide), fl2_ic f1 (fun j => by simp [inS])⟩)
    rw [fl2_i f1 (by decide)] at z
    exact z
  unfold f_MO_withoutOf
  rcases (show k = 0 ∨ k = 1 ∨ k = 2 ∨ k = 3 ∨ k = 4 by omega) with z | z | z | z | z <;> subst z
  · exact ok_ip rfl (ok_mk ⟨hL.2.2.2.1.1, fl2_rf, ht, rfl, hL, hc, rfl⟩)
  · exact ok_in (by decide) (ok_in (by decide) (ok_ip rfl (sm 0 (by decide))))
  · exact ok_in (by decide) (ok_in (by decide) (ok_in (by decide) (sm 2 (by decide))))
  · exact ok_in (by decide) (ok_in (by decide) (ok_in (by decide) (sm 3 (by decide))))
  · refine ok_in (by decide) (ok_ip rfl (ok_bi (wantAllM (what := 0) hP ht hL hc) (fun p ⟨f1, l1, e0, e1⟩ => ok_mk ⟨?_, fl2_su f1 (by decide), tM_fl ht f1 (by decide), fl2_i f1 (by decide), LMx_fl hL f1 (by decide) (by decide), fun _ => l1, fl2_ic f1 (fun j => by simp [inS])⟩)))
    show p.1 = sumI (fun i => timesOf P (W' i) * nI (cn (fun a => stvB P r N' W' (4 * i + a)) (P 3))) N'
    rw [e1]
    exact sumI_cg (fun i _ => by unfold wnB; rw [cn_cg (fun a _ => if_pos rfl)])
theorem atlT {P : Nat → Nat} {N r : Nat} {W D pr sp : Nat → Nat} {b : Nat} {mx mm : zM} (ht : TdX P N W D pr sp b mx) (tm : tM 23 P mm) (mc : MCa P mm) (hr : r < P 8) : ok (f_MO_atlas (nI r) mm) (fun p => fl2 MS MF mm p ∧ tM 23 P p ∧ p.1 0 40 = nI r ∧ p.1 51 = mm.1 51 ∧ ∃ (N' : Nat) (W' D' : Nat → Nat), LMx P r N' W' D' p ∧ nmz N' W' ∧ nmz N' D' ∧ (p.1 0 46 ≠ 0 → LKm P r N' W' p)) := by
  have h1 := ht.1.1
  have r16 := h1.1.2.2.2.2.2.2.2.2.2.2.1
  refine ok_mo (atlasM h1 tm (Or.inr hr) (show wvl r (nI r) from Or.inr ⟨by omega, rfl⟩) ht.1.2.2.2.1 ht.1.2.2.1 mc) (fun p ⟨a1, a2, a3⟩ => ⟨fl2_su a1 (by decide), tM_fl tm a1 (by decide), a2, fl2_ic a1 (fun j => by simp [inS]), a3⟩)
theorem c_without {a1 a2 : Int32} {mx mm : zM} (h : IvW mx mm) : Alk (f_PA_without a1 a2 mx) (f_MO_without a1 a2 mm) := by
  unfold f_PA_without f_MO_without
  obtain ⟨hc, hn | ⟨P, N, W, D, pr, sp, b, ht⟩⟩ := id h
  · unfold f_PA_isRule
    rw [if_pos hn.1, if_pos hn.2.1]
    exact ok_eb rfl (ok_in Bool.false_ne_true (ok_mk (ok_mk ⟨rfl, h⟩)))
  · obtain ⟨⟨h1, h2, h3, h4, h5, h6, h7⟩, r0, g1, g2, g3, g4, g5⟩ := ht.1
    have r16 := h1.1.2.2.2.2.2.2.2.2.2.2.1
    have m33 : ¬ mm.1 0 33 = 0 := by rw [ht.2.1.1]; decide
    rw [if_neg m33]
    have er := rulesM ht.2.1.2.1
    refine ok_bi (isRuT ht.1) (fun rb hrb => ok_it (fun q => ?_) (fun q => ok_mk (ok_eb er (ok_in (fun y => q (hrb.mpr ((isIn_n (by omega)).mp y))) (ok_mk ⟨rfl, h⟩)))))
    obtain ⟨r, hr, e⟩ := hrb.mp q
    subst e
    have ir := (isIn_n (n := P 8) (x := nI r) (by omega)).mpr ⟨r, hr, rfl⟩
    rcases num_or a2 5 with ⟨k, hk, e⟩ | e
    rotate_left
    · have i5 := isIn_d (n := 5) (x := a2) (hi := 4) (by decide) (by decide) e
      have no : ok (some ((-1 : Int32), mx)) (fun p => ok ((f_MO_rules mm).bind fun r1 => if f_MO_isIn (nI r).toInt64 0 ((r1 - 1).toInt64) = true then if f_MO_isIn a2.toInt64 0 4 = true then (f_MO_atlas (nI r) mm).bind fun p2 => (f_MO_withoutOf a2 p2).bind fun p3 => some (p3.1, p3.2) else some (-1, mm) else some (-1, mm)) (fun w => p.1 = w.1 ∧ IvW p.2 w.2)) := ok_mk (ok_eb er (ok_ip ir (ok_in (by rw [i5]; decide) (ok_mk ⟨rfl, h⟩))))
      rcases rng_f (n := 5) (by omega) e with s | s
      · exact ok_ip s no
      · exact ok_it (fun _ => no) (fun _ => ok_in (fun y => Int32.lt_irrefl (Int32.lt_of_lt_of_le y s)) no)
    have i5 := (isIn_c (n := 5) (x := a2) (hi := 4) (by decide) (by decide)).mpr ⟨k, hk, e⟩
    subst e
    refine ok_in (nI_pos (by omega)) (ok_ip (show nI k < 5 from (nI_ltI (b := 5) (by omega) (by decide)).mpr hk) ?_)
    unfold f_Study_lacking
    refine ok_bi (G := fun p : Int32 × zM => TdX P N W D pr sp b p.2 ∧ fl2 FgS FgF mx p.2 ∧ p.2.1 127 r = 1 ∧ p.1 = p.2.1 128 (5 * r + k)) (ok_bi (figT ht.1 hr) (fun p ⟨t1, f1, d1, _⟩ => ok_ix (i := 5 * r + k) (by rw [show (5 : Int32) = nI 5 from rfl, pk_mul, nI_add, Nat.mul_comm]) (by omega) (by decide) (ok_mk ⟨t1, f1, d1, rfl⟩))) (fun p ⟨t1, f1, d1, e1⟩ => ok_mk (ok_eb er (ok_ip ir (ok_ip i5 ?_))))
    refine ok_bi (atlT ht.1 ht.2.1.2.1 ht.2.1.2.2 hr) (fun q ⟨y1, y2, y3, _, N', W', D', y4, y5, y6, y7⟩ => ok_bi (withoutM h1 y2 y4 y7 hk) (fun q2 ⟨x1, x2, x3, x4, x5, x6, _⟩ => ok_mk ⟨?_, ?_⟩))
    · show p.1 = q2.1
      rw [e1, x1]
      rcases t1.2.2.2.2.2.2 r (by omega) with z | ⟨_, _, z⟩
      · rw [d1] at z; exact absurd z (by decide)
      · exact z N' W' D' y4.2.2.1 y5 y6 k hk
    · have tx : Told P N W D pr sp b p.2 mm := ⟨t1, ht.2.1, WaR_x ht.2.2.1 f1 (by decide), SiR_x ht.2.2.2 f1 (by decide)⟩
      exact qry (CoR_x hc f1 (by decide)) tx (fl2_tr y1 x2) (MCa_of (Or.inr hr) (show wvl r (nI r) from Or.inr ⟨by omega, rfl⟩) (by rw [x4, y3]) x5 y5 y6 x6)
/-- the numbers without a rule, as such -/
noncomputable def lsR (P : Nat → Nat) (r : Nat) : Nat × (Nat → Nat) × (Nat → Nat) := Classical.epsilon (fun t => Lst (Ed P r) (wx0 P) t.1 t.2.1 t.2.2 ∧ nmz t.1 t.2.1 ∧ nmz t.1 t.2.2)
noncomputable def fgV (P : Nat → Nat) (r k : Nat) : Int32 := fig5 P r (lsR P r).1 (lsR P r).2.1 k
theorem lsR_e {P : Nat → Nat} {r N' : Nat} {W' D' : Nat → Nat} (h1 : Lst (Ed P r) (wx0 P) N' W' D') (h2 : nmz N' W') (h3 : nmz N' D') : (Lst (Ed P r) (wx0 P) (lsR P r).1 (lsR P r).2.1 (lsR P r).2.2 ∧ nmz (lsR P r).1 (lsR P r).2.1 ∧ nmz (lsR P r).1 (lsR P r).2.2) ∧ ∀ k, fig5 P r N' W' k = fgV P r k := by
  have e := Classical.epsilon_spec (p := fun t : Nat × (Nat → Nat) × (Nat → Nat) => Lst (Ed P r) (wx0 P) t.1 t.2.1 t.2.2 ∧ nmz t.1 t.2.1 ∧ nmz t.1 t.2.2) ⟨(N', W', D'), h1, h2, h3⟩
  refine ⟨e, fun k => ?_⟩
  obtain ⟨e1, e2, _⟩ := Lst_eq h1 e.1 h2 h3 e.2.1 e.2.2
  unfold fgV lsR
  rw [← e1, ← e2]
noncomputable def btr (a b : Nat → Int32) : Bool := cBo (∃ k, 2 ≤ k ∧ k < 5 ∧ (∀ j, 2 ≤ j → j < k → a j = b j) ∧ a k ≠ b k ∧ ¬ b k ≤ a k)
theorem btr_n {a b : Nat → Int32} (h : ∀ j, 2 ≤ j → j < 5 → a j = b j) : btr a b = false := cBo_f (fun ⟨k, k1, k2, _, k3, _⟩ => k3 (h k k1 k2))
theorem btr_k {a b : Nat → Int32} {k : Nat} (k1 : 2 ≤ k) (k2 : k < 5) (h : ∀ j, 2 ≤ j → j < k → a j = b j) (hk : a k ≠ b k) : btr a b = true ↔ ¬ b k ≤ a k := by
  unfold btr
  rw [cBo_iff]
  constructor
  · rintro ⟨j, j1, j2, j3, j4, j5⟩
    rcases Nat.lt_trichotomy j k with z | z | z
    · exact absurd (h j j1 z) j4
    · rw [← z]; exact j5
    · exact absurd (j3 k k1 z) hk
  · exact fun z => ⟨k, k1, k2, h, hk, z⟩
noncomputable def bsR (P : Nat → Nat) : Nat → Nat
  | 0 => 0
  | k + 1 => if btr (fgV P k) (fgV P (bsR P k)) = true then k else bsR P k
theorem bsR_1 (P : Nat → Nat) : bsR P 1 = 0 := by
  show (if btr (fgV P 0) (fgV P 0) = true then 0 else 0) = 0
  split <;> rfl
theorem bsR_l (P : Nat → Nat) (k : Nat) : bsR P (k + 1) ≤ k := by
  induction k with
  | zero => rw [bsR_1]; exact Nat.le_refl _
  | succ k ih =>
    show (if btr (fgV P (k + 1)) (fgV P (bsR P (k + 1))) = true then k + 1 else bsR P (k + 1)) ≤ k + 1
    split <;> omega
theorem bettX {P : Nat → Nat} {r s : Nat} {m : zM} (hr : r < 16) (hs : s < 16) (h1 : ∀ k, k < 5 → m.1 128 (5 * r + k) = fgV P r k) (h2 : ∀ k, k < 5 → m.1 128 (5 * s + k) = fgV P s k) : ok (f_Study_isBetter (nI r) (nI s) m) (fun q => q = btr (fgV P r) (fgV P s)) := by
  unfold f_Study_isBetter f_Study_isBetter_L2
  refine ok_for 5 (fun k (t : Int32) => t = nI k ∧ ∀ j, 2 ≤ j → j < k → fgV P r j = fgV P s j) (k0 := 2) ⟨rfl, fun j h1 h2 => by omega⟩ (by omega) ?_
  rintro k t k2 k5 ⟨e, hj⟩
  subst e
  have em : ∀ x : Nat, nI x * 5 + nI k = nI (5 * x + k) := fun x => by rw [show (5 : Int32) = nI 5 from rfl, pk_mul, nI_add, Nat.mul_comm]
  unfold f_Study_isBetter_B2 f_Study_isBetter_J38
  refine ok_le 5 k (fun q => ok_mk (btr_n (fun j h1 h2 => hj j h1 (by omega))).symm) (fun q => ok_ix (em r) (by omega) (by decide) (ok_ix (em s) (by omega) (by decide) ?_))
  rw [h1 k q, h2 k q]
  refine ok_it (fun z => ok_mk ⟨q, nI_1 k, fun j j1 j2 => ?_⟩) (fun z => ok_zl (ok_it (fun y => ok_mk ?_) (fun y => ok_mk ?_)))
  · rcases Nat.lt_or_ge j k with w | w
    · exact hj j j1 w
    · rw [show j = k by omega]; exact z
  · refine (Bool.eq_false_iff.mpr (fun w => ?_)).symm
    exact (btr_k k2 q hj z).mp w y
  · exact ((btr_k k2 q hj z).mpr y).symm
def LdM (P : Nat → Nat) (r : Nat) (m : zM) : Prop := tM 23 P m ∧ m.1 0 40 = nI r ∧ ∃ (N' : Nat) (W' D' : Nat → Nat), LMx P r N' W' D' m ∧ nmz N' W' ∧ nmz N' D' ∧ (m.1 0 46 ≠ 0 → LKm P r N' W' m)
theorem LdM_c {P : Nat → Nat} {r : Nat} {m : zM} (h : LdM P r m) (hr : r < P 8) (r16 : P 8 ≤ 16) : MCa P m := by
  obtain ⟨h1, h2, N', W', D', h3, h4, h5, h6⟩ := h
  exact MCa_of (Or.inr hr) (show wvl r (nI r) from Or.inr ⟨by omega, rfl⟩) h2 h3 h4 h5 h6
theorem withV {P : Nat → Nat} {r k : Nat} {m : zM} (hP : tV P) (h : LdM P r m) (hk : k < 5) : ok (f_MO_withoutOf (nI k) m) (fun q => q.1 = fgV P r k ∧ fl2 MS MF m q.2 ∧ LdM P r q.2 ∧ q.2.1 51 = m.1 51) := by
  obtain ⟨h1, h2, N', W', D', h3, h4, h5, h6⟩ := h
  refine ok_mo (withoutM hP h1 h3 h6 hk) (fun q ⟨x1, x2, x3, x4, x5, x6, x7⟩ => ⟨?_, x2, ⟨x3, x4.trans h2, N', W', D', x5, h4, h5, x6⟩, x7⟩)
  rw [x1]; exact (lsR_e h3.2.2.1 h4 h5).2 k
theorem bettM {P : Nat → Nat} {r s : Nat} {m : zM} (hP : tV P) (h : LdM P r m) (h51 : ∀ k, 2 ≤ k → k < 5 → m.1 51 k = fgV P s k) : ok (f_MO_isBetter m) (fun q => q.1 = btr (fgV P r) (fgV P s) ∧ fl2 MS MF m q.2 ∧ LdM P r q.2 ∧ q.2.1 51 = m.1 51) := by
  unfold f_MO_isBetter f_MO_isBetter_L2
  refine ok_for 5 (fun k (t : Int32 × zM) => t.1 = nI k ∧ fl2 MS MF m t.2 ∧ LdM P r t.2 ∧ t.2.1 51 = m.1 51 ∧ ∀ j, 2 ≤ j → j < k → fgV P r j = fgV P s j) (k0 := 2) ⟨rfl, fl2_rf, h, rfl, fun j h1 h2 => by omega⟩ (by omega) ?_
  rintro k ⟨t, m1⟩ k2 k5 ⟨e, f1, l1, e51, hj⟩
  have e : t = nI k := e
  subst e
  have f1 : fl2 MS MF m m1 := f1
  have l1 : LdM P r m1 := l1
  have e51 : m1.1 51 = m.1 51 := e51
  unfold f_MO_isBetter_B2 f_MO_isBetter_J23
  refine ok_le 5 k (fun q => ok_mk ⟨(btr_n (fun j h1 h2 => hj j h1 (by omega))).symm, f1, l1, e51⟩) (fun q => ok_bi (withV hP l1 q) (fun p ⟨x1, x2, x3, x4⟩ => ok_ix rfl (by omega : k < 5) (by decide) ?_))
  have f2 : fl2 MS MF m p.2 := fl2_tr f1 x2
  rw [x1, x4, e51, h51 k k2 q]
  refine ok_it (fun z => ok_mk ⟨q, nI_1 k, f2, x3, x4.trans e51, fun j j1 j2 => ?_⟩) (fun z => ok_zl (ok_ix rfl (by omega : k < 5) (by decide) ?_))
  · rcases Nat.lt_or_ge j k with w | w
    · exact hj j j1 w
    · rw [show j = k by omega]; exact z
  · rw [h51 k k2 q]
    refine ok_it (fun y => ok_mk ⟨?_, f2, x3, x4.trans e51⟩) (fun y => ok_mk ⟨((btr_k k2 q hj z).mpr y).symm, f2, x3, x4.trans e51⟩)
    refine (Bool.eq_false_iff.mpr (fun w => ?_)).symm
    exact (btr_k k2 q hj z).mp w y
theorem keptM {P : Nat → Nat} {r : Nat} {m : zM} {K : (Int32 × zM) ⊕ (Int32 × Int32 × zM) → Prop} (hP : tV P) (h : LdM P r m) (c : ∀ m', fl2 (51 :: MS) MF m m' → LdM P r m' → (∀ k, 2 ≤ k → k < 5 → m'.1 51 k = fgV P r k) → ok (f_MO_mend_J74 (nI r) (nI r) m') K) : ok (f_MO_mend_J48 (nI r) m) K := by
  unfold f_MO_mend_J48 f_MO_mend_L52
  refine ok_for 5 (fun k (t : Int32 × zM) => t.1 = nI k ∧ fl2 (51 :: MS) MF m t.2 ∧ LdM P r t.2 ∧ ∀ j, 2 ≤ j → j < k → t.2.1 51 j = fgV P r j) (k0 := 2) ⟨rfl, fl2_rf, h, fun j h1 h2 => by omega⟩ (by omega) ?_
  rintro k ⟨t, m1⟩ k2 k5 ⟨e, f1, l1, hj⟩
  have e : t = nI k := e
  subst e
  have f1 : fl2 (51 :: MS) MF m m1 := f1
  have l1 : LdM P r m1 := l1
  have hj : ∀ j, 2 ≤ j → j < k → m1.1 51 j = fgV P r j := hj
  unfold f_MO_mend_B52
  refine ok_le 5 k (fun q => ok_zl (c m1 f1 l1 (fun j h1 h2 => hj j h1 (by omega)))) (fun q => ok_bi (withV hP l1 q) (fun p ⟨x1, x2, x3, x4⟩ => ok_ix rfl (by omega : k < 5) (by decide) (ok_lt (ok_mk ⟨q, nI_1 k, fl2_tr f1 (fl2_tr (fl2_su x2 (by decide)) (fl2_I (inS_c (by simp)))), ?_, fun j j1 j2 => ?_⟩))))
  · have f2 : fl2 [51] [] p.2 (sI p.2 51 k p.1) := fl2_I (inS_c (by simp))
    obtain ⟨h1, h2, N', W', D', h3, h4, h5, h6⟩ := x3
    exact ⟨tM_fl h1 f2 (by decide), by rw [fl2_i f2 (by decide)]; exact h2, N', W', D', LMx_fl h3 f2 (by decide) (by decide), h4, h5, fun z => LKm_fl (h6 (by rw [fl2_i f2 (by decide)] at z; exact z)) f2 (by decide)⟩
  · show (sI p.2 51 k p.1).1 51 j = _
    by_cases z : j = k
    · rw [z, rd_I1]; exact x1
    · rw [rd_I0 (by omega), x4]; exact hj j j1 (by omega)
theorem c_mend {mx mm : zM} (h : IvW mx mm) : Alk (f_PA_mend mx) (f_MO_mend mm) := by
  unfold f_PA_mend f_MO_mend
  obtain ⟨hc, hn | ⟨P, N, W, D, pr, sp, b, ht⟩⟩ := id h
  · rw [if_pos hn.1, if_pos hn.2.1]
    exact ok_mk (ok_mk ⟨rfl, h⟩)
  · obtain ⟨⟨h1, h2, h3, h4, h5, h6, h7⟩, r0, g1, g2, g3, g4, g5⟩ := ht.1
    have r16 := h1.1.2.2.2.2.2.2.2.2.2.2.1
    have m33 : ¬ mm.1 0 33 = 0 := by rw [ht.2.1.1]; decide
    have er := rulesM ht.2.1.2.1
    rw [if_neg m33, er, Option.bind_some]
    refine ok_in (by rw [g1]; decide) ?_
    have ex : ∀ r, r < P 8 → Lst (Ed P r) (wx0 P) (lsR P r).1 (lsR P r).2.1 (lsR P r).2.2 ∧ nmz (lsR P r).1 (lsR P r).2.1 ∧ nmz (lsR P r).1 (lsR P r).2.2 := by
      intro r hr
      obtain ⟨p, _, _, _, _, _, N', W', D', y4, y5, y6, _⟩ := atlT ht.1 ht.2.1.2.1 ht.2.1.2.2 hr
      exact (lsR_e y4.2.2.1 y5 y6).1
    have vX : ∀ m r, TdX P N W D pr sp b m → r < P 8 → m.1 127 r = 1 → ∀ k, k < 5 → m.1 128 (5 * r + k) = fgV P r k := by
      intro m r ht' hr d1 k hk
      rcases ht'.2.2.2.2.2.2 r (by omega) with z | ⟨_, _, z⟩
      · rw [d1] at z; exact absurd z (by decide)
      · exact z _ _ _ (ex r hr).1 (ex r hr).2.1 (ex r hr).2.2 k hk
    -- the class
    have X : ok (f_Study_bestLeftOut mx) (fun p => TdX P N W D pr sp b p.2 ∧ fl2 FgS FgF mx p.2 ∧ p.1 = if P 8 = 0 then -1 else nI (bsR P (P 8))) := by
      unfold f_Study_bestLeftOut f_Study_bestLeftOut_J15
      refine ok_eb (tb_ok r0.2.2.2 r0.1) (ok_le (P 8) 0 (fun q => ?_) (fun q => ?_) (hx := g2.1.2.2.1))
      · unfold f_Study_bestLeftOut_L18
        refine ok_for 0 (fun k (s : Int32 × Int32 × zM) => s = (-1, 0, mx)) (k0 := 0) rfl (Nat.zero_le _) ?_
        rintro k s - hk e
        subst e
        unfold f_Study_bestLeftOut_B18
        exact ok_eb (tb_ok r0.2.2.2 r0.1) (ok_le (P 8) 0 (fun _ => ok_mk ⟨ht.1, fl2_rf, by rw [if_pos (by omega)]⟩) (fun z => absurd z (by omega)) (hx := g2.1.2.2.1))
      · unfold f_Study_bestLeftOut_L18
        refine ok_for (P 8) (fun k (s : Int32 × Int32 × zM) => s.1 = nI (bsR P k) ∧ s.2.1 = nI k ∧ TdX P N W D pr sp b s.2.2 ∧ fl2 FgS FgF mx s.2.2 ∧ ∀ r, r < k → s.2.2.1 127 r = 1) (k0 := 0) ⟨rfl, rfl, ht.1, fl2_rf, fun r hr => absurd hr (Nat.not_lt_zero _)⟩ (Nat.zero_le _) ?_
        rintro k ⟨x, y, m1⟩ - hk ⟨e1, e2, t1, f1, d1⟩
        have e1 : x = nI (bsR P k) := e1
        have e2 : y = nI k := e2
        subst e1 e2
        have t1 : TdX P N W D pr sp b m1 := t1
        have f1 : fl2 FgS FgF mx m1 := f1
        have d1 : ∀ r, r < k → m1.1 127 r = 1 := d1
        unfold f_Study_bestLeftOut_B18 f_Study_bestLeftOut_J45
        refine ok_eb (tb_ok t1.2.1.2.2.2 t1.2.1.1) (ok_le (P 8) k (fun z => ok_mk ⟨t1, f1, ?_⟩) (fun z => ?_) (hx := t1.2.2.2.1.1.2.2.1))
        · show nI (bsR P k) = _
          rw [if_neg (by omega), show k = P 8 by omega]
        refine ok_bi (figT t1 z) (fun p3 ⟨t3, f3, d3, d4⟩ => ?_)
        have d5 : ∀ r, r < k + 1 → p3.1 127 r = 1 := by
          intro r hr
          rcases Nat.lt_or_ge r k with w | w
          · exact d4 r (by omega) (d1 r w)
          · rw [show r = k by omega]; exact d3
        have bl : bsR P k ≤ k := by
          rcases Nat.eq_zero_or_pos k with w | w
          · rw [w]; exact Nat.le_refl _
          · have := bsR_l P (k - 1)
            rw [show k - 1 + 1 = k by omega] at this
            omega
        refine ok_bi (bettX (P := P) (by omega) (by omega) (vX p3 k t3 z d3) (vX p3 (bsR P k) t3 (by omega) (d5 _ (by omega)))) (fun r4 e4 => ?_)
        have sx : bsR P (k + 1) = if btr (fgV P k) (fgV P (bsR P k)) = true then k else bsR P k := rfl
        refine ok_it (fun w => ok_mk ⟨z, ?_, nI_1 k, t3, fl2_tr f1 f3, d5⟩) (fun w => ok_mk ⟨z, ?_, nI_1 k, t3, fl2_tr f1 f3, d5⟩)
        · rw [sx, if_pos (by rw [← e4]; exact w)]
        · rw [sx, if_neg (by rw [← e4]; exact w)]
    -- the reference
    have M : ok (if nI (P 8) = 0 then some (-1, mm) else f_MO_mend_L20 (-1) 0 mm) (fun q => fl2 (51 :: MS) MF mm q.2 ∧ tM 23 P q.2 ∧ MCa P q.2 ∧ q.1 = if P 8 = 0 then -1 else nI (bsR P (P 8))) := by
      refine ok_ee (P 8) 0 (fun q => ok_mk ⟨fl2_rf, ht.2.1.2.1, ht.2.1.2.2, by rw [if_pos q]⟩) (fun q => ?_)
      unfold f_MO_mend_L20
      refine ok_for (P 8) (fun k (s : Int32 × Int32 × zM) => s.2.1 = nI k ∧ fl2 (51 :: MS) MF mm s.2.2 ∧ tM 23 P s.2.2 ∧ MCa P s.2.2 ∧ ((k = 0 ∧ s.1 = -1) ∨ (0 < k ∧ s.1 = nI (bsR P k) ∧ ∀ j, 2 ≤ j → j < 5 → s.2.2.1 51 j = fgV P (bsR P k) j))) (k0 := 0) ⟨rfl, fl2_rf, ht.2.1.2.1, ht.2.1.2.2, Or.inl ⟨rfl, rfl⟩⟩ (Nat.zero_le _) ?_
      rintro k ⟨x, y, m1⟩ - hk ⟨e2, f1, t1, c1, e1⟩
      have e2 : y = nI k := e2
      subst e2
      have f1 : fl2 (51 :: MS) MF mm m1 := f1
      have t1 : tM 23 P m1 := t1
      have c1 : MCa P m1 := c1
      have e1 : (k = 0 ∧ x = -1) ∨ (0 < k ∧ x = nI (bsR P k) ∧ ∀ j, 2 ≤ j → j < 5 → m1.1 51 j = fgV P (bsR P k) j) := e1
      unfold f_MO_mend_B20
      refine ok_eb (rulesM t1) (ok_le (P 8) k (fun z => ok_mk ⟨f1, t1, c1, ?_⟩) (fun z => ?_))
      · show x = _
        rcases e1 with ⟨w, _⟩ | ⟨w1, w2, _⟩
        · omega
        · rw [w2, if_neg q, show k = P 8 by omega]
      refine ok_bi (atlT ht.1 t1 c1 z) (fun p3 ⟨y1, y2, y3, y8, y4⟩ => ?_)
      have L3 : LdM P k p3 := ⟨y2, y3, y4⟩
      have f3 : fl2 (51 :: MS) MF mm p3 := fl2_tr f1 (fl2_su y1 (by decide))
      have sx : bsR P (k + 1) = if btr (fgV P k) (fgV P (bsR P k)) = true then k else bsR P k := rfl
      have keep : ∀ m2, fl2 (51 :: MS) MF mm m2 → LdM P k m2 → bsR P (k + 1) = k → ok (f_MO_mend_J48 (nI k) m2) (lp (fun q : Int32 × zM => fl2 (51 :: MS) MF mm q.2 ∧ tM 23 P q.2 ∧ MCa P q.2 ∧ q.1 = if P 8 = 0 then -1 else nI (bsR P (P 8))) (fun s : Int32 × Int32 × zM => k < P 8 ∧ s.2.1 = nI (k + 1) ∧ fl2 (51 :: MS) MF mm s.2.2 ∧ tM 23 P s.2.2 ∧ MCa P s.2.2 ∧ ((k + 1 = 0 ∧ s.1 = -1) ∨ (0 < k + 1 ∧ s.1 = nI (bsR P (k + 1)) ∧ ∀ j, 2 ≤ j → j < 5 → s.2.2.1 51 j = fgV P (bsR P (k + 1)) j)))) := by
        intro m2 f2 l2 eb
        refine keptM h1 l2 (fun m' fm lm vm => ?_)
        unfold f_MO_mend_J74
        refine ok_mk ⟨z, nI_1 k, fl2_tr f2 fm, lm.1, LdM_c lm z r16, Or.inr ⟨by omega, ?_, ?_⟩⟩
        · rw [eb]
        · rw [eb]; exact vm
      rcases e1 with ⟨w1, w2⟩ | ⟨w1, w2, w3⟩
      · rw [w2]
        refine ok_ip rfl (keep p3 f3 L3 ?_)
        subst w1
        exact bsR_1 P
      · have bl := bsR_l P (k - 1)
        rw [show k - 1 + 1 = k by omega] at bl
        rw [w2]
        refine ok_in (nI_ne_m1 (by omega)) (ok_bi (bettM (s := bsR P k) h1 L3 (fun j j1 j2 => by rw [y8]; exact w3 j j1 j2)) (fun p4 ⟨b1, b2, b3, b4⟩ => ?_))
        have f4 : fl2 (51 :: MS) MF mm p4.2 := fl2_tr f3 (fl2_su b2 (by decide))
        refine ok_it (fun u => keep p4.2 f4 b3 (by rw [sx, if_pos (by rw [← b1]; exact u)])) (fun u => ?_)
        unfold f_MO_mend_J74
        have eb : bsR P (k + 1) = bsR P k := by rw [sx, if_neg (by rw [← b1]; exact u)]
        refine ok_mk ⟨z, nI_1 k, f4, b3.1, LdM_c b3 z r16, Or.inr ⟨by omega, ?_, fun j j1 j2 => ?_⟩⟩
        · rw [eb]
        · rw [eb]
          show p4.2.1 51 j = _
          rw [b4, y8]; exact w3 j j1 j2
    refine ok_bi X (fun p ⟨t1, f1, e1⟩ => ok_mk (ok_mo M (fun q ⟨f2, t2, c2, e2⟩ => ⟨e1.trans e2.symm, ?_⟩)))
    refine ⟨CoR_m (CoR_x hc f1 (by decide)) f2 (by decide), Or.inr ⟨P, N, W, D, pr, sp, b, t1, ⟨by rw [fl2_i f2 (by decide)]; exact ht.2.1.1, t2, c2⟩, WaR_m (WaR_x ht.2.2.1 f1 (by decide)) f2 (by decide), SiR_m (SiR_x ht.2.2.2 f1 (by decide)) f2 (by decide)⟩⟩
