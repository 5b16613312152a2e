/-- what is read to the end is a table -/
theorem rdR_k {n : Nat} {g : Nat → Nat} : ∀ (f s t : Nat) (P : Nat → Nat) (s' : Nat) (P' : Nat → Nat), dV P → (s = 0 → P 0 = 0) → (s ≠ 0 → 2 ≤ P 3 ∧ 0 < P 0) → rdR n g f s t P = .inr (s', P') → dV P' ∧ 2 ≤ P' 3 ∧ 0 < P' 0 := by
  intro f
  induction f with
  | zero => intro s t P s' P' _ _ _ e; unfold rdR at e; cases e
  | succ f ih =>
    intro s t P s' P' hd h0 h1 e
    unfold rdR at e
    by_cases z : tst n g t < n
    · rw [if_pos z] at e
      by_cases y : s = 60
      · rw [if_pos y] at e; cases e
      rw [if_neg y] at e
      cases eo : (if s = 0 then opR n g t P else stmR n g t P) with
      | inl x => rw [eo] at e; cases e
      | inr x =>
        obtain ⟨t1, P1⟩ := x
        rw [eo] at e
        have e : (if cBo (iSg n g t1 59) = true then rdR n g f (s + 1) (t1 + 1) P1 else .inl (1, tst n g t1)) = .inr (s', P') := e
        by_cases is : cBo (iSg n g t1 59) = true
        · rw [if_pos is] at e
          by_cases s0 : s = 0
          · rw [if_pos s0] at eo
            obtain ⟨a, b, c, _⟩ := opR_k hd (h0 s0) eo
            exact ih _ _ _ _ _ a (fun w => absurd w (by omega)) (fun _ => ⟨b, c⟩) e
          · rw [if_neg s0] at eo
            obtain ⟨a, b, c⟩ := stR_k hd eo
            obtain ⟨q1, q2⟩ := h1 s0
            exact ih _ _ _ _ _ a (fun w => absurd w (by omega)) (fun _ => ⟨by omega, by omega⟩) e
        · rw [if_neg is] at e; cases e
    · rw [if_neg z] at e
      by_cases s0 : s = 0
      · rw [if_pos s0] at e; cases e
      · rw [if_neg s0] at e
        cases e
        exact ⟨hd, h1 s0⟩
theorem rd0_k {n : Nat} {g : Nat → Nat} {s : Nat} {P : Nat → Nat} (e : rdR n g 61 0 0 P00 = .inr (s, P)) : tV P ∧ tGd P := by
  obtain ⟨a, b, c⟩ := rdR_k 61 0 0 P00 s P dV_0 (fun _ => rfl) (fun w => absurd rfl w) e
  exact dV_t a b c
theorem big_no {P : Nat → Nat} {N : Nat} {W D : Nat → Nat} (hL : Lst (Ed P 16) (wx0 P) N W D) (hN : N ≤ 600) : ¬ bigP P 16 := by
  rintro ⟨fk, dp, h1, h2⟩
  have := Lst_no hL (fun _ _ h => h) h1 h2
  omega
/-- what the reference changes in a table's telling -/
def MtS : List Nat := [22, 23, 24, 25, 26, 27, 28, 29, 30]
def MtF : List (Nat × Nat) := MrH ++ [(0, 7), (0, 8), (0, 36), (0, 38), (0, 40), (0, 41), (0, 46)]
def MtG : List (Nat × Nat) := MtF ++ [(0, 33), (0, 72), (0, 74), (0, 77)]
/-- why no table was told -/
def whyN (n : Nat) (R : PRs) (c q : Nat) : Prop := R = .inl (c, q) ∨ (∃ s P, R = .inr (s, P) ∧ bigP P 16 ∧ c = 6 ∧ q = n)
def TbMn (n : Nat) (R : PRs) (m0 : zM) (p : Int32 × zM) : Prop := ∃ m, p = (-1, sI m 2 1 (m.1 2 1 + 1)) ∧ fl2 MtS MtF m0 m ∧ m.1 0 1 = 0 ∧ (∃ c q, whyN n R c q ∧ m.1 0 7 = nI c ∧ m.1 0 8 = nI q) ∧ (∀ i, i < 184 → m.1 23 i = m0.1 23 i) ∧ (m.1 0 40 = -2 ∨ fl2 [22] (MrH ++ [(0, 7), (0, 8)]) m0 m)
def TbMy (R : PRs) (m0 : zM) (p : Int32 × zM) : Prop := ∃ s P, R = .inr (s, P) ∧ p.1 = nI s ∧ fl2 MtS MtG m0 p.2 ∧ p.2.1 0 1 = 0 ∧ p.2.1 0 7 = 0 ∧ p.2.1 0 8 = -1 ∧ TdM P p.2 ∧ p.2.1 0 74 = 0 ∧ p.2.1 0 77 = 0 ∧ ∃ (N : Nat) (W D : Nat → Nat), 0 < N ∧ N ≤ 600 ∧ Lst (Ed P 16) (wx0 P) N W D ∧ p.2.2.1 0 72 = lN (km (P 3) (W 0))
def TbM (n : Nat) (R : PRs) (m0 : zM) (p : Int32 × zM) : Prop := TbMn n R m0 p ∨ TbMy R m0 p
theorem J153_f {n c q : Nat} {R : PRs} {m0 m : zM} (f0 : fl2 MtS MtF m0 m) (h1 : m.1 0 1 = 0) (l : FlM c q m) (hw : whyN n R c q) (h23 : ∀ i, i < 184 → m.1 23 i = m0.1 23 i) (h40 : m.1 0 40 = -2 ∨ fl2 [22] (MrH ++ [(0, 7), (0, 8)]) m0 m) : ok (f_MO_table_J153 m) (TbM n R m0) := by
  unfold f_MO_table_J153
  refine ok_lt (ok_lt ?_)
  have e8 : (sI m 0 7 (m.1 0 5)).1 0 6 = nI q := by rw [rd_I0 (by omega)]; exact l.2.1
  rw [e8]
  refine ok_in (by rw [rd_I0 (by omega), rd_I0 (by omega)]; exact FlM_n l) ?_
  rw [show (1 : Int32) = nI 1 from rfl, refM (by decide)]
  refine ok_eb rfl (ok_mk (Or.inl ⟨_, rfl, fl2_tr f0 (fl2_tr (fl2_I (inS_f (by decide))) (fl2_I (inS_f (by decide)))), ?_, ⟨c, q, hw, ?_, ?_⟩, fun i hi => ?_, ?_⟩))
  · rw [rd_I0 (by omega), rd_I0 (by omega)]; exact h1
  · rw [rd_I0 (by omega), rd_I1]; exact l.1
  · rw [rd_I1]
  · rw [rd_I0 (by omega), rd_I0 (by omega)]; exact h23 i hi
  · rcases h40 with h | h
    · exact Or.inl (by rw [rd_I0 (by omega), rd_I0 (by omega)]; exact h)
    · exact Or.inr (fl2_tr h (fl2_tr (fl2_I (inS_f (by decide))) (fl2_I (inS_f (by decide)))))
theorem standsM {n s : Nat} {R : PRs} {P : Nat → Nat} {m0 m : zM} (hP : tV P) (e : R = .inr (s, P)) (f0 : RFh m0 m) (h3 : m.1 0 3 = nI n) (h1 : m.1 0 1 = 0) (h34 : m.1 0 34 = nI s) (h5 : m.1 0 5 = 0) (h6 : m.1 0 6 = -1) (tm : tM 22 P m) : ok (f_MO_table_J142 m) (TbM n R m0) := by
  have p8 := hP.1.2.2.2.2.2.2.2.2.2.2.1
  unfold f_MO_table_J142
  refine ok_ip h5 ?_
  have key : ok (f_MO_stands m) (fun m' => ok (f_MO_table_J153 m') (TbM n R m0)) := by
    unfold f_MO_stands f_MO_stands_L2
    refine ok_for 184 (fun k (s : Int32 × zM) => s.1 = nI k ∧ fl2 [23, 24] [] m s.2 ∧ (∀ i, i < k → s.2.1 24 i = m.1 23 i ∧ s.2.1 23 i = m.1 22 i) ∧ ∀ i, k ≤ i → s.2.1 23 i = m.1 23 i) (k0 := 0) ⟨rfl, fl2_rf, fun i hi => absurd hi (Nat.not_lt_zero _), fun i _ => rfl⟩ (Nat.zero_le _) ?_
    rintro k ⟨x, m1⟩ - hk ⟨ex, f1, c1, c2⟩
    have ex : x = nI k := ex
    subst ex
    have f1 : fl2 [23, 24] [] m m1 := f1
    have c1 : ∀ i, i < k → m1.1 24 i = m.1 23 i ∧ m1.1 23 i = m.1 22 i := c1
    have c2 : ∀ i, k ≤ i → m1.1 23 i = m.1 23 i := c2
    unfold f_MO_stands_B2
    refine ok_le 184 k (fun z => ok_zl ?_) (fun z => ok_ix rfl z (by decide) (ok_ix rfl z (by decide) (ok_lt (ok_ix rfl z (by decide) (ok_ix rfl z (by decide) (ok_lt (ok_mk ⟨z, nI_1 k, fl2_tr f1 (fl2_tr (fl2_I (inS_c (by decide))) (fl2_I (inS_c (by decide)))), fun i hi => ?_, fun i hi => ?_⟩)))))))
    rotate_left
    · by_cases y : i = k
      · subst y
        refine ⟨?_, ?_⟩
        · rw [rd_I0 (by omega), rd_I1]; exact c2 i (Nat.le_refl _)
        · rw [rd_I1, rd_I0 (by omega)]; exact fl2_i f1 (by simp [inS])
      · obtain ⟨a, b⟩ := c1 i (by omega)
        refine ⟨?_, ?_⟩
        · rw [rd_I0 (by omega), rd_I0 (by omega)]; exact a
        · rw [rd_I0 (by omega), rd_I0 (by omega)]; exact b
    · show (sI (sI m1 24 k _) 23 k _).1 23 i = _
      rw [rd_I0 (by omega), rd_I0 (by omega)]; exact c2 i (by omega)
    unfold f_MO_stands_J39
    have f2 : fl2 [] [(0, 40)] m1 (sI m1 0 40 (-2)) := fl2_I (inS_f (by simp))
    have tm2 : tM 23 P (sI m1 0 40 (-2)) := by
      intro i hi
      rw [rd_I0 (by omega), (c1 i (by omega)).2]
      exact tm i hi
    have F2 : fl2 MtS MtF m0 (sI m1 0 40 (-2)) := fl2_tr (fl2_su f0 (by decide)) (fl2_tr (fl2_su f1 (by decide)) (fl2_su f2 (by decide)))
    have w24 : ∀ i, i < 184 → (sI m1 0 40 (-2)).1 24 i = m0.1 23 i := fun i hi => by
      rw [rd_I0 (by omega), (c1 i (by omega)).1]; exact fl2_i f0 (by simp [inS, MrH])
    refine ok_lt (ok_bi (goesN (w := 16) (v1 := -1) hP tm2 (Or.inl ⟨rfl, rfl⟩)) (fun p ⟨g1, g2⟩ => ?_))
    have g1 : fl2 [25, 26, 27, 28, 29, 30] [(0, 36), (0, 38), (0, 40), (0, 41), (0, 46)] (sI m1 0 40 (-2)) p.2 := g1
    have F3 : fl2 MtS MtF m0 p.2 := fl2_tr F2 (fl2_su g1 (by decide))
    have kp : ∀ i, inS [23, 24, 25, 26, 27, 28, 29, 30] [(0, 36), (0, 38), (0, 40), (0, 41), (0, 46)] 0 i = false → p.2.1 0 i = m.1 0 i := by
      intro i hi
      have f4 : fl2 [23, 24, 25, 26, 27, 28, 29, 30] [(0, 36), (0, 38), (0, 40), (0, 41), (0, 46)] m p.2 := fl2_tr (fl2_su f1 (by decide)) (fl2_tr (fl2_su f2 (by decide)) (fl2_su g1 (by decide)))
      exact fl2_i f4 hi
    have q5 : p.2.1 0 5 = 0 := by rw [kp 5 (by decide)]; exact h5
    have q6 : p.2.1 0 6 = -1 := by rw [kp 6 (by decide)]; exact h6
    have q3 : p.2.1 0 3 = nI n := by rw [kp 3 (by decide)]; exact h3
    have q1 : p.2.1 0 1 = 0 := by rw [kp 1 (by decide)]; exact h1
    have q34 : p.2.1 0 34 = nI s := by rw [kp 34 (by decide)]; exact h34
    rcases g2 with ⟨t1, ⟨N, W, D, hL, z1, z2⟩, g40, g46⟩ | ⟨t1, big⟩
    · have L := hL
      obtain ⟨l1, l2, l3, l4, l5⟩ := L
      refine ok_ip t1 (ok_lt (ok_ix (i := 0) rfl (by decide) (by decide) (ok_lt (ok_lt (ok_lt (ok_mk ?_))))))
      have f5 : fl2 [] [(0, 33), (0, 72), (0, 74), (0, 77)] p.2 (sI (sI (sJ (sI p.2 0 33 1) 0 72 ((sI p.2 0 33 1).2.1 27 0)) 0 74 0) 0 77 0) := fl2_tr (fl2_tr (fl2_tr (fl2_I (inS_f (by simp))) (fl2_J (inS_f (by simp)))) (fl2_I (inS_f (by simp)))) (fl2_I (inS_f (by simp)))
      have e33 : (sI (sI (sJ (sI p.2 0 33 1) 0 72 ((sI p.2 0 33 1).2.1 27 0)) 0 74 0) 0 77 0).1 0 33 = 1 := by rw [rd_I0 (by omega), rd_I0 (by omega), rd_JI, rd_I1]
      have e74 : (sI (sI (sJ (sI p.2 0 33 1) 0 72 ((sI p.2 0 33 1).2.1 27 0)) 0 74 0) 0 77 0).1 0 74 = 0 := by rw [rd_I0 (by omega), rd_I1]
      have e77 : (sI (sI (sJ (sI p.2 0 33 1) 0 72 ((sI p.2 0 33 1).2.1 27 0)) 0 74 0) 0 77 0).1 0 77 = 0 := by rw [rd_I1]
      have e72 : (sI (sI (sJ (sI p.2 0 33 1) 0 72 ((sI p.2 0 33 1).2.1 27 0)) 0 74 0) 0 77 0).2.1 0 72 = lN (km (P 3) (W 0)) := by rw [rd_IJ, rd_IJ, rd_J1]; exact (l4.2.1 0 l1).1
      generalize sI (sI (sJ (sI p.2 0 33 1) 0 72 ((sI p.2 0 33 1).2.1 27 0)) 0 74 0) 0 77 0 = m5 at f5 e33 e74 e77 e72
      unfold f_MO_table_J153
      have r5 : m5.1 0 5 = 0 := by rw [fl2_i f5 (by decide)]; exact q5
      have r6 : (sI m5 0 7 (m5.1 0 5)).1 0 6 = -1 := by rw [rd_I0 (by omega), fl2_i f5 (by decide)]; exact q6
      have f6 : fl2 [] [(0, 7), (0, 8)] m5 (sI (sI m5 0 7 (m5.1 0 5)) 0 8 ((sI m5 0 7 (m5.1 0 5)).1 0 6)) := fl2_tr (fl2_I (inS_f (by simp))) (fl2_I (inS_f (by simp)))
      have e7 : (sI (sI m5 0 7 (m5.1 0 5)) 0 8 ((sI m5 0 7 (m5.1 0 5)).1 0 6)).1 0 7 = 0 := by rw [rd_I0 (by omega), rd_I1]; exact r5
      have e8 : (sI (sI m5 0 7 (m5.1 0 5)) 0 8 ((sI m5 0 7 (m5.1 0 5)).1 0 6)).1 0 8 = -1 := by rw [rd_I1]; exact r6
      refine ok_lt (ok_lt ?_)
      generalize sI (sI m5 0 7 (m5.1 0 5)) 0 8 ((sI m5 0 7 (m5.1 0 5)).1 0 6) = m6 at f6 e7 e8
      have f7 : fl2 [] [(0, 7), (0, 8), (0, 33), (0, 72), (0, 74), (0, 77)] p.2 m6 := fl2_tr (fl2_su f5 (by decide)) (fl2_su f6 (by decide))
      refine ok_ip (by rw [fl2_i f7 (by decide)]; exact q5) (ok_mk (Or.inr ⟨s, P, e, ?_, fl2_tr (fl2_su F3 (by decide)) (fl2_su f7 (by decide)), ?_, e7, e8, ⟨?_, ?_, ?_⟩, ?_, ?_, N, W, D, l1, l2, l3, ?_⟩))
      · show m6.1 0 34 = nI s
        rw [fl2_i f7 (by decide)]; exact q34
      · rw [fl2_i f7 (by decide)]; exact q1
      · rw [fl2_i f6 (by decide)]; exact e33
      · exact tM_fl (tM_fl tm2 g1 (by decide)) f7 (by decide)
      · have c0 : MCa P p.2 := MCa_of (Or.inl rfl) (Or.inl ⟨rfl, rfl⟩) g40 hL z1 z2 (fun z => absurd g46 z)
        exact MCa_fl c0 f7 (by decide) (by decide) (by decide) (by decide)
      · rw [fl2_i f6 (by decide)]; exact e74
      · rw [fl2_i f6 (by decide)]; exact e77
      · rw [fl2_j f6 (by decide)]; exact e72
    · refine ok_in (by rw [t1]; decide) (ok_lt (ok_lt ?_))
      obtain ⟨f5, l5⟩ := failM (m := p.2) (c := 6) (x := 6) (y := p.2.1 0 3) q5 rfl q3 (by decide) (by decide)
      generalize f_MO_fail 6 (p.2.1 0 3) p.2 = m5 at f5 l5
      have f6 : fl2 [] [(0, 40)] m5 (sI m5 0 40 (-2)) := fl2_I (inS_f (by simp))
      have l6 : FlM 6 n (sI m5 0 40 (-2)) := FlM_I l5 (by omega) (by omega)
      have e40 : (sI m5 0 40 (-2)).1 0 40 = -2 := rd_I1 _ _ _ _
      have F6 : fl2 MtS MtF m0 (sI m5 0 40 (-2)) := fl2_tr F3 (fl2_tr (fl2_su f5 (by decide)) (fl2_su f6 (by decide)))
      have w6 : ∀ i, i < 184 → (sI m5 0 40 (-2)).1 24 i = m0.1 23 i := fun i hi => by
        rw [rd_I0 (by omega), fl2_i f5 (by simp [inS, MrF]), fl2_i g1 (by simp [inS])]; exact w24 i hi
      have e1 : (sI m5 0 40 (-2)).1 0 1 = 0 := by rw [rd_I0 (by omega), fl2_i f5 (by decide)]; exact q1
      generalize sI m5 0 40 (-2) = m6 at l6 e40 F6 w6 e1
      unfold f_MO_stands_L97
      refine ok_for 184 (fun k (s : Int32 × zM) => s.1 = nI k ∧ fl2 [23] [] m6 s.2 ∧ ∀ i, i < k → s.2.1 23 i = m0.1 23 i) (k0 := 0) ⟨rfl, fl2_rf, fun i hi => absurd hi (Nat.not_lt_zero _)⟩ (Nat.zero_le _) ?_
      rintro j ⟨x, m7⟩ - hj ⟨ex, f7, c7⟩
      have ex : x = nI j := ex
      subst ex
      have f7 : fl2 [23] [] m6 m7 := f7
      have c7 : ∀ i, i < j → m7.1 23 i = m0.1 23 i := c7
      unfold f_MO_stands_B97
      refine ok_le 184 j (fun z => ok_mk (J153_f (c := 6) (q := n) (fl2_tr F6 (fl2_su f7 (by decide))) ?_ ⟨?_, ?_, l6.2.2⟩ (Or.inr ⟨s, P, e, big, rfl, rfl⟩) (fun i hi => c7 i (by omega)) (Or.inl ?_))) (fun z => ok_ix rfl z (by decide) (ok_ix rfl z (by decide) (ok_lt (ok_mk ⟨z, nI_1 j, fl2_tr f7 (fl2_I (inS_c (by decide))), fun i hi => ?_⟩))))
      · rw [fl2_i f7 (by decide)]; exact e1
      · rw [fl2_i f7 (by decide)]; exact l6.1
      · rw [fl2_i f7 (by decide)]; exact l6.2.1
      · rw [fl2_i f7 (by decide)]; exact e40
      · by_cases y : i = j
        · subst y
          rw [rd_I1, fl2_i f7 (by simp [inS])]; exact w6 i z
        · rw [rd_I0 (by omega)]; exact c7 i (by omega)
  obtain ⟨m', em, hm⟩ := key
  exact ok_eb em hm
/-- the reference tells a table, or none -/
theorem tableM {n : Nat} {g : Nat → Nat} {m : zM} (hn : n ≤ 1600) (h1 : m.1 0 1 = nI n) (hb : ∀ j, j < n → m.1 1 j = nI (g j) ∧ g j < 256) (hW : WdM m) : ok (f_MO_table m) (TbM n (rdR n g 61 0 0 P00) m) := by
  refine tabRM hn h1 hb hW (fun m' ⟨f0, h3, h1', h⟩ => ?_)
  rcases h with ⟨s, P, e, s0, s60, h34, h5, h6, tm, hd, p3, p0⟩ | ⟨c, q, e, l⟩
  · exact standsM (dV_t hd p3 p0).1 e f0 h3 h1' h34 h5 h6 tm
  · unfold f_MO_table_J142
    exact ok_in (FlM_n l) (J153_f (fl2_su f0 (by decide)) h1' l (Or.inl e) (fun i hi => fl2_i f0 (by simp [inS, MrH])) (Or.inr (fl2_su f0 (by decide))))
