/-- names of a table, in and out -/
def nmV (P : Nat → Nat) : Prop := ∀ k, k < 3 → P k ≤ 6 ∧ ∀ j, j < P k → ltO (P (10 + 6 * k + j))
theorem findT {P : Nat → Nat} {b k u : Nat} {m : zM} (hV : nmV P) (ht : tX b P m) (hk : k < 3) (hu : ltO u) : f_Table_find b (nI k) (nI (nm5 u)) m = some (if fi (fun j => decide (P (10 + 6 * k + j) = u)) (P k) < P k then nI (fi (fun j => decide (P (10 + 6 * k + j) = u)) (P k)) else -1) := by
  have p6 := (hV k hk).1
  refine ok_eq.mp ?_
  unfold f_Table_find f_Table_find_L2
  refine ok_for (P k) (fun j (s : Int32) => s = nI j ∧ ∀ i, i < j → decide (P (10 + 6 * k + i) = u) = false) (k0 := 0) ⟨rfl, fun i hi => absurd hi (Nat.not_lt_zero _)⟩ (Nat.zero_le _) ?_
  rintro j s - hj ⟨e, h⟩
  subst e
  unfold f_Table_find_B2
  refine ok_ix rfl hk (by decide) (ok_le (P k) j (fun q => ok_mk ?_) (fun q => ?_) (hx := ht.2.1 k hk))
  · have := fi_no (p := fun i => decide (P (10 + 6 * k + i) = u)) (n := P k) (fun i hi => h i (by omega))
    rw [if_neg (by omega)]
    rfl
  · refine ok_ix (i := 6 * k + j) (by rw [show (6 : Int32) = nI 6 from rfl, pk_mul, nI_add, Nat.mul_comm]) (by omega) (by decide) ?_
    rw [ht.2.2.2.2 k j hk q]
    have l1 := nm5_lt (P (10 + 6 * k + j))
    have l2 := nm5_lt u
    refine ok_ee (nm5 (P (10 + 6 * k + j))) (nm5 u) (fun z => ok_mk ?_) (fun z => ok_mk ⟨q, nI_1 j, fun i hi => ?_⟩)
    · have eu := nm5_in ((hV k hk).2 j q) hu z
      have := fi_eq (p := fun i => decide (P (10 + 6 * k + i) = u)) q (decide_eq_true eu) h
      rw [this, if_pos q]
      rfl
    · rcases Nat.lt_or_ge i j with y | y
      · exact h i y
      · rw [show i = j by omega]; exact decide_eq_false (fun w => z (by rw [w]))
theorem knownX {P : Nat → Nat} {b n T t k : Nat} {g : Nat → Nat} {m : zM} (hb : tbv b) (hT : m.2.2 1 = b) (hV : nmV P) (ht : tX b P m) (h8 : P 8 ≤ 16) (hC : CsX n g T t m) (hk : k < 3) : ok (f_Reader_known (nI k) m) (fun p => (∃ j, knR n g P k t = .inr j ∧ j < P k ∧ p.1 = true ∧ fl2 [] [(65, 5), (65, 6)] m p.2 ∧ p.2.1 65 6 = nI j ∧ CsX n g T (t + 1) p.2) ∨ (∃ c q, knR n g P k t = .inl (c, q) ∧ p.1 = false ∧ fl2 [] RdF m p.2 ∧ FlX c q p.2)) := by
  have T16 := hC.1.1
  have p6 := (hV k hk).1
  unfold f_Reader_known
  refine ok_bi (nameRX hC) (fun p hp => ?_)
  rcases hp with ⟨u, r1, r2, r3, r4, r5, r6⟩ | ⟨c, q, r1, r2, r3, r4⟩
  rotate_left
  · refine ok_in (by rw [r2]; decide) (ok_mk (Or.inr ⟨c, q, ?_, rfl, r3, r4⟩))
    unfold knR; rw [r1]
  have kx : knR n g P k t = if fi (fun j => decide (P (10 + 6 * k + j) = u)) (P k) < P k then .inr (fi (fun j => decide (P (10 + 6 * k + j) = u)) (P k)) else .inl (3, tst n g t) := by unfold knR; rw [r1]
  have C1 := CsX_f hC r5 (by decide) (by decide)
  have t1 := tX_fl hb ht r5 (by decide) h8
  refine ok_ip r4 (ok_eb (tb_ok (by rw [r5.2]; exact hT) hb) ?_)
  rw [r6]
  refine ok_eb (findT hV t1 hk r2) (ok_lt ?_)
  generalize fi (fun j => decide (P (10 + 6 * k + j) = u)) (P k) = j at *
  have fz : ∀ x : Int32, fl2 [] [(65, 6)] m (sI p.2 65 6 x) := fun x => fl2_tr r5 (fl2_I (inS_f (by simp)))
  by_cases z : j < P k
  · rw [if_pos z] at kx ⊢
    refine ok_in (by rw [rd_I1]; exact nI_ne_m1 (by omega)) (ok_lt (ok_mk (Or.inl ⟨j, kx, z, rfl, fl2_tr (fl2_su (fz (nI j)) (by decide)) (fl2_I (inS_f (by simp))), ?_, ?_⟩)))
    · rw [rd_I0 (by omega), rd_I1]
    · have C2 := CsX_f hC (fz (nI j)) (by decide) (by decide)
      refine CsX_n (S := []) (F := [(65, 5)]) C2 r3 (fl2_I (inS_f (by simp))) (by decide) ?_
      rw [rd_I1, C2.2.1, nI_1]
  · rw [if_neg z] at kx ⊢
    have C2 := CsX_f hC (fz (-1)) (by decide) (by decide)
    have tl := hC.2.2.1
    refine ok_ip (rd_I1 _ _ _ _) (ok_ix C2.2.1 (by omega : t < 1601) (by decide) (ok_lt ?_))
    obtain ⟨e2, f2, h2⟩ := refuX (m := sI p.2 65 6 (-1)) (c := 3) (x := 3) rfl (CsX_p C2)
    exact ok_mk (Or.inr ⟨3, tst n g t, kx, e2, fl2_tr (fl2_su (fz (-1)) (by decide)) (fl2_su f2 (by decide)), h2⟩)
/-- a sign -/
def iSg (n : Nat) (g : Nat → Nat) (t c : Nat) : Prop := tst n g t < n ∧ g (tst n g t) = c
theorem sgnX {n T t c : Nat} {g : Nat → Nat} {m : zM} (hC : CsX n g T t m) (hc : c < 128) (hl : ibL c = false) (hd : ibD c = false) (h8 : ∀ j, j < n → g j < 256) : (m.1 89 t = 4 ∧ m.2.1 92 t = lN c) ↔ iSg n g t c := by
  rcases Nat.lt_or_ge t T with u | u
  · obtain ⟨a1, a2, a3, a4, a5⟩ := hC.1.2.2.1 t u
    have kl := kdT_le n g t
    rw [a4, a5]
    constructor
    · rintro ⟨z1, z2⟩
      have z1 := (nI_eq (b := 4) (by omega) (by decide)).mp z1
      have nn := (kdT_2 a1).2.2.2.mp z1
      have ev : va0 n g (tst n g t) = g (tst n g t) := by
        unfold va0
        rw [if_neg (fun y => nn (Or.inl y)), if_neg (fun y => nn (Or.inr y))]
      rw [ev] at z2
      have := h8 _ a1
      exact ⟨a1, (pk_lEQ (by omega) (by omega)).mp z2⟩
    · rintro ⟨_, z2⟩
      have nn : ¬ (ibL (g (tst n g t)) = true ∨ ibD (g (tst n g t)) = true) := by
        rw [z2, hl, hd]
        rintro (y | y) <;> cases y
      have k4 := (kdT_2 a1).2.2.2.mpr nn
      have ev : va0 n g (tst n g t) = c := by
        unfold va0
        rw [if_neg (fun y => nn (Or.inl y)), if_neg (fun y => nn (Or.inr y))]
        exact z2
      rw [k4, ev]
      exact ⟨rfl, rfl⟩
  · have et : t = T := by have := hC.2.2.1; omega
    rw [et, hC.1.2.2.2.1]
    refine ⟨fun z => absurd z.1 (by decide), fun z => ?_⟩
    have := z.1
    rw [hC.1.2.1] at this
    omega
theorem signX {n T t c : Nat} {g : Nat → Nat} {m : zM} (hC : CsX n g T t m) (hc : c < 128) (hl : ibL c = false) (hd : ibD c = false) (h8 : ∀ j, j < n → g j < 256) : ok (f_Reader_sign (nI c) m) (fun p => (iSg n g t c ∧ p.1 = true ∧ fl2 [] [(65, 5)] m p.2 ∧ CsX n g T (t + 1) p.2) ∨ (¬ iSg n g t c ∧ p.1 = false ∧ fl2 [] RdF m p.2 ∧ FlX 1 (tst n g t) p.2)) := by
  have T16 := hC.1.1
  have tl := hC.2.2.1
  have sg := sgnX hC hc hl hd h8
  unfold f_Reader_sign f_Reader_sign_J28
  have no : ¬ iSg n g t c → ok ((f_Reader_unexpected m).bind fun p4 => some (p4.1, p4.2)) (fun p => (iSg n g t c ∧ p.1 = true ∧ fl2 [] [(65, 5)] m p.2 ∧ CsX n g T (t + 1) p.2) ∨ (¬ iSg n g t c ∧ p.1 = false ∧ fl2 [] RdF m p.2 ∧ FlX 1 (tst n g t) p.2)) := fun hno => ok_bi (unexX hC) (fun p2 ⟨e2, f2, h2⟩ => ok_mk (Or.inr ⟨hno, e2, fl2_su f2 (by decide), h2⟩))
  refine ok_ix hC.2.1 (by omega : t < 1601) (by decide) (ok_it (fun z => ok_ix hC.2.1 (by omega : t < 1601) (by decide) (ok_it (fun y => ?_) (fun y => no (fun w => y ?_)))) (fun z => no (fun w => z (sg.mpr w).1)))
  · rw [nI_l (by omega)] at y
    have is := sg.mp ⟨z, (lg_cmp_eq _ _).mp y⟩
    refine ok_lt (ok_mk (Or.inl ⟨is, rfl, fl2_I (inS_f (by simp)), ?_⟩))
    refine CsX_n (S := []) (F := [(65, 5)]) hC ((CsX_lt hC).mpr is.1) (fl2_I (inS_f (by simp))) (by decide) ?_
    rw [rd_I1, hC.2.1, nI_1]
  · rw [nI_l (by omega)]
    exact (lg_cmp_eq _ _).mpr (sg.mpr w).2
/-- the words, and no fault's place -/
def WdN (m : zM) : Prop := WdM m ∧ m.1 0 6 = -1
theorem WdN_f {m m' : zM} {S : List Nat} {F : List (Nat × Nat)} (h : WdN m) (hf : fl2 S F m m') (hk : kps [3, 4, 5, 6, 7, 8, 9, 10, 11, 12, 13, 14, 15, 16, 17, 18, 19, 20, 21] [(0, 6)] S F = true) : WdN m' := by
  refine ⟨fun w hw j hj => ?_, by rw [fl2_i hf (kps_g hk (by simp))]; exact h.2⟩
  rw [show m'.1 (3 + w) = m.1 (3 + w) from fl2_ic hf (kps_c hk (by simp; omega))]
  exact h.1 w hw j hj
/-- the reference stands at p, before the t-th thing -/
def RsM (n : Nat) (g : Nat → Nat) (t p : Nat) (m : zM) : Prop := m.1 0 2 = nI p ∧ p ≤ n ∧ skp n g p = tst n g t ∧ m.1 0 3 = nI n ∧ m.1 0 4 = nI (tle n g t) - 1 ∧ (∀ j, j < n → m.1 1 j = nI (g j) ∧ g j < 256) ∧ WdN m ∧ n ≤ 1600
def FlM (c q : Nat) (m : zM) : Prop := m.1 0 5 = nI c ∧ m.1 0 6 = nI q ∧ 0 < c ∧ c < 8
theorem FlM_n {c q : Nat} {m : zM} (h : FlM c q m) : ¬ m.1 0 5 = 0 := by
  rw [h.1]
  intro z
  have := (nI_eq (b := 0) (by have := h.2.2.2; omega) (by decide)).mp z
  have := h.2.2.1
  omega
theorem RsM_f {n t p : Nat} {g : Nat → Nat} {m m' : zM} {S : List Nat} {F : List (Nat × Nat)} (h : RsM n g t p m) (hf : fl2 S F m m') (hk : kps [1] [(0, 2), (0, 3), (0, 4)] S F = true) (hw : kps [3, 4, 5, 6, 7, 8, 9, 10, 11, 12, 13, 14, 15, 16, 17, 18, 19, 20, 21] [(0, 6)] S F = true) : RsM n g t p m' := by
  obtain ⟨h1, h2, h3, h4, h5, h6, h7, h8⟩ := h
  refine ⟨?_, h2, h3, ?_, ?_, ?_, WdN_f h7 hf hw, h8⟩
  · rw [fl2_i hf (kps_g hk (by simp))]; exact h1
  · rw [fl2_i hf (kps_g hk (by simp))]; exact h4
  · rw [fl2_i hf (kps_g hk (by simp))]; exact h5
  · rw [show m'.1 1 = m.1 1 from fl2_ic hf (kps_c hk (by simp))]; exact h6
theorem lookM {n t p : Nat} {g : Nat → Nat} {m : zM} (h : RsM n g t p m) : ok (f_MO_look m) (fun r => r.1 = byA n g (tst n g t) ∧ fl2 [] [(0, 2)] m r.2 ∧ RsM n g t (tst n g t) r.2) := by
  have n16 := h.2.2.2.2.2.2.2
  unfold f_MO_look f_MO_look_L0
  refine ok_lop (fun q (s : zM) => fl2 [] [(0, 2)] m s ∧ RsM n g t q s) (fun q => n - q) ?_ p m ⟨fl2_rf, h⟩ (by omega)
  rintro q m1 ⟨f1, h1⟩
  obtain ⟨a1, a2, a3, a4, a5, a6, a7, a8⟩ := id h1
  have J52 : q = tst n g t → ok (f_MO_look_J52 m1) (fun r => r.1 = byA n g (tst n g t) ∧ fl2 [] [(0, 2)] m r.2 ∧ RsM n g t (tst n g t) r.2) := by
    intro e
    subst e
    unfold f_MO_look_J52
    refine ok_le n (tst n g t) (fun z => ok_mk ⟨?_, f1, h1⟩) (fun z => ok_ix a1 (by omega) (by decide) (ok_mk ⟨?_, f1, h1⟩)) (hx := a4) (hy := a1)
    · unfold byA; rw [if_neg (by omega)]
    · unfold byA; rw [if_pos z]; exact (a6 _ z).1
  unfold f_MO_look_B0
  refine ok_le n q (fun z => ok_zl (J52 ?_)) (fun z => ok_ix a1 (by omega) (by decide) ?_) (hx := a4) (hy := a1)
  · rw [← a3]; exact (skp_n a2 (Or.inl (by omega))).symm
  have g8 := (a6 q z).2
  have nx : ibBk (g q) = true → ok (f_MO_look_J39 m1) (lp (fun r : Int32 × zM => r.1 = byA n g (tst n g t) ∧ fl2 [] [(0, 2)] m r.2 ∧ RsM n g t (tst n g t) r.2) (fun s => ∃ q', n - q' < n - q ∧ fl2 [] [(0, 2)] m s ∧ RsM n g t q' s)) := by
    intro hb
    unfold f_MO_look_J39
    have f2 : fl2 [] [(0, 2)] m1 (sI m1 0 2 (m1.1 0 2 + 1)) := fl2_I (inS_f (by simp))
    refine ok_lt (ok_mk ⟨q + 1, by omega, fl2_tr f1 f2, ?_, by omega, by rw [← skp_b z hb]; exact a3, ?_, ?_, ?_, WdN_f a7 f2 (by decide), a8⟩)
    · rw [rd_I1, a1, nI_1]
    · rw [rd_I0 (by omega)]; exact a4
    · rw [rd_I0 (by omega)]; exact a5
    · rw [rd_Ic (by omega)]; exact a6
  refine ok_ee (g q) 10 (fun y => nx (ibB_i.mpr (Or.inr y))) (fun y => ok_ix a1 (by omega) (by decide) (ok_ee (g q) 32 (fun w => nx (ibB_i.mpr (Or.inl w))) (fun w => ok_zl (J52 ?_)) (hx := (a6 q z).1))) (hx := (a6 q z).1)
  rw [← a3]
  refine (skp_n a2 (Or.inr (Bool.eq_false_iff.mpr (fun v => ?_)))).symm
  rcases ibB_i.mp v with v | v
  · exact w v
  · exact y v
theorem zlM : ∀ w, w < 19 → zlen gM (3 + w) = (owL w).length := by decide +kernel
theorem hereM {n t p w : Nat} {g : Nat → Nat} {m : zM} (h : RsM n g t p m) (h5 : m.1 0 5 = 0) (hw : w < 19) : ok (f_MO_isHere (3 + w) m) (fun r => r.1 = iWb n g t w ∧ fl2 [] [(0, 2)] m r.2 ∧ RsM n g t (tst n g t) r.2) := by
  have n16 := h.2.2.2.2.2.2.2
  obtain ⟨o1, o2, o3⟩ := owL_ok w hw
  unfold f_MO_isHere
  refine ok_ip h5 (ok_bi (lookM h) (fun r ⟨e1, f1, R1⟩ => ?_))
  obtain ⟨a1, a2, a3, a4, a5, a6, a7, a8⟩ := id R1
  have g8 := fun j hj => (a6 j hj).2
  have tl := tle_le n g t
  rw [e1, ltr_m, byA_L g8]
  have no : ¬ iWw n g t w → ok (some (false, r.2)) (fun r' : Bool × zM => r'.1 = iWb n g t w ∧ fl2 [] [(0, 2)] m r'.2 ∧ RsM n g t (tst n g t) r'.2) := fun z => ok_mk ⟨(cBo_f z).symm, f1, R1⟩
  refine ok_tf (fun z => ?_) (fun z => no (fun y => ?_))
  rotate_left
  · rw [decide_eq_true y.1.1, y.1.2.1] at z; cases z
  rw [Bool.and_eq_true, decide_eq_true_iff] at z
  obtain ⟨z1, z2⟩ := z
  rw [a1, a5]
  have ge : nI (tst n g t) = nI (tle n g t) - 1 ↔ glu n g t = true := by
    unfold glu
    rw [decide_eq_true_iff, show nI (tst n g t) = nI (tst n g t + 1) - 1 from (nI_pred _).symm, sd_eq (by omega) (by omega)]
  refine ok_it (fun y => no (fun u => ?_)) (fun y => ?_)
  · have v := u.1.2.2
    rw [ge.mp y] at v
    cases v
  have hd : iWd n g t := ⟨z1, z2, Bool.eq_false_iff.mpr (fun u => y (ge.mpr u))⟩
  obtain ⟨r1, r2, r3⟩ := rnK_sp (q := ibL) (g := g) (Nat.le_of_lt z1)
  have zl := zlM w hw
  have J61 : ok (f_MO_isHere_J61 (3 + w) (nI (tst n g t + rnK ibL n g (tst n g t))) r.2) (fun r' => r'.1 = iWb n g t w ∧ fl2 [] [(0, 2)] m r'.2 ∧ RsM n g t (tst n g t) r'.2) := by
    unfold f_MO_isHere_J61
    rw [a1, pk_sub (by omega), zl, show tst n g t + rnK ibL n g (tst n g t) - tst n g t = rnK ibL n g (tst n g t) by omega]
    refine ok_ee (rnK ibL n g (tst n g t)) (owL w).length (fun u => ?_) (fun u => no (fun v => u v.2.1))
    unfold f_MO_isHere_L76
    refine ok_for (owL w).length (fun k (s : Int32) => s = nI k ∧ ∀ j, j < k → g (tst n g t + j) = (owL w).getD j 0) (k0 := 0) ⟨rfl, fun j hj => absurd hj (Nat.not_lt_zero _)⟩ (Nat.zero_le _) ?_
    rintro k s - hk ⟨e, hj⟩
    subst e
    unfold f_MO_isHere_B76
    rw [zl]
    refine ok_le (owL w).length k (fun v => ok_mk ⟨(cBo_t ⟨hd, u, fun j hjj => hj j (by omega)⟩).symm, f1, R1⟩) (fun v => ok_ix (i := tst n g t + k) (by rw [a1, nI_add]) (by omega) (by decide) (ok_ix rfl v (by omega) ?_))
    rw [(a6 _ (by omega)).1, a7.1 w hw k v]
    have b1 := g8 (tst n g t + k) (by omega)
    have b2 := o3 k v
    refine ok_ee (g (tst n g t + k)) ((owL w).getD k 0) (fun x => ok_mk ⟨v, nI_1 k, fun j hjj => ?_⟩) (fun x => ok_mk ⟨(cBo_f (fun q => x (q.2.2 k v))).symm, f1, R1⟩)
    rcases Nat.lt_or_ge j k with q | q
    · exact hj j q
    · rw [show j = k by omega]; exact x
  unfold f_MO_isHere_L35
  refine ok_for (rnK ibL n g (tst n g t)) (fun k (s : Int32) => s = nI (tst n g t + k)) (k0 := 0) rfl (Nat.zero_le _) ?_
  rintro k s - hk e
  subst e
  unfold f_MO_isHere_B35
  have fin : k = rnK ibL n g (tst n g t) → ok (f_MO_isHere_J61 (3 + w) (nI (tst n g t + k)) r.2) (fun r' => r'.1 = iWb n g t w ∧ fl2 [] [(0, 2)] m r'.2 ∧ RsM n g t (tst n g t) r'.2) := fun e => by rw [e]; exact J61
  refine ok_le n (tst n g t + k) (fun u => ok_zl (fin (by omega))) (fun u => ok_ix rfl (by omega : tst n g t + k < 1600) (by decide) ?_) (hx := a4)
  rw [(a6 _ u).1, ltr_m, ltr_x (g8 _ u)]
  refine ok_tf (fun v => ok_mk ⟨?_, nI_1 _⟩) (fun v => ok_zl (fin ?_))
  · rcases Nat.lt_or_ge k (rnK ibL n g (tst n g t)) with q | q
    · exact q
    · have := r3 (by omega)
      rw [show rnK ibL n g (tst n g t) = k by omega, v] at this
      cases this
  · rcases Nat.lt_or_ge k (rnK ibL n g (tst n g t)) with q | q
    · rw [r2 k q] at v; cases v
    · omega
