/-- the cells of a table in the making -/
def dsL (b : Nat) : List Nat := [b, b + 1, b + 2, b + 3, b + 4, b + 5, b + 6, b + 7, b + 8, b + 9, b + 10, b + 11, b + 12, b + 13, b + 14, b + 15, b + 16, b + 17, b + 18, b + 19, b + 20, b + 21, b + 22]
def RFx (b : Nat) (m0 m : zM) : Prop := fl2 (dsL b) RdF m0 m
theorem RFx_l {b : Nat} {m m' : zM} {F : List (Nat × Nat)} (h : fl2 [] F m m') (hs : sbs [] F [] RdF = true) : RFx b m m' := by
  have h1 := fl2_su h hs
  refine ⟨fun k j hk => h1.1 k j ?_, h1.2⟩
  unfold inS at hk ⊢
  rw [Bool.or_eq_false_iff] at hk ⊢
  exact ⟨rfl, hk.2⟩
theorem RFx_t {b : Nat} {m m' m'' : zM} (h : RFx b m m') (h' : RFx b m' m'') : RFx b m m'' := fl2_tr h h'
theorem RFx_I {b k i : Nat} {v : Int32} {m : zM} (hk : k < 23) : RFx b m (sI m (b + k) i v) := by
  refine fl2_I (inS_c ?_)
  rcases (show k = 0 ∨ k = 1 ∨ k = 2 ∨ k = 3 ∨ k = 4 ∨ k = 5 ∨ k = 6 ∨ k = 7 ∨ k = 8 ∨ k = 9 ∨ k = 10 ∨ k = 11 ∨ k = 12 ∨ k = 13 ∨ k = 14 ∨ k = 15 ∨ k = 16 ∨ k = 17 ∨ k = 18 ∨ k = 19 ∨ k = 20 ∨ k = 21 ∨ k = 22 by omega) with z | z | z | z | z | z | z | z | z | z | z | z | z | z | z | z | z | z | z | z | z | z | z <;> subst z <;> simp [dsL]
/-- the class reads on at t, the table so far is P -/
def XSt (b n : Nat) (g : Nat → Nat) (T t : Nat) (P : Nat → Nat) (m : zM) : Prop := CsX n g T t m ∧ m.2.2 1 = b ∧ tX b P m ∧ ∀ j, j < n → g j < 256
def XO (b n : Nat) (g : Nat → Nat) (T : Nat) (R : PRs) (m0 : zM) (p : Bool × zM) : Prop := RFx b m0 p.2 ∧ ((∃ t' P', R = .inr (t', P') ∧ p.1 = true ∧ XSt b n g T t' P' p.2) ∨ (∃ c q, R = .inl (c, q) ∧ p.1 = false ∧ FlX c q p.2))
theorem XO_i {b n T c q : Nat} {g : Nat → Nat} {R : PRs} {m0 m : zM} (h : RFx b m0 m) (e : R = .inl (c, q)) (hf : FlX c q m) : XO b n g T R m0 (false, m) := ⟨h, Or.inr ⟨c, q, e, rfl, hf⟩⟩
theorem XO_r {b n T t' : Nat} {g P' : Nat → Nat} {R : PRs} {m0 m : zM} (h : RFx b m0 m) (e : R = .inr (t', P')) (hs : XSt b n g T t' P' m) : XO b n g T R m0 (true, m) := ⟨h, Or.inl ⟨t', P', e, rfl, hs⟩⟩
/-- writing into the table does not touch what is read -/
theorem CsX_d {b n T t k i : Nat} {g : Nat → Nat} {v : Int32} {m : zM} (hb : tbv b) (hk : k < 23) (h : CsX n g T t m) : CsX n g T t (sI m (b + k) i v) := by
  have hb' : b = 66 ∨ b = 93 := hb
  obtain ⟨⟨h1, h2, h3, h4, h5⟩, h6, h7⟩ := h
  refine ⟨⟨h1, h2, fun u hu => ?_, ?_, ?_⟩, ?_, h7.1, h7.2.1, ?_, ?_⟩
  · rw [rd_I0 (by omega), rd_I0 (by omega), rd_I0 (by omega)]; exact h3 u hu
  · rw [rd_I0 (by omega)]; exact h4
  · rw [rd_I0 (by omega)]; exact h5
  · rw [rd_I0 (by omega)]; exact h6
  · rw [rd_I0 (by omega)]; exact h7.2.2.1
  · rw [rd_I0 (by omega)]; exact h7.2.2.2
theorem tX_nm {b k u : Nat} {P : Nat → Nat} {m : zM} (h : tX b P m) (hk : k < 3) (h6 : P k < 6) (h5 : P 5 ≤ 4) (hV : nmV P) (hn : ∀ i, i < P 5 → P (28 + 7 * i) ≤ 3) : tX b (upn (upn P (10 + 6 * k + P k) u) k (P k + 1)) (sI (sI m (b + 2) (6 * k + P k) (nI (nm5 u))) (b + 1) k (nI (P k + 1))) := by
  obtain ⟨⟨s1, s2, s3, s4, s5, s6⟩, a, c, d, e⟩ := h
  have o : ∀ i, i ≠ k → i ≠ 10 + 6 * k + P k → upn (upn P (10 + 6 * k + P k) u) k (P k + 1) i = P i := fun i h1 h2 => by rw [upn_o h1, upn_o h2]
  have ek : upn (upn P (10 + 6 * k + P k) u) k (P k + 1) k = P k + 1 := upn_e
  have en : upn (upn P (10 + 6 * k + P k) u) k (P k + 1) (10 + 6 * k + P k) = u := by rw [upn_o (by omega), upn_e]
  refine ⟨⟨?_, ?_, ?_, ?_, ?_, ?_⟩, fun i hi => ?_, fun r hr => ?_, fun i hi => ?_, fun i j hi hj => ?_⟩
  · rw [rd_I0 (by omega), rd_I0 (by omega), o 3 (by omega) (by omega)]; exact s1
  · rw [rd_I0 (by omega), rd_I0 (by omega), o 4 (by omega) (by omega)]; exact s2
  · rw [rd_I0 (by omega), rd_I0 (by omega), o 8 (by omega) (by omega)]; exact s3
  · rw [rd_I0 (by omega), rd_I0 (by omega), o 5 (by omega) (by omega)]; exact s4
  · rw [rd_I0 (by omega), rd_I0 (by omega), o 6 (by omega) (by omega)]; exact s5
  · rw [rd_I0 (by omega), rd_I0 (by omega), o 7 (by omega) (by omega)]; exact s6
  · by_cases z : i = k
    · rw [z, rd_I1, ek]
    · rw [rd_I0 (by omega), rd_I0 (by omega), o i z (by omega)]; exact a i hi
  · rw [o 8 (by omega) (by omega)] at hr
    intro j hj
    have et : fI (tF (upn (upn P (10 + 6 * k + P k) u) k (P k + 1)) r) j = fI (tF P r) j := by
      unfold fI tF
      rw [o (56 + 8 * r + j) (by omega) (by omega)]
    rw [et, rd_I0 (by omega), rd_I0 (by omega)]
    exact c r hr j hj
  · rw [o 5 (by omega) (by omega)] at hi
    have := hn i hi
    rw [o (28 + 7 * i) (by omega) (by omega), rd_I0 (by omega), rd_I0 (by omega)]
    refine ⟨(d i hi).1, fun c' hc' => ?_⟩
    rw [o _ (by omega) (by omega), o _ (by omega) (by omega), rd_I0 (by omega), rd_I0 (by omega), rd_I0 (by omega), rd_I0 (by omega)]
    exact (d i hi).2 c' hc'
  · by_cases z : i = k
    · subst z
      rw [ek] at hj
      rw [rd_I0 (by omega)]
      rcases Nat.lt_or_ge j (P i) with y | y
      · rw [rd_I0 (by omega), o _ (by omega) (by omega)]; exact e i j hi y
      · rw [show j = P i by omega, rd_I1, en]
    · rw [o i z (by omega)] at hj
      have := (hV i hi).1
      rw [rd_I0 (by omega), rd_I0 (by omega), o _ (by omega) (by omega)]
      exact e i j hi hj
theorem takenX {P : Nat → Nat} {b u : Nat} {m : zM} (hV : nmV P) (ht : tX b P m) (hu : ltO u) : f_Table_isTaken b (nI (nm5 u)) m = some (cBo (tkn P u)) := by
  refine ok_eq.mp ?_
  unfold f_Table_isTaken f_Table_isTaken_L2
  refine ok_for 3 (fun k (s : Int32) => s = nI k ∧ ∀ i, i < k → ∀ j, j < P i → P (10 + 6 * i + j) ≠ u) (k0 := 0) ⟨rfl, fun i hi => absurd hi (Nat.not_lt_zero _)⟩ (Nat.zero_le _) ?_
  rintro k s - hk ⟨e, h⟩
  subst e
  unfold f_Table_isTaken_B2
  refine ok_le 3 k (fun q => ok_mk (cBo_f (fun ⟨i, h1, j, h2, h3⟩ => h i (by omega) j h2 h3)).symm) (fun q => ?_)
  have p6 := (hV k q).1
  refine ok_eb (findT hV ht q hu) ?_
  obtain ⟨x1, x2, x3⟩ := fi_sp (fun j => decide (P (10 + 6 * k + j) = u)) (P k)
  generalize fi (fun j => decide (P (10 + 6 * k + j) = u)) (P k) = j at *
  by_cases z : j < P k
  · rw [if_pos z]
    exact ok_in (nI_ne_m1 (by omega)) (ok_mk (cBo_t ⟨k, q, j, z, of_decide_eq_true (x3 z)⟩).symm)
  · rw [if_neg z]
    refine ok_ip rfl (ok_mk ⟨q, nI_1 k, fun i hi j' hj' => ?_⟩)
    rcases Nat.lt_or_ge i k with y | y
    · exact h i y j' hj'
    · rw [show i = k by omega] at hj' ⊢
      exact of_decide_eq_false (x2 j' (by omega))
theorem manyX {n T t : Nat} {g : Nat → Nat} {m : zM} (hC : CsX n g T t m) : ok (f_Reader_oneTooMany m) (fun p => p.1 = false ∧ fl2 [] [(65, 7), (65, 8)] m p.2 ∧ FlX (if tst n g t < n then 5 else 1) (tst n g t) p.2) := by
  have T16 := hC.1.1
  have tl := hC.2.2.1
  unfold f_Reader_oneTooMany
  refine ok_ix hC.2.1 (by omega : t < 1601) (by decide) ?_
  rcases Nat.lt_or_ge t T with u | u
  · obtain ⟨a1, a2, a3, a4, a5⟩ := hC.1.2.2.1 t u
    have kl := kdT_le n g t
    have k0 : 0 < kdT n g t := by
      have := (kd0_le n g (tst n g t)).2
      unfold kdT; split <;> (try split) <;> omega
    rw [if_pos a1]
    refine ok_in (by rw [a4]; exact fun z => by have := (nI_eq (b := 0) (by omega) (by decide)).mp z; omega) (ok_ix hC.2.1 (by omega : t < 1601) (by decide) (ok_lt ?_))
    obtain ⟨e2, f2, h2⟩ := refuX (m := m) (c := 5) (x := 5) rfl (CsX_p hC)
    exact ok_mk ⟨e2, f2, h2⟩
  · have et : t = T := by omega
    refine ok_ip (by rw [et]; exact hC.1.2.2.2.1) (ok_bi (unexX hC) (fun p ⟨e2, f2, h2⟩ => ok_mk ⟨e2, f2, ?_⟩))
    rw [if_neg (by rw [et, hC.1.2.1]; omega)]
    exact h2
theorem namesX {b n T t k : Nat} {g P : Nat → Nat} {m : zM} (hb : tbv b) (hk : k < 3) (hd : dV P) (hP : P k = 0) (hS : XSt b n g T t P m) : ok (f_Reader_names (nI k) m) (XO b n g T (nmsR n g k 6 t P) m) := by
  have hb' : b = 66 ∨ b = 93 := hb
  generalize hR : nmsR n g k 6 t P = R
  unfold f_Reader_names f_Reader_names_L2
  refine ok_for 6 (fun j (s : Int32 × zM) => ∃ t' P', s.1 = nI j ∧ P' k = j ∧ dV P' ∧ RFx b m s.2 ∧ XSt b n g T t' P' s.2 ∧ nmsR n g k (6 - j) t' P' = R) (k0 := 0) ⟨t, P, rfl, hP, hd, fl2_rf, hS, hR⟩ (Nat.zero_le _) ?_
  rintro j ⟨x, m1⟩ - hj ⟨t1, P1, e1, p1, d1, f1, S1, r1⟩
  have e1 : x = nI j := e1
  subst e1
  have f1 : RFx b m m1 := f1
  have S1 : XSt b n g T t1 P1 m1 := S1
  obtain ⟨C1, b1, t1x, g8⟩ := id S1
  unfold f_Reader_names_B2
  refine ok_le 6 j (fun q => ok_zl ?_) (fun q => ?_)
  · unfold f_Reader_names_J65
    refine ok_bi (manyX C1) (fun p ⟨e2, f2, h2⟩ => ok_mk ?_)
    obtain ⟨pb, pm⟩ := p
    have e2 : pb = false := e2
    subst e2
    rw [← r1, show 6 - j = 0 by omega]
    exact XO_i (RFx_t f1 (RFx_l f2 (by decide))) rfl h2
  · rw [show 6 - j = (5 - j) + 1 by omega] at r1
    unfold nmsR at r1
    unfold f_Reader_given
    refine ok_bi (G := fun p => (∃ u, nmR n g t1 = .inr u ∧ ¬ tkn P1 u ∧ p.1 = true ∧ RFx b m p.2 ∧ dV (upn (upn P1 (10 + 6 * k + P1 k) u) k (P1 k + 1)) ∧ XSt b n g T (t1 + 1) (upn (upn P1 (10 + 6 * k + P1 k) u) k (P1 k + 1)) p.2) ∨ (p.1 = false ∧ XO b n g T (R) m p)) ?_ (fun p hp => ?_)
    · refine ok_bi (nameRX C1) (fun p hp => ?_)
      rcases hp with ⟨u, n1, n2, n3, n4, n5, n6⟩ | ⟨c, q', n1, n2, n3, n4⟩
      rotate_left
      · refine ok_in (by rw [n2]; decide) (ok_mk (Or.inr ⟨rfl, XO_i (RFx_t f1 (RFx_l n3 (by decide))) ?_ n4⟩))
        rw [← r1, n1]
      rw [n1] at r1
      have r1 : (if cBo (tkn P1 u) = true then .inl (3, tst n g t1) else if cBo (iSg n g (t1 + 1) 44) = true then nmsR n g k (5 - j) (t1 + 2) (upn (upn P1 (10 + 6 * k + P1 k) u) k (P1 k + 1)) else .inr (t1 + 1, upn (upn P1 (10 + 6 * k + P1 k) u) k (P1 k + 1))) = R := r1
      have C2 := CsX_f C1 n5 (by decide) (by decide)
      have tx2 := tX_fl hb t1x n5 (by decide) d1.2.1.2.2.2.2.2.1
      have fp : RFx b m p.2 := RFx_t f1 (RFx_l n5 (by decide))
      have bp : p.2.2.2 1 = b := by rw [n5.2]; exact b1
      have T16 := C2.1.1
      have tl := C2.2.2.1
      refine ok_ip n4 (ok_eb (tb_ok bp hb) ?_)
      rw [n6]
      refine ok_eb (takenX d1.1 tx2 n2) (ok_tf (fun z => ok_ix C2.2.1 (by omega : t1 < 1601) (by decide) (ok_lt ?_)) (fun z => ok_eb (tb_ok bp hb) ?_))
      · obtain ⟨e2, f2, h2⟩ := refuX (m := p.2) (c := 3) (x := 3) rfl (CsX_p C2)
        rw [if_pos z] at r1
        refine ok_mk (Or.inr ⟨e2, ?_⟩)
        rw [e2]
        exact XO_i (RFx_t fp (RFx_l f2 (by decide))) r1.symm h2
      · have nt : ¬ tkn P1 u := fun y => by rw [cBo_t y] at z; cases z
        have d2 := dV_nm d1 hk (show P1 k < 6 by omega) n2
        unfold f_Table_give
        refine ok_bi (G := fun p5 => p5 = sI (sI p.2 (b + 2) (6 * k + P1 k) (nI (nm5 u))) (b + 1) k (nI (P1 k + 1))) ?_ (fun p5 e5 => ok_lt (ok_mk (Or.inl ⟨u, n1, nt, rfl, ?_, d2, ?_⟩)))
        · refine ok_ix rfl hk (by decide) (ok_in (by rw [tx2.2.1 k hk]; exact fun y => by have := (nI_leI (a := 6) (b := P1 k) (by decide) (by omega)).mp y; omega) (ok_ix rfl hk (by decide) (ok_ix (i := 6 * k + P1 k) ?_ (by omega) (by decide) (ok_lt (ok_ix rfl hk (by decide) (ok_ix rfl hk (by decide) (ok_lt (ok_mk ?_))))))))
          · rw [tx2.2.1 k hk, show (6 : Int32) = nI 6 from rfl, pk_mul, nI_add, Nat.mul_comm]
          · rw [rd_I0 (by omega), tx2.2.1 k hk, nI_1]
        · rw [e5]
          exact RFx_t fp (RFx_t (RFx_t (RFx_I (by decide)) (RFx_I (by decide))) (RFx_l (F := [(65, 5)]) (fl2_I (inS_f (by simp))) (by decide)))
        · rw [e5]
          have C3 := CsX_d (i := k) (v := nI (P1 k + 1)) hb (by decide : 1 < 23) (CsX_d (i := 6 * k + P1 k) (v := nI (nm5 u)) hb (by decide : 2 < 23) C2)
          have tx3 := tX_nm (u := u) tx2 hk (show P1 k < 6 by omega) d1.2.1.2.2.1 d1.1 (fun i hi => (d1.2.2.2.1 i hi).1)
          refine ⟨CsX_n (S := []) (F := [(65, 5)]) C3 n3 (fl2_I (inS_f (by simp))) (by decide) ?_, ?_, tX_fl (S := []) (F := [(65, 5)]) hb tx3 (fl2_I (inS_f (by simp))) (by decide) d2.2.1.2.2.2.2.2.1, g8⟩
          · rw [rd_I1, C3.2.1, nI_1]
          · exact bp
    · rcases hp with ⟨u, n1, n2, n3, n4, n5, n6⟩ | ⟨n1, n2⟩
      rotate_left
      · refine ok_in (by rw [n1]; decide) (ok_mk ?_)
        obtain ⟨pb, pm⟩ := p
        have n1 : pb = false := n1
        subst n1
        exact n2
      · rw [n1] at r1
        have r1 : (if cBo (tkn P1 u) = true then .inl (3, tst n g t1) else if cBo (iSg n g (t1 + 1) 44) = true then nmsR n g k (5 - j) (t1 + 2) (upn (upn P1 (10 + 6 * k + P1 k) u) k (P1 k + 1)) else .inr (t1 + 1, upn (upn P1 (10 + 6 * k + P1 k) u) k (P1 k + 1))) = R := r1
        rw [if_neg (by rw [cBo_f n2]; decide)] at r1
        obtain ⟨C2, b2, tx2, _⟩ := id n6
        have T16 := C2.1.1
        have tl := C2.2.2.1
        have sg := sgnX (c := 44) C2 (by decide) (by decide) (by decide) g8
        have no : ¬ iSg n g (t1 + 1) 44 → ok (some (Sum.inl (true, p.2))) (lp (fun p => XO b n g T (R) m p) (fun s : Int32 × zM => j < 6 ∧ ∃ t' P', s.1 = nI (j + 1) ∧ P' k = j + 1 ∧ dV P' ∧ RFx b m s.2 ∧ XSt b n g T t' P' s.2 ∧ nmsR n g k (6 - (j + 1)) t' P' = R)) := by
          intro z
          rw [if_neg (by rw [cBo_f z]; decide)] at r1
          exact ok_mk (XO_r n4 r1.symm n6)
        refine ok_ip n3 (ok_ix C2.2.1 (by omega : t1 + 1 < 1601) (by decide) (ok_it (fun z => ok_ix C2.2.1 (by omega : t1 + 1 < 1601) (by decide) (ok_it (fun y => ?_) (fun y => no (fun w => y ((lg_cmp_eq _ _).mpr (sg.mpr w).2))))) (fun z => no (fun w => z (sg.mpr w).1))))
        have is := sg.mp ⟨z, (lg_cmp_eq _ _).mp y⟩
        rw [if_pos (cBo_t is)] at r1
        refine ok_lt (ok_mk ⟨q, t1 + 2, _, nI_1 j, ?_, n5, RFx_t n4 (RFx_l (F := [(65, 5)]) (fl2_I (inS_f (by simp))) (by decide)), ⟨CsX_n (S := []) (F := [(65, 5)]) C2 ((CsX_lt C2).mpr is.1) (fl2_I (inS_f (by simp))) (by decide) ?_, b2, tX_fl (S := []) (F := [(65, 5)]) hb tx2 (fl2_I (inS_f (by simp))) (by decide) n5.2.1.2.2.2.2.2.1, g8⟩, ?_⟩)
        · rw [upn_e, p1]
        · rw [rd_I1, C2.2.1, nI_1]
        · rw [show 6 - (j + 1) = 5 - j by omega]; exact r1
