def RFm (m0 m : zM) : Prop := fl2 [22] MrF m0 m
theorem RFm_l {m m' : zM} {F : List (Nat × Nat)} (h : fl2 [] F m m') (hs : sbs [] F [22] MrF = true) : RFm m m' := fl2_su h hs
theorem RFm_I {i : Nat} {v : Int32} {m : zM} : RFm m (sI m 22 i v) := fl2_I (inS_c (by decide))
/-- the reference reads on at t, the table so far is P -/
def MSt (n : Nat) (g : Nat → Nat) (t : Nat) (P : Nat → Nat) (m : zM) : Prop := (∃ p, RsM n g t p m) ∧ m.1 0 5 = 0 ∧ tM 22 P m
def MOu (n : Nat) (g : Nat → Nat) (R : PRs) (m0 m : zM) : Prop := RFm m0 m ∧ ((∃ t' P', R = .inr (t', P') ∧ MSt n g t' P' m) ∨ (∃ c q, R = .inl (c, q) ∧ FlM c q m))
theorem MOu_i {n c q : Nat} {g : Nat → Nat} {R : PRs} {m0 m : zM} (h : RFm m0 m) (e : R = .inl (c, q)) (hf : FlM c q m) : MOu n g R m0 m := ⟨h, Or.inr ⟨c, q, e, hf⟩⟩
theorem MOu_r {n t' : Nat} {g P' : Nat → Nat} {R : PRs} {m0 m : zM} (h : RFm m0 m) (e : R = .inr (t', P')) (hs : MSt n g t' P' m) : MOu n g R m0 m := ⟨h, Or.inl ⟨t', P', e, hs⟩⟩
theorem tM_u {P : Nat → Nat} {i v : Nat} {x : Int32} {m : zM} (h : tM 22 P m) (hi : i ≠ 8) (hx : x = tpI (upn P i v) i) : tM 22 (upn P i v) (sI m 22 i x) := by
  intro k hk
  rw [upn_o (fun z => hi z.symm)] at hk
  by_cases z : k = i
  · rw [z, rd_I1]; exact hx
  · rw [rd_I0 (fun y => z y.2), h k hk]
    unfold tpI
    rw [upn_o z]
theorem RsM_d {n t p i : Nat} {g : Nat → Nat} {v : Int32} {m : zM} (h : RsM n g t p m) : RsM n g t p (sI m 22 i v) := RsM_f (S := [22]) (F := []) h (fl2_I (inS_c (by simp))) (by decide) (by decide)
theorem tpI_n {P : Nat → Nat} {i v : Nat} (h : tpN i = false) : tpI (upn P i v) i = nI v := by unfold tpI; rw [h, upn_e]; rfl
theorem tpI_o {P : Nat → Nat} {i v : Nat} (h : tpN i = true) : tpI (upn P i v) i = nI v - 1 := by unfold tpI; rw [h, upn_e]; rfl
theorem tpN_l {i : Nat} (h : i < 56) (h6 : i ≠ 6) (h7 : i ≠ 7) : tpN i = false := by
  unfold tpN
  rw [decide_eq_false h6, decide_eq_false h7, decide_eq_false (show ¬ 56 ≤ i by omega)]
  rfl
theorem manyM {n t p : Nat} {g : Nat → Nat} {m : zM} {α : Type} {F1 F5 : zM → Option α} {K : α → Prop} (h : RsM n g t p m) (h5 : m.1 0 5 = 0) (c1 : ¬ tst n g t < n → ∀ m', RFm m m' → m'.1 0 2 = nI (tst n g t) → m'.1 0 5 = 0 → ok (F1 m') K) (c5 : tst n g t < n → ∀ m', RFm m m' → m'.1 0 2 = nI (tst n g t) → m'.1 0 5 = 0 → ok (F5 m') K) : ok ((f_MO_look m).bind fun p1 => if p1.1 = -1 then F1 p1.2 else F5 p1.2) K := by
  refine ok_bi (lookM h) (fun r ⟨e1, f1, R1⟩ => ?_)
  have e5 : r.2.1 0 5 = 0 := by rw [fl2_i f1 (by decide)]; exact h5
  rw [e1]
  unfold byA
  by_cases z : tst n g t < n
  · have := (R1.2.2.2.2.2.1 _ z).2
    rw [if_pos z]
    exact ok_in (nI_ne_m1 (by omega)) (c5 z r.2 (RFm_l f1 (by decide)) R1.1 e5)
  · rw [if_neg z]
    exact ok_ip rfl (c1 z r.2 (RFm_l f1 (by decide)) R1.1 e5)
theorem nnmM {n t k : Nat} {g P : Nat → Nat} {m : zM} (hk : k < 3) (hd : dV P) (hP : P k = 0) (hS : MSt n g t P m) : ok (f_MO_newNames (nI k) m) (MOu n g (nmsR n g k 6 t P) m) := by
  generalize hR : nmsR n g k 6 t P = R
  unfold f_MO_newNames f_MO_newNames_L2
  have J87f : ∀ (v2 v3 : Int32) (m' : zM) (c q : Nat), FlM c q m' → RFm m m' → R = .inl (c, q) → ok (f_MO_newNames_J87 (nI k) v2 v3 m') (lp (MOu n g R m) (fun s : Int32 × zM => True)) := by
    intro v2 v3 m' c q hf fm e
    unfold f_MO_newNames_J87
    exact ok_in (FlM_n hf) (ok_mk (MOu_i fm e hf))
  refine ok_for 6 (fun j (s : Int32 × zM) => ∃ t' P', s.1 = nI j ∧ P' k = j ∧ dV P' ∧ RFm m s.2 ∧ MSt n g t' P' s.2 ∧ nmsR n g k (6 - j) t' P' = R) (k0 := 0) ⟨t, P, rfl, hP, hd, fl2_rf, hS, hR⟩ (Nat.zero_le _) ?_
  rintro j ⟨x, m1⟩ - hj ⟨t1, P1, e1, p1, d1, f1, S1, r1⟩
  have e1 : x = nI j := e1
  subst e1
  have f1 : RFm m m1 := f1
  obtain ⟨⟨p, R1⟩, h5, tm1⟩ : MSt n g t1 P1 m1 := S1
  have lf : ∀ (v2 v3 : Int32) (m' : zM) (c q : Nat), FlM c q m' → RFm m m' → R = .inl (c, q) → ok (f_MO_newNames_J87 (nI k) v2 v3 m') (lp (MOu n g R m) (fun s : Int32 × zM => j < 6 ∧ ∃ t' P', s.1 = nI (j + 1) ∧ P' k = j + 1 ∧ dV P' ∧ RFm m s.2 ∧ MSt n g t' P' s.2 ∧ nmsR n g k (6 - (j + 1)) t' P' = R)) := by
    intro v2 v3 m' c q hf fm e
    unfold f_MO_newNames_J87
    exact ok_in (FlM_n hf) (ok_mk (MOu_i fm e hf))
  unfold f_MO_newNames_B2
  refine ok_ip h5 (ok_ee j 6 (fun q => ?_) (fun q => ?_))
  · rw [show 6 - j = 0 by omega] at r1
    have fin : ∀ (cc : Nat) (x : Int32) (m' : zM), x = nI cc → 0 < cc → cc < 8 → cc = (if tst n g t1 < n then 5 else 1) → RFm m1 m' → m'.1 0 2 = nI (tst n g t1) → m'.1 0 5 = 0 → ok (f_MO_newNames_J29 (nI k) (nI j) x m') (lp (MOu n g R m) (fun s : Int32 × zM => j < 6 ∧ ∃ t' P', s.1 = nI (j + 1) ∧ P' k = j + 1 ∧ dV P' ∧ RFm m s.2 ∧ MSt n g t' P' s.2 ∧ nmsR n g k (6 - (j + 1)) t' P' = R)) := by
      intro cc x m' ex c0 c8 ec fm h2 h5'
      unfold f_MO_newNames_J29
      obtain ⟨f3, l3⟩ := failM (c := cc) (x := x) h5' ex h2 c0 c8
      refine ok_lt ?_
      unfold f_MO_newNames_J36
      rw [nameN (FlM_n l3)]
      refine ok_eb rfl (ok_in (FlM_n l3) (lf _ _ _ cc (tst n g t1) l3 (fl2_tr f1 (fl2_tr fm (RFm_l f3 (by decide)))) ?_))
      rw [← r1, ec]; rfl
    exact manyM R1 h5 (fun z m' fm h2 h5' => fin 1 1 m' rfl (by decide) (by decide) (by rw [if_neg z]) fm h2 h5') (fun z m' fm h2 h5' => fin 5 5 m' rfl (by decide) (by decide) (by rw [if_pos z]) fm h2 h5')
  · rw [show 6 - j = (5 - j) + 1 by omega] at r1
    unfold nmsR at r1
    unfold f_MO_newNames_J36
    refine ok_bi (nameM R1 h5) (fun r ⟨fr, hr⟩ => ?_)
    rcases hr with ⟨u, n1, n2, n3, n4, n5, p', R2⟩ | ⟨c, q', n1, n2⟩
    rotate_left
    · exact ok_in (FlM_n n2) (lf _ _ _ c q' n2 (fl2_tr f1 (RFm_l fr (by decide))) (by rw [← r1, n1]))
    rw [n1] at r1
    have r1 : (if cBo (tkn P1 u) = true then .inl (3, tst n g t1) else if cBo (iSg n g (t1 + 1) 44) = true then nmsR n g k (5 - j) (t1 + 2) (upn (upn P1 (10 + 6 * k + P1 k) u) k (P1 k + 1)) else .inr (t1 + 1, upn (upn P1 (10 + 6 * k + P1 k) u) k (P1 k + 1))) = R := r1
    have tm2 := tM_fl tm1 fr (by decide)
    have F2 : RFm m r.2 := fl2_tr f1 (RFm_l fr (by decide))
    refine ok_ip n4 ?_
    rw [n3]
    have taken : ∀ i, i < 3 → fi (fun j => decide (P1 (10 + 6 * i + j) = u)) (P1 i) < P1 i → ok (f_MO_newNames_J78 (nI k) (nI j) (nI u) r.2) (lp (MOu n g R m) (fun s : Int32 × zM => j < 6 ∧ ∃ t' P', s.1 = nI (j + 1) ∧ P' k = j + 1 ∧ dV P' ∧ RFm m s.2 ∧ MSt n g t' P' s.2 ∧ nmsR n g k (6 - (j + 1)) t' P' = R)) := by
      intro i hi z
      have tk : tkn P1 u := ⟨i, hi, _, z, of_decide_eq_true ((fi_sp (fun j => decide (P1 (10 + 6 * i + j) = u)) (P1 i)).2.2 z)⟩
      rw [if_pos (cBo_t tk)] at r1
      unfold f_MO_newNames_J78
      obtain ⟨f3, l3⟩ := failM (c := 3) (x := 3) n4 rfl n5 (by decide) (by decide)
      exact ok_lt (lf _ _ _ 3 (tst n g t1) l3 (fl2_tr F2 (RFm_l f3 (by decide))) r1.symm)
    have kn : ∀ i, i < 3 → ∀ A B, (fi (fun j => decide (P1 (10 + 6 * i + j) = u)) (P1 i) < P1 i → ok B (lp (MOu n g R m) (fun s : Int32 × zM => j < 6 ∧ ∃ t' P', s.1 = nI (j + 1) ∧ P' k = j + 1 ∧ dV P' ∧ RFm m s.2 ∧ MSt n g t' P' s.2 ∧ nmsR n g k (6 - (j + 1)) t' P' = R))) → ((∀ j', j' < P1 i → P1 (10 + 6 * i + j') ≠ u) → ok A (lp (MOu n g R m) (fun s : Int32 × zM => j < 6 ∧ ∃ t' P', s.1 = nI (j + 1) ∧ P' k = j + 1 ∧ dV P' ∧ RFm m s.2 ∧ MSt n g t' P' s.2 ∧ nmsR n g k (6 - (j + 1)) t' P' = R))) → ok ((f_MO_known (nI i) (nI u) r.2).bind fun r4 => if r4 = -1 then A else B) (lp (MOu n g R m) (fun s : Int32 × zM => j < 6 ∧ ∃ t' P', s.1 = nI (j + 1) ∧ P' k = j + 1 ∧ dV P' ∧ RFm m s.2 ∧ MSt n g t' P' s.2 ∧ nmsR n g k (6 - (j + 1)) t' P' = R)) := by
      intro i hi A B hB hA
      have p6 := (d1.1 i hi).1
      refine ok_eb (knowM d1.1 tm2 hi n2.1) ?_
      obtain ⟨y1, y2, y3⟩ := fi_sp (fun j => decide (P1 (10 + 6 * i + j) = u)) (P1 i)
      by_cases z : fi (fun j => decide (P1 (10 + 6 * i + j) = u)) (P1 i) < P1 i
      · rw [if_pos z]; exact ok_in (nI_ne_m1 (by omega)) (hB z)
      · rw [if_neg z]; exact ok_ip rfl (hA (fun j' hj' => of_decide_eq_false (y2 j' (by omega))))
    refine kn 0 (by decide) _ _ (taken 0 (by decide)) (fun a0 => kn 1 (by decide) _ _ (taken 1 (by decide)) (fun a1 => kn 2 (by decide) _ _ (taken 2 (by decide)) (fun a2 => ?_)))
    have nt : ¬ tkn P1 u := by
      rintro ⟨i, hi, j', hj', e⟩
      rcases (show i = 0 ∨ i = 1 ∨ i = 2 by omega) with z | z | z <;> subst z
      · exact a0 j' hj' e
      · exact a1 j' hj' e
      · exact a2 j' hj' e
    rw [if_neg (by rw [cBo_f nt]; decide)] at r1
    have d2 := dV_nm d1 hk (show P1 k < 6 by omega) n2
    unfold f_MO_newNames_J87 f_MO_nameAt
    refine ok_ip n4 (ok_ix (i := 10 + 6 * k + P1 k) (by rw [p1, show (6 : Int32) = nI 6 from rfl, pk_mul, show (10 : Int32) = nI 10 from rfl, nI_add, nI_add]) (by omega) (by decide) (ok_lt (ok_ix (i := k) (by rw [show (0 : Int32) = nI 0 from rfl, nI_add, Nat.zero_add]) (by omega) (by decide) (ok_lt ?_))))
    have tm3 : tM 22 (upn (upn P1 (10 + 6 * k + P1 k) u) k (P1 k + 1)) (sI (sI r.2 22 (10 + 6 * k + P1 k) (nI u)) 22 k (nI j + 1)) := tM_u (tM_u tm2 (by omega) (tpI_n (tpN_l (by omega) (by omega) (by omega))).symm) (by omega) (by rw [tpI_n (tpN_l (by omega) (by omega) (by omega)), p1, nI_1])
    have F3 : RFm m (sI (sI r.2 22 (10 + 6 * k + P1 k) (nI u)) 22 k (nI j + 1)) := fl2_tr F2 (fl2_tr RFm_I RFm_I)
    have R3 : RsM n g (t1 + 1) p' (sI (sI r.2 22 (10 + 6 * k + P1 k) (nI u)) 22 k (nI j + 1)) := RsM_d (RsM_d R2)
    have h53 : (sI (sI r.2 22 (10 + 6 * k + P1 k) (nI u)) 22 k (nI j + 1)).1 0 5 = 0 := by rw [rd_I0 (by omega), rd_I0 (by omega)]; exact n4
    refine ok_bi (tsgnM (c := 44) R3 h53 (by decide) (by decide) (by decide)) (fun rr ⟨f4, h4⟩ => ?_)
    have h54 : rr.2.1 0 5 = 0 := by rw [fl2_i f4 (by decide)]; exact h53
    have tm4 := tM_fl tm3 f4 (by decide)
    rcases h4 with ⟨is, e4, p4, R4⟩ | ⟨is, e4, R4⟩
    · rw [if_pos (cBo_t is)] at r1
      refine ok_ip e4 (ok_mk ⟨by omega, t1 + 2, _, nI_1 j, ?_, d2, fl2_tr F3 (RFm_l f4 (by decide)), ⟨⟨p4, R4⟩, h54, tm4⟩, ?_⟩)
      · rw [upn_e, p1]
      · rw [show 6 - (j + 1) = 5 - j by omega]; exact r1
    · rw [if_neg (by rw [cBo_f is]; decide)] at r1
      exact ok_in (by rw [e4]; decide) (ok_mk (MOu_r (fl2_tr F3 (RFm_l f4 (by decide))) r1.symm ⟨⟨_, R4⟩, h54, tm4⟩))
