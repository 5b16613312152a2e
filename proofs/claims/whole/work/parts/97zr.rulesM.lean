/-- steps of the reference's reader -/
theorem ndS {n t k : Nat} {g P Q : Nat → Nat} {m0 m : zM} {α : Type} {f : Int32 × zM → Option α} {K : α → Prop} (hV : nmV P) (hq : sNm P Q) (hS : MSt n g t Q m) (f0 : RFm m0 m) (hk : k < 3) (hy : ∀ j m', knR n g P k t = .inr j → j < P k → RFm m0 m' → fl2 [] MrF m m' → MSt n g (t + 1) Q m' → ok (f (nI j, m')) K) (hn : ∀ c q x m', knR n g P k t = .inl (c, q) → RFm m0 m' → FlM c q m' → ok (f (x, m')) K) : ok ((f_MO_named (nI k) m).bind f) K := by
  obtain ⟨⟨p, R⟩, h5, tm⟩ := hS
  have kq := knR_o (n := n) (g := g) (k := k) (t := t) (P := P) (P' := Q) hk (hV k hk).1 hq
  refine ok_bi (namedM (nmV_o hV hq) tm R h5 hk) (fun r ⟨f1, hr⟩ => ?_)
  obtain ⟨rv, rm⟩ := r
  rw [kq] at hr
  have f1 : fl2 [] MrF m rm := f1
  rcases hr with ⟨j, r1, j1, e1, z5, p', R'⟩ | ⟨c, q, r1, l1⟩
  · have e1 : rv = nI j := e1
    subst e1
    exact hy j rm r1 (knR_l r1) (fl2_tr f0 (RFm_l f1 (by decide))) f1 ⟨⟨p', R'⟩, z5, tM_fl tm f1 (by decide)⟩
  · exact hn c q rv rm r1 (fl2_tr f0 (RFm_l f1 (by decide))) l1
theorem tkS {n t w : Nat} {g Q : Nat → Nat} {m0 m : zM} {α : Type} {f : Bool × zM → Option α} {K : α → Prop} (hS : MSt n g t Q m) (f0 : RFm m0 m) (hw : w < 19) (hy : ∀ m', iWw n g t w → RFm m0 m' → fl2 [] [(0, 2), (0, 4)] m m' → MSt n g (t + 1) Q m' → ok (f (true, m')) K) (hn : ∀ m', ¬ iWw n g t w → RFm m0 m' → fl2 [] [(0, 2), (0, 4)] m m' → MSt n g t Q m' → m'.1 0 2 = nI (tst n g t) → ok (f (false, m')) K) : ok ((f_MO_takes (3 + w) m).bind f) K := by
  obtain ⟨⟨p, R⟩, h5, tm⟩ := hS
  refine ok_bi (takesM R h5 hw) (fun r ⟨f1, hr⟩ => ?_)
  obtain ⟨rv, rm⟩ := r
  have f1 : fl2 [] [(0, 2), (0, 4)] m rm := f1
  have z5 : rm.1 0 5 = 0 := by rw [fl2_i f1 (by decide)]; exact h5
  have tm' := tM_fl tm f1 (by decide)
  have fr : RFm m0 rm := fl2_tr f0 (RFm_l f1 (by decide))
  rcases hr with ⟨i, e1, p', R'⟩ | ⟨i, e1, R'⟩
  · have e1 : rv = true := e1
    subst e1
    exact hy rm i fr f1 ⟨⟨p', R'⟩, z5, tm'⟩
  · have e1 : rv = false := e1
    subst e1
    exact hn rm i fr f1 ⟨⟨_, R'⟩, z5, tm'⟩ R'.1
theorem asS {n t w : Nat} {g Q : Nat → Nat} {m0 m : zM} {α : Type} {f : zM → Option α} {K : α → Prop} (hS : MSt n g t Q m) (f0 : RFm m0 m) (hw : w < 19) (hy : ∀ m', iWw n g t w → RFm m0 m' → fl2 [] MrF m m' → MSt n g (t + 1) Q m' → ok (f m') K) (hn : ∀ m', ¬ iWw n g t w → RFm m0 m' → FlM 1 (tst n g t) m' → ok (f m') K) : ok ((f_MO_asks (3 + w) m).bind f) K := by
  obtain ⟨⟨p, R⟩, h5, tm⟩ := hS
  refine ok_bi (asksM R h5 hw) (fun rm ⟨f1, hr⟩ => ?_)
  have fr : RFm m0 rm := fl2_tr f0 (RFm_l f1 (by decide))
  rcases hr with ⟨i, z5, p', R'⟩ | ⟨i, l1⟩
  · exact hy rm i fr f1 ⟨⟨p', R'⟩, z5, tM_fl tm f1 (by decide)⟩
  · exact hn rm i fr l1
theorem nvtM {n t : Nat} {g P : Nat → Nat} {m : zM} (hd : dV P) (h5 : P 5 < 4) (hS : MSt n g t P m) : ok (f_MO_neverTold m) (MOu n g (nvR n g 3 t P 0) m) := by
  have p8 := hd.2.1.2.2.2.2.2.1
  generalize hR : nvR n g 3 t P 0 = R
  generalize hp : P 5 = p5 at h5
  unfold f_MO_neverTold
  have e5 : m.1 22 5 = nI p5 := by rw [← hp]; exact tM_n hS.2.2 (by decide) (by decide)
  refine ok_ix (i := 5) rfl (by decide) (by decide) ?_
  rw [e5, show 28 + 7 * nI p5 = nI (28 + 7 * p5) by rw [show (7 : Int32) = nI 7 from rfl, pk_mul, show (28 : Int32) = nI 28 from rfl, nI_add]]
  unfold f_MO_neverTold_L15
  refine ok_for 3 (fun c (s : Int32 × zM) => ∃ t' Pc, s.1 = nI c ∧ Pc 5 = p5 ∧ dV Pc ∧ RFm m s.2 ∧ MSt n g t' Pc s.2 ∧ nvR n g (3 - c) t' Pc c = R) (k0 := 0) ⟨t, P, rfl, hp, hd, fl2_rf, hS, hR⟩ (Nat.zero_le _) ?_
  rintro c ⟨x, m1⟩ - hc ⟨t', Pc, e1, c5, dc, fc, Sc, rc⟩
  have e1 : x = nI c := e1
  subst e1
  have fc : RFm m m1 := fc
  obtain ⟨⟨p, R1⟩, z5, tm1⟩ : MSt n g t' Pc m1 := Sc
  have J48f : ∀ (m' : zM) (cc q : Nat), FlM cc q m' → RFm m m' → R = .inl (cc, q) → ok (f_MO_neverTold_J48 (nI (28 + 7 * p5)) (nI c) m') (lp (MOu n g R m) (fun s : Int32 × zM => c < 3 ∧ ∃ t' Pc, s.1 = nI (c + 1) ∧ Pc 5 = p5 ∧ dV Pc ∧ RFm m s.2 ∧ MSt n g t' Pc s.2 ∧ nvR n g (3 - (c + 1)) t' Pc (c + 1) = R)) := by
    intro m' cc q hf fm e
    unfold f_MO_neverTold_J48
    rw [numbN (FlM_n hf)]
    refine ok_eb rfl ?_
    rw [namedN (FlM_n hf)]
    exact ok_eb rfl (ok_in (FlM_n hf) (ok_mk (MOu_i fm e hf)))
  unfold f_MO_neverTold_B15
  refine ok_ip z5 (ok_ee c 3 (fun q => ?_) (fun q => ?_))
  · rw [show 3 - c = 0 by omega] at rc
    have fin : ∀ (cc : Nat) (x : Int32) (m' : zM), x = nI cc → 0 < cc → cc < 8 → cc = (if tst n g t' < n then 5 else 1) → RFm m1 m' → m'.1 0 2 = nI (tst n g t') → m'.1 0 5 = 0 → ok (f_MO_neverTold_J41 (nI (28 + 7 * p5)) (nI c) x m') (lp (MOu n g R m) (fun s : Int32 × zM => c < 3 ∧ ∃ t' Pc, s.1 = nI (c + 1) ∧ Pc 5 = p5 ∧ dV Pc ∧ RFm m s.2 ∧ MSt n g t' Pc s.2 ∧ nvR n g (3 - (c + 1)) t' Pc (c + 1) = R)) := by
      intro cc x m' ex c0 c8 ec fm h2 h5'
      unfold f_MO_neverTold_J41
      obtain ⟨f3, l3⟩ := failM (c := cc) (x := x) h5' ex h2 c0 c8
      refine ok_lt (J48f _ cc (tst n g t') l3 (fl2_tr fc (fl2_tr fm (RFm_l f3 (by decide)))) ?_)
      rw [← rc, ec]; rfl
    exact manyM R1 z5 (fun z m' fm h2 h5' => fin 1 1 m' rfl (by decide) (by decide) (by rw [if_neg z]) fm h2 h5') (fun z m' fm h2 h5' => fin 5 5 m' rfl (by decide) (by decide) (by rw [if_pos z]) fm h2 h5')
  · rw [show 3 - c = (2 - c) + 1 by omega] at rc
    unfold nvR at rc
    rw [c5] at rc
    unfold f_MO_neverTold_J48
    refine ok_bi (numbM (lo := 1) (hi := 4) R1 z5 (by decide) (by decide)) (fun r4 ⟨f4, h4⟩ => ?_)
    obtain ⟨v4, m4⟩ := r4
    have f4 : fl2 [] MrF m1 m4 := f4
    have F4 : RFm m m4 := fl2_tr fc (RFm_l f4 (by decide))
    rcases h4 with ⟨v, r4, e4, y5, p4, R4⟩ | ⟨cc, q', r4, l4⟩
    rotate_left
    · show ok ((f_MO_named 0 m4).bind _) _
      rw [namedN (FlM_n l4)]
      exact ok_eb rfl (ok_in (FlM_n l4) (ok_mk (MOu_i F4 (by rw [← rc, r4]) l4)))
    have e4 : v4 = nI v := e4
    subst e4
    simp only [r4] at rc
    have hv := nuR_l r4
    refine ndS (P := Pc) (k := 0) dc.1 (fun _ _ => rfl) ⟨⟨p4, R4⟩, y5, tM_fl tm1 f4 (by decide)⟩ F4 (by decide) (fun s m5 r5 s5 F5 _ S5 => ?_) (fun cc q' x m5 r5 F5 l5 => ok_in (FlM_n l5) (ok_mk (MOu_i F5 (by rw [← rc, r5]) l5)))
    simp only [r5] at rc
    obtain ⟨⟨p5', R5⟩, w5, tm5⟩ := S5
    refine ok_ip w5 ?_
    have i1 : nI (28 + 7 * p5) + 1 + 2 * nI c = nI (28 + 7 * p5 + 1 + 2 * c) := by rw [nI_1, show (2 : Int32) = nI 2 from rfl, pk_mul, nI_add]
    have i2 : nI (28 + 7 * p5) + 2 + 2 * nI c = nI (28 + 7 * p5 + 2 + 2 * c) := by rw [show (2 : Int32) = nI 2 from rfl, nI_add, pk_mul, nI_add]
    refine ok_ix i1 (by omega) (by decide) (ok_lt (ok_ix i2 (by omega) (by decide) (ok_lt ?_)))
    have tm6 : tM 22 (upn (upn Pc (28 + 7 * p5 + 1 + 2 * c) v) (28 + 7 * p5 + 2 + 2 * c) s) (sI (sI m5 22 (28 + 7 * p5 + 1 + 2 * c) (nI v)) 22 (28 + 7 * p5 + 2 + 2 * c) (nI s)) := tM_u (tM_u tm5 (by omega) (tpI_n (tpN_l (by omega) (by omega) (by omega))).symm) (by omega) (tpI_n (tpN_l (by omega) (by omega) (by omega))).symm
    have S6 : MSt n g (t' + 2) (upn (upn Pc (28 + 7 * p5 + 1 + 2 * c) v) (28 + 7 * p5 + 2 + 2 * c) s) (sI (sI m5 22 (28 + 7 * p5 + 1 + 2 * c) (nI v)) 22 (28 + 7 * p5 + 2 + 2 * c) (nI s)) := ⟨⟨p5', RsM_d (RsM_d R5)⟩, by rw [rd_I0 (by omega), rd_I0 (by omega)]; exact w5, tm6⟩
    have dc2 : dV (upn (upn Pc (28 + 7 * p5 + 1 + 2 * c) v) (28 + 7 * p5 + 2 + 2 * c) s) := dV_v (dV_v dc (by rw [c5]; omega) (by omega)) (by rw [upn_o (by omega), c5]; omega) (by omega)
    refine tkS (w := 8) S6 (fl2_tr F5 (fl2_tr RFm_I RFm_I)) (by decide) (fun m7 i7 F7 _ S7 => ok_ip rfl (ok_mk ⟨by omega, t' + 3, _, nI_1 c, ?_, dc2, F7, S7, ?_⟩)) (fun m7 i7 F7 _ S7 _ => ok_in Bool.false_ne_true (ok_zl ?_))
    · rw [upn_o (by omega), upn_o (by omega)]; exact c5
    · rw [if_pos (iWb_t i7)] at rc
      rw [show 3 - (c + 1) = 2 - c by omega]; exact rc
    · rw [if_neg (iWb_n i7)] at rc
      obtain ⟨⟨p7, R7⟩, w7, tm7⟩ := S7
      unfold f_MO_neverTold_J111
      refine ok_ix rfl (by omega : 28 + 7 * p5 < 184) (by decide) (ok_lt (ok_ix (i := 5) rfl (by decide) (by decide) (ok_ix (i := 5) rfl (by decide) (by decide) (ok_lt (ok_mk (MOu_r (fl2_tr F7 (fl2_tr RFm_I RFm_I)) rc.symm ⟨⟨p7, RsM_d (RsM_d R7)⟩, by rw [rd_I0 (by omega), rd_I0 (by omega)]; exact w7, ?_⟩))))))
      refine tM_u (tM_u tm7 (by omega) (by rw [tpI_n (tpN_l (by omega) (by omega) (by omega)), nI_1])) (by omega) ?_
      rw [tpI_n (by decide), rd_I0 (by omega), tM_n tm7 (by decide) (by decide), upn_o (by omega), upn_o (by omega), c5, nI_1]
/-- a rule's row in the making, in the reference -/
def RWm (n : Nat) (g : Nat → Nat) (t : Nat) (P F : Nat → Nat) (m : zM) : Prop := MSt n g t P m ∧ ∀ j, j < 8 → m.1 22 (56 + 8 * P 8 + j) = fI F j
theorem fldM {n t k v : Nat} {g P F : Nat → Nat} {x : Int32} {m0 m : zM} {α : Type} {f : zM → Option α} {K : α → Prop} (h8 : P 8 < 16) (h : RWm n g t P F m) (f0 : RFm m0 m) (hk : k < 8) (hx : x = fI (upn F k v) k) (c : ∀ m', RFm m0 m' → RWm n g t P (upn F k v) m' → ok (f m') K) : ok ((f_MO_ruleField (nI k) x m).bind f) K := by
  obtain ⟨⟨⟨p, R⟩, h5, tm⟩, hr⟩ := h
  have e : f_MO_ruleField (nI k) x m = some (sI m 22 (56 + 8 * P 8 + k) x) := by
    refine ok_eq.mp ?_
    unfold f_MO_ruleField
    refine ok_ip h5 (ok_ix (i := 8) rfl (by decide) (by decide) ?_)
    rw [tM_n tm (by decide) (by decide)]
    exact ok_ix (i := 56 + 8 * P 8 + k) (by rw [show (8 : Int32) = nI 8 from rfl, pk_mul, show (56 : Int32) = nI 56 from rfl, nI_add, nI_add]) (by omega) (by decide) (ok_lt (ok_mk rfl))
  refine ok_eb e (c _ (fl2_tr f0 RFm_I) ⟨⟨⟨p, RsM_d R⟩, by rw [rd_I0 (by omega)]; exact h5, fun i hi => ?_⟩, fun j hj => ?_⟩)
  · rw [rd_I0 (by omega)]; exact tm i hi
  · by_cases z : j = k
    · rw [z, rd_I1]; exact hx
    · rw [rd_I0 (by omega), hr j hj]
      unfold fI
      rw [upn_o z]
theorem RWm_l {n t t' : Nat} {g P F : Nat → Nat} {m m' : zM} {G : List (Nat × Nat)} (h : RWm n g t P F m) (hS : MSt n g t' P m') (hf : fl2 [] G m m') (hg : kps [22] [] [] G = true) : RWm n g t' P F m' := ⟨hS, fun j hj => by rw [show m'.1 22 = m.1 22 from fl2_ic hf (kps_c hg (by simp))]; exact h.2 j hj⟩
theorem tM_rw {n t : Nat} {g P F F' : Nat → Nat} {m : zM} (h8 : P 8 < 16) (h : RWm n g t P F m) (hF : ∀ k, k < 8 → F k = F' k) : MSt n g t (rwA P F') (sI m 22 8 (nI (P 8 + 1))) := by
  obtain ⟨⟨⟨p, R⟩, h5, tm⟩, hr⟩ := h
  refine ⟨⟨p, RsM_d R⟩, by rw [rd_I0 (by omega)]; exact h5, fun i hi => ?_⟩
  rw [show rwA P F' 8 = P 8 + 1 from if_pos rfl] at hi
  by_cases z : i = 8
  · rw [z, rd_I1]
    unfold tpI
    rw [show tpN 8 = false from rfl, show rwA P F' 8 = P 8 + 1 from if_pos rfl]
    rfl
  · rw [rd_I0 (fun y => z y.2)]
    rcases Nat.lt_or_ge i (56 + 8 * P 8) with y | y
    · rw [tm i y]
      unfold tpI
      rw [rwA_o z y]
    · have ej := hr (i - (56 + 8 * P 8)) (by omega)
      rw [show 56 + 8 * P 8 + (i - (56 + 8 * P 8)) = i by omega] at ej
      rw [ej]
      have ev : rwA P F' i = F (i - (56 + 8 * P 8)) := by
        unfold rwA
        rw [if_neg z, if_pos (by omega), hF _ (by omega)]
      have et : tpN i = (decide (i - (56 + 8 * P 8) = 2) || decide (i - (56 + 8 * P 8) = 4) || decide (i - (56 + 8 * P 8) = 5) || decide (i - (56 + 8 * P 8) = 6)) := by
        unfold tpN
        rw [decide_eq_false (show ¬ i = 6 by omega), decide_eq_false (show ¬ i = 7 by omega), decide_eq_true (show 56 ≤ i by omega), show (i - 56) % 8 = i - (56 + 8 * P 8) by omega]
        rfl
      unfold tpI fI
      rw [ev, et]
      generalize i - (56 + 8 * P 8) = j at *
      by_cases q : j = 2 ∨ j = 4 ∨ j = 5 ∨ j = 6
      · rw [if_pos q, if_pos]
        rcases q with q | q | q | q <;> subst q <;> rfl
      · rw [if_neg q, if_neg]
        intro w
        simp only [Bool.or_eq_true, decide_eq_true_iff] at w
        omega
theorem ndW {n t k : Nat} {g P F : Nat → Nat} {m0 m : zM} {α : Type} {f : Int32 × zM → Option α} {K : α → Prop} (hd : dV P) (hS : RWm n g t P F m) (f0 : RFm m0 m) (hk : k < 3) (hy : ∀ j m', knR n g P k t = .inr j → j < P k → RFm m0 m' → RWm n g (t + 1) P F m' → ok (f (nI j, m')) K) (hn : ∀ c q x m', knR n g P k t = .inl (c, q) → RFm m0 m' → FlM c q m' → ok (f (x, m')) K) : ok ((f_MO_named (nI k) m).bind f) K :=
  ndS (P := P) (Q := P) hd.1 (fun _ _ => rfl) hS.1 f0 hk (fun j m' a b c d e => hy j m' a b c (RWm_l hS e d (by decide))) hn
theorem tkW {n t w : Nat} {g P F : Nat → Nat} {m0 m : zM} {α : Type} {f : Bool × zM → Option α} {K : α → Prop} (hS : RWm n g t P F m) (f0 : RFm m0 m) (hw : w < 19) (hy : ∀ m', iWw n g t w → RFm m0 m' → RWm n g (t + 1) P F m' → ok (f (true, m')) K) (hn : ∀ m', ¬ iWw n g t w → RFm m0 m' → RWm n g t P F m' → ok (f (false, m')) K) : ok ((f_MO_takes (3 + w) m).bind f) K :=
  tkS hS.1 f0 hw (fun m' a b c d => hy m' a b (RWm_l hS d c (by decide))) (fun m' a b c d _ => hn m' a b (RWm_l hS d c (by decide)))
theorem asW {n t w : Nat} {g P F : Nat → Nat} {m0 m : zM} {α : Type} {f : zM → Option α} {K : α → Prop} (hS : RWm n g t P F m) (f0 : RFm m0 m) (hw : w < 19) (hy : ∀ m', iWw n g t w → RFm m0 m' → RWm n g (t + 1) P F m' → ok (f m') K) (hn : ∀ m', ¬ iWw n g t w → RFm m0 m' → FlM 1 (tst n g t) m' → ok (f m') K) : ok ((f_MO_asks (3 + w) m).bind f) K :=
  asS hS.1 f0 hw (fun m' a b c d => hy m' a b (RWm_l hS d c (by decide))) hn
/-- behind a fault the rest of a rule does nothing -/
theorem on104f {n c q : Nat} {g : Nat → Nat} {R : PRs} {m0 m : zM} (h : FlM c q m) (f0 : RFm m0 m) (e : R = .inl (c, q)) : ok (f_MO_onTold_J104 m) (MOu n g R m0) := by
  unfold f_MO_onTold_J104
  refine ok_ix (i := 8) rfl (by decide) (by decide) (ok_ix (i := 8) rfl (by decide) (by decide) (ok_lt (ok_mk (MOu_i (fl2_tr f0 RFm_I) e ⟨?_, ?_, h.2.2.1, h.2.2.2⟩))))
  · rw [rd_I0 (by omega)]; exact h.1
  · rw [rd_I0 (by omega)]; exact h.2.1
theorem on65f {n c q : Nat} {g : Nat → Nat} {R : PRs} {m0 m : zM} (h : FlM c q m) (f0 : RFm m0 m) (e : R = .inl (c, q)) : ok (f_MO_onTold_J65 m) (MOu n g R m0) := by
  have n5 := FlM_n h
  unfold f_MO_onTold_J65
  rw [asksN n5]
  refine ok_eb rfl ?_
  rw [namedN n5]
  refine ok_eb rfl ?_
  rw [fieldN n5]
  refine ok_eb rfl ?_
  rw [takesN n5]
  exact ok_eb rfl (ok_in Bool.false_ne_true (on104f h f0 e))
theorem at180f {n c q : Nat} {g : Nat → Nat} {R : PRs} {m0 m : zM} (h : FlM c q m) (f0 : RFm m0 m) (e : R = .inl (c, q)) : ok (f_MO_atTold_J180 m) (MOu n g R m0) := by
  unfold f_MO_atTold_J180
  refine ok_ix (i := 8) rfl (by decide) (by decide) (ok_ix (i := 8) rfl (by decide) (by decide) (ok_lt (ok_mk (MOu_i (fl2_tr f0 RFm_I) e ⟨?_, ?_, h.2.2.1, h.2.2.2⟩))))
  · rw [rd_I0 (by omega)]; exact h.1
  · rw [rd_I0 (by omega)]; exact h.2.1
theorem at126f {n c q : Nat} {g : Nat → Nat} {R : PRs} {m0 m : zM} (h : FlM c q m) (f0 : RFm m0 m) (e : R = .inl (c, q)) : ok (f_MO_atTold_J126 m) (MOu n g R m0) := by
  have n5 := FlM_n h
  unfold f_MO_atTold_J126
  rw [takesN n5]
  refine ok_eb rfl (ok_in Bool.false_ne_true ?_)
  show ok ((f_MO_takes 21 m).bind _) _
  rw [takesN n5]
  exact ok_eb rfl (ok_in Bool.false_ne_true (at180f h f0 e))
theorem at105f {n c q : Nat} {g : Nat → Nat} {R : PRs} {m0 m : zM} (h : FlM c q m) (f0 : RFm m0 m) (e : R = .inl (c, q)) : ok (f_MO_atTold_J105 m) (MOu n g R m0) := by
  have n5 := FlM_n h
  unfold f_MO_atTold_J105
  rw [takesN n5]
  exact ok_eb rfl (ok_in Bool.false_ne_true (at126f h f0 e))
