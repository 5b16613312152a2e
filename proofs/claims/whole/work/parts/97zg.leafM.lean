theorem knowM {P : Nat → Nat} {k u : Nat} {m : zM} (hV : nmV P) (ht : tM 22 P m) (hk : k < 3) (hu : u < 387420489) : f_MO_known (nI k) (nI u) m = some (if fi (fun j => decide (P (10 + 6 * k + j) = u)) (P k) < P k then nI (fi (fun j => decide (P (10 + 6 * k + j) = u)) (P k)) else -1) := by
  have p6 := (hV k hk).1
  refine ok_eq.mp ?_
  unfold f_MO_known f_MO_known_L2
  refine ok_for (P k) (fun j (s : Int32) => s = nI j ∧ ∀ i, i < j → decide (P (10 + 6 * k + i) = u) = false) (k0 := 0) ⟨rfl, fun i hi => absurd hi (Nat.not_lt_zero _)⟩ (Nat.zero_le _) ?_
  rintro j s - hj ⟨e, h⟩
  subst e
  unfold f_MO_known_B2 f_MO_nameAt
  refine ok_ix (i := k) (by rw [show (0 : Int32) = nI 0 from rfl, nI_add, Nat.zero_add]) (by omega) (by decide) (ok_le (P k) j (fun q => ok_mk ?_) (fun q => ?_) (hx := tM_n ht (by omega) (by rcases (show k = 0 ∨ k = 1 ∨ k = 2 by omega) with z | z | z <;> subst z <;> decide)))
  · have := fi_no (p := fun i => decide (P (10 + 6 * k + i) = u)) (n := P k) (fun i hi => h i (by omega))
    rw [if_neg (by omega)]
    rfl
  · refine ok_ix (i := 10 + 6 * k + j) (by rw [show (6 : Int32) = nI 6 from rfl, pk_mul, show (10 : Int32) = nI 10 from rfl, nI_add, nI_add]) (by omega) (by decide) ?_
    have en : m.1 22 (10 + 6 * k + j) = nI (P (10 + 6 * k + j)) := tM_n ht (by omega) (by rcases (show k = 0 ∨ k = 1 ∨ k = 2 by omega) with z | z | z <;> rcases (show j = 0 ∨ j = 1 ∨ j = 2 ∨ j = 3 ∨ j = 4 ∨ j = 5 by omega) with y | y | y | y | y | y <;> subst z <;> subst y <;> decide)
    rw [en]
    have l1 := ((hV k hk).2 j q).1
    refine ok_ee (P (10 + 6 * k + j)) u (fun z => ok_mk ?_) (fun z => ok_mk ⟨q, nI_1 j, fun i hi => ?_⟩)
    · have := fi_eq (p := fun i => decide (P (10 + 6 * k + i) = u)) q (decide_eq_true z) h
      rw [this, if_pos q]
      rfl
    · rcases Nat.lt_or_ge i j with y | y
      · exact h i y
      · rw [show i = j by omega]; exact decide_eq_false z
theorem nameN {m : zM} (h : ¬ m.1 0 5 = 0) : f_MO_name m = some (0, m) := by unfold f_MO_name; rw [if_neg h]
theorem namedN {x : Int32} {m : zM} (h : ¬ m.1 0 5 = 0) : f_MO_named x m = some (0, m) := by
  unfold f_MO_named
  rw [nameN h, Option.bind_some, if_neg h]
  unfold f_MO_named_J22
  rw [if_neg h]
theorem takesN {x : Nat} {m : zM} (h : ¬ m.1 0 5 = 0) : f_MO_takes x m = some (false, m) := by
  unfold f_MO_takes f_MO_isHere
  rw [if_neg h]
  rfl
theorem asksN {x : Nat} {m : zM} (h : ¬ m.1 0 5 = 0) : f_MO_asks x m = some m := by unfold f_MO_asks; rw [if_neg h]
theorem numbN {x y : Int32} {m : zM} (h : ¬ m.1 0 5 = 0) : f_MO_number x y m = some (x, m) := by unfold f_MO_number; rw [if_neg h]
theorem fieldN {x y : Int32} {m : zM} (h : ¬ m.1 0 5 = 0) : f_MO_ruleField x y m = some m := by unfold f_MO_ruleField; rw [if_neg h]
theorem asgnN {x : Int32} {m : zM} (h : ¬ m.1 0 5 = 0) : f_MO_asksSign x m = some m := by unfold f_MO_asksSign; rw [if_neg h]
theorem namedM {P : Nat → Nat} {n t p k : Nat} {g : Nat → Nat} {m : zM} (hV : nmV P) (ht : tM 22 P m) (h : RsM n g t p m) (h5 : m.1 0 5 = 0) (hk : k < 3) : ok (f_MO_named (nI k) m) (fun r => fl2 [] MrF m r.2 ∧ ((∃ j, knR n g P k t = .inr j ∧ j < P k ∧ r.1 = nI j ∧ r.2.1 0 5 = 0 ∧ ∃ p', RsM n g (t + 1) p' r.2) ∨ (∃ c q, knR n g P k t = .inl (c, q) ∧ FlM c q r.2))) := by
  have p6 := (hV k hk).1
  unfold f_MO_named f_MO_named_J22
  refine ok_bi (nameM h h5) (fun r ⟨f1, hr⟩ => ?_)
  rcases hr with ⟨u, r1, r2, r3, r4, r5, p', R⟩ | ⟨c, q, r1, r2⟩
  · have kx : knR n g P k t = if fi (fun j => decide (P (10 + 6 * k + j) = u)) (P k) < P k then .inr (fi (fun j => decide (P (10 + 6 * k + j) = u)) (P k)) else .inl (3, tst n g t) := by unfold knR; rw [r1]
    refine ok_ip r4 ?_
    rw [r3]
    refine ok_eb (knowM hV (tM_fl ht f1 (by decide)) hk r2.1) (ok_ip r4 ?_)
    generalize fi (fun j => decide (P (10 + 6 * k + j) = u)) (P k) = j at *
    by_cases z : j < P k
    · rw [if_pos z] at kx ⊢
      exact ok_in (nI_ne_m1 (by omega)) (ok_mk ⟨f1, Or.inl ⟨j, kx, z, rfl, r4, p', R⟩⟩)
    · rw [if_neg z] at kx ⊢
      obtain ⟨f2, l2⟩ := failM (c := 3) (x := 3) r4 rfl r5 (by decide) (by decide)
      exact ok_ip rfl (ok_lt (ok_mk ⟨fl2_tr f1 f2, Or.inr ⟨3, tst n g t, kx, l2⟩⟩))
  · refine ok_in (FlM_n r2) (ok_in (FlM_n r2) (ok_mk ⟨f1, Or.inr ⟨c, q, ?_, r2⟩⟩))
    unfold knR; rw [r1]
theorem tsgnM {n t p c : Nat} {g : Nat → Nat} {m : zM} (h : RsM n g t p m) (h5 : m.1 0 5 = 0) (hc : c < 128) (hl : ibL c = false) (hd : ibD c = false) : ok (f_MO_takesSign (nI c) m) (fun r => fl2 [] [(0, 2)] m r.2 ∧ ((iSg n g t c ∧ r.1 = true ∧ ∃ p', RsM n g (t + 1) p' r.2) ∨ (¬ iSg n g t c ∧ r.1 = false ∧ RsM n g t (tst n g t) r.2))) := by
  unfold f_MO_takesSign
  refine ok_ip h5 (ok_bi (lookM h) (fun r ⟨e1, f1, R1⟩ => ?_))
  obtain ⟨a1, a2, a3, a4, a5, a6, a7, a8⟩ := id R1
  rw [e1]
  have iff : byA n g (tst n g t) = nI c ↔ iSg n g t c := by
    unfold byA
    by_cases z : tst n g t < n
    · have := (a6 _ z).2
      rw [if_pos z, nI_eq (by omega) (by omega)]
      exact ⟨fun y => ⟨z, y⟩, fun y => y.2⟩
    · rw [if_neg z]
      exact ⟨fun y => absurd y.symm (nI_ne_m1 (by omega)), fun y => absurd y.1 z⟩
  refine ok_it (fun z => ?_) (fun z => ok_mk ⟨f1, Or.inr ⟨fun y => z (iff.mpr y), rfl, R1⟩⟩)
  have is := iff.mp z
  have nn : ¬ (ibL (g (tst n g t)) = true ∨ ibD (g (tst n g t)) = true) := by
    rw [is.2, hl, hd]
    rintro (y | y) <;> cases y
  have el : tln n g (tst n g t) = 1 := by unfold tln; rw [if_neg (fun y => nn (Or.inl y)), if_neg (fun y => nn (Or.inr y))]
  have f2 : fl2 [] [(0, 2)] r.2 (sI r.2 0 2 (r.2.1 0 2 + 1)) := fl2_I (inS_f (by simp))
  refine ok_lt (ok_mk ⟨fl2_tr f1 f2, Or.inl ⟨is, rfl, tst n g t + 1, ?_, by have := is.1; omega, ?_, ?_, ?_, ?_, WdN_f a7 f2 (by decide), a8⟩⟩)
  · rw [rd_I1, a1, nI_1]
  · rw [tst_s is.1, el]
  · rw [rd_I0 (by omega)]; exact a4
  · rw [rd_I0 (by omega), a5, show tle n g (t + 1) = tle n g t from if_neg nn]
  · rw [rd_Ic (by omega)]; exact a6
theorem asgnM {n t p c : Nat} {g : Nat → Nat} {m : zM} (h : RsM n g t p m) (h5 : m.1 0 5 = 0) (hc : c < 128) (hl : ibL c = false) (hd : ibD c = false) : ok (f_MO_asksSign (nI c) m) (fun r => fl2 [] MrF m r ∧ ((iSg n g t c ∧ r.1 0 5 = 0 ∧ ∃ p', RsM n g (t + 1) p' r) ∨ (¬ iSg n g t c ∧ FlM 1 (tst n g t) r))) := by
  unfold f_MO_asksSign
  refine ok_ip h5 (ok_bi (tsgnM h h5 hc hl hd) (fun r ⟨f1, hr⟩ => ?_))
  have e5 : r.2.1 0 5 = 0 := by rw [fl2_i f1 (by decide)]; exact h5
  rcases hr with ⟨z, e1, p', R1⟩ | ⟨z, e1, R1⟩
  · exact ok_ip e1 (ok_mk ⟨fl2_su f1 (by decide), Or.inl ⟨z, e5, p', R1⟩⟩)
  · obtain ⟨f2, l2⟩ := failM (c := 1) (x := 1) e5 rfl R1.1 (by decide) (by decide)
    exact ok_in (by rw [e1]; decide) (ok_lt (ok_mk ⟨fl2_tr (fl2_su f1 (by decide)) f2, Or.inr ⟨z, l2⟩⟩))
/-- the words are not alike -/
theorem owL_d : ∀ w, w < 19 → ∀ v, v < 19 → owL w = owL v → w = v := by decide +kernel
theorem iWw_u {n t w v : Nat} {g : Nat → Nat} (hw : w < 19) (hv : v < 19) (h1 : iWw n g t w) (h2 : iWw n g t v) : w = v := by
  refine owL_d w hw v hv (List.ext_getElem? (fun j => ?_))
  have el : (owL w).length = (owL v).length := h1.2.1.symm.trans h2.2.1
  rcases Nat.lt_or_ge j (owL w).length with z | z
  · have a := h1.2.2 j z
    have b := h2.2.2 j (by omega)
    rw [List.getElem?_eq_getElem z, List.getElem?_eq_getElem (by omega : j < (owL v).length)]
    rw [List.getD_eq_getElem?_getD, List.getElem?_eq_getElem z] at a
    rw [List.getD_eq_getElem?_getD, List.getElem?_eq_getElem (by omega : j < (owL v).length)] at b
    exact congrArg some (a.symm.trans b)
  · rw [List.getElem?_eq_none z, List.getElem?_eq_none (by omega)]
/-- what is read: a fault and its place, or how far and the table -/
abbrev PRs := (Nat × Nat) ⊕ (Nat × (Nat → Nat))
def tkn (P : Nat → Nat) (u : Nat) : Prop := ∃ k, k < 3 ∧ ∃ j, j < P k ∧ P (10 + 6 * k + j) = u
noncomputable def nmsR (n : Nat) (g : Nat → Nat) (k : Nat) : Nat → Nat → (Nat → Nat) → PRs
  | 0, t, _ => .inl (if tst n g t < n then 5 else 1, tst n g t)
  | f + 1, t, P => match nmR n g t with
    | .inl e => .inl e
    | .inr u => if cBo (tkn P u) = true then .inl (3, tst n g t) else if cBo (iSg n g (t + 1) 44) = true then nmsR n g k f (t + 2) (upn (upn P (10 + 6 * k + P k) u) k (P k + 1)) else .inr (t + 1, upn (upn P (10 + 6 * k + P k) u) k (P k + 1))
noncomputable def nvR (n : Nat) (g : Nat → Nat) : Nat → Nat → (Nat → Nat) → Nat → PRs
  | 0, t, _, _ => .inl (if tst n g t < n then 5 else 1, tst n g t)
  | f + 1, t, P, c => match nuR n g t 1 4 with
    | .inl e => .inl e
    | .inr v => match knR n g P 0 (t + 1) with
      | .inl e => .inl e
      | .inr s => if iWb n g (t + 2) 8 = true then nvR n g f (t + 3) (upn (upn P (28 + 7 * P 5 + 1 + 2 * c) v) (28 + 7 * P 5 + 2 + 2 * c) s) (c + 1) else .inr (t + 2, upn (upn (upn (upn P (28 + 7 * P 5 + 1 + 2 * c) v) (28 + 7 * P 5 + 2 + 2 * c) s) (28 + 7 * P 5) (c + 1)) 5 (P 5 + 1))
noncomputable def mbR (n : Nat) (g P : Nat → Nat) (w k t : Nat) : (Nat × Nat) ⊕ (Nat × Nat) := if iWb n g t w = true then (match knR n g P k (t + 1) with | .inl e => .inl e | .inr j => .inr (t + 2, j + 1)) else .inr (t, 0)
/-- a table with one more rule -/
def rwA (P : Nat → Nat) (F : Nat → Nat) (i : Nat) : Nat := if i = 8 then P 8 + 1 else if 56 + 8 * P 8 ≤ i ∧ i < 64 + 8 * P 8 then F (i - (56 + 8 * P 8)) else P i
def rwF (a b c d e f s h : Nat) (k : Nat) : Nat := if k = 0 then a else if k = 1 then b else if k = 2 then c else if k = 3 then d else if k = 4 then e else if k = 5 then f else if k = 6 then s else h
noncomputable def agR (n : Nat) (g : Nat → Nat) (t : Nat) (P : Nat → Nat) : PRs :=
  match knR n g P 0 t with
  | .inl e => .inl e
  | .inr a => match mbR n g P 11 2 (t + 1) with
    | .inl e => .inl e
    | .inr (t2, w) => if iWb n g t2 12 = true then (match knR n g P 0 (t2 + 1) with
      | .inl e => .inl e
      | .inr d => match mbR n g P 13 2 (t2 + 2) with
        | .inl e => .inl e
        | .inr (t4, gv) => .inr (t4, rwA P (rwF 0 a w d gv 0 0 0))) else .inl (1, tst n g t2)
noncomputable def hmR (n : Nat) (g : Nat → Nat) (t : Nat) (P : Nat → Nat) : PRs :=
  match knR n g P 1 t with
  | .inl e => .inl e
  | .inr a => if iWb n g (t + 1) 11 = true then (match knR n g P 2 (t + 2) with
    | .inl e => .inl e
    | .inr w => if iWb n g (t + 3) 12 = true then (match knR n g P 1 (t + 4) with
      | .inl e => .inl e
      | .inr d => match mbR n g P 15 2 (t + 5) with
        | .inl e => .inl e
        | .inr (t2, gv) => match mbR n g P 16 2 t2 with
          | .inl e => .inl e
          | .inr (t3, tl) => match mbR n g P (if iWb n g t3 18 = true then 18 else 17) 0 t3 with
            | .inl e => .inl e
            | .inr (t4, ot) => .inr (t4, rwA P (rwF 1 a (w + 1) d gv tl ot (if iWb n g t3 18 = true then 1 else 0)))) else .inl (1, tst n g (t + 3))) else .inl (1, tst n g (t + 1))
noncomputable def opR (n : Nat) (g : Nat → Nat) (t : Nat) (P : Nat → Nat) : PRs :=
  if iWb n g t 0 = true then (match nuR n g (t + 1) 2 4 with
    | .inl e => .inl e
    | .inr v => if iWb n g (t + 2) 1 = true then nmsR n g 0 6 (t + 3) (upn P 3 v) else .inl (1, tst n g (t + 2))) else .inl (1, tst n g t)
noncomputable def wnR (n : Nat) (g : Nat → Nat) (t : Nat) (P : Nat → Nat) : PRs :=
  match knR n g P 0 t with
  | .inl e => .inl e
  | .inr a => match knR n g P 0 (t + 1) with
    | .inl e => .inl e
    | .inr c => .inr (t + 2, upn (upn P 6 (a + 1)) 7 (c + 1))
noncomputable def stmR (n : Nat) (g : Nat → Nat) (t : Nat) (P : Nat → Nat) : PRs :=
  if iWb n g t 2 = true then (if P 1 = 0 then nmsR n g 1 6 (t + 1) P else .inl (5, tst n g t))
  else if iWb n g t 3 = true then (if P 2 = 0 then nmsR n g 2 6 (t + 1) P else .inl (5, tst n g t))
  else if iWb n g t 4 = true then (if iWb n g (t + 1) 6 = true then .inr (t + 2, upn P 4 1) else if iWb n g (t + 1) 5 = true then .inr (t + 2, upn P 4 0) else .inl (1, tst n g (t + 1)))
  else if iWb n g t 7 = true then (if 4 ≤ P 5 then .inl (5, tst n g t) else nvR n g 3 (t + 1) P 0)
  else if iWb n g t 9 = true then (if P 6 = 0 then wnR n g (t + 1) P else .inl (5, tst n g t))
  else if iWb n g t 10 = true then (if 16 ≤ P 8 then .inl (5, tst n g t) else agR n g (t + 1) P)
  else if iWb n g t 14 = true then (if 16 ≤ P 8 then .inl (5, tst n g t) else hmR n g (t + 1) P)
  else .inl (1, tst n g t)
noncomputable def rdR (n : Nat) (g : Nat → Nat) : Nat → Nat → Nat → (Nat → Nat) → PRs
  | 0, _, t, _ => .inl (1, tst n g t)
  | f + 1, s, t, P => if tst n g t < n then (if s = 60 then .inl (5, tst n g t) else match (if s = 0 then opR n g t P else stmR n g t P) with
    | .inl e => .inl e
    | .inr (t', P') => if cBo (iSg n g t' 59) = true then rdR n g f (s + 1) (t' + 1) P' else .inl (1, tst n g t')) else (if s = 0 then .inl (1, tst n g t) else .inr (s, P))
/-- a table in the making -/
def ruV (P F : Nat → Nat) : Prop := fV F ∧ F 4 ≤ P 2 ∧ (F 0 = 0 → F 3 < P 0) ∧ (F 0 ≠ 0 → F 3 < P 1 ∧ F 5 ≤ P 2)
def dV (P : Nat → Nat) : Prop := nmV P ∧ (P 3 ≤ 4 ∧ P 4 ≤ 1 ∧ P 5 ≤ 4 ∧ P 6 ≤ 6 ∧ P 7 ≤ 6 ∧ P 8 ≤ 16 ∧ (P 6 = 0 ↔ P 7 = 0)) ∧ (∀ r, r < P 8 → ruV P (tF P r)) ∧ (∀ k, k < P 5 → P (28 + 7 * k) ≤ 3 ∧ ∀ c, c < P (28 + 7 * k) → P (28 + 7 * k + 1 + 2 * c) ≤ 4 ∧ P (28 + 7 * k + 2 + 2 * c) < 6) ∧ ∀ k j, k < 3 → j < 6 → P k ≤ j → P (10 + 6 * k + j) = 0
theorem dV_t {P : Nat → Nat} (h : dV P) (h3 : 2 ≤ P 3) (h0 : 0 < P 0) : tV P ∧ tGd P := by
  obtain ⟨a, ⟨b1, b2, b3, b4, b5, b6, b7⟩, c, d, e⟩ := h
  refine ⟨⟨⟨h3, b1, h0, (a 0 (by decide)).1, (a 1 (by decide)).1, (a 2 (by decide)).1, b2, b3, b4, b5, b6, b7⟩, fun r hr => (c r hr).1, d, fun k j hk hj => ⟨?_, e k j hk hj⟩⟩, fun r hr => (c r hr).2, fun k j hk hj => ((a k hk).2 j hj).2⟩
  rcases Nat.lt_or_ge j (P k) with z | z
  · exact ((a k hk).2 j z).1
  · rw [e k j hk hj z]; decide
