/-- the way back from the world u, by what the search has noted -/
def ubk (pa : Nat → Nat) (u : Nat) : Nat → Nat
  | 0 => u
  | j + 1 => pa (ubk pa u j) - 1
theorem ubk_sp {P : Nat → Nat} {N u : Nat} {ow fk dp pa st : Nat → Nat} (h : SIv P N N 0 ow fk dp pa st) (hu : u < N) : ∀ j, j ≤ dp u → ubk pa u j < N ∧ dp (ubk pa u j) = dp u - j ∧ (0 < dp u - j → 0 < ubk pa u j) := by
  obtain ⟨b, w1, w2, w3, w4, w5, w6⟩ := h
  have z0 : ∀ v, v < N → 0 < dp v → 0 < v := fun v hv hd => by
    rcases Nat.eq_zero_or_pos v with y | y
    · rw [y, b.1.2.2] at hd; omega
    · exact y
  intro j
  induction j with
  | zero => intro _; exact ⟨hu, rfl, fun hd => z0 u hu hd⟩
  | succ j ih =>
    intro hj
    obtain ⟨a1, a2, a3⟩ := ih (by omega)
    have p0 := a3 (by omega)
    obtain ⟨c1, c2, c3, c4, c5⟩ := w3 _ p0 a1
    have e : ubk pa u (j + 1) = pa (ubk pa u j) - 1 := rfl
    have lt : ubk pa u (j + 1) < N := by rw [e]; omega
    have de : dp (ubk pa u (j + 1)) = dp u - (j + 1) := by rw [e]; omega
    exact ⟨lt, de, fun hd => z0 _ lt (by rw [de]; exact hd)⟩
theorem ubk_st {P : Nat → Nat} {N u j : Nat} {ow fk dp pa st : Nat → Nat} (h : SIv P N N 0 ow fk dp pa st) (hu : u < N) (hj : j < dp u) : st (ubk pa u j) < 64 ∧ sP P (ow (ubk pa u (j + 1))) (st (ubk pa u j)) = some (ow (ubk pa u j)) := by
  obtain ⟨a1, a2, a3⟩ := ubk_sp h hu j (by omega)
  obtain ⟨c1, c2, c3, c4, c5⟩ := h.2.2.2.1 _ (a3 (by omega)) a1
  exact ⟨c3, c4⟩
/-- an edge of the search's list: the depth goes up by one at most -/
theorem ed_dp {P : Nat → Nat} {N u v : Nat} {ow fk dp pa st : Nat → Nat} (hP : tV P) (h : SIv P N N 0 ow fk dp pa st) (hu : u < N) (hv : v < N) (e : Ed P 16 (fk u) (fk v)) : dp v ≤ dp u + 1 ∧ pa v ≤ u + 1 := by
  obtain ⟨b, w1, w2, w3, w4, w5, w6⟩ := h
  constructor
  · obtain ⟨k, k1, k2, k3⟩ := b.2.2.2.2.2.1 u hu hu _ e
    rw [← b.2.2.1 k v k1 hv k2]; exact k3
  · rw [(w2 u hu).2] at e
    obtain ⟨c, c1, c2, c3⟩ := (Ed_fo hP (w2 u hu).1).mp e
    cases ey : sP P (ow u) c with
    | none => rw [ey] at c3; cases c3
    | some y =>
      rw [ey] at c3
      have c3 : fo (P 3) y = fk v := Option.some.inj c3
      obtain ⟨k, k1, k2, k3⟩ := w5 u c hu c1 (Or.inl hu) y ey
      rw [← b.2.2.1 k v k1 hv (k2.trans c3)]
      omega
/-- of those from which t is as near, the one on the noted way was found first -/
theorem ubk_le {P : Nat → Nat} {N u : Nat} {ow fk dp pa st : Nat → Nat} (hP : tV P) (h : SIv P N N 0 ow fk dp pa st) (hu : u < N) : ∀ m z, z < N → m ≤ dp u → dp z = dp u - m → Rn (Ed P 16) (fk z) m (fk u) → ubk pa u m ≤ z := by
  have h' := h
  obtain ⟨b, w1, w2, w3, w4, w5, w6⟩ := h
  have B := Bf_end b (Nat.le_refl _)
  intro m
  induction m with
  | zero =>
    intro z hz _ _ hr
    have hr : fk u = fk z := hr
    rw [show ubk pa u 0 = u from rfl, b.2.2.1 u z hu hz hr]
    exact Nat.le_refl _
  | succ m ih =>
    intro z hz hm hd hr
    obtain ⟨y, y1, y2⟩ := Rn_un hr
    have ry : Rn (Ed P 16) (wx0 P) (dp z + 1) y := ⟨fk z, b.2.1 z hz, y1⟩
    obtain ⟨v, v1, v2⟩ := B.2 _ _ ry
    rw [← v2] at y1 y2
    obtain ⟨e1, e2⟩ := ed_dp hP h' hz v1 y1
    have far : dp u ≤ dp v + m := by
      have cat : ∀ m x, Rn (Ed P 16) (fk v) m x → Rn (Ed P 16) (wx0 P) (dp v + m) x := by
        intro m
        induction m with
        | zero => intro x hx; have hx : x = fk v := hx; rw [hx]; exact b.2.1 v v1
        | succ m ih =>
          rintro x ⟨y, h1, h2⟩
          exact ⟨y, ih y h1, h2⟩
      have := cat m _ y2
      rcases Nat.lt_or_ge (dp v + m) (dp u) with q | q
      · exact absurd this ((B.1 u hu).2 _ q)
      · exact q
    have dv : dp v = dp u - m := by omega
    have le := ih v v1 (by omega) dv y2
    obtain ⟨a1, a2, a3⟩ := ubk_sp h' hu m (by omega)
    have p0 := a3 (by omega)
    have pm : pa (ubk pa u m) ≤ pa v := by
      rcases Nat.eq_or_lt_of_le le with q | q
      · rw [q]; exact Nat.le_refl _
      · have := w4 _ _ p0 q v1; omega
    show pa (ubk pa u m) - 1 ≤ z
    omega
/-- the next move of the noted way is the least of those that lead nearer -/
theorem ubk_mi {P : Nat → Nat} {N u j c y : Nat} {ow fk dp pa st : Nat → Nat} (hP : tV P) (h : SIv P N N 0 ow fk dp pa st) (hu : u < N) (hj : j < dp u) (hc : c < st (ubk pa u j)) (e : sP P (ow (ubk pa u (j + 1))) c = some y) : ¬ Rn (Ed P 16) (fo (P 3) y) j (fk u) := by
  intro hr
  have h' := h
  obtain ⟨b, w1, w2, w3, w4, w5, w6⟩ := h
  have B := Bf_end b (Nat.le_refl _)
  obtain ⟨a1, a2, a3⟩ := ubk_sp h' hu j (by omega)
  obtain ⟨b1, b2, b3⟩ := ubk_sp h' hu (j + 1) (by omega)
  have p0 := a3 (by omega)
  obtain ⟨c1, c2, c3, c4, c5⟩ := w3 _ p0 a1
  have ee : ubk pa u (j + 1) = pa (ubk pa u j) - 1 := rfl
  obtain ⟨z, z1, z2, z3⟩ := w5 (ubk pa u (j + 1)) c b1 (by omega) (Or.inl b1) y e
  rw [← z2] at hr
  have ed : Ed P 16 (fk (ubk pa u (j + 1))) (fk z) := by
    rw [(w2 _ b1).2, z2]
    exact (Ed_fo hP (w2 _ b1).1).mpr ⟨c, by omega, by omega, by rw [e]; rfl⟩
  obtain ⟨e1, e2⟩ := ed_dp hP h' b1 z1 ed
  have far : dp u ≤ dp z + j := by
    have cat : ∀ m x, Rn (Ed P 16) (fk z) m x → Rn (Ed P 16) (wx0 P) (dp z + m) x := by
      intro m
      induction m with
      | zero => intro x hx; have hx : x = fk z := hx; rw [hx]; exact b.2.1 z z1
      | succ m ih =>
        rintro x ⟨y, h1, h2⟩
        exact ⟨y, ih y h1, h2⟩
    have := cat j _ hr
    rcases Nat.lt_or_ge (dp z + j) (dp u) with q | q
    · exact absurd this ((B.1 u hu).2 _ q)
    · exact q
  have le := ubk_le hP h' hu j z z1 (by omega) (by omega) hr
  rcases Nat.eq_or_lt_of_le le with q | q
  · rw [q] at hc c1 c2 ee
    rcases z3 with s | ⟨s1, s2⟩
    · omega
    · omega
  · have := w4 _ _ p0 q z1
    omega
theorem stepToX {P : Nat → Nat} {N t back : Nat} {W D pr sp ow fk dp pa st sg : Nat → Nat} {m : zM} (hA : AXm P N W D pr sp m) (hN : N ≤ 600) (hI : SIv P N N 0 ow fk dp pa st) (hS : iSo dp fk N sg) (hW : ∀ i, i < N → W i = fk (sg i) ∧ D i = dp (sg i) ∧ sp i = st (sg i) ∧ (pr i = 0 ↔ pa (sg i) = 0) ∧ (0 < pr i → pr i - 1 < N ∧ sg (pr i - 1) = pa (sg i) - 1)) (ht : t < N) (hb : back < D t) : f_Atlas_stepTo (nI t) (nI back) m = some (nI (st (ubk pa (sg t) back))) := by
  have dt := (hW t ht).2.1
  have st' := hS.1 t ht
  refine ok_eq.mp ?_
  unfold f_Atlas_stepTo f_Atlas_stepTo_L5
  refine ok_for back (fun j (s : Int32 × Int32) => s.2 = nI j ∧ ∃ n, n < N ∧ s.1 = nI n ∧ sg n = ubk pa (sg t) j) ⟨rfl, t, ht, rfl, rfl⟩ (Nat.zero_le _) ?_ (by have := Rn_lt hI.1 (Nat.le_refl _) (sg t) st'; omega)
  rintro j ⟨x, y⟩ - hj ⟨e1, n, n1, e2, e3⟩
  have e1 : y = nI j := e1
  have e2 : x = nI n := e2
  subst e1
  subst e2
  have dl := Rn_lt hI.1 (Nat.le_refl _) (sg t) st'
  unfold f_Atlas_stepTo_B5 f_Atlas_stepTo_J34
  refine ok_le back j (fun q => ok_zl (ok_ix rfl (show n < 600 by omega) (by decide) (ok_mk ?_))) (fun q => ?_)
  · show m.1 31 n = _
    rw [(hA.1.2.1 n n1).2.2.2, (hW n n1).2.2.1, e3, show j = back by omega]
  · obtain ⟨a1, a2, a3⟩ := ubk_sp hI st' j (by omega)
    have p0 := a3 (by omega)
    obtain ⟨c1, c2, c3, c4, c5⟩ := hI.2.2.2.1 _ p0 a1
    have pr0 : 0 < pr n := Nat.pos_of_ne_zero (fun z => by have := (hW n n1).2.2.2.1.mp z; rw [e3] at this; omega)
    obtain ⟨d1, d2⟩ := (hW n n1).2.2.2.2 pr0
    have e30 := (hA.1.2.1 n n1).2.2.1
    refine ok_ix rfl (show n < 600 by omega) (by decide) ?_
    refine ok_mm (pr n) (fun z => by omega) (fun z => ?_) (hx := e30)
    refine ok_ix rfl (show n < 600 by omega) (by decide) (ok_mk ⟨q, nI_1 j, pr n - 1, d1, ?_, ?_⟩)
    · show m.1 30 n = _
      rw [e30]; exact nI_pr z
    · rw [d2, e3]; rfl
theorem foldedOfM {P : Nat → Nat} {N x : Nat} {W D : Nat → Nat} {m : zM} (hP : tV P) (ht : tM 23 P m) (hL : LMx P 16 N W D m) (hx : kv (P 3) x) : ok (f_MO_foldedOf (lN (km (P 3) x)) m) (fun p => fl2 [25, 26] [(0, 36), (0, 38)] m p.2 ∧ ((∃ k, k < N ∧ W k = fo (P 3) x ∧ p.1 = nI k) ∨ ((∀ k, k < N → W k ≠ fo (P 3) x) ∧ p.1 = -1))) := by
  obtain ⟨l1, l2, l3, l4, l5⟩ := id hL
  unfold f_MO_foldedOf
  refine ok_bi (opensK hx) (fun p1 ⟨o1, o2⟩ => ok_lt ?_)
  unfold f_MO_foldedOf_L15
  refine ok_for 4 (fun k (s : Int32 × zM) => s.1 = nI k ∧ fl2 [26] [(0, 38)] p1 s.2 ∧ s.2.1 0 38 = nI (dh (P 3) x) - 1 ∧ ∀ i, i < k → s.2.1 26 i = p1.1 25 i) ⟨rfl, fl2_I (inS_f (by simp)), by show (sI p1 0 38 _).1 0 38 = _; rw [rd_I1]; exact o2.1, fun i hi => absurd hi (Nat.not_lt_zero _)⟩ (Nat.zero_le _) ?_
  rintro k ⟨y, m1⟩ - hk ⟨e, f1, g1, g2⟩
  have e : y = nI k := e
  subst e
  have f1 : fl2 [26] [(0, 38)] p1 m1 := f1
  have g1 : m1.1 0 38 = nI (dh (P 3) x) - 1 := g1
  have g2 : ∀ i, i < k → m1.1 26 i = p1.1 25 i := g2
  unfold f_MO_foldedOf_B15
  refine ok_le 4 k (fun q => ok_zl ?_) (fun q => ?_)
  · unfold f_MO_foldedOf_J38
    have w1 : wT (P 3) (dh (P 3) x) (da (P 3) x) m1 := ⟨g1, fun i hi => by rw [g2 i (by omega)]; exact o2.2 i hi⟩
    have t1 : tM 23 P m1 := tM_fl (tM_fl ht o1 (by decide)) f1 (by decide)
    refine ok_bi (foldsK (tM_n t1 (by decide) (by decide)) w1 hx) (fun p6 ⟨h1, h2⟩ => ?_)
    have f6 : fl2 [25, 26] [(0, 36), (0, 38)] m p6 := fl2_tr (fl2_su o1 (by decide)) (fl2_tr (fl2_su f1 (by decide)) (fl2_su h1 (by decide)))
    have M6 := MXm_fl l4 f6 (by decide)
    refine ok_eb (shutK h2 (fo_kv hx)) (ok_bi (foundM (v := lN (km (P 3) (fo (P 3) x))) M6.2.2 (by omega)) (fun r hr => ok_mk ⟨f6, ?_⟩))
    rcases hr with ⟨i, hi, e1, e2⟩ | ⟨e2, e1⟩
    · rw [(M6.2.1 i hi).1] at e1
      exact Or.inl ⟨i, hi, (km_l (Rn_kv hP (l3.1 i hi).1).1 (fo_kv hx)).mp e1, e2⟩
    · exact Or.inr ⟨fun k hk z => e1 k hk (by rw [(M6.2.1 k hk).1, z]), e2⟩
  · refine ok_ix rfl q (by decide) (ok_ix rfl q (by decide) (ok_lt (ok_mk ⟨q, nI_1 k, fl2_tr f1 (fl2_I (inS_c (by simp))), ?_, fun i hi => ?_⟩)))
    · show (sI m1 26 k _).1 0 38 = _
      rw [rd_I0 (by omega)]; exact g1
    · show (sI m1 26 k _).1 26 i = _
      by_cases z : i = k
      · rw [z, rd_I1]; exact fl2_i f1 (by simp [inS])
      · rw [rd_I0 (by omega)]; exact g2 i (by omega)
def NFr (m0 m : zM) : Prop := fl2 [25, 26] [(0, 36), (0, 38)] m0 m
/-- the first move by which it is nearer -/
theorem nearerM {P : Nat → Nat} {N t x lf c0 y0 k0 : Nat} {W D fr : Nat → Nat} {m : zM} (hP : tV P) (ht : tM 23 P m) (hL : LMx P 16 N W D m) (hF : FrM P N W t fr m) (hx : kv (P 3) x) (hre : ∀ c y, sP P x c = some y → ∃ k, k < N ∧ W k = fo (P 3) y) (hl : 0 < lf) (hl2 : lf < 1000) (hc : c0 < 64) (he : sP P x c0 = some y0) (hk : k0 < N) (ek : W k0 = fo (P 3) y0) (ef : fr k0 = lf - 1) (hmin : ∀ c y k, c < c0 → sP P x c = some y → k < N → W k = fo (P 3) y → fr k ≠ lf - 1) : ok (f_MO_nearer (lN (km (P 3) x)) (nI lf) m) (fun p => NFr m p.2 ∧ p.1 = nI c0) := by
  obtain ⟨l1, l2, l3, l4, l5⟩ := id hL
  have n4 := hP.1.2.1
  have r16 := hP.1.2.2.2.2.2.2.2.2.2.2.1
  have lb2 : lf - 1 < 2 ^ 31 := by omega
  have cr : c0 / 4 < P 8 ∧ c0 % 4 < P 3 := by
    by_cases q : c0 / 4 < P 8 ∧ c0 % 4 < P 3
    · exact q
    · rw [sP_no q] at he; cases he
  unfold f_MO_nearer f_MO_nearer_L3
  refine ok_for (k0 := 0) (P 8) (fun r (s : Int32 × zM) => s.1 = nI r ∧ 4 * r ≤ c0 ∧ NFr m s.2) ⟨rfl, by omega, fl2_rf⟩ (Nat.zero_le _) ?_
  rintro r ⟨x', m1⟩ - hr ⟨e, hr0, f1⟩
  have e : x' = nI r := e
  subst e
  have f1 : NFr m m1 := f1
  have hr0 : 4 * r ≤ c0 := hr0
  unfold f_MO_nearer_B3
  refine ok_eb (rulM (tM_fl ht f1 (by decide))) ?_
  refine ok_le (P 8) r (fun q => by omega) (fun q => ?_)
  unfold f_MO_nearer_L15
  refine ok_for (k0 := 0) (P 3) (fun i (s : Int32 × zM) => s.1 = nI i ∧ 4 * r + i ≤ c0 ∧ NFr m s.2) ⟨rfl, by omega, f1⟩ (Nat.zero_le _) ?_
  rintro i ⟨x', m2⟩ - hi ⟨e, hi0, f2⟩
  have e : x' = nI i := e
  subst e
  have f2 : NFr m m2 := f2
  have hi0 : 4 * r + i ≤ c0 := hi0
  have t2 := tM_fl ht f2 (by decide)
  unfold f_MO_nearer_B15 f_MO_nearer_J67
  refine ok_eb (agM (tM_n t2 (by decide) (by decide))) ?_
  refine ok_le (P 3) i (fun q1 => ok_zl (ok_mk ⟨q, nI_1 r, by omega, f2⟩)) (fun q1 => ?_)
  refine ok_bi (opensK hx) (fun p3 ⟨o1, o2⟩ => ?_)
  have f3 : NFr m p3 := fl2_tr f2 (fl2_su o1 (by decide))
  refine ok_bi (movedK hP (tM_fl ht f3 (by decide)) hx o2 q q1) (fun p4 ⟨h1, h2, h3⟩ => ?_)
  have f4 : NFr m p4.2 := fl2_tr f3 (fl2_su h1 (by decide))
  cases em : sP P x (4 * r + i) with
  | none =>
    rw [h3 em]
    refine ok_in (by decide) (ok_mk ⟨q1, nI_1 i, ?_, f4⟩)
    have : 4 * r + i ≠ c0 := fun z => by rw [z, he] at em; cases em
    omega
  | some y =>
    obtain ⟨y1, y2, y3⟩ := h2 y em
    rw [y1]
    refine ok_ip rfl (ok_eb (shutK y3 y2) ?_)
    refine ok_bi (foldedOfM hP (tM_fl ht f4 (by decide)) (LMx_fl hL f4 (by decide) (by decide)) y2) (fun p6 ⟨g1, g2⟩ => ?_)
    have f6 : NFr m p6.2 := fl2_tr f4 g1
    obtain ⟨k, k1, k2, k3⟩ : ∃ k, k < N ∧ W k = fo (P 3) y ∧ p6.1 = nI k := by
      rcases g2 with z | ⟨z, _⟩
      · exact z
      · obtain ⟨k, k1, k2⟩ := hre _ y em
        exact absurd k2 (z k k1)
    have fk := (hF.2.1.2 k k1).1
    refine ok_ix k3 (show k < 608 by omega) (by decide) ?_
    rw [show p6.2.1 50 k = nI (fr k) by rw [fl2_i f6 (by simp [inS])]; exact hF.1 k k1, nI_pr hl]
    unfold f_MO_nearer_J59
    clear g2
    have lb1 : fr k < 2 ^ 31 := by omega
    refine ok_ee (fr k) (lf - 1) (fun z => ok_zl (ok_zl (ok_mk ⟨f6, ?_⟩))) (fun z => ok_mk ⟨q1, nI_1 i, ?_, f6⟩) (ha := lb1) (hb := lb2)
    · show (4 : Int32) * nI r + nI i = _
      rw [show (4 : Int32) = nI 4 from rfl, pk_mul, nI_add]
      rcases Nat.lt_or_ge (4 * r + i) c0 with s | s
      · exact absurd z (hmin _ y k s em k1 k2)
      · rw [show 4 * r + i = c0 by omega]
    · have : 4 * r + i ≠ c0 := fun s => by
        rw [s, he] at em
        cases em
        have := Lst_in l3 k1 hk (k2.trans ek.symm)
        rw [this] at z
        exact z ef
      omega
