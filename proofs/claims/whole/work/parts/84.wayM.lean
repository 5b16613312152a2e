theorem Rn_WW {P : Nat → Nat} {N i d j : Nat} {W D : Nat → Nat} (hL : Lst (Ed P 16) (wx0 P) N W D) (hi : i < N) (hj : j < N) : Rn (Ed P 16) (W i) d (W j) ↔ Rn (EWo P N W) i d j := by
  have cl : ∀ d x, Rn (Ed P 16) (W i) d x → ∃ k, k < N ∧ W k = x := by
    intro d
    induction d with
    | zero => intro x hx; have hx : x = W i := hx; exact ⟨i, hi, hx.symm⟩
    | succ d ih =>
      rintro x ⟨y, h1, h2⟩
      obtain ⟨k, k1, k2⟩ := ih y h1
      rw [← k2] at h2
      exact hL.2.1 (D k + 1) x ⟨W k, (hL.1 k k1).1, h2⟩
  induction d generalizing j with
  | zero =>
    constructor
    · intro h
      have h : W j = W i := h
      exact Lst_in hL hj hi h
    · intro h
      have h : j = i := h
      rw [h]; rfl
  | succ d ih =>
    constructor
    · rintro ⟨y, h1, h2⟩
      obtain ⟨k, k1, k2⟩ := cl d y h1
      rw [← k2] at h1 h2
      exact ⟨k, (ih k1).mp h1, (Ed_W hL k1 hj).mp h2⟩
    · rintro ⟨k, h1, h2⟩
      exact ⟨W k, (ih h2.1).mpr h1, (Ed_W hL h2.1 hj).mpr h2⟩
theorem ubk_pa {P : Nat → Nat} {N u : Nat} {ow fk dp pa st : Nat → Nat} (hP : tV P) (h : SIv P N N 0 ow fk dp pa st) (hu : u < N) : ∀ j, j ≤ dp u → Rn (Ed P 16) (fk (ubk pa u j)) j (fk u) := by
  intro j
  induction j with
  | zero => intro _; rfl
  | succ j ih =>
    intro hj
    obtain ⟨b1, b2, _⟩ := ubk_sp h hu (j + 1) hj
    obtain ⟨a1, a2, _⟩ := ubk_sp h hu j (by omega)
    obtain ⟨s1, s2⟩ := ubk_st h hu (show j < dp u by omega)
    refine Rn_fr ?_ (ih (by omega))
    rw [(h.2.2.1 _ b1).2, (h.2.2.1 _ a1).2]
    exact (Ed_fo hP (h.2.2.1 _ b1).1).mpr ⟨_, s1, by omega, by rw [s2]; rfl⟩
/-- the reference goes along the noted way -/
theorem wayLM {P : Nat → Nat} {N t k : Nat} {W D fr ow fk dp pa st sg : Nat → Nat} {v3 : Int32} {m : zM} (hP : tV P) (ht : tM 23 P m) (hL : LMx P 16 N W D m) (hF : FrM P N W t fr m) (hI : SIv P N N 0 ow fk dp pa st) (hS : iSo dp fk N sg) (hW : ∀ i, i < N → W i = fk (sg i) ∧ D i = dp (sg i)) (htN : t < N) (hk : k < D t) : ok (f_MO_way_L79 (nI t) (nI k) v3 (lN (km (P 3) (wx0 P))) (-1) 0 m) (fun p => NFr m p.2 ∧ p.1 = if v3 = 0 then nI (st (ubk pa (sg t) (D t - 1 - k)) / 4) else nI (st (ubk pa (sg t) (D t - 1 - k)) % 4)) := by
  obtain ⟨l1, l2, l3, l4, l5⟩ := id hL
  have u := hS.1 t htN
  have dt := (hW t htN).2
  have dl := Rn_lt hI.1 (Nat.le_refl _) (sg t) u
  have B := Bf_end hI.1 (Nat.le_refl _)
  have srt' : ∀ v, v < N → ∃ i, i < N ∧ sg i = v ∧ W i = fk v ∧ D i = dp v := fun v hv => by
    obtain ⟨i, i1, i2⟩ := iSo_sur hS v hv
    exact ⟨i, i1, i2, by rw [(hW i i1).1, i2], by rw [(hW i i1).2, i2]⟩
  have u0 : ubk pa (sg t) (D t) = 0 := by
    obtain ⟨b1, b2, _⟩ := ubk_sp hI u (D t) (by omega)
    have r := hI.1.2.1 _ b1
    rw [b2, dt, Nat.sub_self] at r
    have r : fk (ubk pa (sg t) (dp (sg t))) = wx0 P := r
    rw [dt]
    exact hI.1.2.2.1 _ 0 (by rw [← dt]; exact b1) hI.1.1.1 (r.trans hI.1.1.2.1.symm)
  unfold f_MO_way_L79
  refine ok_for (k + 1) (fun i (s : Int64 × Int32 × Int32 × zM) => s.2.2.1 = nI i ∧ s.1 = lN (km (P 3) (ow (ubk pa (sg t) (D t - i)))) ∧ (0 < i → s.2.1 = nI (st (ubk pa (sg t) (D t - i)))) ∧ NFr m s.2.2.2) (k0 := 0) ⟨rfl, ?_, fun z => absurd z (Nat.lt_irrefl _), fl2_rf⟩ (Nat.zero_le _) ?_ (by omega)
  · show lN (km (P 3) (wx0 P)) = lN (km (P 3) (ow (ubk pa (sg t) (D t))))
    rw [u0, hI.2.1.1]
  rintro i ⟨v4, v6, v7, m1⟩ - hi ⟨e1, e2, e3, f1⟩
  have e1 : v7 = nI i := e1
  have e2 : v4 = lN (km (P 3) (ow (ubk pa (sg t) (D t - i)))) := e2
  have e3 : 0 < i → v6 = nI (st (ubk pa (sg t) (D t - i))) := e3
  subst e1
  subst e2
  have f1 : NFr m m1 := f1
  have t1 := tM_fl ht f1 (by decide)
  have L1 := LMx_fl hL f1 (by decide) (by decide)
  have F1 : FrM P N W t fr m1 := ⟨fun i hi => by rw [fl2_i f1 (by simp [inS])]; exact hF.1 i hi, hF.2⟩
  unfold f_MO_way_B79
  refine ok_ll k i (fun q => ok_zl ?_) (fun q => ?_)
  · unfold f_MO_way_J133
    have ei : D t - i = D t - 1 - k := by omega
    obtain ⟨s1, _⟩ := ubk_st hI u (show D t - 1 - k < dp (sg t) by omega)
    rw [e3 (by omega), ei]
    refine ok_it (fun z => ok_mk ⟨f1, ?_⟩) (fun z => ok_mk ⟨f1, ?_⟩)
    · rw [if_pos z]; exact pk_div (d := 4) (by omega) (by decide) (by decide)
    · rw [if_neg z]; exact pk_rem (d := 4) (by omega) (by decide) (by decide)
  · obtain ⟨j, ej⟩ : ∃ j, D t - i = j + 1 := ⟨D t - i - 1, by omega⟩
    have jd : j < dp (sg t) := by omega
    obtain ⟨a1, a2, _⟩ := ubk_sp hI u j (by omega)
    obtain ⟨b1, b2, _⟩ := ubk_sp hI u (j + 1) (by omega)
    obtain ⟨s1, s2⟩ := ubk_st hI u jd
    have kx := (hI.2.2.1 _ b1).1
    have ky := (hI.2.2.1 _ a1).1
    obtain ⟨k0, k1, k2, k3, k4⟩ := srt' _ a1
    have path := ubk_pa hP hI u j (by omega)
    have wt : W t = fk (sg t) := (hW t htN).1
    rw [← k3, ← wt, Rn_WW l3 k1 htN] at path
    have far : fr k0 = j := by
      have le := hF.2.2 k0 j k1 path
      have r := (hF.2.1.2 k0 k1).2 (by omega)
      rw [← Rn_WW l3 k1 htN] at r
      have cat : ∀ m x, Rn (Ed P 16) (W k0) m x → Rn (Ed P 16) (wx0 P) (D k0 + m) x := by
        intro m
        induction m with
        | zero => intro x hx; have hx : x = W k0 := hx; rw [hx]; exact (l3.1 k0 k1).1
        | succ m ih =>
          rintro x ⟨y, h1, h2⟩
          exact ⟨y, ih y h1, h2⟩
      have := cat _ _ r
      rcases Nat.lt_or_ge (D k0 + fr k0) (D t) with z | z
      · exact absurd this ((l3.1 t htN).2 _ z)
      · omega
    rw [ej]
    refine ok_ix rfl (show t < 608 by omega) (by decide) ?_
    rw [(L1.2.2.2.1.2.1 t htN).2, pk_sub (show i ≤ D t by omega), ej]
    have hre : ∀ c y, sP P (ow (ubk pa (sg t) (j + 1))) c = some y → ∃ k, k < N ∧ W k = fo (P 3) y := by
      intro c y hy
      have cr : c / 4 < P 8 := by
        by_cases z : c / 4 < P 8 ∧ c % 4 < P 3
        · exact z.1
        · rw [sP_no z] at hy; cases hy
      have r16 := hP.1.2.2.2.2.2.2.2.2.2.2.1
      have ed : Ed P 16 (fk (ubk pa (sg t) (j + 1))) (fo (P 3) y) := by
        rw [(hI.2.2.1 _ b1).2]
        exact (Ed_fo hP kx).mpr ⟨c, by omega, by omega, by rw [hy]; rfl⟩
      exact l3.2.1 (dp (ubk pa (sg t) (j + 1)) + 1) _ ⟨_, hI.1.2.1 _ b1, ed⟩
    refine ok_bi (nearerM (x := ow (ubk pa (sg t) (j + 1))) (lf := j + 1) (c0 := st (ubk pa (sg t) j)) (y0 := ow (ubk pa (sg t) j)) (k0 := k0) hP t1 L1 F1 kx hre (by omega) (by omega) s1 s2 k1 (by rw [k3]; exact (hI.2.2.1 _ a1).2) (by omega) (fun c y k hc hy hk' ek z => ?_)) (fun p7 ⟨g1, g2⟩ => ?_)
    · refine ubk_mi hP hI u jd hc hy ?_
      have z : fr k = j := by omega
      have r := (hF.2.1.2 k hk').2 (by omega)
      rw [z, ← Rn_WW l3 hk' htN, ek, wt] at r
      exact r
    · have f7 : NFr m p7.2 := fl2_tr f1 g1
      refine ok_bi (opensK kx) (fun p8 ⟨o1, o2⟩ => ?_)
      have f8 : NFr m p8 := fl2_tr f7 (fl2_su o1 (by decide))
      have cr : st (ubk pa (sg t) j) / 4 < P 8 ∧ st (ubk pa (sg t) j) % 4 < P 3 := by
        by_cases z : st (ubk pa (sg t) j) / 4 < P 8 ∧ st (ubk pa (sg t) j) % 4 < P 3
        · exact z
        · rw [sP_no z] at s2; cases s2
      rw [g2, show nI (st (ubk pa (sg t) j)) / 4 = nI (st (ubk pa (sg t) j) / 4) from pk_div (d := 4) (by omega) (by decide) (by decide), show ir (nI (st (ubk pa (sg t) j))) 4 = nI (st (ubk pa (sg t) j) % 4) from pk_rem (d := 4) (by omega) (by decide) (by decide)]
      refine ok_bi (movedK hP (tM_fl ht f8 (by decide)) kx o2 cr.1 cr.2) (fun p9 ⟨h1, h2, _⟩ => ?_)
      rw [show 4 * (st (ubk pa (sg t) j) / 4) + st (ubk pa (sg t) j) % 4 = st (ubk pa (sg t) j) by omega] at h2
      obtain ⟨_, y2, y3⟩ := h2 _ s2
      refine ok_eb (shutK y3 y2) (ok_mk ⟨by omega, nI_1 i, ?_, fun _ => ?_, fl2_tr f8 (fl2_su h1 (by decide))⟩)
      · show lN _ = lN _
        rw [show D t - (i + 1) = j by omega]
      · show nI _ = nI _
        rw [show D t - (i + 1) = j by omega]
