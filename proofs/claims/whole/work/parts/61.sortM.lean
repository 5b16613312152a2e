/-- by depth, then by key -/
def lsp (dp fk : Nat → Nat) (a b : Nat) : Prop := dp a < dp b ∨ (dp a = dp b ∧ fk a < fk b)
def iSo (dp fk : Nat → Nat) (k : Nat) (sg : Nat → Nat) : Prop := (∀ i, i < k → sg i < k) ∧ ∀ i j, i < j → j < k → lsp dp fk (sg i) (sg j)
def insg (sg : Nat → Nat) (j k i : Nat) : Nat := if i < j then sg i else if i = j then k else sg (i - 1)
theorem iSo_ins {dp fk sg : Nat → Nat} {j k : Nat} (h : iSo dp fk k sg) (hj : j ≤ k) (h1 : 0 < j → lsp dp fk (sg (j - 1)) k) (h2 : ∀ i, j ≤ i → i < k → lsp dp fk k (sg i)) : iSo dp fk (k + 1) (insg sg j k) := by
  have lo : ∀ i, i < j → lsp dp fk (sg i) k := by
    intro i hi
    have a := h1 (by omega)
    by_cases e : i = j - 1
    · rw [e]; exact a
    · have b := h.2 i (j - 1) (by omega) (by omega)
      unfold lsp at a b ⊢
      omega
  refine ⟨fun i hi => ?_, fun i i' hi hi' => ?_⟩
  · unfold insg
    split
    · have := h.1 i (by omega); omega
    · split
      · omega
      · have := h.1 (i - 1) (by omega); omega
  · unfold insg
    by_cases a : i' < j
    · rw [if_pos a, if_pos (show i < j by omega)]
      exact h.2 i i' hi (by omega)
    · rw [if_neg a]
      by_cases b : i' = j
      · rw [if_pos b, if_pos (show i < j by omega)]
        exact lo i (by omega)
      · rw [if_neg b]
        by_cases c : i < j
        · rw [if_pos c]
          have u := lo i c
          have v := h2 (i' - 1) (by omega) (by omega)
          unfold lsp at u v ⊢
          omega
        · rw [if_neg c]
          by_cases d : i = j
          · rw [if_pos d]; exact h2 (i' - 1) (by omega) (by omega)
          · rw [if_neg d]; exact h.2 (i - 1) (i' - 1) (by omega) (by omega)
theorem iSo_inj {dp fk sg : Nat → Nat} {k : Nat} (h : iSo dp fk k sg) : ∀ i j, i < k → j < k → sg i = sg j → i = j := by
  intro i j hi hj e
  rcases Nat.lt_trichotomy i j with u | u | u
  · have := h.2 i j u hj
    rw [e] at this
    unfold lsp at this
    omega
  · exact u
  · have := h.2 j i u hi
    rw [e] at this
    unfold lsp at this
    omega
theorem sur_in {n : Nat} {f : Nat → Nat} (hl : ∀ i, i < n → f i < n) (hi : ∀ i j, i < n → j < n → f i = f j → i = j) : ∀ k, k < n → ∃ i, i < n ∧ f i = k := by
  intro k hk
  by_cases q : ∃ i, i < n ∧ f i = k
  · exact q
  · have a := cn_inj (q := fun _ => true) (p := fun j => true && decide (j ≠ k)) (n := n) (m := n) f (fun i h _ => ⟨hl i h, by simp; exact fun z => q ⟨i, h, z⟩⟩) (fun i j h1 h2 _ _ => hi i j h1 h2)
    have b := cn_rm (p := fun _ => true) hk rfl
    rw [cn_all] at a b
    omega
theorem iSo_sur {dp fk sg : Nat → Nat} {k : Nat} (h : iSo dp fk k sg) : ∀ t, t < k → ∃ i, i < k ∧ sg i = t := sur_in h.1 (iSo_inj h)
def esg (sg : Nat → Nat) (j k i : Nat) : Nat := if i ≤ k then insg sg j k i else i
theorem esg_lo {sg : Nat → Nat} {j k i : Nat} (h : i < j) (hj : j ≤ k) : esg sg j k i = sg i := by unfold esg insg; rw [if_pos (by omega), if_pos h]
theorem esg_at {sg : Nat → Nat} {j k : Nat} (hj : j ≤ k) : esg sg j k j = k := by unfold esg insg; rw [if_pos hj, if_neg (by omega), if_pos rfl]
theorem esg_mv {sg : Nat → Nat} {j k i : Nat} (h1 : j < i) (h2 : i ≤ k) : esg sg j k i = sg (i - 1) := by unfold esg insg; rw [if_pos h2, if_neg (by omega), if_neg (by omega)]
theorem esg_hi {sg : Nat → Nat} {j k i : Nat} (h : k < i) : esg sg j k i = i := by unfold esg; rw [if_neg (by omega)]
theorem iSo_cg {dp fk sg sg' : Nat → Nat} {k : Nat} (h : iSo dp fk k sg) (e : ∀ i, i < k → sg' i = sg i) : iSo dp fk k sg' := ⟨fun i hi => by rw [e i hi]; exact h.1 i hi, fun i j h1 h2 => by rw [e i (by omega), e j h2]; exact h.2 i j h1 h2⟩
theorem sortsM {n N : Nat} {fk dp : Nat → Nat} {m : zM} (hM : MXm n N fk dp m) (h0 : 0 < N) (hN : N ≤ 600) (hk : ∀ i, i < N → kv n (fk i)) (hd : ∀ i, i < N → dp i < 1000) (hi : ∀ i j, i < N → j < N → fk i = fk j → i = j) : ok (f_MO_sorts m) (fun p => fl2 [27, 28, 29] [] m p ∧ ∃ sg, iSo dp fk N sg ∧ MXm n N (fun i => fk (sg i)) (fun i => dp (sg i)) p) := by
  unfold f_MO_sorts f_MO_sorts_L2
  refine ok_for N (fun k (s : Int32 × zM) => s.1 = nI k ∧ fl2 [27, 28] [] m s.2 ∧ ∃ sg, iSo dp fk k sg ∧ (∀ i, k ≤ i → sg i = i) ∧ ∀ i, i < N → s.2.2.1 27 i = lN (km n (fk (sg i))) ∧ s.2.1 28 i = nI (dp (sg i))) (k0 := 1) ⟨rfl, fl2_rf, fun i => i, ⟨fun i hi => hi, fun i j h1 h2 => by omega⟩, fun _ _ => rfl, hM.2.1⟩ h0 ?_
  rintro k ⟨x, m1⟩ k1 hk' ⟨e, f1, sg, s1, s2, s3⟩
  have e : x = nI k := e
  subst e
  have f1 : fl2 [27, 28] [] m m1 := f1
  have s3 : ∀ i, i < N → m1.2.1 27 i = lN (km n (fk (sg i))) ∧ m1.1 28 i = nI (dp (sg i)) := s3
  have e41 : m1.1 0 41 = nI N := by rw [fl2_i f1 (by decide)]; exact hM.1
  unfold f_MO_sorts_B2
  refine ok_le N k (fun q => ok_zl ?_) (fun q => ?_) (hx := e41)
  · have ekn : k = N := by omega
    subst ekn
    unfold f_MO_sorts_J136 f_MO_sorts_L138
    refine ok_for 2048 (fun k' (s : Int32 × zM) => s.1 = nI k' ∧ fl2 [29] [] m1 s.2 ∧ ∀ i, i < k' → s.2.1 29 i = -1) ⟨rfl, fl2_rf, fun i hi => absurd hi (Nat.not_lt_zero _)⟩ (Nat.zero_le _) ?_
    rintro k' ⟨x, m2⟩ - hk2 ⟨e, f2, g2⟩
    have e : x = nI k' := e
    subst e
    have f2 : fl2 [29] [] m1 m2 := f2
    have g2 : ∀ i, i < k' → m2.1 29 i = -1 := g2
    unfold f_MO_sorts_B138
    refine ok_le 2048 k' (fun q' => ok_zl ?_) (fun q' => ?_)
    · unfold f_MO_sorts_J158 f_MO_sorts_L160
      refine ok_for k (fun t (s : Int32 × zM) => s.1 = nI t ∧ fl2 [29] [] m1 s.2 ∧ prb (s.2.1 29) (s.2.2.1 27) t) ⟨rfl, f2, fun i hi => absurd hi (Nat.not_lt_zero _), fun s hs => Or.inl (g2 s (by omega)), ?_⟩ (Nat.zero_le _) ?_
      · show cn (fun s => decide (m2.1 29 s ≠ -1)) 2048 ≤ 0
        rw [cn_cg (q := fun _ => false) (fun j hj => decide_eq_false (fun z => z (g2 j (by omega)))), cn_non]
        exact Nat.le_refl _
      · rintro t ⟨x, m3⟩ - ht ⟨e, f3, g3⟩
        have e : x = nI t := e
        subst e
        have f3 : fl2 [29] [] m1 m3 := f3
        have g3 : prb (m3.1 29) (m3.2.1 27) t := g3
        unfold f_MO_sorts_B160
        refine ok_le k t (fun q2 => ?_) (fun q2 => ?_) (hx := show m3.1 0 41 = nI k by rw [fl2_i f3 (by decide)]; exact e41)
        · refine ok_mk ⟨fl2_tr (fl2_su f1 (by decide)) (fl2_su f3 (by decide)), sg, s1, ?_, fun i hi => ⟨?_, ?_⟩, ?_⟩
          · rw [fl2_i f3 (by decide)]; exact e41
          · rw [fl2_j f3 (by simp [inS])]; exact (s3 i hi).1
          · rw [fl2_i f3 (by simp [inS])]; exact (s3 i hi).2
          · rw [← show t = k by omega]; exact g3
        · refine ok_bi (entersM g3 (by omega)) (fun p ⟨h1, h2⟩ => ok_mk ⟨q2, nI_1 t, fl2_tr f3 h2, h1⟩)
    · refine ok_ix rfl q' (by decide) (ok_lt (ok_mk ⟨q', nI_1 k', fl2_tr f2 (fl2_I (inS_c (by simp))), fun i hi => ?_⟩))
      show (sI m2 29 k' (-1)).1 29 i = -1
      by_cases u : i = k'
      · rw [u, rd_I1]
      · rw [rd_I0 (by omega)]; exact g2 i (by omega)
  · refine ok_ix rfl (show k < 608 by omega) (by decide) (ok_ix rfl (show k < 608 by omega) (by decide) ?_)
    have sk := s2 k (Nat.le_refl _)
    rw [(s3 k q).1, (s3 k q).2, sk]
    unfold f_MO_sorts_L28
    refine ok_lop (ι := Nat) (fun j (s : Int32 × zM) => j ≤ k ∧ s.1 = nI j ∧ fl2 [27, 28] [] m s.2 ∧ (∀ i, j ≤ i → i < k → lsp dp fk k (sg i)) ∧ ∀ i, i < N → i ≠ j → s.2.2.1 27 i = lN (km n (fk (esg sg j k i))) ∧ s.2.1 28 i = nI (dp (esg sg j k i))) (fun j => j) ?_ k _ ⟨Nat.le_refl _, rfl, f1, fun i h1 h2 => by omega, fun i h1 h2 => ?_⟩ (by omega)
    rotate_left
    · have : esg sg k k i = sg i := by
        rcases Nat.lt_or_ge i k with u | u
        · exact esg_lo u (Nat.le_refl _)
        · rw [esg_hi (by omega), s2 i u]
      rw [this]
      exact s3 i h1
    rintro j ⟨x, m2⟩ ⟨hj, e, f2, g1, g2⟩
    have e : x = nI j := e
    subst e
    have f2 : fl2 [27, 28] [] m m2 := f2
    have g2 : ∀ i, i < N → i ≠ j → m2.2.1 27 i = lN (km n (fk (esg sg j k i))) ∧ m2.1 28 i = nI (dp (esg sg j k i)) := g2
    have fin : (0 < j → lsp dp fk (sg (j - 1)) k) → ok (f_MO_sorts_J113 (nI k) (lN (km n (fk k))) (nI (dp k)) (nI j) m2) (lp (fun p => fl2 [27, 28, 29] [] m p ∧ ∃ sg, iSo dp fk N sg ∧ MXm n N (fun i => fk (sg i)) (fun i => dp (sg i)) p) (fun s' : Int32 × zM => k < N ∧ s'.1 = nI (k + 1) ∧ fl2 [27, 28] [] m s'.2 ∧ ∃ sg, iSo dp fk (k + 1) sg ∧ (∀ i, k + 1 ≤ i → sg i = i) ∧ ∀ i, i < N → s'.2.2.1 27 i = lN (km n (fk (sg i))) ∧ s'.2.1 28 i = nI (dp (sg i)))) := by
      intro hz
      unfold f_MO_sorts_J113
      refine ok_ix rfl (show j < 608 by omega) (by decide) (ok_lt (ok_ix rfl (show j < 608 by omega) (by decide) (ok_lt (ok_mk ⟨q, nI_1 k, fl2_tr f2 (fl2_tr (fl2_J (inS_c (by simp))) (fl2_I (inS_c (by simp)))), esg sg j k, iSo_cg (iSo_ins s1 hj hz g1) (fun i hi => ?_), fun i hi => esg_hi (by omega), fun i hi => ?_⟩))))
      · unfold esg; rw [if_pos (by omega)]
      · show (sJ m2 27 j (lN (km n (fk k)))).2.1 27 i = _ ∧ (sI (sJ m2 27 j (lN (km n (fk k)))) 28 j (nI (dp k))).1 28 i = _
        by_cases u : i = j
        · rw [u, rd_J1, rd_I1, esg_at hj]; exact ⟨rfl, rfl⟩
        · rw [rd_J0 (by omega), rd_I0 (by omega)]; exact g2 i hi u
    unfold f_MO_sorts_B28
    refine ok_le j 0 (fun q' => ok_zl (ok_mo (fin (fun z => by omega)) (fun _ z => z))) (fun q' => ?_)
    have mv : lsp dp fk k (sg (j - 1)) → ok (f_MO_sorts_J75 (nI k) (lN (km n (fk k))) (nI (dp k)) (nI j) m2) (lp (lp (fun p => fl2 [27, 28, 29] [] m p ∧ ∃ sg, iSo dp fk N sg ∧ MXm n N (fun i => fk (sg i)) (fun i => dp (sg i)) p) (fun s' : Int32 × zM => k < N ∧ s'.1 = nI (k + 1) ∧ fl2 [27, 28] [] m s'.2 ∧ ∃ sg, iSo dp fk (k + 1) sg ∧ (∀ i, k + 1 ≤ i → sg i = i) ∧ ∀ i, i < N → s'.2.2.1 27 i = lN (km n (fk (sg i))) ∧ s'.2.1 28 i = nI (dp (sg i)))) (fun s' : Int32 × zM => ∃ i', i' < j ∧ i' ≤ k ∧ s'.1 = nI i' ∧ fl2 [27, 28] [] m s'.2 ∧ (∀ i, i' ≤ i → i < k → lsp dp fk k (sg i)) ∧ ∀ i, i < N → i ≠ i' → s'.2.2.1 27 i = lN (km n (fk (esg sg i' k i))) ∧ s'.2.1 28 i = nI (dp (esg sg i' k i)))) := by
      intro hz
      unfold f_MO_sorts_J75
      rw [nI_pr q']
      refine ok_ix rfl (show j - 1 < 608 by omega) (by decide) (ok_ix rfl (show j < 608 by omega) (by decide) (ok_lt (ok_ix rfl (show j - 1 < 608 by omega) (by decide) (ok_ix rfl (show j < 608 by omega) (by decide) (ok_lt (ok_mk ⟨j - 1, by omega, by omega, nI_pm q', fl2_tr f2 (fl2_tr (fl2_J (inS_c (by simp))) (fl2_I (inS_c (by simp)))), fun i h1 h2 => ?_, fun i hi hn => ?_⟩))))))
      · by_cases u : i = j - 1
        · rw [u]; exact hz
        · exact g1 i (by omega) h2
      · have gj := g2 (j - 1) (by omega) (by omega)
        rw [esg_lo (show j - 1 < j by omega) hj] at gj
        show (sJ m2 27 j (m2.2.1 27 (j - 1))).2.1 27 i = _ ∧ (sI (sJ m2 27 j (m2.2.1 27 (j - 1))) 28 j (m2.1 28 (j - 1))).1 28 i = _
        by_cases u : i = j
        · rw [u, rd_J1, rd_I1, esg_mv (show j - 1 < j by omega) hj]
          exact gj
        · rw [rd_J0 (by omega), rd_I0 (by omega)]
          have := g2 i hi u
          have ee : esg sg (j - 1) k i = esg sg j k i := by
            rcases Nat.lt_or_ge i j with a | a
            · rw [esg_lo a hj, esg_lo (show i < j - 1 by omega) (by omega)]
            · rcases Nat.lt_or_ge k i with b | b
              · rw [esg_hi b, esg_hi b]
              · rw [esg_mv (show j < i by omega) b, esg_mv (show j - 1 < i by omega) b]
          rw [ee]
          exact this
    have gj := g2 (j - 1) (by omega) (by omega)
    rw [esg_lo (show j - 1 < j by omega) hj] at gj
    have sl := s1.1 (j - 1) (by omega)
    have d1 := hd k (by omega)
    have d2 := hd (sg (j - 1)) (by omega)
    have kx := hk k (by omega)
    have ky := hk (sg (j - 1)) (by omega)
    have kb := km_lt kx
    have kb' := km_lt ky
    rw [nI_pr q']
    refine ok_ix rfl (show j - 1 < 608 by omega) (by decide) ?_
    refine ok_ll (dp k) (dp (sg (j - 1))) (fun z => ?_) (fun z => ?_) (hy := gj.2)
    · exact mv (Or.inl z)
    · refine ok_ix rfl (show j - 1 < 608 by omega) (by decide) ?_
      refine ok_ee (dp (sg (j - 1))) (dp k) (fun z' => ?_) (fun z' => ok_zl (ok_mo (fin (fun _ => Or.inl (by omega))) (fun _ z => z))) (hx := gj.2)
      refine ok_ix rfl (show j - 1 < 608 by omega) (by decide) ?_
      have cmp : lg_cmp (m2.2.1 27 (j - 1)) (lN (km n (fk k))) ≤ 0 ↔ fk (sg (j - 1)) ≤ fk k := by
        rw [gj.1, lg_cmp_le, pk_lLE (by omega) (by omega)]
        have := (km_o kx ky).1
        omega
      refine ok_it (fun z2 => ok_zl (ok_mo (fin (fun _ => ?_)) (fun _ z => z))) (fun z2 => mv ?_)
      · have := cmp.mp z2
        have ne : fk (sg (j - 1)) ≠ fk k := fun y => by have := hi _ _ (by omega) (by omega) y; omega
        exact Or.inr ⟨z', by omega⟩
      · exact Or.inr ⟨z'.symm, Nat.lt_of_not_le (fun y => z2 (cmp.mpr y))⟩
/-- where a move leads: the number and one, 0 if it can't be -/
def nxw (P : Nat → Nat) (w N : Nat) (W : Nat → Nat) (i c : Nat) : Nat := if c / 4 = w then 0 else match sP P (W i) c with | none => 0 | some y => fi (fun k => decide (W k = fo (P 3) y)) N + 1
theorem nxw_0 {P : Nat → Nat} {w N : Nat} {W : Nat → Nat} {i c : Nat} (h : c / 4 = w ∨ sP P (W i) c = none) : nxw P w N W i c = 0 := by
  unfold nxw
  by_cases q : c / 4 = w
  · rw [if_pos q]
  · rw [if_neg q]
    rcases h with h | h
    · exact absurd h q
    · rw [h]
theorem nxw_s {P : Nat → Nat} {w N : Nat} {W : Nat → Nat} {i c y k : Nat} (hw : c / 4 ≠ w) (e : sP P (W i) c = some y) (hk : k < N) (ek : W k = fo (P 3) y) (hi : ∀ i j, i < N → j < N → W i = W j → i = j) : nxw P w N W i c = k + 1 := by
  unfold nxw
  rw [if_neg hw, e]
  show fi (fun k => decide (W k = fo (P 3) y)) N + 1 = k + 1
  rw [fi_eq (p := fun k => decide (W k = fo (P 3) y)) hk (decide_eq_true ek) (fun j hj => decide_eq_false (fun z => by have := hi j k (by omega) hk (z.trans ek.symm); omega))]
theorem nxw_e {P : Nat → Nat} {w N : Nat} {W D : Nat → Nat} {i c y : Nat} (hL : Lst (Ed P w) (wx0 P) N W D) (hi : i < N) (hc : c < 64) (hw : c / 4 ≠ w) (e : sP P (W i) c = some y) : ∃ k, k < N ∧ W k = fo (P 3) y ∧ nxw P w N W i c = k + 1 := by
  obtain ⟨k, hk, ek⟩ := hL.2.1 (D i + 1) (fo (P 3) y) ⟨W i, (hL.1 i hi).1, c, hc, hw, by rw [e]; rfl⟩
  exact ⟨k, hk, ek, nxw_s hw e hk ek (fun i j h1 h2 => Lst_in hL h1 h2)⟩
def LDm (P : Nat → Nat) (w N : Nat) (W : Nat → Nat) (m : zM) : Prop := ∀ i, i < N → ∀ c, c < 64 → m.1 30 (64 * i + c) = nI (nxw P w N W i c) - 1
def LFr (m0 m : zM) : Prop := fl2 [25, 26, 30] [(0, 36), (0, 38)] m0 m
theorem leads0M {P : Nat → Nat} {w N : Nat} {W D : Nat → Nat} {v1 : Int32} {m : zM} (hP : tV P) (ht : tM 23 P m) (hv : wvl w v1) (hL : Lst (Ed P w) (wx0 P) N W D) (hN : N ≤ 600) (hM : MXm (P 3) N W D m) : ok (f_MO_leads0 v1 m) (fun p => LFr m p ∧ LDm P w N W p) := by
  have n4 := hP.1.2.1
  have r16 := hP.1.2.2.2.2.2.2.2.2.2.2.1
  unfold f_MO_leads0 f_MO_leads0_L2
  refine ok_for N (fun k (s : Int32 × zM) => s.1 = nI k ∧ LFr m s.2 ∧ ∀ i, i < k → ∀ c, c < 64 → s.2.1 30 (64 * i + c) = nI (nxw P w N W i c) - 1) ⟨rfl, fl2_rf, fun i hi => absurd hi (Nat.not_lt_zero _)⟩ (Nat.zero_le _) ?_
  rintro k ⟨x, m1⟩ - hk ⟨e, f1, g1⟩
  have e : x = nI k := e
  subst e
  have f1 : LFr m m1 := f1
  have M1 : MXm (P 3) N W D m1 := MXm_fl hM f1 (by decide)
  unfold f_MO_leads0_B2
  refine ok_le N k (fun q => ok_mk ⟨f1, by rw [← show k = N by omega]; exact (show k = N by omega) ▸ g1⟩) (fun q => ?_) (hx := M1.1)
  refine ok_ix rfl (show k < 608 by omega) (by decide) ?_
  have kw := (Rn_kv hP (hL.1 k q).1).1
  rw [(M1.2.1 k q).1]
  refine ok_bi (opensK kw) (fun p2 ⟨o1, o2⟩ => ?_)
  unfold f_MO_leads0_L22
  have g1 : ∀ i, i < k → ∀ c, c < 64 → m1.1 30 (64 * i + c) = nI (nxw P w N W i c) - 1 := g1
  refine ok_for 64 (fun c (s : Int32 × zM) => s.1 = nI c ∧ LFr m s.2 ∧ wM (P 3) (dh (P 3) (W k)) (da (P 3) (W k)) s.2 ∧ (∀ i, i < k → ∀ c, c < 64 → s.2.1 30 (64 * i + c) = nI (nxw P w N W i c) - 1) ∧ ∀ c', c' < c → s.2.1 30 (64 * k + c') = nI (nxw P w N W k c') - 1) ⟨rfl, fl2_tr f1 (fl2_su o1 (by decide)), o2, (fun i hi c hc => by show p2.1 30 _ = _; rw [fl2_i o1 (by simp [inS])]; exact g1 i hi c hc), fun c' hc => absurd hc (Nat.not_lt_zero _)⟩ (Nat.zero_le _) ?_
  rintro c ⟨x, m2⟩ - hc ⟨e, f2, o3, g2, g3⟩
  have e : x = nI c := e
  subst e
  have f2 : LFr m m2 := f2
  have o3 : wM (P 3) (dh (P 3) (W k)) (da (P 3) (W k)) m2 := o3
  have g2 : ∀ i, i < k → ∀ c, c < 64 → m2.1 30 (64 * i + c) = nI (nxw P w N W i c) - 1 := g2
  have g3 : ∀ c', c' < c → m2.1 30 (64 * k + c') = nI (nxw P w N W k c') - 1 := g3
  unfold f_MO_leads0_B22
  refine ok_le 64 c (fun q1 => ?_) (fun q1 => ?_)
  · unfold f_MO_leads0_J112
    refine ok_zl (ok_mk ⟨q, nI_1 k, f2, fun i hi c' hc' => ?_⟩)
    by_cases u : i = k
    · rw [u]; exact g3 c' (by omega)
    · exact g2 i (by omega) c' hc'
  · have ex : (64 : Int32) * nI k + nI c = nI (64 * k + c) := by rw [show (64 : Int32) = nI 64 from rfl, pk_mul, nI_add]
    have e4 : nI c / 4 = nI (c / 4) := pk_div (d := 4) (by omega) (by decide) (by decide)
    have e5 : ir (nI c) 4 = nI (c % 4) := pk_rem (d := 4) (by omega) (by decide) (by decide)
    rw [ex]
    refine ok_ix rfl (show 64 * k + c < 38912 by omega) (by decide) (ok_lt ?_)
    have f3 : LFr m (sI m2 30 (64 * k + c) (-1)) := fl2_tr f2 (fl2_I (inS_c (by simp)))
    have t3 := tM_fl ht f3 (by decide)
    have nxt : ∀ m4, LFr m m4 → wM (P 3) (dh (P 3) (W k)) (da (P 3) (W k)) m4 → (∀ i, i ≠ 64 * k + c → m4.1 30 i = m2.1 30 i) → m4.1 30 (64 * k + c) = nI (nxw P w N W k c) - 1 → ok (f_MO_leads0_J106 v1 (nI k) (nI c) m4) (lp (lp (fun p => LFr m p ∧ LDm P w N W p) (fun s' : Int32 × zM => k < N ∧ s'.1 = nI (k + 1) ∧ LFr m s'.2 ∧ ∀ i, i < k + 1 → ∀ c, c < 64 → s'.2.1 30 (64 * i + c) = nI (nxw P w N W i c) - 1)) (fun s' : Int32 × zM => c < 64 ∧ s'.1 = nI (c + 1) ∧ LFr m s'.2 ∧ wM (P 3) (dh (P 3) (W k)) (da (P 3) (W k)) s'.2 ∧ (∀ i, i < k → ∀ c, c < 64 → s'.2.1 30 (64 * i + c) = nI (nxw P w N W i c) - 1) ∧ ∀ c', c' < c + 1 → s'.2.1 30 (64 * k + c') = nI (nxw P w N W k c') - 1)) := by
      intro m4 h1 h2 h3 h4
      refine ok_mk ⟨q1, nI_1 c, h1, h2, fun i hi c' hc' => ?_, fun c' hc' => ?_⟩
      · show m4.1 30 (64 * i + c') = _
        rw [h3 _ (by omega)]; exact g2 i hi c' hc'
      · show m4.1 30 (64 * k + c') = _
        by_cases u : c' = c
        · rw [u]; exact h4
        · rw [h3 _ (by omega)]; exact g3 c' (by omega)
    have o4 : wM (P 3) (dh (P 3) (W k)) (da (P 3) (W k)) (sI m2 30 (64 * k + c) (-1)) := wM_fl o3 (fl2_I (S := [30]) (F := []) (inS_c (by simp))) (by decide)
    have no : nxw P w N W k c = 0 → ok (f_MO_leads0_J106 v1 (nI k) (nI c) (sI m2 30 (64 * k + c) (-1))) (lp (lp (fun p => LFr m p ∧ LDm P w N W p) (fun s' : Int32 × zM => k < N ∧ s'.1 = nI (k + 1) ∧ LFr m s'.2 ∧ ∀ i, i < k + 1 → ∀ c, c < 64 → s'.2.1 30 (64 * i + c) = nI (nxw P w N W i c) - 1)) (fun s' : Int32 × zM => c < 64 ∧ s'.1 = nI (c + 1) ∧ LFr m s'.2 ∧ wM (P 3) (dh (P 3) (W k)) (da (P 3) (W k)) s'.2 ∧ (∀ i, i < k → ∀ c, c < 64 → s'.2.1 30 (64 * i + c) = nI (nxw P w N W i c) - 1) ∧ ∀ c', c' < c + 1 → s'.2.1 30 (64 * k + c') = nI (nxw P w N W k c') - 1)) := fun z => nxt _ f3 o4 (fun i hi => rd_I0 (by omega)) (by rw [rd_I1, z]; decide)
    refine ok_eb (rulM t3) ?_
    rw [e4, e5]
    refine ok_le (P 8) (c / 4) (fun q2 => no (nxw_0 (Or.inr (sP_no (by omega))))) (fun q2 => ?_)
    refine ok_it (fun q3 => no (nxw_0 (Or.inl ((wvl_eq hv (by omega)).mp q3)))) (fun q3 => ?_)
    have cw : c / 4 ≠ w := fun z => q3 ((wvl_eq hv (by omega)).mpr z)
    refine ok_eb (agM (tM_n t3 (by decide) (by decide))) ?_
    refine ok_le (P 3) (c % 4) (fun q4 => no (nxw_0 (Or.inr (sP_no (by omega))))) (fun q4 => ?_)
    refine ok_bi (movedK hP t3 kw o4 q2 q4) (fun p7 ⟨m1', m2', m3'⟩ => ?_)
    rw [show 4 * (c / 4) + c % 4 = c by omega] at m2' m3'
    have f7 : LFr m p7.2 := fl2_tr f3 (fl2_su m1' (by decide))
    have k30 : p7.2.1 30 = (sI m2 30 (64 * k + c) (-1)).1 30 := fl2_ic m1' (fun j => by simp [inS])
    cases em : sP P (W k) c with
    | none =>
      rw [m3' em]
      refine ok_in (by decide) (nxt _ f7 (wM_fl o4 m1' (by decide)) (fun i hi => ?_) ?_)
      · rw [k30, rd_I0 (by omega)]
      · rw [k30, rd_I1, nxw_0 (Or.inr em)]; decide
    | some y =>
      obtain ⟨y1, y2, y3⟩ := m2' y em
      rw [y1]
      refine ok_ip rfl ?_
      refine ok_bi (foldsK (tM_n (tM_fl ht f7 (by decide)) (by decide) (by decide)) y3 y2) (fun p8 ⟨g4, g5⟩ => ?_)
      have f8 : LFr m p8 := fl2_tr f7 (fl2_su g4 (by decide))
      have M8 := MXm_fl hM f8 (by decide)
      have k30' : p8.1 30 = (sI m2 30 (64 * k + c) (-1)).1 30 := (fl2_ic g4 (fun j => by simp [inS])).trans k30
      obtain ⟨t, ht', et, en⟩ := nxw_e hL q q1 cw em
      refine ok_eb (shutK g5 (fo_kv y2)) ?_
      refine ok_bi (foundM (v := lN (km (P 3) (fo (P 3) y))) M8.2.2 (by omega)) (fun r hr => ?_)
      have er : r = nI t := by
        rcases hr with ⟨i, hi, e1, e2⟩ | ⟨_, e1⟩
        · rw [(M8.2.1 i hi).1] at e1
          have := (km_l (Rn_kv hP (hL.1 i hi).1).1 (fo_kv y2)).mp e1
          rw [e2, Lst_in hL hi ht' (this.trans et.symm)]
        · exact absurd (by rw [(M8.2.1 t ht').1, et]) (e1 t ht')
      refine ok_ix rfl (show 64 * k + c < 38912 by omega) (by decide) (ok_lt ?_)
      refine nxt _ (fl2_tr f8 (fl2_I (inS_c (by simp)))) (wM_fl (wM_fl (wM_fl o4 m1' (by decide)) g4 (by decide)) (fl2_I (S := [30]) (F := []) (inS_c (by simp))) (by decide)) (fun i hi => ?_) ?_
      · rw [rd_I0 (by omega), k30', rd_I0 (by omega)]
      · rw [rd_I1, er, en, nI_pred]
/-- the reference's atlas -/
def LMx (P : Nat → Nat) (w N : Nat) (W D : Nat → Nat) (m : zM) : Prop := 0 < N ∧ N ≤ 600 ∧ Lst (Ed P w) (wx0 P) N W D ∧ MXm (P 3) N W D m ∧ LDm P w N W m
def GFr (m0 m : zM) : Prop := fl2 [25, 26, 27, 28, 29, 30] [(0, 36), (0, 38), (0, 40), (0, 41), (0, 46)] m0 m
theorem Rn_lt {E : Nat → Nat → Prop} {s N : Nat} {fk dp : Nat → Nat} {w : Nat} {Q : Nat → Prop} (h : Bf E s N w Q fk dp) (hw : N ≤ w) : ∀ i, i < N → dp i < N := by
  have key : ∀ d x, Rn E s d x → ∀ e, e ≤ d → ∃ z, Rn E s e z := by
    intro d
    induction d with
    | zero => intro x hx e he; rw [show e = 0 by omega]; exact ⟨x, hx⟩
    | succ d ih =>
      rintro x ⟨y, h1, h2⟩ e he
      by_cases u : e = d + 1
      · rw [u]; exact ⟨x, y, h1, h2⟩
      · exact ih y h1 e (by omega)
  obtain ⟨k1, k2⟩ := Bf_end h hw
  have dk : ∀ d x, Ds E s x d → ∀ e, e ≤ d → ∃ z, Ds E s z e := by
    intro d
    induction d with
    | zero => intro x hx e he; rw [show e = 0 by omega]; exact ⟨x, hx⟩
    | succ d ih =>
      rintro x ⟨⟨y, h1, h2⟩, h3⟩ e he
      by_cases u : e = d + 1
      · rw [u]; exact ⟨x, ⟨y, h1, h2⟩, h3⟩
      · exact ih y ⟨h1, fun e' he' z => h3 (e' + 1) (by omega) ⟨y, z, h2⟩⟩ e (by omega)
  intro i hi
  have ex : ∀ e, ∃ k, e ≤ dp i → k < N ∧ dp k = e := by
    intro e
    by_cases he : e ≤ dp i
    · obtain ⟨z, hz⟩ := dk (dp i) (fk i) (k1 i hi) e he
      obtain ⟨k, hk, ek⟩ := k2 e z hz.1
      exact ⟨k, fun _ => ⟨hk, Ds_un (ek ▸ k1 k hk) hz⟩⟩
    · exact ⟨0, fun z => absurd z he⟩
  have f := fun e => Classical.choose_spec (ex e)
  have := pigeon (n := dp i + 1) (m := N) (fun e => Classical.choose (ex e)) (fun e he => (f e (by omega)).1) (fun e e' h1 h2 z => by
    have a := (f e (by omega)).2
    have b := (f e' (by omega)).2
    have z : Classical.choose (ex e) = Classical.choose (ex e') := z
    rw [z, b] at a
    exact a.symm)
  omega
theorem goesM {P : Nat → Nat} {w : Nat} {v1 : Int32} {m : zM} (hP : tV P) (ht : tM 23 P m) (hv : wvl w v1) : ok (f_MO_goesThrough v1 m) (fun p => GFr m p.2 ∧ ((p.1 = true ∧ (∃ (N : Nat) (W D : Nat → Nat), LMx P w N W D p.2) ∧ p.2.1 0 40 = v1 ∧ p.2.1 0 46 = 0) ∨ (p.1 = false ∧ bigP P w))) := by
  refine gthM hP ht hv (fun m' N fk dp f1 a0 a1 a2 a3 a4 a5 => ?_)
  unfold f_MO_goesThrough_J93
  refine ok_le N 600 (fun q => ?_) (fun q => ?_) (hx := a2.1)
  · have b := a5 q
    have dl := Rn_lt b (Nat.le_refl _)
    obtain ⟨k1, k2⟩ := Bf_end b (Nat.le_refl _)
    refine ok_bi (sortsM a2 a0 q (fun i hi => (Rn_kv hP (a3 i hi)).1) (fun i hi => by have := dl i hi; omega) a4) (fun p7 ⟨s1, sg, s2, s3⟩ => ?_)
    have hL : Lst (Ed P w) (wx0 P) N (fun i => fk (sg i)) (fun i => dp (sg i)) := Lst_of k1 k2 s2.1 (iSo_sur s2) (fun i _ => ⟨rfl, rfl⟩) (fun i j h1 h2 => s2.2 i j h1 h2)
    refine ok_bi (leads0M hP (tM_fl (tM_fl ht f1 (by decide)) s1 (by decide)) hv hL q s3) (fun p8 ⟨l1, l2⟩ => ok_lt (ok_lt (ok_mk ⟨?_, Or.inl ⟨rfl, ⟨N, _, _, a0, q, hL, ?_, ?_⟩, ?_, rd_I1 _ _ _ _⟩⟩)))
    · exact fl2_tr (fl2_su f1 (by decide)) (fl2_tr (fl2_su s1 (by decide)) (fl2_tr (fl2_su l1 (by decide)) (fl2_tr (fl2_I (inS_f (by simp))) (fl2_I (inS_f (by simp))))))
    · exact MXm_fl s3 (fl2_tr (S := [25, 26, 30]) (F := [(0, 36), (0, 38), (0, 40), (0, 46)]) (fl2_su l1 (by decide)) (fl2_tr (fl2_I (inS_f (by simp))) (fl2_I (inS_f (by simp))))) (by decide)
    · intro i hi c hc
      rw [rd_I0 (by omega), rd_I0 (by omega)]
      exact l2 i hi c hc
    · rw [rd_I0 (by omega), rd_I1]
  · refine ok_mk ⟨fl2_su f1 (by decide), Or.inr ⟨rfl, fk, dp, ?_, ?_⟩⟩
    · rw [show 601 = N by omega]; exact a3
    · rw [show 601 = N by omega]; exact a4
