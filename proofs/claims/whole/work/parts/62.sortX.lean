theorem isAfterX {N a b : Nat} {ow fk dp pa st : Nat → Nat} {m : zM} (hS : SXm N ow fk dp pa st m) (hN : N ≤ 600) (ha : a < N) (hb : b < N) (hf : ∀ i, i < N → fk i < 2 ^ 63) (hd : ∀ i, i < N → dp i < 1000) : ok (f_Atlas_isAfter (nI a) (nI b) m) (fun r => r = true ↔ lsp dp fk b a) := by
  have ea := hS.2.1 a ha
  have eb := hS.2.1 b hb
  have da' := hd a ha
  have db' := hd b hb
  unfold f_Atlas_isAfter
  refine ok_ix rfl (show a < 600 by omega) (by decide) (ok_ix rfl (show b < 600 by omega) (by decide) ?_)
  refine ok_ee (dp a) (dp b) (fun q => ?_) (fun q => ?_) (hx := ea.2.2.1) (hy := eb.2.2.1)
  · refine ok_ix rfl (show a < 600 by omega) (by decide) (ok_ix rfl (show b < 600 by omega) (by decide) ?_)
    have cmp : lg_cmp (m.2.1 12 a) (m.2.1 12 b) ≤ 0 ↔ fk a ≤ fk b := by rw [ea.2.1, eb.2.1, lg_cmp_le, pk_lLE (hf a ha) (hf b hb)]
    refine ok_it (fun z => ok_mk ⟨fun h => (by cases h), fun h => ?_⟩) (fun z => ok_mk ⟨fun _ => Or.inr ⟨q.symm, Nat.lt_of_not_le (fun y => z (cmp.mpr y))⟩, fun _ => rfl⟩)
    have := cmp.mp z
    unfold lsp at h
    omega
  · refine ok_ix rfl (show a < 600 by omega) (by decide) (ok_ix rfl (show b < 600 by omega) (by decide) ?_)
    refine ok_le (dp a) (dp b) (fun z => ok_mk ⟨fun h => (by cases h), fun h => ?_⟩) (fun z => ok_mk ⟨fun _ => Or.inl z, fun _ => rfl⟩) (hx := ea.2.2.1) (hy := eb.2.2.1)
    unfold lsp at h
    omega
theorem sortX {N : Nat} {ow fk dp pa st : Nat → Nat} {m : zM} (hS : SXm N ow fk dp pa st m) (h24 : m.1 24 0 = nI N) (hN : N ≤ 600) (hf : ∀ i, i < N → fk i < 2 ^ 63) (hd : ∀ i, i < N → dp i < 1000) (hi : ∀ i j, i < N → j < N → fk i = fk j → i = j) : ok (f_Atlas_sort m) (fun p => fl2 [38, 39] [] m p ∧ ∃ sg, iSo dp fk N sg ∧ ∀ i, i < N → p.1 38 i = nI (sg i) ∧ p.1 39 (sg i) = nI i) := by
  unfold f_Atlas_sort f_Atlas_sort_L2
  refine ok_for N (fun k (s : Int32 × zM) => s.1 = nI k ∧ fl2 [38] [] m s.2 ∧ ∃ sg, iSo dp fk k sg ∧ ∀ i, i < k → s.2.1 38 i = nI (sg i)) ⟨rfl, fl2_rf, fun i => i, ⟨fun i hi => hi, fun i j h1 h2 => absurd h2 (Nat.not_lt_zero _)⟩, fun i hi => absurd hi (Nat.not_lt_zero _)⟩ (Nat.zero_le _) ?_
  rintro k ⟨x, m1⟩ - hk ⟨e, f1, sg, s1, s3⟩
  have e : x = nI k := e
  subst e
  have f1 : fl2 [38] [] m m1 := f1
  have s3 : ∀ i, i < k → m1.1 38 i = nI (sg i) := s3
  have e24 : m1.1 24 0 = nI N := by rw [fl2_i f1 (by decide)]; exact h24
  unfold f_Atlas_sort_B2
  refine ok_le N k (fun q => ok_zl ?_) (fun q => ?_) (hx := e24)
  · have ekn : k = N := by omega
    subst ekn
    unfold f_Atlas_sort_J65 f_Atlas_sort_L67
    refine ok_for k (fun t (s : Int32 × zM) => s.1 = nI t ∧ fl2 [39] [] m1 s.2 ∧ ∀ i, i < t → s.2.1 39 (sg i) = nI i) ⟨rfl, fl2_rf, fun i hi => absurd hi (Nat.not_lt_zero _)⟩ (Nat.zero_le _) ?_
    rintro t ⟨x, m2⟩ - ht ⟨e, f2, g2⟩
    have e : x = nI t := e
    subst e
    have f2 : fl2 [39] [] m1 m2 := f2
    have g2 : ∀ i, i < t → m2.1 39 (sg i) = nI i := g2
    have k38 : ∀ i, m2.1 38 i = m1.1 38 i := fun i => fl2_i f2 (by simp [inS])
    unfold f_Atlas_sort_B67
    refine ok_le k t (fun q' => ok_mk ⟨fl2_tr (fl2_su f1 (by decide)) (fl2_su f2 (by decide)), sg, s1, fun i hi => ⟨by rw [k38]; exact s3 i hi, g2 i (by omega)⟩⟩) (fun q' => ?_) (hx := show m2.1 24 0 = nI k by rw [fl2_i f2 (by decide)]; exact e24)
    have sl := s1.1 t q'
    refine ok_ix rfl (show t < 600 by omega) (by decide) (ok_ix (show m2.1 38 t = nI (sg t) by rw [k38]; exact s3 t q') (show sg t < 600 by omega) (by decide) (ok_lt (ok_mk ⟨q', nI_1 t, fl2_tr f2 (fl2_I (inS_c (by simp))), fun i hi' => ?_⟩)))
    show (sI m2 39 (sg t) (nI t)).1 39 (sg i) = nI i
    by_cases u : i = t
    · rw [u, rd_I1]
    · rw [rd_I0 (fun z => u (iSo_inj s1 i t (by omega) q' z.2))]; exact g2 i (by omega)
  · unfold f_Atlas_sort_L12
    refine ok_lop (ι := Nat) (fun j (s : Int32 × zM) => j ≤ k ∧ s.1 = nI j ∧ fl2 [38] [] m s.2 ∧ (∀ i, j ≤ i → i < k → lsp dp fk k (sg i)) ∧ ∀ i, i ≤ k → i ≠ j → s.2.1 38 i = nI (insg sg j k i)) (fun j => j) ?_ k _ ⟨Nat.le_refl _, rfl, f1, fun i h1 h2 => by omega, fun i h1 h2 => ?_⟩ (by omega)
    rotate_left
    · show m1.1 38 i = _
      unfold insg
      rw [if_pos (by omega)]
      exact s3 i (by omega)
    rintro j ⟨x, m2⟩ ⟨hj, e, f2, g1, g2⟩
    have e : x = nI j := e
    subst e
    have f2 : fl2 [38] [] m m2 := f2
    have g2 : ∀ i, i ≤ k → i ≠ j → m2.1 38 i = nI (insg sg j k i) := g2
    have fin : (0 < j → lsp dp fk (sg (j - 1)) k) → ok (f_Atlas_sort_J52 (nI k) (nI j) m2) (lp (fun p => fl2 [38, 39] [] m p ∧ ∃ sg, iSo dp fk N sg ∧ ∀ i, i < N → p.1 38 i = nI (sg i) ∧ p.1 39 (sg i) = nI i) (fun s' : Int32 × zM => k < N ∧ s'.1 = nI (k + 1) ∧ fl2 [38] [] m s'.2 ∧ ∃ sg, iSo dp fk (k + 1) sg ∧ ∀ i, i < k + 1 → s'.2.1 38 i = nI (sg i))) := by
      intro hz
      unfold f_Atlas_sort_J52
      refine ok_ix rfl (show j < 600 by omega) (by decide) (ok_lt (ok_mk ⟨q, nI_1 k, fl2_tr f2 (fl2_I (inS_c (by simp))), insg sg j k, iSo_ins s1 hj hz g1, fun i hi => ?_⟩))
      show (sI m2 38 j (nI k)).1 38 i = _
      by_cases u : i = j
      · rw [u, rd_I1]
        unfold insg
        rw [if_neg (by omega), if_pos rfl]
      · rw [rd_I0 (by omega)]; exact g2 i (by omega) u
    unfold f_Atlas_sort_B12
    refine ok_le j 0 (fun q' => ok_zl (ok_mo (fin (fun z => by omega)) (fun _ z => z))) (fun q' => ?_)
    have gj := g2 (j - 1) (by omega) (by omega)
    have ig : insg sg j k (j - 1) = sg (j - 1) := by unfold insg; rw [if_pos (by omega)]
    rw [ig] at gj
    have sl := s1.1 (j - 1) (by omega)
    rw [nI_pr q']
    refine ok_ix rfl (show j - 1 < 600 by omega) (by decide) ?_
    rw [gj]
    refine ok_bi (isAfterX (SXm_fl hS f2 (by decide)) hN (show sg (j - 1) < N by omega) q hf hd) (fun r hr => ?_)
    refine ok_it (fun z => ?_) (fun z => ok_zl (ok_mo (fin (fun _ => ?_)) (fun _ z => z)))
    · refine ok_ix rfl (show j - 1 < 600 by omega) (by decide) (ok_ix rfl (show j < 600 by omega) (by decide) (ok_lt (ok_mk ⟨j - 1, by omega, by omega, nI_pm q', fl2_tr f2 (fl2_I (inS_c (by simp))), fun i h1 h2 => ?_, fun i h1 h2 => ?_⟩)))
      · by_cases u : i = j - 1
        · rw [u]; exact hr.mp z
        · exact g1 i (by omega) h2
      · show (sI m2 38 j (m2.1 38 (j - 1))).1 38 i = nI (insg sg (j - 1) k i)
        by_cases u : i = j
        · rw [u, rd_I1, gj]
          unfold insg
          rw [if_neg (by omega), if_neg (by omega)]
        · rw [rd_I0 (by omega), g2 i h1 u]
          unfold insg
          rcases Nat.lt_or_ge i j with a | a
          · rw [if_pos a, if_pos (by omega)]
          · rw [if_neg (by omega), if_neg u, if_neg (by omega), if_neg (by omega)]
    · have ne : fk (sg (j - 1)) ≠ fk k := fun y => by have := hi _ _ (by omega) (by omega) y; omega
      have : ¬ lsp dp fk k (sg (j - 1)) := fun y => z (hr.mpr y)
      unfold lsp at this ⊢
      omega
/-- the class's atlas by keys -/
def AXk (n N : Nat) (W D pr sp : Nat → Nat) (m : zM) : Prop := (m.1 24 0 = nI N ∧ m.1 24 1 = nI n) ∧ (∀ i, i < N → m.2.1 28 i = lN (W i) ∧ m.1 29 i = nI (D i) ∧ m.1 30 i = nI (pr i) - 1 ∧ m.1 31 i = nI (sp i)) ∧ prb (m.1 27) (fun i => lN (W i)) N ∧ sky 25 (fun i => lN (W i)) N m
theorem AXk_fl {n N : Nat} {W D pr sp : Nat → Nat} {m m' : zM} {S : List Nat} {F : List (Nat × Nat)} (h : AXk n N W D pr sp m) (hf : fl2 S F m m') (hk : kps [26, 27, 28, 29, 30, 31] [(24, 0), (24, 1)] S F = true) : AXk n N W D pr sp m' := by
  have ci : ∀ c, c ∈ [26, 27, 28, 29, 30, 31] → m'.1 c = m.1 c := fun c hc => fl2_ic hf (kps_c hk hc)
  have cj : ∀ c, c ∈ [26, 27, 28, 29, 30, 31] → m'.2.1 c = m.2.1 c := fun c hc => fl2_jc hf (kps_c hk hc)
  obtain ⟨h1, h2, h3, h4⟩ := h
  refine ⟨by rw [fl2_i hf (kps_g hk (by simp)), fl2_i hf (kps_g hk (by simp))]; exact h1, ?_, ?_, ?_⟩
  · rw [cj 28 (by simp), ci 29 (by simp), ci 30 (by simp), ci 31 (by simp)]; exact h2
  · rw [ci 27 (by simp)]; exact h3
  · unfold sky
    rw [ci (25 + 2) (by simp), cj (25 + 1) (by simp)]; exact h4
/-- the ways that the search has found, by the numbers of the list -/
def WyL (P : Nat → Nat) (N : Nat) (W D pr sp : Nat → Nat) : Prop := ∃ ow fk dp pa st sg : Nat → Nat, SIv P N N 0 ow fk dp pa st ∧ iSo dp fk N sg ∧ ∀ i, i < N → W i = fk (sg i) ∧ D i = dp (sg i) ∧ sp i = st (sg i) ∧ (pr i = 0 ↔ pa (sg i) = 0) ∧ (0 < pr i → pr i - 1 < N ∧ sg (pr i - 1) = pa (sg i) - 1)
/-- fill, up to where moves are added -/
theorem fillK {P : Nat → Nat} {b N : Nat} {ow fk dp pa st : Nat → Nat} {m : zM} {K : zM → Prop} (hb : tbv b) (hP : tV P) (ht : tX b P m) (hS : SF P N ow fk dp pa st m) (hK : ∀ (m' : zM) (W D pr sp : Nat → Nat), fl2 [26, 27, 28, 29, 30, 31, 38, 39] [(24, 0), (24, 1)] m m' → Lst (Ed P 16) (wx0 P) N W D → AXk (P 3) N W D pr sp m' → WyL P N W D pr sp → ok (f_Atlas_fill_J138 b m') K) : ok (f_Atlas_fill b m) K := by
  have r16 := hP.1.2.2.2.2.2.2.2.2.2.2.1
  obtain ⟨N0, hN, S0, I0⟩ := hS
  have dl := Rn_lt I0.1 (Nat.le_refl _)
  obtain ⟨k1, k2⟩ := Bf_end I0.1 (Nat.le_refl _)
  have kf : ∀ i, i < N → kv (P 3) (fk i) := fun i hi => (Rn_kv hP (I0.1.2.1 i hi)).1
  have inj := I0.1.2.2.1
  unfold f_Atlas_fill f_Index_clear
  refine ok_lt (ok_lt (ok_bi (ok_bi (fillX (c := 25 + 2) (x := -1) (by decide)) (fun p1 h => ok_mk h)) (fun p3 ⟨c1, c2⟩ => ?_)))
  have hb66 : 66 ≤ b := by rcases hb with e | e <;> omega
  have f3 : fl2 [26, 27, 28, 29, 30, 31, 38, 39] [(24, 0), (24, 1)] m p3 := fl2_tr (fl2_I (inS_f (by simp))) (fl2_tr (fl2_I (inS_f (by simp))) (fl2_su c2 (by decide)))
  have e0 : p3.1 24 0 = nI N := by rw [fl2_i c2 (by decide), rd_I0 (by omega), rd_I1]; exact S0.1
  have e1 : p3.1 24 1 = nI (P 3) := by rw [fl2_i c2 (by decide), rd_I1, rd_I0 (by omega)]; exact ht.1.1
  have S3 := SXm_fl S0 f3 (by decide)
  refine ok_bi (sortX S3 e0 hN (fun i hi => by have := kv_lt (kf i hi); omega) (fun i hi => by have := dl i hi; omega) inj) (fun p4 ⟨s1, sg, s2, s3⟩ => ?_)
  have S4 := SXm_fl S3 s1 (by decide)
  have f4 : fl2 [26, 27, 28, 29, 30, 31, 38, 39] [(24, 0), (24, 1)] m p4 := fl2_tr f3 (fl2_su s1 (by decide))
  -- parents by numbers
  have ex : ∀ i, ∃ r, i < N → (r = 0 ↔ pa (sg i) = 0) ∧ (0 < r → r - 1 < N ∧ sg (r - 1) = pa (sg i) - 1) := by
    intro i
    by_cases hi : i < N
    · by_cases z : pa (sg i) = 0
      · exact ⟨0, fun _ => ⟨⟨fun _ => z, fun _ => rfl⟩, fun y => absurd y (Nat.lt_irrefl _)⟩⟩
      · have si := s2.1 i hi
        have i0 : 0 < sg i := by
          rcases Nat.eq_zero_or_pos (sg i) with y | y
          · rw [y, I0.2.1.2] at z; exact absurd rfl z
          · exact y
        have p2 := (I0.2.2.2.1 (sg i) i0 si).2.1
        obtain ⟨r, hr, er⟩ := iSo_sur s2 (pa (sg i) - 1) (by omega)
        exact ⟨r + 1, fun _ => ⟨⟨fun y => by omega, fun y => absurd y z⟩, fun _ => ⟨by omega, er⟩⟩⟩
    · exact ⟨0, fun z => absurd z hi⟩
  have hpr := fun i => Classical.choose_spec (ex i)
  have hL : Lst (Ed P 16) (wx0 P) N (fun i => fk (sg i)) (fun i => dp (sg i)) := Lst_of k1 k2 s2.1 (iSo_sur s2) (fun i _ => ⟨rfl, rfl⟩) (fun i j h1 h2 => s2.2 i j h1 h2)
  have hW : WyL P N (fun i => fk (sg i)) (fun i => dp (sg i)) (fun i => Classical.choose (ex i)) (fun i => st (sg i)) := ⟨ow, fk, dp, pa, st, sg, I0, s2, fun i hi => ⟨rfl, rfl, rfl, hpr i hi⟩⟩
  generalize hg : (fun i => Classical.choose (ex i)) = pr at hW
  have hpr : ∀ i, i < N → (pr i = 0 ↔ pa (sg i) = 0) ∧ (0 < pr i → pr i - 1 < N ∧ sg (pr i - 1) = pa (sg i) - 1) := by intro i hi; rw [← hg]; exact hpr i hi
  unfold f_Atlas_fill_L30
  refine ok_for N (fun k (s : Int32 × zM) => s.1 = nI k ∧ fl2 [26, 27, 28, 29, 30, 31] [] p4 s.2 ∧ (∀ i, i < k → s.2.2.1 28 i = lN (fk (sg i)) ∧ s.2.1 29 i = nI (dp (sg i)) ∧ s.2.1 30 i = nI (pr i) - 1 ∧ s.2.1 31 i = nI (st (sg i))) ∧ prb (s.2.1 27) (fun i => lN (fk (sg i))) k ∧ sky 25 (fun i => lN (fk (sg i))) k s.2) ⟨rfl, fl2_rf, fun i hi => absurd hi (Nat.not_lt_zero _), ⟨fun i hi => absurd hi (Nat.not_lt_zero _), fun s hs => Or.inl ?_, ?_⟩, fun s i _ hi => absurd hi (Nat.not_lt_zero _)⟩ (Nat.zero_le _) ?_
  · show p4.1 27 s = -1
    rw [fl2_i s1 (by simp [inS])]; exact c1 s hs
  · show cn (fun s => decide (p4.1 27 s ≠ -1)) 2048 ≤ 0
    rw [cn_cg (q := fun _ => false) (fun j hj => decide_eq_false (fun z => z (by rw [fl2_i s1 (by simp [inS])]; exact c1 j hj))), cn_non]
    exact Nat.le_refl _
  rintro k ⟨x, m1⟩ - hk ⟨e, f1, g1, g2, g3⟩
  have e : x = nI k := e
  subst e
  have f1 : fl2 [26, 27, 28, 29, 30, 31] [] p4 m1 := f1
  have g1 : ∀ i, i < k → m1.2.1 28 i = lN (fk (sg i)) ∧ m1.1 29 i = nI (dp (sg i)) ∧ m1.1 30 i = nI (pr i) - 1 ∧ m1.1 31 i = nI (st (sg i)) := g1
  have g2 : prb (m1.1 27) (fun i => lN (fk (sg i))) k := g2
  have g3 : sky 25 (fun i => lN (fk (sg i))) k m1 := g3
  have e24 : m1.1 24 0 = nI N := by rw [fl2_i f1 (by decide), fl2_i s1 (by decide)]; exact e0
  have S1 := SXm_fl S4 f1 (by decide)
  unfold f_Atlas_fill_B30
  refine ok_le N k (fun q => ok_zl ?_) (fun q => ?_) (hx := e24)
  · have ekn : k = N := by omega
    subst ekn
    refine ok_mo (hK m1 _ _ pr _ (fl2_tr f4 (fl2_su f1 (by decide))) hL ⟨⟨e24, ?_⟩, g1, g2, g3⟩ hW) (fun _ z => z)
    rw [fl2_i f1 (by decide), fl2_i s1 (by decide)]; exact e1
  · have sk := s2.1 k q
    have e38 : m1.1 38 k = nI (sg k) := by rw [fl2_i f1 (by simp [inS])]; exact (s3 k q).1
    obtain ⟨y1, y2, y3, y4, y5⟩ := S1.2.1 (sg k) sk
    have k6 : k < 600 := by omega
    have sk6 : sg k < 600 := by omega
    refine ok_ix rfl k6 (by decide) ?_
    rw [e38]
    refine ok_ix rfl sk6 (by decide) (ok_ix rfl k6 (by decide) (ok_lt (ok_ix rfl sk6 (by decide) (ok_ix rfl k6 (by decide) (ok_lt (ok_ix rfl sk6 (by decide) ?_))))))
    rw [y2, show (sJ m1 28 k (lN (fk (sg k)))).1 13 (sg k) = nI (dp (sg k)) from y3]
    have fin : ∀ t2 : Int32, t2 = nI (pr k) - 1 → ok (f_Atlas_fill_J104 b (nI k) (nI (sg k)) 30 (nI k) t2 (sI (sJ m1 28 k (lN (fk (sg k)))) 29 k (nI (dp (sg k))))) (lp K (fun s' : Int32 × zM => k < N ∧ s'.1 = nI (k + 1) ∧ fl2 [26, 27, 28, 29, 30, 31] [] p4 s'.2 ∧ (∀ i, i < k + 1 → s'.2.2.1 28 i = lN (fk (sg i)) ∧ s'.2.1 29 i = nI (dp (sg i)) ∧ s'.2.1 30 i = nI (pr i) - 1 ∧ s'.2.1 31 i = nI (st (sg i))) ∧ prb (s'.2.1 27) (fun i => lN (fk (sg i))) (k + 1) ∧ sky 25 (fun i => lN (fk (sg i))) (k + 1) s'.2)) := by
      intro t2 ht2
      unfold f_Atlas_fill_J104
      refine ok_ix rfl (show k < zlen gX 30 from k6) (by decide) (ok_lt (ok_ix rfl sk6 (by decide) (ok_ix rfl k6 (by decide) (ok_lt (ok_ix rfl k6 (by decide) ?_)))))
      rw [show (sI (sI (sJ m1 28 k (lN (fk (sg k)))) 29 k (nI (dp (sg k)))) 30 k t2).1 15 (sg k) = nI (st (sg k)) by rw [rd_I0 (by omega), rd_I0 (by omega)]; exact y5]
      rw [show (sI (sI (sI (sJ m1 28 k (lN (fk (sg k)))) 29 k (nI (dp (sg k)))) 30 k t2) 31 k (nI (st (sg k)))).2.1 28 k = lN (fk (sg k)) from rd_J1 _ _ _ _]
      have i27 : (sI (sI (sI (sJ m1 28 k (lN (fk (sg k)))) 29 k (nI (dp (sg k)))) 30 k t2) 31 k (nI (st (sg k)))).1 (25 + 2) = m1.1 27 := by
        rw [rd_Ic (by decide), rd_Ic (by decide), rd_Ic (by decide)]
        rfl
      refine ok_bi (putX (ke := fun i => lN (fk (sg i))) (ke' := fun i => lN (fk (sg i))) (N := k) (by rw [i27]; exact g2) ?_ (by omega) (fun i hi z => ?_) (fun _ _ => rfl) rfl) (fun p29 ⟨h1, h2, h3⟩ => ok_mk ⟨q, nI_1 k, ?_, fun i hi => ?_, h1, h2⟩)
      · intro s i hs hi e
        show (sJ m1 28 k (lN (fk (sg k)))).2.1 (25 + 1) s = _
        rw [rd_J0 (by omega)]
        rw [i27] at e
        exact g3 s i hs hi e
      · have a := kv_lt (kf (sg i) (s2.1 i (by omega)))
        have b := kv_lt (kf (sg k) sk)
        have := inj _ _ (s2.1 i (by omega)) sk ((pk_lEQ (by omega) (by omega)).mp z)
        have := iSo_inj s2 i k (by omega) q this
        omega
      · exact fl2_tr f1 (fl2_tr (fl2_J (inS_c (by simp))) (fl2_tr (fl2_I (inS_c (by simp))) (fl2_tr (fl2_I (inS_c (by simp))) (fl2_tr (fl2_I (inS_c (by simp))) (fl2_su h3 (by decide))))))
      · have h28 : p29.2.1 28 i = (sJ m1 28 k (lN (fk (sg k)))).2.1 28 i := fl2_j h3 (by simp [inS])
        have h29 : p29.1 29 i = (sI (sJ m1 28 k (lN (fk (sg k)))) 29 k (nI (dp (sg k)))).1 29 i := by rw [fl2_i h3 (by simp [inS]), rd_I0 (by omega), rd_I0 (by omega)]
        have h30 : p29.1 30 i = (sI (sI (sJ m1 28 k (lN (fk (sg k)))) 29 k (nI (dp (sg k)))) 30 k t2).1 30 i := by rw [fl2_i h3 (by simp [inS]), rd_I0 (by omega)]
        have h31 : p29.1 31 i = (sI (sI (sI (sJ m1 28 k (lN (fk (sg k)))) 29 k (nI (dp (sg k)))) 30 k t2) 31 k (nI (st (sg k)))).1 31 i := fl2_i h3 (by simp [inS])
        show p29.2.1 28 i = _ ∧ p29.1 29 i = _ ∧ p29.1 30 i = _ ∧ p29.1 31 i = _
        rw [h28, h29, h30, h31]
        by_cases u : i = k
        · rw [u, rd_J1, rd_I1, rd_I1, rd_I1]
          exact ⟨rfl, rfl, ht2, rfl⟩
        · rw [rd_J0 (by omega), rd_I0 (by omega), rd_I0 (by omega), rd_I0 (by omega), rd_I0 (by omega), rd_I0 (by omega), rd_I0 (by omega)]
          exact g1 i (by omega)
    have e14 : (sI (sJ m1 28 k (lN (fk (sg k)))) 29 k (nI (dp (sg k)))).1 14 (sg k) = nI (pa (sg k)) - 1 := by rw [rd_I0 (by omega)]; exact y4
    have pb : pa (sg k) ≤ 600 := by
      rcases Nat.eq_zero_or_pos (sg k) with y | y
      · rw [y, I0.2.1.2]; omega
      · have := (I0.2.2.2.1 (sg k) y sk).2.1; omega
    refine ok_mm (pa (sg k)) (fun z => fin (-1) ?_) (fun z => ?_) (hx := e14)
    · rw [(hpr k q).1.mpr z]; decide
    · have pr0 : 0 < pr k := Nat.pos_of_ne_zero (fun y => by have := (hpr k q).1.mp y; omega)
      obtain ⟨p1, p2⟩ := (hpr k q).2 pr0
      refine ok_ix rfl sk6 (by decide) (ok_ix (show _ = nI (pa (sg k) - 1) by rw [e14]; exact nI_pr z) (show pa (sg k) - 1 < 600 by omega) (by decide) (fin _ ?_))
      rw [rd_I0 (by omega), ← p2]
      show m1.1 39 (sg (pr k - 1)) = _
      rw [fl2_i f1 (by simp [inS]), (s3 _ p1).2, nI_pr pr0]
