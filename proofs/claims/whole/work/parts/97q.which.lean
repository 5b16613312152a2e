/-- a text is as the tape -/
def lkT (n : Nat) (g : Nat → Nat) (l : List Nat) : Prop := l.length = n ∧ ∀ j, j < n → nI (l.getD j 0) = nI (g j)
theorem likeX {v n : Nat} {g : Nat → Nat} {l : List Nat} {m : zM} (h : TxX v l m) (hT : TpX n g m) (hn : n ≤ 1600) (hl : l.length ≤ 1600) : ok (f_Bytes_isLike v 1 m) (fun r => r = true ↔ lkT n g l) := by
  unfold f_Bytes_isLike
  refine ok_ee l.length n (fun q => ?_) (fun q => ok_mk ⟨fun z => (by cases z), fun z => absurd z.1 q⟩) (hx := h.1) (hy := hT.1)
  unfold f_Bytes_isLike_L15
  refine ok_for n (fun k (s : Int32) => s = nI k ∧ ∀ j, j < k → nI (l.getD j 0) = nI (g j)) (k0 := 0) ⟨rfl, fun j hj => absurd hj (Nat.not_lt_zero _)⟩ (Nat.zero_le _) ?_
  rintro k s - hk ⟨e, hj⟩
  subst e
  unfold f_Bytes_isLike_B15
  refine ok_le n k (fun z => ok_mk ⟨fun _ => ⟨q, fun j hjj => hj j (by omega)⟩, fun _ => rfl⟩) (fun z => ?_) (hx := by rw [h.1, q])
  refine ok_ix rfl (by omega : k < 1600) (by decide) (ok_ix rfl (by omega : k < 1600) (by decide) ?_)
  rw [h.2 k (by omega), (hT.2 k z).1]
  refine ok_it (fun y => ok_mk ⟨z, nI_1 k, fun j hjj => ?_⟩) (fun y => ok_mk ⟨fun w => (by cases w), fun w => absurd (w.2 k z) y⟩)
  rcases Nat.lt_or_ge j k with u | u
  · exact hj j u
  · rw [show j = k by omega]; exact y
theorem likeMm {n : Nat} {g : Nat → Nat} {l : List Nat} {m : zM} (h : TxM l m) (hT : ∀ j, j < n → m.1 1 j = nI (g j) ∧ g j < 256) (hn : n ≤ 1600) (hl : l.length ≤ 130) : ok (f_MO_isSpelled (nI n) m) (fun r => r = true ↔ lkT n g l) := by
  unfold f_MO_isSpelled
  refine ok_ee n l.length (fun q => ?_) (fun q => ok_mk ⟨fun z => (by cases z), fun z => absurd z.1.symm q⟩) (hy := h.1)
  unfold f_MO_isSpelled_L12
  refine ok_for n (fun k (s : Int32) => s = nI k ∧ ∀ j, j < k → nI (l.getD j 0) = nI (g j)) (k0 := 0) ⟨rfl, fun j hj => absurd hj (Nat.not_lt_zero _)⟩ (Nat.zero_le _) ?_
  rintro k s - hk ⟨e, hj⟩
  subst e
  unfold f_MO_isSpelled_B12
  refine ok_le n k (fun z => ok_mk ⟨fun _ => ⟨q.symm, fun j hjj => hj j (by omega)⟩, fun _ => rfl⟩) (fun z => ?_)
  refine ok_ix rfl (by omega : k < 1600) (by decide) (ok_ix rfl (by omega : k < 130) (by decide) ?_)
  rw [h.2 k (by omega), (hT k z).1]
  refine ok_it (fun y => ok_mk ⟨z, nI_1 k, fun j hjj => ?_⟩) (fun y => ok_mk ⟨fun w => (by cases w), fun w => absurd (w.2 k z).symm y⟩)
  rcases Nat.lt_or_ge j k with u | u
  · exact hj j u
  · rw [show j = k by omega]; exact y.symm
/-- the first world of a text, or none -/
def wchR (N : Nat) (Q : Nat → Prop) (r : Int32) : Prop := (∃ i, i < N ∧ Q i ∧ (∀ j, j < i → ¬ Q j) ∧ r = nI i) ∨ ((∀ j, j < N → ¬ Q j) ∧ r = -1)
theorem wchR_u {N : Nat} {Q : Nat → Prop} {r s : Int32} (h : wchR N Q r) (h' : wchR N Q s) : r = s := by
  rcases h with ⟨i, h1, h2, h3, h4⟩ | ⟨h1, h2⟩
  · rcases h' with ⟨j, g1, g2, g3, g4⟩ | ⟨g1, g2⟩
    · have : i = j := by
        rcases Nat.lt_trichotomy i j with z | z | z
        · exact absurd h2 (g3 i z)
        · exact z
        · exact absurd g2 (h3 j z)
      rw [h4, g4, this]
    · exact absurd h2 (g1 i h1)
  · rcases h' with ⟨j, g1, g2, g3, g4⟩ | ⟨g1, g2⟩
    · exact absurd g2 (h1 j g1)
    · rw [h2, g2]
/-- on the way: k worlds gone through -/
def wchK (N : Nat) (Q : Nat → Prop) (k : Nat) (r : Int32) : Prop := k ≤ N ∧ ((∃ i, i < k ∧ i < N ∧ k = i + 1 ∧ Q i ∧ (∀ j, j < i → ¬ Q j) ∧ r = nI i) ∨ ((∀ j, j < k → ¬ Q j) ∧ r = -1))
theorem wchK_e {N k : Nat} {Q : Nat → Prop} {r : Int32} (h : wchK N Q k r) (hk : N ≤ k ∨ r ≠ -1) : wchR N Q r := by
  obtain ⟨h0, ⟨i, h1, h2, h3, h4, h5, h6⟩ | ⟨h1, h2⟩⟩ := h
  · exact Or.inl ⟨i, h2, h4, h5, h6⟩
  · rcases hk with z | z
    · exact Or.inr ⟨fun j hj => h1 j (by omega), h2⟩
    · exact absurd h2 z
theorem wchK_y {N k : Nat} {Q : Nat → Prop} {r : Int32} (h : wchK N Q k r) (hr : r = -1) (hk : k < N) (hN : N < 2 ^ 31) (q : Q k) : wchK N Q (k + 1) (nI k) := by
  obtain ⟨h0, ⟨i, h1, h2, h3, h4, h5, h6⟩ | ⟨h1, h2⟩⟩ := h
  · rw [h6] at hr
    exact absurd hr (nI_ne_m1 (by omega))
  · exact ⟨by omega, Or.inl ⟨k, by omega, hk, rfl, q, h1, rfl⟩⟩
theorem wchK_n {N k : Nat} {Q : Nat → Prop} {r : Int32} (h : wchK N Q k r) (hr : r = -1) (hk : k < N) (hN : N < 2 ^ 31) (q : ¬ Q k) : wchK N Q (k + 1) r := by
  obtain ⟨h0, ⟨i, h1, h2, h3, h4, h5, h6⟩ | ⟨h1, h2⟩⟩ := h
  · rw [h6] at hr
    exact absurd hr (nI_ne_m1 (by omega))
  · refine ⟨by omega, Or.inr ⟨fun j hj => ?_, h2⟩⟩
    rcases Nat.lt_or_ge j k with z | z
    · exact h1 j z
    · rw [show j = k by omega]; exact q
theorem whichX {P : Nat → Nat} {N n b n0 : Nat} {W D pr sp g : Nat → Nat} {mx mm : zM} {K : Int32 × zM → Prop} (ht : Told P N W D pr sp b mx mm) (hT : TpX n g mx) (hn : n ≤ 1600) (h0 : mx.1 5 1 = nI n0) (hn0 : n0 < 2 ^ 31) (c : ∀ r m, wchR N (fun i => lkT n g (wdL P (W i) (P 3))) r → fl2 [6, 40, 41] [(5, 1)] mx m → (∃ n, n < 2 ^ 31 ∧ m.1 5 1 = nI n) → ok (f_PA_which_J58 r m) K) : ok (f_PA_which mx) K := by
  obtain ⟨⟨h1, h2, h3, h4, h5, h6, h7⟩, r0, g1, g2, g3, g4, g5⟩ := ht.1
  have p3 := h1.1.2.1
  unfold f_PA_which f_PA_which_L4
  refine ok_for N (fun k (s : Int32 × Int32 × zM) => wchK N (fun i => lkT n g (wdL P (W i) (P 3))) k s.1 ∧ s.2.1 = nI k ∧ fl2 [6, 40, 41] [(5, 1)] mx s.2.2 ∧ ∃ n, n < 2 ^ 31 ∧ s.2.2.1 5 1 = nI n) (k0 := 0) ⟨⟨Nat.zero_le _, Or.inr ⟨fun j hj => absurd hj (Nat.not_lt_zero _), rfl⟩⟩, rfl, fl2_rf, n0, hn0, h0⟩ (Nat.zero_le _) ?_
  rintro k ⟨r, x, m1⟩ - hk ⟨w1, e, f1, n5, hn5, e5⟩
  have e : x = nI k := e
  subst e
  have f1 : fl2 [6, 40, 41] [(5, 1)] mx m1 := f1
  have e5 : m1.1 5 1 = nI n5 := e5
  have w1 : wchK N (fun i => lkT n g (wdL P (W i) (P 3))) k r := w1
  have A1 := AXm_fl g3 f1 (by decide)
  unfold f_PA_which_B4
  refine ok_in (by rw [fl2_i f1 (by decide), g1]; decide) (ok_le N k (fun q => ok_zl (c r m1 (wchK_e w1 (Or.inl q)) f1 ⟨n5, hn5, e5⟩)) (fun q => ok_it (fun z => ?_) (fun z => ok_zl (c r m1 (wchK_e w1 (Or.inr z)) f1 ⟨n5, hn5, e5⟩))) (hx := A1.1.1.1))
  have T1 := tX_fl r0.1 g2 f1 (by decide) h1.1.2.2.2.2.2.2.2.2.2.2.1
  refine ok_bi (wwX h1 h7.2 h4 h3 (Or.inr rfl) (Rfs_x r0 f1) T1 A1 q e5 hn5) (fun p ⟨fp, tp⟩ => ?_)
  have f2 : fl2 [6, 40, 41] [(5, 1)] mx p := fl2_tr f1 (fl2_su fp (by decide))
  have wl := wdL_n P (W k) (P 3)
  have Tp : TpX n g p := ⟨by rw [fl2_i f2 (by decide)]; exact hT.1, fun j hj => by rw [fl2_ic f2 (fun j => by simp [inS])]; exact hT.2 j hj⟩
  refine ok_bi (likeX tp Tp hn (by omega)) (fun r2 hr => ?_)
  have e6 : ∃ n, n < 2 ^ 31 ∧ p.1 5 1 = nI n := ⟨_, by omega, tp.1⟩
  unfold f_PA_which_J52
  refine ok_it (fun y => ok_mk ⟨q, wchK_y w1 z q (by omega) (hr.mp y), nI_1 k, f2, e6⟩) (fun y => ok_mk ⟨q, wchK_n w1 z q (by omega) (fun u => y (hr.mpr u)), nI_1 k, f2, e6⟩)
theorem savM {w : Nat} {v1 v3 : Int32} {m : zM} {K : Int32 × zM → Prop} (hw : w ≤ 130) (c : ∀ m', fl2 [57] [] m m' → (∀ j, j < w → m'.1 57 j = m.1 56 j) → ok (f_MO_which_J46 v1 (nI w) v3 m') K) : ok (f_MO_which_L20 v1 (nI w) v3 0 m) K := by
  unfold f_MO_which_L20
  refine ok_for w (fun k (s : Int32 × zM) => s.1 = nI k ∧ fl2 [57] [] m s.2 ∧ ∀ j, j < k → s.2.1 57 j = m.1 56 j) (k0 := 0) ⟨rfl, fl2_rf, fun j hj => absurd hj (Nat.not_lt_zero _)⟩ (Nat.zero_le _) ?_
  rintro k ⟨x, m1⟩ - hk ⟨e, f1, h1⟩
  have e : x = nI k := e
  subst e
  have f1 : fl2 [57] [] m m1 := f1
  have h1 : ∀ j, j < k → m1.1 57 j = m.1 56 j := h1
  unfold f_MO_which_B20
  refine ok_le w k (fun q => ok_zl (c m1 f1 (fun j hj => h1 j (by omega)))) (fun q => ok_ix rfl (by omega : k < 130) (by decide) (ok_ix rfl (by omega : k < 130) (by decide) (ok_lt (ok_mk ⟨q, nI_1 k, fl2_tr f1 (fl2_I (inS_c (by simp))), fun j hj => ?_⟩))))
  show (sI m1 57 k _).1 57 j = _
  by_cases z : j = k
  · rw [z, rd_I1, fl2_ic f1 (fun j => by simp [inS])]
  · rw [rd_I0 (by omega)]; exact h1 j (by omega)
theorem resM {w : Nat} {v3 : Int32} {m : zM} {K : Int32 × zM → Prop} (hw : w ≤ 130) (c : ∀ m', fl2 [56] [(0, 83)] m m' → m'.1 0 83 = nI w → (∀ j, j < w → m'.1 56 j = m.1 57 j) → ok (f_MO_which_J127 v3 m') K) : ok (f_MO_which_J93 (nI w) v3 m) K := by
  unfold f_MO_which_J93
  refine ok_lt ?_
  have f0 : fl2 [56] [(0, 83)] m (sI m 0 83 (nI w)) := fl2_I (inS_f (by simp))
  unfold f_MO_which_L101
  refine ok_for w (fun k (s : Int32 × zM) => s.1 = nI k ∧ fl2 [56] [(0, 83)] m s.2 ∧ s.2.1 0 83 = nI w ∧ ∀ j, j < k → s.2.1 56 j = m.1 57 j) (k0 := 0) ⟨rfl, f0, rd_I1 _ _ _ _, fun j hj => absurd hj (Nat.not_lt_zero _)⟩ (Nat.zero_le _) ?_
  rintro k ⟨x, m1⟩ - hk ⟨e, f1, g1, h1⟩
  have e : x = nI k := e
  subst e
  have f1 : fl2 [56] [(0, 83)] m m1 := f1
  have g1 : m1.1 0 83 = nI w := g1
  have h1 : ∀ j, j < k → m1.1 56 j = m.1 57 j := h1
  unfold f_MO_which_B101
  refine ok_le w k (fun q => ok_zl (c m1 f1 g1 (fun j hj => h1 j (by omega)))) (fun q => ok_ix rfl (by omega : k < 130) (by decide) (ok_ix rfl (by omega : k < 130) (by decide) (ok_lt (ok_mk ⟨q, nI_1 k, fl2_tr f1 (fl2_I (inS_c (by simp))), ?_, fun j hj => ?_⟩))))
  · show (sI m1 56 k _).1 0 83 = _
    rw [rd_I0 (by omega)]; exact g1
  · show (sI m1 56 k _).1 56 j = _
    by_cases z : j = k
    · rw [z, rd_I1, fl2_ic f1 (fun j => by simp [inS])]
    · rw [rd_I0 (by omega)]; exact h1 j (by omega)
theorem Told_q {P : Nat → Nat} {N : Nat} {W D pr sp : Nat → Nat} {b : Nat} {mx mm p : zM} (h : Told P N W D pr sp b mx mm) (z2 : fl2 MS MF mm p) (z3 : tM 23 P p) (z4 : MaK P N W D p) : Told P N W D pr sp b mx p :=
  ⟨h.1, ⟨by rw [fl2_i z2 (by decide)]; exact h.2.1.1, z3, MaK_c z4 h.1.1.2.2.2.2.1 h.1.1.2.2.2.2.2.1⟩, WaR_m h.2.2.1 z2 (by decide), SiR_m h.2.2.2 z2 (by decide)⟩
theorem Told_x {P : Nat → Nat} {N : Nat} {W D pr sp : Nat → Nat} {b : Nat} {mx mx' mm : zM} {S : List Nat} {F : List (Nat × Nat)} (h : Told P N W D pr sp b mx mm) (hf : fl2 S F mx mx') (ho : offT S F = true) (hk : kps [26, 27, 28, 29, 30, 31, 32, 33, 34, 35, 36, 37] [(24, 0), (24, 1)] S F = true) (hk2 : kps [117, 118, 119, 120] [(116, 3)] S F = true) (hk3 : kps [122, 123] [] S F = true) (hk4 : kps [127, 128] [(0, 13)] S F = true) (k5 : kps [55, 56, 63] [(0, 14)] S F = true) (k6 : kps [49, 50, 53] [(48, 2), (48, 3), (48, 7), (48, 8)] S F = true) : Told P N W D pr sp b mx' mm :=
  ⟨TdX_f h.1 hf ho hk hk2 hk3 hk4, h.2.1, WaR_x h.2.2.1 hf k5, SiR_x h.2.2.2 hf k6⟩
def WhF : List (Nat × Nat) := (0, 83) :: MF
def WhS : List Nat := 56 :: MS
theorem whichM {P : Nat → Nat} {N n b w : Nat} {W D pr sp g : Nat → Nat} {mx mm : zM} {K : Int32 × zM → Prop} (ht : Told P N W D pr sp b mx mm) (hT : ∀ j, j < n → mm.1 1 j = nI (g j) ∧ g j < 256) (hn : n ≤ 1600) (c : ∀ r m, wchR N (fun i => lkT n g (wdL P (W i) (P 3))) r → fl2 WhS WhF mm m → Told P N W D pr sp b mx m → ok (f_MO_which_J93 (nI w) r m) K) : ok (f_MO_which_J46 (nI n) (nI w) (-1) mm) K := by
  obtain ⟨⟨h1, h2, h3, h4, h5, h6, h7⟩, r0, g1, g2, g3, g4, g5⟩ := ht.1
  have p3 := h1.1.2.1
  unfold f_MO_which_J46 f_MO_which_L49
  refine ok_for N (fun k (s : Int32 × Int32 × zM) => wchK N (fun i => lkT n g (wdL P (W i) (P 3))) k s.1 ∧ s.2.1 = nI k ∧ fl2 WhS WhF mm s.2.2 ∧ Told P N W D pr sp b mx s.2.2) (k0 := 0) ⟨⟨Nat.zero_le _, Or.inr ⟨fun j hj => absurd hj (Nat.not_lt_zero _), rfl⟩⟩, rfl, fl2_rf, ht⟩ (Nat.zero_le _) ?_
  rintro k ⟨r, x, m1⟩ - hk ⟨w1, e, f1, t1⟩
  have e : x = nI k := e
  subst e
  have f1 : fl2 WhS WhF mm m1 := f1
  have t1 : Told P N W D pr sp b mx m1 := t1
  have w1 : wchK N (fun i => lkT n g (wdL P (W i) (P 3))) k r := w1
  unfold f_MO_which_B49
  refine ok_in (by rw [t1.2.1.1]; decide) (ok_bi (wldT (x := nI k) t1) (fun p5 ⟨y1, y2, y3, y4⟩ => ?_))
  have t5 := Told_q t1 y2 y3 y4
  have f5 : fl2 WhS WhF mm p5.2 := fl2_tr f1 (fl2_su y2 (by decide))
  refine ok_it (fun q => ?_) (fun q => ok_zl (c r p5.2 (wchK_e w1 (Or.inl ?_)) f5 t5))
  rotate_left
  · rcases Nat.lt_or_ge k N with z | z
    · exact absurd (y1.mpr ⟨k, z, rfl⟩) q
    · exact z
  obtain ⟨k', hk', ek⟩ := y1.mp q
  have ek := (nI_eq (by omega) (by omega)).mp ek
  subst ek
  refine ok_it (fun z => ?_) (fun z => ok_zl (c r p5.2 (wchK_e w1 (Or.inr z)) f5 t5))
  refine ok_bi (wwM h1 h7.2 y3 y4.2.1 hk') (fun p ⟨fp, tp⟩ => ?_)
  have f2 : fl2 WhS WhF mm p := fl2_tr f5 (fl2_su fp (by decide))
  have t2 := Told_m t5 fp (by decide) (by decide) (by decide) (by decide) (by decide) (by decide) (by decide) (by decide)
  have wl := wdL_n P (W k) (P 3)
  have Tp : ∀ j, j < n → p.1 1 j = nI (g j) ∧ g j < 256 := fun j hj => by rw [fl2_ic f2 (fun j => by simp [inS, WhS, WhF, MS, MF])]; exact hT j hj
  refine ok_bi (likeMm tp Tp hn (by omega)) (fun r2 hr => ?_)
  unfold f_MO_which_J87
  refine ok_it (fun y => ok_mk ⟨hk', wchK_y w1 z hk' (by omega) (hr.mp y), nI_1 k, f2, t2⟩) (fun y => ok_mk ⟨hk', wchK_n w1 z hk' (by omega) (fun u => y (hr.mpr u)), nI_1 k, f2, t2⟩)
/-- the tape is empty on both sides, the scratch bytes are some, what was written is as it was -/
theorem CoR_w {mx mx' mm mm' : zM} {S S' : List Nat} {F F' : List (Nat × Nat)} {w : Nat} (h : CoR mx mm) (hf : fl2 S F mx mx') (hf' : fl2 S' F' mm mm') (e1 : mx'.1 1 1 = nI 0) (e2 : mm'.1 0 1 = nI 0) (e5 : ∃ n, n < 2 ^ 31 ∧ mx'.1 5 1 = nI n) (ew : mm.1 0 83 = nI w) (w30 : w ≤ 130) (e83 : mm'.1 0 83 = nI w) (e56 : ∀ j, j < w → mm'.1 56 j = mm.1 56 j) (hk : kps [4, 64] [(0, 15), (3, 1), (65, 7), (65, 8)] S F = true) (hk' : kps [2] [(0, 7), (0, 8), (0, 76)] S' F' = true) (k4 : kps [3, 4, 5, 6, 7, 8, 9, 10, 11, 12, 13, 14, 15, 16, 17, 18, 19, 20, 21] [] S' F' = true := by decide) : CoR mx' mm' := by
  obtain ⟨h1, h2, h3, h4, n, n1, n2, n3, n4⟩ := h
  refine ⟨⟨0, by omega, e1, e2, fun j hj => absurd hj (Nat.not_lt_zero _)⟩, ?_, ⟨?_, ?_, e5, WdM_f h3.2.2.2 hf' k4⟩, ?_, n, n1, ?_, ?_, fun j hj => ?_⟩
  · rw [show mm'.1 2 = mm.1 2 from fl2_ic hf' (kps_c hk' (by simp)), show mx'.1 64 = mx.1 64 from fl2_ic hf (kps_c hk (by simp))]; exact h2
  · rw [show mm'.1 0 7 = mm.1 0 7 from fl2_i hf' (kps_g hk' (by simp)), show mx'.1 65 7 = mx.1 65 7 from fl2_i hf (kps_g hk (by simp))]; exact h3.1
  · rw [show mm'.1 0 8 = mm.1 0 8 from fl2_i hf' (kps_g hk' (by simp)), show mx'.1 65 8 = mx.1 65 8 from fl2_i hf (kps_g hk (by simp))]; exact h3.2.1
  · rw [show mm'.2.1 0 76 = mm.2.1 0 76 from fl2_j hf' (kps_g hk' (by simp)), show mx'.2.1 0 15 = mx.2.1 0 15 from fl2_j hf (kps_g hk (by simp))]; exact h4
  · rw [show mx'.1 3 1 = mx.1 3 1 from fl2_i hf (kps_g hk (by simp))]; exact n2
  · rw [e83, ← n3, ew]
  · have : n = w := (nI_eq (by omega) (by omega)).mp (n3.symm.trans ew)
    rw [e56 j (by omega), show mx'.1 4 = mx.1 4 from fl2_ic hf (kps_c hk (by simp))]
    exact n4 j hj
theorem J58_s (r : Int32) (m : zM) : ∃ rx, f_PA_which_J58 r m = some rx := by
  have : ok (f_PA_which_J58 r m) (fun _ => True) := by
    unfold f_PA_which_J58
    refine ok_lt (ok_it (fun _ => ok_eb (refX (i := 5) (by decide) _) (ok_mk trivial)) (fun _ => ok_mk trivial))
  obtain ⟨a, ea, _⟩ := this
  exact ⟨a, ea⟩
theorem c_which {mx mm : zM} (h : IvW mx mm) : Alk (f_PA_which mx) (f_MO_which mm) := by
  obtain ⟨n, g, n0, n1, n2, n3⟩ := CoR_tp h.1
  obtain ⟨_, _, ⟨_, _, ⟨n5, hn5, e5⟩, _⟩, _, w, w30, _, ew, _⟩ := id h.1
  have f0 : fl2 [] [(0, 1)] mm (sI mm 0 1 0) := fl2_I (inS_f (by simp))
  have fin : ∀ (r : Int32) (px pm mm2 : zM), fl2 [6, 40, 41] [(5, 1)] mx px → (∃ n, n < 2 ^ 31 ∧ px.1 5 1 = nI n) → fl2 (57 :: WhS) ((0, 1) :: WhF) mm pm → pm.1 0 1 = nI 0 → (∀ j, j < w → pm.1 57 j = mm.1 56 j) → (∀ m' mx', fl2 [56] [(0, 83)] pm m' → fl2 [6, 40, 41] [(1, 1), (5, 1)] mx mx' → CoR mx' m' → IvW mx' m') → Alk (f_PA_which_J58 r px) (f_MO_which_J93 (nI w) r pm) := by
    intro r px pm _ fx x5 fm m1 m57 iv
    unfold f_PA_which_J58
    obtain ⟨c1, c2⟩ := cut1 (m := px) (n0 := n) (by rw [fl2_i fx (by decide)]; exact n1.1) (by omega)
    have fx' : fl2 [6, 40, 41] [(1, 1), (5, 1)] mx (f_Bytes_cut 1 0 px) := fl2_tr (fl2_su fx (by decide)) (fl2_su c1 (by decide))
    obtain ⟨n6, hn6, e6⟩ := x5
    refine ok_lt ?_
    have key : ∀ m', fl2 [56] [(0, 83)] pm m' → m'.1 0 83 = nI w → (∀ j, j < w → m'.1 56 j = pm.1 57 j) → IvW (f_Bytes_cut 1 0 px) m' := by
      intro m' f2 e83 e56
      refine iv m' _ f2 fx' (CoR_w (w := w) h.1 fx' (fl2_tr (fl2_su fm (by decide)) (fl2_su f2 (by decide)) : fl2 (57 :: WhS) ((0, 1) :: WhF) mm m') c2 (by rw [fl2_i f2 (by decide)]; exact m1) ⟨n6, hn6, by rw [fl2_i c1 (by decide)]; exact e6⟩ ew w30 e83 (fun j hj => by rw [e56 j hj, m57 j hj]) (by decide) (by decide))
    refine ok_it (fun z => ?_) (fun z => ?_)
    · rw [show f_PA_refuse 5 (f_Bytes_cut 1 0 px) = _ from refX (i := 5) (by decide) _]
      refine ok_mk (resM w30 (fun m' f2 e83 e56 => ?_))
      unfold f_MO_which_J127
      refine ok_ip z ?_
      rw [show f_MO_refuses 5 m' = _ from refM (i := 5) (by decide) m']
      exact ok_mk ⟨rfl, IvRf (key m' f2 e83 e56) (by decide)⟩
    · refine ok_mk (resM w30 (fun m' f2 e83 e56 => ?_))
      unfold f_MO_which_J127
      exact ok_in z (ok_mk ⟨rfl, key m' f2 e83 e56⟩)
  obtain ⟨hc, hn | ⟨P, N, W, D, pr, sp, b, ht⟩⟩ := id h
  · unfold f_PA_which f_PA_which_L4 f_MO_which
    refine ok_for 0 (fun k (s : Int32 × Int32 × zM) => s = (-1, 0, mx)) (k0 := 0) rfl (Nat.zero_le _) ?_
    rintro k s - hk e
    subst e
    unfold f_PA_which_B4
    refine ok_ip hn.1 (ok_zl ?_)
    rw [n2, ew]
    refine ok_mo (K := fun p => ok (f_MO_which_L20 (nI n) (nI w) (-1) 0 (sI mm 0 1 0)) (fun q => p.1 = q.1 ∧ IvW p.2 q.2)) ?_ (fun p hp => ok_lt hp)
    obtain ⟨rx, ex, hx⟩ : ∃ rx, f_PA_which_J58 (-1) mx = some rx ∧ ∀ pm, fl2 (57 :: WhS) ((0, 1) :: WhF) mm pm → pm.1 0 1 = nI 0 → (∀ j, j < w → pm.1 57 j = mm.1 56 j) → (∀ m' mx', fl2 [56] [(0, 83)] pm m' → fl2 [6, 40, 41] [(1, 1), (5, 1)] mx mx' → CoR mx' m' → IvW mx' m') → ok (f_MO_which_J93 (nI w) (-1) pm) (fun q => rx.1 = q.1 ∧ IvW rx.2 q.2) := by
      obtain ⟨rx, ex⟩ := J58_s (-1) mx
      refine ⟨rx, ex, fun pm fm m1 m57 iv => ?_⟩
      have := fin (-1) mx pm pm fl2_rf ⟨n5, hn5, e5⟩ fm m1 m57 iv
      unfold Alk at this
      rw [ex] at this
      obtain ⟨a, ea, ha⟩ := this
      cases ea
      exact ha
    rw [ex]
    refine ok_mk (savM w30 (fun m' f1 s1 => ?_))
    have f2 : fl2 [57] [(0, 1)] mm m' := fl2_tr (fl2_su f0 (by decide)) (fl2_su f1 (by decide))
    unfold f_MO_which_J46 f_MO_which_L49
    refine ok_for 0 (fun k (s : Int32 × Int32 × zM) => s = (-1, 0, m')) (k0 := 0) rfl (Nat.zero_le _) ?_
    rintro k s - hk e
    subst e
    unfold f_MO_which_B49
    refine ok_ip (show m'.1 0 33 = 0 by rw [fl2_i f2 (by decide)]; exact hn.2.1) (ok_zl (hx m' (fl2_su f2 (by decide)) (by rw [fl2_i f1 (by decide), rd_I1]; rfl) (fun j hj => by rw [s1 j hj, rd_Ic (by omega)]) (fun m'' mx' g1 g2 gc => ⟨gc, Or.inl (NtR_f hn g2 (fl2_tr (fl2_su f2 (by decide)) (fl2_su g1 (by decide)) : fl2 [56, 57] [(0, 1), (0, 83)] mm m'') (by decide) (by decide))⟩)))
  · unfold Alk
    refine whichX ht n1 n0 e5 hn5 (fun r px wr fx x5 => ?_)
    unfold f_MO_which
    rw [n2, ew]
    have t0 := Told_m ht f0 (by decide) (by decide) (by decide) (by decide) (by decide) (by decide) (by decide) (by decide)
    obtain ⟨rx, ex, hx⟩ : ∃ rx, f_PA_which_J58 r px = some rx ∧ ∀ pm, fl2 (57 :: WhS) ((0, 1) :: WhF) mm pm → pm.1 0 1 = nI 0 → (∀ j, j < w → pm.1 57 j = mm.1 56 j) → Told P N W D pr sp b mx pm → ok (f_MO_which_J93 (nI w) r pm) (fun q => rx.1 = q.1 ∧ IvW rx.2 q.2) := by
      obtain ⟨rx, ex⟩ := J58_s r px
      refine ⟨rx, ex, fun pm fm m1 m57 tp => ?_⟩
      have := fin r px pm pm fx x5 fm m1 m57 (fun m' mx' g1 g2 gc => ⟨gc, Or.inr ⟨P, N, W, D, pr, sp, b, Told_x (Told_m tp g1 (by decide) (by decide) (by decide) (by decide) (by decide) (by decide) (by decide) (by decide)) g2 (by decide) (by decide) (by decide) (by decide) (by decide) (by decide) (by decide)⟩⟩)
      unfold Alk at this
      rw [ex] at this
      obtain ⟨a, ea, ha⟩ := this
      cases ea
      exact ha
    rw [ex]
    refine ok_mk (ok_lt (savM w30 (fun m' f1 s1 => ?_)))
    have t1 := Told_m t0 f1 (by decide) (by decide) (by decide) (by decide) (by decide) (by decide) (by decide) (by decide)
    have f2 : fl2 [57] [(0, 1)] mm m' := fl2_tr (fl2_su f0 (by decide)) (fl2_su f1 (by decide))
    refine whichM (g := g) t1 (fun j hj => by rw [fl2_ic f2 (fun j => by simp [inS])]; exact n3 j hj) n0 (fun r' pm wr' fm tp => ?_)
    rw [← wchR_u wr wr']
    refine hx pm (fl2_tr (fl2_su f2 (by decide)) (fl2_su fm (by decide))) ?_ (fun j hj => ?_) tp
    · rw [fl2_i fm (by decide), fl2_i f1 (by decide), rd_I1]; rfl
    · rw [fl2_ic fm (fun j => by simp [inS, WhS, WhF, MS, MF]), s1 j hj, rd_Ic (by omega)]
