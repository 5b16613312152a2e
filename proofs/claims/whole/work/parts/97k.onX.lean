/-- a tape of n bytes g -/
def TpX (n : Nat) (g : Nat → Nat) (m : zM) : Prop := m.1 1 1 = nI n ∧ ∀ j, j < n → m.1 2 j = nI (g j) ∧ g j < 256
theorem gtBX {n j : Nat} {g : Nat → Nat} {v : Int32} {m : zM} (h : TpX n g m) (hn : n ≤ 1600) (hj : j < n) (e : v = nI j) : f_Bytes_get 1 v m = some (nI (g j)) := by
  unfold f_Bytes_get
  rw [e, if_neg (nI_pos (by omega)), h.1, if_neg (nI_ge hj (by omega)), ix_nI (by omega : j < 1600) (by decide), Option.bind_some]
  exact congrArg some (h.2 j hj).1
/-- what a byte tells: one more than the thing, 0 for nothing -/
def tol (v : Nat) : Nat := if v = 255 then 0 else v + 1
theorem tol_x {v : Nat} (h : v < 256) : f_Table_heldBy (nI v) = nI (tol v) - 1 := by
  unfold f_Table_heldBy tol
  by_cases e : v = 255
  · rw [e]; decide
  · rw [if_neg (show ¬ nI v = 255 from fun z => e ((nI_eq (b := 255) (by omega) (by decide)).mp z)), if_neg e, nI_pred]
/-- the image of a world in the table's words -/
def imOK (P : Nat → Nat) (n : Nat) (g : Nat → Nat) : Prop := n = 4 * P 3 + 2 ∧ g (4 * P 3 + 1) = chB g (4 * P 3 + 1) ∧ (g 0 = 255 ∨ g 0 < P 1) ∧ ∀ j, 1 ≤ j → j < 4 * P 3 + 1 → (j % 4 = 1 → g j < P 0) ∧ (j % 4 ≠ 1 → g j = 255 ∨ g j < P 2)
theorem oneOfX {P : Nat → Nat} {b v k : Nat} {m : zM} (ht : tX b P m) (hk : k < 3) (hP : P k ≤ 6) (hv : v < 256) : ok (f_Table_isOneOf b (nI v) (nI k) m) (fun r => r = true ↔ (v = 255 ∨ v < P k)) := by
  unfold f_Table_isOneOf f_Table_isOneOf_J17
  refine ok_ee v 255 (fun q => ok_mk ⟨fun _ => Or.inl q, fun _ => rfl⟩) (fun q => ok_ix rfl hk (by decide) (ok_le (P k) v (fun z => ok_mk ⟨fun y => (by cases y), fun y => by omega⟩) (fun z => ok_mk ⟨fun _ => Or.inr z, fun _ => rfl⟩) (hx := ht.2.1 k hk)))
theorem isImX {P : Nat → Nat} {b n : Nat} {g : Nat → Nat} {m : zM} (hP : tV P) (ht : tX b P m) (hT : TpX n g m) (hn : n ≤ 1600) : ok (f_Table_isImage b 1 m) (fun r => r = true ↔ imOK P n g) := by
  obtain ⟨a1, a2, a3, a4, a5, a6, a7⟩ := hP.1
  have e2 : 2 + 4 * m.1 b 0 = nI (4 * P 3 + 2) := by
    rw [ht.1.1, show (4 : Int32) = nI 4 from rfl, pk_mul, show (2 : Int32) = nI 2 from rfl, nI_add, Nat.add_comm]
  have e3 : nI (4 * P 3 + 2) - 1 = nI (4 * P 3 + 1) := by rw [show 4 * P 3 + 2 = 4 * P 3 + 1 + 1 by omega, nI_pred]
  unfold f_Table_isImage f_Bytes_size
  rw [e2, e3]
  refine ok_ee n (4 * P 3 + 2) (fun q => ?_) (fun q => ok_mk ⟨fun z => (by cases z), fun z => absurd z.1 q⟩) (hx := hT.1)
  refine ok_eb (gtBX hT hn (j := 4 * P 3 + 1) (by omega) rfl) (ok_eb (checkX (g := g) hT.1 hT.2 (by omega) hn) ?_)
  have c1 := chB_lt g (4 * P 3 + 1)
  have c2 := (hT.2 (4 * P 3 + 1) (by omega)).2
  refine ok_ee (g (4 * P 3 + 1)) (chB g (4 * P 3 + 1)) (fun q1 => ?_) (fun q1 => ok_mk ⟨fun z => (by cases z), fun z => absurd z.2.1 q1⟩)
  refine ok_eb (gtBX hT hn (j := 0) (by omega) rfl) (ok_bi (oneOfX (k := 1) ht (by decide) (by omega) (hT.2 0 (by omega)).2) (fun r4 h4 => ?_))
  refine ok_it (fun q2 => ?_) (fun q2 => ok_mk ⟨fun z => (by cases z), fun z => absurd (h4.mpr z.2.2.1) q2⟩)
  have g0 := h4.mp q2
  unfold f_Table_isImage_L53
  refine ok_for (4 * P 3 + 1) (fun k (s : Int32) => s = nI k ∧ ∀ j, 1 ≤ j → j < k → (j % 4 = 1 → g j < P 0) ∧ (j % 4 ≠ 1 → g j = 255 ∨ g j < P 2)) (k0 := 1) ⟨rfl, fun j h1 h2 => by omega⟩ (by omega) ?_
  rintro k u k1 k2 ⟨e, hk⟩
  subst e
  unfold f_Table_isImage_B53
  rw [e3]
  refine ok_le (4 * P 3 + 1) k (fun z => ok_mk ⟨fun _ => ⟨q, q1, g0, ?_⟩, fun _ => rfl⟩) (fun z => ?_)
  · rw [show 4 * P 3 + 1 = k by omega]; exact hk
  have gk := gtBX hT hn (j := k) (by omega) rfl
  have lk := (hT.2 k (by omega)).2
  have nx : ok (f_Table_isImage_J111 b 1 (nI (4 * P 3 + 2)) (nI k) m) (lp (fun r => r = true ↔ imOK P n g) (fun s => k < 4 * P 3 + 1 ∧ s = nI (k + 1) ∧ ∀ j, 1 ≤ j → j < k + 1 → (j % 4 = 1 → g j < P 0) ∧ (j % 4 ≠ 1 → g j = 255 ∨ g j < P 2))) ↔ ((k % 4 = 1 → g k < P 0) ∧ (k % 4 ≠ 1 → g k = 255 ∨ g k < P 2)) := by
    constructor
    · rintro ⟨y, ey, hy⟩
      cases ey
      exact hy.2.2 k k1 (by omega)
    · intro y
      refine ok_mk ⟨z, nI_1 k, fun j h1 h2 => ?_⟩
      rcases Nat.lt_or_ge j k with u | u
      · exact hk j h1 u
      · rw [show j = k by omega]; exact y
  rw [show ir (nI k) 4 = nI (k % 4) from pk_rem (d := 4) (by omega) (by decide) (by decide)]
  refine ok_ee (k % 4) 1 (fun y => ?_) (fun y => ?_)
  · unfold f_Table_isImage_J72
    refine ok_ip rfl (ok_eb gk (ok_ix rfl (by decide : 0 < 3) (by decide) (ok_ll (g k) (P 0) (fun w => nx.mpr ⟨fun _ => w, fun w2 => absurd y w2⟩) (fun w => ok_zl (ok_mk ⟨fun z => (by cases z), fun z => ?_⟩)) (hy := ht.2.1 0 (by decide)))))
    exact absurd ((z.2.2.2 k k1 (by omega)).1 y) (by omega)
  · unfold f_Table_isImage_J72
    refine ok_in Bool.false_ne_true (ok_eb gk (ok_bi (oneOfX (k := 2) ht (by decide) (by omega) lk) (fun r6 h6 => ?_)))
    refine ok_it (fun w => nx.mpr ⟨fun w2 => absurd w2 y, fun _ => h6.mp w⟩) (fun w => ok_mk ⟨fun z => (by cases z), fun z => ?_⟩)
    exact absurd (h6.mpr ((z.2.2.2 k k1 (by omega)).2 y)) w
/-- the world of an image -/
def imA (g : Nat → Nat) (i : Nat) : Nat := oC (g (1 + 4 * i)) (tol (g (2 + 4 * i))) (tol (g (3 + 4 * i))) (tol (g (4 + 4 * i)))
def imW (n : Nat) (g : Nat → Nat) : Nat := ky 2058 (tol (g 0)) (imA g) n
/-- bytes that tell things -/
def byO (g : Nat → Nat) (n : Nat) : Prop := tol (g 0) < 7 ∧ ∀ i, i < n → g (1 + 4 * i) < 6 ∧ tol (g (2 + 4 * i)) < 7 ∧ tol (g (3 + 4 * i)) < 7 ∧ tol (g (4 + 4 * i)) < 7
theorem byO_w {g : Nat → Nat} {n : Nat} (h : byO g n) (h0 : 0 < n) (h4 : n ≤ 4) : wV n (tol (g 0)) (imA g) := ⟨h0, h4, h.1, fun i hi => oC_lt (h.2 i hi).1 (h.2 i hi).2.1 (h.2 i hi).2.2.1 (h.2 i hi).2.2.2⟩
theorem tol_le {v k : Nat} (hv : v < 256) (hk : k ≤ 6) : tol v ≤ k ↔ (v = 255 ∨ v < k) := by
  unfold tol
  split
  · omega
  · omega
theorem imOK_b {P : Nat → Nat} {n : Nat} {g : Nat → Nat} (hP : tV P) (hg : ∀ j, j < n → g j < 256) (h : imOK P n g) : byO g (P 3) := by
  obtain ⟨a1, a2, a3, a4, a5, a6, a7⟩ := hP.1
  obtain ⟨h1, h2, h3, h4⟩ := h
  have k : ∀ j, j < n → ∀ c, c ≤ 6 → (g j = 255 ∨ g j < c) → tol (g j) < 7 := fun j hj c hc z => by
    have := (tol_le (hg j hj) hc).mpr z
    omega
  refine ⟨k 0 (by omega) _ a5 h3, fun i hi => ⟨?_, ?_, ?_, ?_⟩⟩
  · have := (h4 (1 + 4 * i) (by omega) (by omega)).1 (by omega)
    omega
  · exact k _ (by omega) _ a6 ((h4 (2 + 4 * i) (by omega) (by omega)).2 (by omega))
  · exact k _ (by omega) _ a6 ((h4 (3 + 4 * i) (by omega) (by omega)).2 (by omega))
  · exact k _ (by omega) _ a6 ((h4 (4 + 4 * i) (by omega) (by omega)).2 (by omega))
/-- a world in the table's words has an image in the table's words -/
theorem imOK_g {P : Nat → Nat} {n : Nat} {g : Nat → Nat} (hP : tV P) (hg : ∀ j, j < n → g j < 256) (h1 : n = 4 * P 3 + 2) (h2 : g (4 * P 3 + 1) = chB g (4 * P 3 + 1)) (hb : byO g (P 3)) (hw : gwd P (imW (P 3) g)) : imOK P n g := by
  obtain ⟨a1, a2, a3, a4, a5, a6, a7⟩ := hP.1
  have hv := byO_w hb (by omega) a2
  obtain ⟨e1, e2⟩ := dk_ky (h := tol (g 0)) hv.2.2.2
  obtain ⟨w1, w2⟩ := hw
  refine ⟨h1, h2, ?_, fun j j1 j2 => ?_⟩
  · refine (tol_le (hg 0 (by omega)) a5).mp ?_
    rw [← e1]; exact w1
  · have hi : (j - 1) / 4 < P 3 := by omega
    have u : gag P (imA g ((j - 1) / 4)) := by rw [← e2 _ hi]; exact w2 _ hi
    obtain ⟨b1, b2, b3, b4⟩ := hb.2 _ hi
    unfold gag imA at u
    rw [oC_S b2 b3 b4, oC_1 b2 b3 b4, oC_2 b3 b4, oC_3 b4] at u
    obtain ⟨u1, u2, u3, u4⟩ := u
    refine ⟨fun z => ?_, fun z => ?_⟩
    · rw [show 1 + 4 * ((j - 1) / 4) = j by omega] at u1; exact u1
    · refine (tol_le (hg j (by omega)) a6).mp ?_
      rcases (show j = 2 + 4 * ((j - 1) / 4) ∨ j = 3 + 4 * ((j - 1) / 4) ∨ j = 4 + 4 * ((j - 1) / 4) by omega) with z | z | z
      · rw [← z] at u2; exact u2
      · rw [← z] at u3; exact u3
      · rw [← z] at u4; exact u4
theorem devX {P : Nat → Nat} {b n : Nat} {g : Nat → Nat} {m : zM} (hP : tV P) (hb : tbv b) (ht : tX b P m) (hT : TpX n g m) (hn : n ≤ 1600) (ho : n = 4 * P 3 + 2) : ok (f_Table_develop b 1 59 m) (fun p => fl2 [59, 60] [] m p ∧ wX 59 (P 3) (tol (g 0)) (imA g) p) := by
  obtain ⟨a1, a2, a3, a4, a5, a6, a7, a8, a9, a10, a11, a12⟩ := hP.1
  unfold f_Table_develop
  have f1 : fl2 [59, 60] [] m (sI m 59 1 (m.1 b 0)) := fl2_I (inS_c (by simp))
  have T1 : TpX n g (sI m 59 1 (m.1 b 0)) := ⟨by rw [rd_I0 (by omega)]; exact hT.1, fun j hj => by rw [rd_I0 (by omega)]; exact hT.2 j hj⟩
  have l0 := (hT.2 0 (by omega)).2
  refine ok_lt (ok_eb (gtBX T1 hn (j := 0) (by omega) rfl) (ok_lt ?_))
  have f2 := fl2_tr f1 (fl2_I (m := sI m 59 1 (m.1 b 0)) (a := 59) (i := 0) (x := f_Table_heldBy (nI (g 0))) (S := [59, 60]) (F := []) (inS_c (by simp)))
  unfold f_Table_develop_L22
  refine ok_for (P 3) (fun k (s : Int32 × zM) => s.1 = nI k ∧ fl2 [59, 60] [] m s.2 ∧ s.2.1 59 0 = nI (tol (g 0)) - 1 ∧ s.2.1 59 1 = nI (P 3) ∧ ∀ i, i < k → s.2.1 60 i = nI (imA g i)) (k0 := 0) ⟨rfl, f2, ?_, ?_, fun i hi => absurd hi (Nat.not_lt_zero _)⟩ (Nat.zero_le _) ?_
  · show (sI (sI m 59 1 (m.1 b 0)) 59 0 _).1 59 0 = _
    rw [rd_I1, tol_x l0]
  · show (sI (sI m 59 1 (m.1 b 0)) 59 0 _).1 59 1 = _
    rw [rd_I0 (by omega), rd_I1]; exact ht.1.1
  rintro k ⟨u, m1⟩ - hk ⟨e, g1, g2, g3, g4⟩
  have e : u = nI k := e
  subst e
  have g1 : fl2 [59, 60] [] m m1 := g1
  have T2 : TpX n g m1 := ⟨by rw [fl2_i g1 (by decide)]; exact hT.1, fun j hj => by rw [fl2_i g1 (by simp [inS])]; exact hT.2 j hj⟩
  have t1 := tX_fl hb ht g1 (by decide) a11
  unfold f_Table_develop_B22
  refine ok_le (P 3) k (fun q => ok_mk ⟨g1, g2, g3, fun i hi => g4 i (by omega)⟩) (fun q => ?_) (hx := t1.1.1)
  have e1 : 1 + 4 * nI k = nI (1 + 4 * k) := by rw [show (4 : Int32) = nI 4 from rfl, pk_mul, show (1 : Int32) = nI 1 from rfl, nI_add]
  rw [e1]
  refine ok_eb (gtBX T2 hn (j := 1 + 4 * k) (by omega) rfl) (ok_eb (gtBX T2 hn (j := 2 + 4 * k) (by omega) ?_) (ok_eb (gtBX T2 hn (j := 3 + 4 * k) (by omega) ?_) (ok_eb (gtBX T2 hn (j := 4 + 4 * k) (by omega) ?_) (ok_ix rfl (by omega : k < 4) (by decide) (ok_lt (ok_mk ⟨q, nI_1 k, fl2_tr g1 (fl2_I (inS_c (by simp))), ?_, ?_, fun i hi => ?_⟩))))))
  · rw [nI_1]; congr 1; omega
  · rw [show (2 : Int32) = nI 2 from rfl, nI_add]; congr 1; omega
  · rw [show (3 : Int32) = nI 3 from rfl, nI_add]; congr 1; omega
  · show (sI m1 60 k _).1 59 0 = _
    rw [rd_I0 (by omega)]; exact g2
  · show (sI m1 60 k _).1 59 1 = _
    rw [rd_I0 (by omega)]; exact g3
  · show (sI m1 60 k _).1 60 i = _
    by_cases z : i = k
    · rw [z, rd_I1, tol_x (hT.2 _ (by omega)).2, tol_x (hT.2 _ (by omega)).2, tol_x (hT.2 _ (by omega)).2, cdO]
      rfl
    · rw [rd_I0 (by omega)]; exact g4 i (by omega)
/-- the number of a world, reached or not -/
theorem numG {P : Nat → Nat} {N w x : Nat} {W D pr sp : Nat → Nat} {m : zM} (hP : tV P) (hL : Lst (Ed P 16) (wx0 P) N W D) (hN : N ≤ 600) (hA : AXm P N W D pr sp m) (hx : kv (P 3) x) (hw : wX w (P 3) (dh (P 3) x) (da (P 3) x) m) (hz : zlen gX (w + 3) = 4) (hk : kps [26, 27, 28, 29, 30, 31, 32, 33, 34, 35, 36, 37] [(24, 0), (24, 1)] [w + 2, w + 3] [] = true) : ok (f_Atlas_number w m) (fun p => fl2 [w + 2, w + 3] [] m p.2 ∧ ((∃ k, k < N ∧ W k = fo (P 3) x ∧ p.1 = nI k) ∨ ((∀ k, k < N → W k ≠ fo (P 3) x) ∧ p.1 = -1))) := by
  unfold f_Atlas_number
  refine ok_bi (foldK hw hx hz) (fun p ⟨c1, c2, c3⟩ => ?_)
  have A4 := (AXm_fl hA c1 hk).1
  rw [c2]
  refine ok_bi (findX (v := lN (fo (P 3) x)) A4.2.2.1 A4.2.2.2 (by omega)) (fun r2 hr2 => ok_mk ⟨c1, ?_⟩)
  have fz := kv_lt (fo_kv hx)
  rcases hr2 with ⟨j, hj, d1, d2⟩ | ⟨d2, d1⟩
  · have wj := kv_lt (Rn_kv hP (hL.1 j hj).1).1
    exact Or.inl ⟨j, hj, (pk_lEQ (by omega) (by omega)).mp d1, d2⟩
  · exact Or.inr ⟨fun k hk z => d1 k hk (congrArg lN z), d2⟩
