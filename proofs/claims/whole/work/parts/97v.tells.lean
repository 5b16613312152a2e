/-- the greatest of n numbers -/
def mxk (f : Nat → Nat) : Nat → Nat
  | 0 => 0
  | k + 1 => max (mxk f k) (f k)
theorem mxk_cg {f g : Nat → Nat} {n : Nat} (h : ∀ k, k < n → f k = g k) : mxk f n = mxk g n := by
  induction n with
  | zero => rfl
  | succ n ih =>
    show max (mxk f n) (f n) = max (mxk g n) (g n)
    rw [ih (fun k hk => h k (by omega)), h n (by omega)]
theorem mxk_up {f g : Nat → Nat} {n j : Nat} (h1 : ∀ k, k ≠ j → g k = f k) (h2 : g j = f j + 1) (hj : j < n) : mxk g n = max (mxk f n) (f j + 1) := by
  induction n with
  | zero => omega
  | succ n ih =>
    show max (mxk g n) (g n) = max (max (mxk f n) (f n)) (f j + 1)
    by_cases e : j = n
    · rw [mxk_cg (f := g) (g := f) (fun k hk => h1 k (by omega)), ← e, h2, e]
      omega
    · rw [ih (by omega), h1 n (by omega)]
      omega
theorem mxk_le {f : Nat → Nat} {n b : Nat} (h : ∀ k, k < n → f k ≤ b) : mxk f n ≤ b := by
  induction n with
  | zero => exact Nat.zero_le _
  | succ n ih =>
    have := ih (fun k hk => h k (by omega))
    have := h n (by omega)
    show max (mxk f n) (f n) ≤ b
    omega
/-- the i-th of those counted -/
def elA (p : Nat → Bool) (N i : Nat) : Nat := fi (fun w => p w && decide (cn p w = i)) N
theorem elA_e {p : Nat → Bool} {N w : Nat} (hw : w < N) (h : p w = true) : elA p N (cn p w) = w := by
  obtain ⟨k1, k2, _⟩ := fi_ex (p := fun v => p v && decide (cn p v = cn p w)) hw (by rw [h, decide_eq_true rfl]; rfl)
  have k2 : (p (elA p N (cn p w)) && decide (cn p (elA p N (cn p w)) = cn p w)) = true := k2
  rw [Bool.and_eq_true] at k2
  exact cn_un k2.1 h (of_decide_eq_true k2.2)
theorem cn_el {p q : Nat → Bool} {N : Nat} : ∀ u, u ≤ N → cn (fun i => q (elA p N i)) (cn p u) = cn (fun w => p w && q w) u := by
  intro u
  induction u with
  | zero => exact fun _ => rfl
  | succ u ih =>
    intro hu
    cases e : p u with
    | false =>
      rw [cn_s0 e, cn_s0 (by rw [e]; rfl)]
      exact ih (by omega)
    | true =>
      rw [cn_s1 e]
      show cn (fun i => q (elA p N i)) (cn p u) + (if q (elA p N (cn p u)) = true then 1 else 0) = cn (fun w => p w && q w) u + (if (p u && q u) = true then 1 else 0)
      rw [ih (by omega), elA_e (by omega) e, e, Bool.true_and]
/-- how many worlds that could be have so many agents in a state; the most -/
noncomputable def tlN (P : Nat → Nat) (N : Nat) (W : Nat → Nat) (p : Nat → Bool) (s k : Nat) : Nat := cn (fun w => p w && decide (cst P (W w) s = k)) N
noncomputable def mLN (P : Nat → Nat) (N : Nat) (W : Nat → Nat) (p : Nat → Bool) (s : Nat) : Nat := mxk (tlN P N W p s) 5
theorem mLN_le {P : Nat → Nat} {N : Nat} {W : Nat → Nat} {p : Nat → Bool} {s : Nat} : mLN P N W p s ≤ N := mxk_le (fun _ _ => cn_le _ _)
theorem mostX {P : Nat → Nat} {N s : Nat} {W D pr sp : Nat → Nat} {p : Nat → Bool} {m : zM} (hP : tV P) (hN : N ≤ 600) (hA : AXm P N W D pr sp m) (h7 : m.1 48 7 = nI (cn p N)) (h53 : ∀ w, w < N → p w = true → m.1 53 (cn p w) = nI w) (hs : s < 6) : ok (f_Sight_mostLeft (nI s) m) (fun q => fl2 [54] [] m q.2 ∧ q.1 = nI (mLN P N W p s)) := by
  have p3 := hP.1.2.1
  have cl := cn_le p N
  unfold f_Sight_mostLeft
  refine ok_bi (fillX (c := 54) (x := 0) (m := m) (by decide)) (fun p1 ⟨g0, f0⟩ => ?_)
  unfold f_Sight_mostLeft_L13
  refine ok_for (cn p N) (fun j (t : Int32 × Int32 × zM) => t.1 = nI (mxk (fun k => cn (fun i => decide (cst P (W (elA p N i)) s = k)) j) 5) ∧ t.2.1 = nI j ∧ fl2 [54] [] m t.2.2 ∧ ∀ k, k < 5 → t.2.2.1 54 k = nI (cn (fun i => decide (cst P (W (elA p N i)) s = k)) j)) (k0 := 0) ⟨rfl, rfl, f0, fun k hk => g0 k hk⟩ (Nat.zero_le _) ?_
  rintro j ⟨x, y, m1⟩ - hj ⟨e1, e2, f1, g1⟩
  have e1 : x = nI (mxk (fun k => cn (fun i => decide (cst P (W (elA p N i)) s = k)) j) 5) := e1
  have e2 : y = nI j := e2
  subst e1 e2
  have f1 : fl2 [54] [] m m1 := f1
  have g1 : ∀ k, k < 5 → m1.1 54 k = nI (cn (fun i => decide (cst P (W (elA p N i)) s = k)) j) := g1
  unfold f_Sight_mostLeft_B13
  refine ok_le (cn p N) j (fun q => ok_mk ⟨f1, ?_⟩) (fun q => ok_ix rfl (by omega : j < 600) (by decide) ?_) (hx := by rw [fl2_i f1 (by decide)]; exact h7)
  · show nI _ = nI (mxk (tlN P N W p s) 5)
    rw [show j = cn p N by omega]
    congr 1
    exact mxk_cg (fun k _ => cn_el (q := fun w => decide (cst P (W w) s = k)) N (Nat.le_refl _))
  · obtain ⟨w, w1, w2, w3⟩ := cn_at q
    have ew : elA p N j = w := by rw [← w3]; exact elA_e w1 w2
    have e53 : m1.1 53 j = nI w := by rw [fl2_ic f1 (fun j => by simp [inS]), ← w3]; exact h53 w w1 w2
    have c3 := cst_l3 (P := P) (x := W w) (s := s)
    have cj := cn_le (fun i => decide (cst P (W (elA p N i)) s = cst P (W w) s)) j
    have ml : mxk (fun k => cn (fun i => decide (cst P (W (elA p N i)) s = k)) j) 5 ≤ j := mxk_le (fun _ _ => cn_le _ _)
    show ok ((f_Atlas_inState (m1.1 53 j) (nI s) m1).bind _) _
    rw [e53]
    refine ok_eb (inStA hP hN (AXm_fl hA f1 (by decide)) w1 (by omega)) (ok_ix rfl (by omega : cst P (W w) s < 5) (by decide) (ok_ix rfl (by omega : cst P (W w) s < 5) (by decide) (ok_lt (ok_ix rfl (by omega : cst P (W w) s < 5) (by decide) (ok_mk ⟨q, ?_, nI_1 j, fl2_tr f1 (fl2_I (inS_c (by simp))), fun k hk => ?_⟩)))))
    · show f_Math_max (nI (mxk (fun k => cn (fun i => decide (cst P (W (elA p N i)) s = k)) j) 5)) ((sI m1 54 (cst P (W w) s) (m1.1 54 (cst P (W w) s) + 1)).1 54 (cst P (W w) s)) = _
      have up : mxk (fun k => cn (fun i => decide (cst P (W (elA p N i)) s = k)) (j + 1)) 5 = max (mxk (fun k => cn (fun i => decide (cst P (W (elA p N i)) s = k)) j) 5) (cn (fun i => decide (cst P (W (elA p N i)) s = cst P (W w) s)) j + 1) := by
        refine mxk_up (f := fun k => cn (fun i => decide (cst P (W (elA p N i)) s = k)) j) (j := cst P (W w) s) (fun k hk => ?_) ?_ (by omega)
        · exact cn_s0 (p := fun i => decide (cst P (W (elA p N i)) s = k)) (decide_eq_false (by rw [ew]; exact fun z => hk z.symm))
        · exact cn_s1 (p := fun i => decide (cst P (W (elA p N i)) s = cst P (W w) s)) (decide_eq_true (by rw [ew]))
      rw [rd_I1, g1 _ (by omega), nI_1, up]
      unfold f_Math_max
      by_cases z : mxk (fun k => cn (fun i => decide (cst P (W (elA p N i)) s = k)) j) 5 < cn (fun i => decide (cst P (W (elA p N i)) s = cst P (W w) s)) j + 1
      · rw [if_pos ((nI_ltI (by omega) (by omega)).mpr z), Nat.max_eq_right (by omega)]
      · rw [if_neg (fun y => z ((nI_ltI (by omega) (by omega)).mp y)), Nat.max_eq_left (by omega)]
    · show (sI m1 54 (cst P (W w) s) (m1.1 54 (cst P (W w) s) + 1)).1 54 k = _
      by_cases z : k = cst P (W w) s
      · rw [z, rd_I1, g1 _ (by omega), cn_s1 (decide_eq_true (by rw [ew])), nI_1]
      · rw [rd_I0 (fun y => z y.2), cn_s0 (decide_eq_false (by rw [ew]; exact fun y => z y.symm))]; exact g1 k hk
theorem mostM {P : Nat → Nat} {N s : Nat} {W D : Nat → Nat} {p : Nat → Bool} {m : zM} (hP : tV P) (ht : tM 23 P m) (hL : LMx P 16 N W D m) (h54 : ∀ w, w < N → m.1 54 w = b2i (p w)) (hs : s < 6) : ok (f_MO_mostBy (nI s) m) (fun q => fl2 [25] [(0, 36)] m q.2 ∧ q.1 = nI (mLN P N W p s)) := by
  have p3 := hP.1.2.1
  have l2 := hL.2.1
  unfold f_MO_mostBy f_MO_mostBy_L4
  refine ok_for 5 (fun k (t : Int32 × Int32 × zM) => t.1 = nI (mxk (tlN P N W p s) k) ∧ t.2.1 = nI k ∧ fl2 [25] [(0, 36)] m t.2.2) (k0 := 0) ⟨rfl, rfl, fl2_rf⟩ (Nat.zero_le _) ?_
  rintro k ⟨x, y, m1⟩ - hk ⟨e1, e2, f1⟩
  have e1 : x = nI (mxk (tlN P N W p s) k) := e1
  have e2 : y = nI k := e2
  subst e1 e2
  have f1 : fl2 [25] [(0, 36)] m m1 := f1
  have ml : mxk (tlN P N W p s) k ≤ N := mxk_le (fun _ _ => cn_le _ _)
  unfold f_MO_mostBy_B4
  refine ok_ll 4 k (fun q => ok_mk ⟨f1, ?_⟩) (fun q => ?_)
  · show nI (mxk (tlN P N W p s) k) = nI (mxk (tlN P N W p s) 5)
    rw [show k = 5 by omega]
  unfold f_MO_mostBy_L15
  refine ok_for N (fun u (t : Int32 × Int32 × zM) => t.1 = nI (cn (fun w => p w && decide (cst P (W w) s = k)) u) ∧ t.2.1 = nI u ∧ fl2 [25] [(0, 36)] m t.2.2) (k0 := 0) ⟨rfl, rfl, f1⟩ (Nat.zero_le _) ?_
  rintro u ⟨x, y, m2⟩ - hu ⟨e1, e2, f2⟩
  have e1 : x = nI (cn (fun w => p w && decide (cst P (W w) s = k)) u) := e1
  have e2 : y = nI u := e2
  subst e1 e2
  have f2 : fl2 [25] [(0, 36)] m m2 := f2
  have L2 := LMx_fl hL f2 (by decide) (by decide)
  have cu := cn_le (fun w => p w && decide (cst P (W w) s = k)) u
  unfold f_MO_mostBy_B15 f_MO_mostBy_J48
  refine ok_le N u (fun q1 => ok_zl ?_) (fun q1 => ok_ix rfl (by omega : u < 608) (by decide) ?_) (hx := L2.2.2.2.1.1)
  · unfold f_MO_mostBy_J54 f_MO_mostBy_J63
    have eu : u = N := by omega
    subst eu
    have sx : mxk (tlN P u W p s) (k + 1) = max (mxk (tlN P u W p s) k) (cn (fun w => p w && decide (cst P (W w) s = k)) u) := rfl
    refine ok_le (cn (fun w => p w && decide (cst P (W w) s = k)) u) (mxk (tlN P u W p s) k) (fun z => ok_mk ⟨by omega, ?_, nI_1 k, f2⟩) (fun z => ok_mk ⟨by omega, ?_, nI_1 k, f2⟩)
    · rw [sx, Nat.max_eq_left z]
    · rw [sx, Nat.max_eq_right (by omega)]
  · show ok (if m2.1 54 u = 0 then _ else _) _
    rw [fl2_ic f2 (fun j => by simp [inS]), h54 u q1]
    have c3 := cst_l3 (P := P) (x := W u) (s := s)
    refine ok_it (fun z => ok_mk ⟨q1, ?_, nI_1 u, f2⟩) (fun z => ok_bi (inStM hP (tM_fl ht f2 (by decide)) L2 q1 (by omega)) (fun r ⟨fr, er⟩ => ok_ee (cst P (W u) s) k (fun y => ok_mk ⟨q1, ?_, nI_1 u, fl2_tr f2 fr⟩) (fun y => ok_mk ⟨q1, ?_, nI_1 u, fl2_tr f2 fr⟩) (hx := er)))
    · rw [cn_s0 (by rw [b2i_f z]; rfl)]
    · rw [cn_s1 (by rw [b2i_t z, decide_eq_true y]; rfl)]; exact nI_1 _
    · rw [cn_s0 (by rw [b2i_t z, decide_eq_false y]; rfl)]
/-- the state that tells most -/
def bstN (L : Nat → Nat) : Nat → Nat
  | 0 => 0
  | k + 1 => if L (bstN L k) ≤ L k then bstN L k else k
theorem bstN_1 (L : Nat → Nat) : bstN L 1 = 0 := by
  show (if L 0 ≤ L 0 then 0 else 0) = 0
  rw [if_pos (Nat.le_refl _)]
theorem bstN_lt (L : Nat → Nat) (k : Nat) : bstN L (k + 1) ≤ k := by
  induction k with
  | zero => rw [bstN_1]; exact Nat.le_refl _
  | succ k ih =>
    show (if L (bstN L (k + 1)) ≤ L (k + 1) then bstN L (k + 1) else k + 1) ≤ k + 1
    split <;> omega
theorem telX {P : Nat → Nat} {N : Nat} {W D pr sp : Nat → Nat} {p : Nat → Bool} {m : zM} (hP : tV P) (hN : N ≤ 600) (hA : AXm P N W D pr sp m) (h7 : m.1 48 7 = nI (cn p N)) (h53 : ∀ w, w < N → p w = true → m.1 53 (cn p w) = nI w) : ok (f_Sight_tellingState (nI (P 0)) m) (fun q => fl2 [54] [] m q.2 ∧ q.1 = nI (bstN (mLN P N W p) (P 0))) := by
  obtain ⟨a1, a2, a3, a4, a5, a6, a7⟩ := hP.1
  unfold f_Sight_tellingState f_Sight_tellingState_L5
  refine ok_for (P 0) (fun k (t : Int32 × Int32 × zM) => t.1 = nI (bstN (mLN P N W p) k) ∧ t.2.1 = nI k ∧ fl2 [54] [] m t.2.2) (k0 := 1) ⟨by rw [bstN_1]; rfl, rfl, fl2_rf⟩ (by omega) ?_
  rintro k ⟨x, y, m1⟩ k1 hk ⟨e1, e2, f1⟩
  have e1 : x = nI (bstN (mLN P N W p) k) := e1
  have e2 : y = nI k := e2
  subst e1 e2
  have f1 : fl2 [54] [] m m1 := f1
  have bl := bstN_lt (mLN P N W p) (k - 1)
  rw [show k - 1 + 1 = k by omega] at bl
  unfold f_Sight_tellingState_B5 f_Sight_tellingState_J30
  refine ok_le (P 0) k (fun q => ok_mk ⟨f1, ?_⟩) (fun q => ?_)
  · show nI (bstN (mLN P N W p) k) = _
    rw [show k = P 0 by omega]
  have st : ∀ m2, fl2 [54] [] m m2 → ∀ s, s < 6 → ok (f_Sight_mostLeft (nI s) m2) (fun q => fl2 [54] [] m q.2 ∧ q.1 = nI (mLN P N W p s)) := fun m2 f2 s hs => ok_mo (mostX hP hN (AXm_fl hA f2 (by decide)) (by rw [fl2_i f2 (by decide)]; exact h7) (fun w w1 w2 => by rw [fl2_ic f2 (fun j => by simp [inS])]; exact h53 w w1 w2) hs) (fun r hr => ⟨fl2_tr f2 hr.1, hr.2⟩)
  refine ok_bi (st m1 f1 k (by omega)) (fun p1 ⟨f2, e2⟩ => ok_bi (st p1.2 f2 (bstN (mLN P N W p) k) (by omega)) (fun p2 ⟨f3, e3⟩ => ?_))
  have l1 := mLN_le (P := P) (N := N) (W := W) (p := p) (s := k)
  have l2 := mLN_le (P := P) (N := N) (W := W) (p := p) (s := bstN (mLN P N W p) k)
  have sx : bstN (mLN P N W p) (k + 1) = if mLN P N W p (bstN (mLN P N W p) k) ≤ mLN P N W p k then bstN (mLN P N W p) k else k := rfl
  refine ok_le (mLN P N W p (bstN (mLN P N W p) k)) (mLN P N W p k) (fun z => ok_mk ⟨q, ?_, nI_1 k, f3⟩) (fun z => ok_mk ⟨q, ?_, nI_1 k, f3⟩) (hx := e3) (hy := e2)
  · rw [sx, if_pos z]
  · rw [sx, if_neg (by omega)]
theorem tellM {P : Nat → Nat} {N : Nat} {W D : Nat → Nat} {p : Nat → Bool} {v : Int32} {m : zM} {K : Int32 × zM → Prop} (hP : tV P) (ht : tM 23 P m) (hL : LMx P 16 N W D m) (h54 : ∀ w, w < N → m.1 54 w = b2i (p w)) (c : ∀ m', fl2 [25] [(0, 36)] m m' → ok (f_MO_tells_J61 v (nI (bstN (mLN P N W p) (P 0))) m') K) : ok (f_MO_tells_L30 v 0 1 m) K := by
  obtain ⟨a1, a2, a3, a4, a5, a6, a7⟩ := hP.1
  have l2 := hL.2.1
  unfold f_MO_tells_L30
  refine ok_for (P 0) (fun k (t : Int32 × Int32 × zM) => t.1 = nI (bstN (mLN P N W p) k) ∧ t.2.1 = nI k ∧ fl2 [25] [(0, 36)] m t.2.2) (k0 := 1) ⟨by rw [bstN_1]; rfl, rfl, fl2_rf⟩ (by omega) ?_
  rintro k ⟨x, y, m1⟩ k1 hk ⟨e1, e2, f1⟩
  have e1 : x = nI (bstN (mLN P N W p) k) := e1
  have e2 : y = nI k := e2
  subst e1 e2
  have f1 : fl2 [25] [(0, 36)] m m1 := f1
  have bl := bstN_lt (mLN P N W p) (k - 1)
  rw [show k - 1 + 1 = k by omega] at bl
  unfold f_MO_tells_B30 f_MO_tells_J55
  refine ok_ix rfl (by decide : 0 < 184) (by decide) (ok_le (P 0) k (fun q => ok_zl ?_) (fun q => ?_) (hx := tM_n (tM_fl ht f1 (by decide)) (by decide) (by decide)))
  · have := c m1 f1
    rw [show P 0 = k by omega] at this
    exact this
  have st : ∀ m2, fl2 [25] [(0, 36)] m m2 → ∀ s, s < 6 → ok (f_MO_mostBy (nI s) m2) (fun q => fl2 [25] [(0, 36)] m q.2 ∧ q.1 = nI (mLN P N W p s)) := fun m2 f2 s hs => ok_mo (mostM hP (tM_fl ht f2 (by decide)) (LMx_fl hL f2 (by decide) (by decide)) (fun w w1 => by rw [fl2_ic f2 (fun j => by simp [inS])]; exact h54 w w1) hs) (fun r hr => ⟨fl2_tr f2 hr.1, hr.2⟩)
  refine ok_bi (st m1 f1 k (by omega)) (fun p1 ⟨f2, e2⟩ => ok_bi (st p1.2 f2 (bstN (mLN P N W p) k) (by omega)) (fun p2 ⟨f3, e3⟩ => ?_))
  have l1 := mLN_le (P := P) (N := N) (W := W) (p := p) (s := k)
  have l2 := mLN_le (P := P) (N := N) (W := W) (p := p) (s := bstN (mLN P N W p) k)
  have sx : bstN (mLN P N W p) (k + 1) = if mLN P N W p (bstN (mLN P N W p) k) ≤ mLN P N W p k then bstN (mLN P N W p) k else k := rfl
  refine ok_le (mLN P N W p (bstN (mLN P N W p) k)) (mLN P N W p k) (fun z => ok_mk ⟨q, ?_, nI_1 k, f3⟩) (fun z => ok_mk ⟨q, ?_, nI_1 k, f3⟩) (hx := e3) (hy := e2)
  · rw [sx, if_pos z]
  · rw [sx, if_neg (by omega)]
theorem c_tells {a1 : Int32} {mx mm : zM} (h : IvW mx mm) : Alk (f_PA_tells a1 mx) (f_MO_tells a1 mm) := by
  obtain ⟨hc, hn | ⟨P, N, W, D, pr, sp, b, ht⟩⟩ := id h
  · unfold f_PA_tells f_MO_tells
    rw [if_pos hn.1, ntA hn]
    exact ok_mk (ok_eb rfl (ok_in Bool.false_ne_true (ok_mk ⟨rfl, h⟩)))
  · obtain ⟨p, ep, z1, z2, z3, z4⟩ := askT ht
    obtain ⟨⟨h1, h2, h3, h4, h5, h6, h7⟩, r0, g1, g2, g3, g4, g5⟩ := ht.1
    obtain ⟨a1', a2', a3', a4', a5', a6', a7'⟩ := h1.1
    have hq : Qy P N W D pr sp b mx mm p.2 := ⟨hc, ht, z2, z3, z4⟩
    obtain ⟨r, s, st, mn, hS⟩ := SgB_i.mp ht.2.2.2
    unfold f_PA_tells f_MO_tells
    rw [ep]
    refine ok_in (by rw [g1]; decide) ?_
    have no : (∀ k, k < 2 → a1 ≠ nI k) → ok (some ((-1 : Int32), mx)) (fun q => ok ((some p).bind fun p1 => if p1.1 = true then if f_MO_isIn a1.toInt64 0 1 = true then (f_MO_laysCould p1.2).bind fun p2 => if p2.1 = 0 then some (-1, p2.2) else f_MO_tells_L30 a1 0 1 p2.2 else some (-1, p1.2) else some (-1, p1.2)) (fun w => q.1 = w.1 ∧ IvW q.2 w.2)) := fun e => ok_mk (ok_eb rfl (ok_ip z1 (ok_in (by rw [isIn_d (n := 2) (by decide) (by decide) e]; decide) (ok_mk ⟨rfl, Qy_i hq⟩))))
    rcases num_or a1 2 with ⟨v, hv, e⟩ | e
    rotate_left
    · refine ok_it (fun _ => no e) (fun q => ok_in (fun y => ?_) (no e))
      obtain ⟨k, hk, ek⟩ := nI_of q
      rw [ek] at y
      exact e k (by have := (nI_leI (a := k) (b := 1) hk (by decide)).mp y; omega) ek
    · have i2 := (isIn_c (n := 2) (x := a1) (hi := 1) (by decide) (by decide)).mpr ⟨v, hv, e⟩
      subst e
      refine ok_in (nI_pos (by omega)) (ok_ip (show nI v ≤ 1 from (nI_leI (b := 1) (by omega) (by decide)).mpr (by omega)) (looX ht hS (fun x f m rx wm hf hfx hl => ?_)))
      have cl := cn_le (cou P N W r s st mn f) N
      have lm : ok (f_MO_laysCould p.2) (fun q => fl2 [25, 26, 54, 55] [(0, 36), (0, 38)] p.2 q.2 ∧ q.1 = nI (cn (cou P N W r s st mn f) N) ∧ ∀ w, w < N → q.2.1 54 w = b2i (cou P N W r s st mn f w)) := laysM h1 z3 z4.2.1 (sigM_f hS.2.2.1 z2 (by decide)) hS.1.1 hS.1.2 rx.1 (by rw [fl2_j z2 (by decide)]; exact wm) hf hfx
      obtain ⟨q, eq, f1, e1, e2⟩ := lm
      have eM : ∀ K : Int32 × zM → Prop, ok (if q.1 = 0 then some (-1, q.2) else f_MO_tells_L30 (nI v) 0 1 q.2) K → ok ((some p).bind fun p1 => if p1.1 = true then if f_MO_isIn (nI v).toInt64 0 1 = true then (f_MO_laysCould p1.2).bind fun p2 => if p2.1 = 0 then some (-1, p2.2) else f_MO_tells_L30 (nI v) 0 1 p2.2 else some (-1, p1.2) else some (-1, p1.2)) K := fun K hK => ok_eb rfl (ok_ip z1 (ok_ip i2 (ok_eb eq hK)))
      refine ok_ee (cn (cou P N W r s st mn f) N) 0 (fun y => ok_mk (eM _ (ok_ip (by rw [e1, y]; rfl) (ok_mk ⟨rfl, IvLo hq hS hf hl m fl2_rf f1⟩)))) (fun y => ?_) (hx := hl.2.2.1)
      have Am := AXm_fl g3 hl.1 (by decide)
      have Tm := tX_fl r0.1 g2 hl.1 (by decide) h1.1.2.2.2.2.2.2.2.2.2.2.1
      have tq := tM_fl z3 f1 (by decide)
      have Lq := LMx_fl z4.2.1 f1 (by decide) (by decide)
      refine ok_eb (tb_ok (b := b) (by rw [hl.1.2]; exact r0.2.1) r0.1) (ok_ix rfl (by decide : 0 < 3) (by decide) ?_)
      rw [Tm.2.1 0 (by decide)]
      have q0 : ¬ q.1 = 0 := by rw [e1]; exact fun z => y ((nI_eq (b := 0) (by omega) (by decide)).mp z)
      have bl : bstN (mLN P N W (cou P N W r s st mn f)) (P 0) < 6 := by
        have := bstN_lt (mLN P N W (cou P N W r s st mn f)) (P 0 - 1)
        rw [show P 0 - 1 + 1 = P 0 by omega] at this
        omega
      refine ok_bi (telX h1 h3 Am hl.2.2.1 hl.2.2.2) (fun p5 ⟨f5, e5⟩ => ?_)
      rw [e5]
      refine ok_ee v 0 (fun y0 => ok_mk (eM _ (ok_in q0 (tellM h1 tq Lq e2 (fun m' fm => ?_))))) (fun y0 => ok_bi (mostX (p := cou P N W r s st mn f) h1 h3 (AXm_fl Am f5 (by decide)) (by rw [fl2_i f5 (by decide)]; exact hl.2.2.1) (fun w w1 w2 => by rw [fl2_ic f5 (fun j => by simp [inS])]; exact hl.2.2.2 w w1 w2) bl) (fun p6 ⟨f6, e6⟩ => ok_mk (eM _ (ok_in q0 (tellM h1 tq Lq e2 (fun m' fm => ?_))))))
      · unfold f_MO_tells_J61
        exact ok_ip (by rw [y0]; rfl) (ok_mk ⟨rfl, IvLo hq hS hf hl _ f5 (fl2_tr f1 (fl2_su fm (by decide)))⟩)
      · unfold f_MO_tells_J61
        refine ok_in (fun z => y0 ((nI_eq (b := 0) (by omega) (by decide)).mp z)) (ok_bi (mostM h1 (tM_fl tq fm (by decide)) (LMx_fl Lq fm (by decide) (by decide)) (fun w w1 => by rw [fl2_ic fm (fun j => by simp [inS])]; exact e2 w w1) bl) (fun p7 ⟨f7, e7⟩ => ok_mk ⟨e6.trans e7.symm, ?_⟩))
        exact IvLo hq hS hf hl _ (fl2_tr f5 f6) (fl2_tr f1 (fl2_tr (fl2_su fm (by decide)) (fl2_su f7 (by decide))))
