/-- how many agents are in a state -/
def cst (P : Nat → Nat) (x s : Nat) : Nat := cn (fun i => decide (oS (da (P 3) x i) = s)) (P 3)
theorem cst_le (P : Nat → Nat) (x s : Nat) : cst P x s ≤ P 3 := cn_le _ _
def bdk (P : Nat → Nat) (x k : Nat) : Prop := ∀ c, c < P (28 + 7 * k) → P (28 + 7 * k + 1 + 2 * c) ≤ cst P x (P (28 + 7 * k + 2 + 2 * c))
def bdP (P : Nat → Nat) (x : Nat) : Prop := ∃ k, k < P 5 ∧ bdk P x k
noncomputable def bd (P : Nat → Nat) (x : Nat) : Bool := @decide (bdP P x) (Classical.propDecidable _)
theorem bd_iff {P : Nat → Nat} {x : Nat} : bd P x = true ↔ bdP P x := by unfold bd; exact @decide_eq_true_iff _ (Classical.propDecidable _)
theorem bd_of {P : Nat → Nat} {x : Nat} {r : Bool} (h : r = true ↔ bdP P x) : r = bd P x := Bool.eq_iff_iff.mpr (h.trans bd_iff.symm)
theorem inStX {w n h s : Nat} {a : Nat → Nat} {m : zM} (hw : wX w n h a m) (hv : wV n h a) (hs : s < 2 ^ 31) : f_World_inState w (nI s) m = some (nI (cn (fun i => decide (oS (a i) = s)) n)) := by
  have n4 := hv.2.1
  refine ok_eq.mp ?_
  unfold f_World_inState f_World_inState_L4
  refine ok_for n (fun k (t : Int32 × Int32) => t.2 = nI k ∧ t.1 = nI (cn (fun i => decide (oS (a i) = s)) k)) ⟨rfl, rfl⟩ (Nat.zero_le _) ?_
  rintro k ⟨x, y⟩ - hk ⟨e1, e2⟩
  have e1 : y = nI k := e1
  have e2 : x = nI (cn (fun i => decide (oS (a i) = s)) k) := e2
  subst e1
  subst e2
  unfold f_World_inState_B4 f_World_inState_J32
  refine ok_le n k (fun q => ok_mk (show nI _ = nI _ by rw [show k = n by omega])) (fun q => ?_) (hx := hw.2.1)
  have c8 := hv.2.2.2 k q
  have sb := oS_lt c8
  refine ok_ix rfl (show k < 4 by omega) (by decide) ?_
  rw [hw.2.2 k q, hd0 c8]
  refine ok_ee (oS (a k)) s (fun z => ok_mk ⟨q, nI_1 k, ?_⟩) (fun z => ok_mk ⟨q, nI_1 k, ?_⟩)
  · show nI _ + b2i true = _
    rw [cn_s1 (decide_eq_true z)]
    exact nI_1 _
  · show nI _ + b2i false = _
    rw [cn_s0 (decide_eq_false z)]
    exact Int32.add_zero _
theorem isBadX {P : Nat → Nat} {b w x : Nat} {m : zM} (hP : tV P) (ht : tX b P m) (hx : kv (P 3) x) (hw : wX w (P 3) (dh (P 3) x) (da (P 3) x) m) : f_Table_isBad b w m = some (bd P x) := by
  have b5 : P 5 ≤ 4 := hP.1.2.2.2.2.2.2.2.1
  refine ok_eq.mp (ok_mo (K := fun r => r = true ↔ bdP P x) ?_ (fun r hr => bd_of hr))
  unfold f_Table_isBad f_Table_isBad_L2
  refine ok_for (P 5) (fun k (s : Int32) => s = nI k ∧ ∀ j, j < k → ¬ bdk P x j) ⟨rfl, fun j hj => absurd hj (Nat.not_lt_zero _)⟩ (Nat.zero_le _) ?_
  rintro k y - hk ⟨rfl, g⟩
  unfold f_Table_isBad_B2
  refine ok_le (P 5) k (fun q => ok_mk ⟨fun h => (by cases h), fun ⟨j, h1, h2⟩ => absurd h2 (g j (by omega))⟩) (fun q => ?_) (hx := ht.1.2.2.2.1)
  obtain ⟨v1, v2⟩ := hP.2.2.1 k q
  obtain ⟨t1, t2⟩ := ht.2.2.2.1 k q
  unfold f_Table_isBad_L15
  refine ok_for (P (28 + 7 * k)) (fun c (s : Int32 × Int32) => s.2 = nI c ∧ ((s.1 = 1 ∧ ∀ c', c' < c → P (28 + 7 * k + 1 + 2 * c') ≤ cst P x (P (28 + 7 * k + 2 + 2 * c'))) ∨ (s.1 = 0 ∧ ∃ c', c' < c ∧ ¬ P (28 + 7 * k + 1 + 2 * c') ≤ cst P x (P (28 + 7 * k + 2 + 2 * c'))))) ⟨rfl, Or.inl ⟨rfl, fun c' hc => absurd hc (Nat.not_lt_zero _)⟩⟩ (Nat.zero_le _) ?_
  rintro c ⟨u, y⟩ - hc ⟨e, g2⟩
  have e : y = nI c := e
  subst e
  have g2 : (u = 1 ∧ ∀ c', c' < c → P (28 + 7 * k + 1 + 2 * c') ≤ cst P x (P (28 + 7 * k + 2 + 2 * c'))) ∨ (u = 0 ∧ ∃ c', c' < c ∧ ¬ P (28 + 7 * k + 1 + 2 * c') ≤ cst P x (P (28 + 7 * k + 2 + 2 * c'))) := g2
  unfold f_Table_isBad_B15
  refine ok_ix rfl (show k < 4 by omega) (by decide) ?_
  refine ok_le (P (28 + 7 * k)) c (fun q2 => ok_zl ?_) (fun q2 => ?_) (hx := t1)
  · unfold f_Table_isBad_J69
    rcases g2 with ⟨g3, g4⟩ | ⟨g3, c', g4, g5⟩
    · rw [g3]
      exact ok_in (show ¬ (1 : Int32) = 0 by decide) (ok_mk ⟨fun _ => ⟨k, q, fun c' hc' => g4 c' (by omega)⟩, fun _ => rfl⟩)
    · rw [g3]
      refine ok_ip rfl (ok_mk ⟨q, nI_1 k, fun j hj z => ?_⟩)
      by_cases w' : j = k
      · rw [w'] at z; exact g5 (z c' (by omega))
      · exact g j (by omega) z
  · obtain ⟨v3, v4⟩ := v2 c q2
    have cs := cst_le P x (P (28 + 7 * k + 2 + 2 * c))
    have n4 := hP.1.2.1
    have ex : nI k * 3 + nI c = nI (3 * k + c) := by rw [show (3 : Int32) = nI 3 from rfl, pk_mul, nI_add, Nat.mul_comm]
    rw [ex]
    refine ok_ix rfl (show 3 * k + c < 12 by omega) (by decide) ?_
    rw [(t2 c q2).2]
    refine ok_eb (inStX hw (kv_w hx) (by omega)) (ok_ix rfl (show 3 * k + c < 12 by omega) (by decide) ?_)
    rw [(t2 c q2).1]
    unfold f_Table_isBad_J61
    refine ok_ll (cst P x (P (28 + 7 * k + 2 + 2 * c))) (P (28 + 7 * k + 1 + 2 * c)) (fun z => ok_mk ⟨q2, nI_1 c, Or.inr ⟨?_, c, by omega, by omega⟩⟩) (fun z => ok_mk ⟨q2, nI_1 c, ?_⟩)
    · show u &&& b2i false = 0
      rcases g2 with ⟨g3, _⟩ | ⟨g3, _⟩ <;> rw [g3] <;> decide
    · rcases g2 with ⟨g3, g4⟩ | ⟨g3, c', g4, g5⟩
      · refine Or.inl ⟨by show u &&& b2i true = 1; rw [g3]; decide, fun c' hc' => ?_⟩
        by_cases w' : c' = c
        · rw [w']; exact z
        · exact g4 c' (by omega)
      · exact Or.inr ⟨by show u &&& b2i true = 0; rw [g3]; decide, c', by omega, g5⟩
theorem tpN_m {k : Nat} (h : 8 ≤ k) (h' : k < 56) : tpN k = false := by
  unfold tpN
  rw [decide_eq_false (show ¬ k = 6 by omega), decide_eq_false (show ¬ k = 7 by omega), decide_eq_false (show ¬ 56 ≤ k by omega)]
  rfl
theorem wM_a {n x i : Nat} {m : zM} (hw : wM n (dh n x) (da n x) m) (hi : i < n) (h4 : n ≤ 4) : m.1 25 i = nI (mOf (da n x i)) := by rw [hw.2 i (by omega), if_pos hi]
theorem isNeverM {P : Nat → Nat} {k x : Nat} {m : zM} (hP : tV P) (ht : tM 23 P m) (hx : kv (P 3) x) (hw : wM (P 3) (dh (P 3) x) (da (P 3) x) m) (hk : k < P 5) : ok (f_MO_isNever (nI k) m) (fun r => r = true ↔ bdk P x k) := by
  have b5 : P 5 ≤ 4 := hP.1.2.2.2.2.2.2.2.1
  have n4 := hP.1.2.1
  obtain ⟨v1, v2⟩ := hP.2.2.1 k hk
  have ep : (28 : Int32) + 7 * nI k = nI (28 + 7 * k) := by rw [show (28 : Int32) = nI 28 from rfl, show (7 : Int32) = nI 7 from rfl, pk_mul, nI_add]
  unfold f_MO_isNever f_MO_isNever_L10
  rw [ep]
  refine ok_for (P (28 + 7 * k)) (fun c (s : Int32) => s = nI c ∧ ∀ c', c' < c → P (28 + 7 * k + 1 + 2 * c') ≤ cst P x (P (28 + 7 * k + 2 + 2 * c'))) ⟨rfl, fun j hj => absurd hj (Nat.not_lt_zero _)⟩ (Nat.zero_le _) ?_
  rintro c y - hc ⟨rfl, g⟩
  unfold f_MO_isNever_B10
  refine ok_ix rfl (show 28 + 7 * k < 184 by omega) (by decide) ?_
  refine ok_le (P (28 + 7 * k)) c (fun q => ok_mk ⟨fun _ c' hc' => g c' (by omega), fun _ => rfl⟩) (fun q => ?_) (hx := tM_n ht (by omega) (tpN_m (by omega) (by omega)))
  obtain ⟨v3, v4⟩ := v2 c q
  have e1 : nI (28 + 7 * k) + 1 + 2 * nI c = nI (28 + 7 * k + 1 + 2 * c) := by rw [show (2 : Int32) = nI 2 from rfl, pk_mul, nI_1, nI_add]
  have e2 : nI (28 + 7 * k) + 2 + 2 * nI c = nI (28 + 7 * k + 2 + 2 * c) := by rw [show (2 : Int32) = nI 2 from rfl, pk_mul, nI_add, nI_add]
  unfold f_MO_isNever_L26
  refine ok_for (P 3) (fun i (s : Int32 × Int32) => s.2 = nI i ∧ s.1 = nI (cn (fun i => decide (oS (da (P 3) x i) = P (28 + 7 * k + 2 + 2 * c))) i)) ⟨rfl, rfl⟩ (Nat.zero_le _) ?_
  rintro i ⟨u, y⟩ - hi ⟨e3, e4⟩
  have e3 : y = nI i := e3
  have e4 : u = nI (cn (fun i => decide (oS (da (P 3) x i) = P (28 + 7 * k + 2 + 2 * c))) i) := e4
  subst e3
  subst e4
  have cl := cn_le (fun i => decide (oS (da (P 3) x i) = P (28 + 7 * k + 2 + 2 * c))) i
  unfold f_MO_isNever_B26 f_MO_isNever_J63
  refine ok_eb (agM (tM_n ht (by decide) (by decide))) ?_
  refine ok_le (P 3) i (fun q2 => ok_zl ?_) (fun q2 => ?_)
  · have : i = P 3 := by omega
    subst this
    unfold f_MO_isNever_J69
    rw [e1]
    refine ok_ix rfl (show 28 + 7 * k + 1 + 2 * c < 184 by omega) (by decide) ?_
    refine ok_le (P (28 + 7 * k + 1 + 2 * c)) (cst P x (P (28 + 7 * k + 2 + 2 * c))) (fun z => ok_mk ⟨q, nI_1 c, fun c' hc' => ?_⟩) (fun z => ok_mk ⟨fun h => (by cases h), fun h => ?_⟩) (hx := tM_n ht (by omega) (tpN_m (by omega) (by omega))) (hb := by have := cst_le P x (P (28 + 7 * k + 2 + 2 * c)); omega)
    · by_cases w' : c' = c
      · rw [w']; exact z
      · exact g c' (by omega)
    · have := h c q
      omega
  · have c8 := da_lt (P 3) x i
    have sb := oS_lt c8
    refine ok_ix rfl (show i < 4 by omega) (by decide) ?_
    rw [e2, wM_a hw q2 n4, (ms_S _ c8).1]
    refine ok_ix rfl (show 28 + 7 * k + 2 + 2 * c < 184 by omega) (by decide) ?_
    refine ok_ee (oS (da (P 3) x i)) (P (28 + 7 * k + 2 + 2 * c)) (fun z => ok_mk ⟨q2, nI_1 i, ?_⟩) (fun z => ok_mk ⟨q2, nI_1 i, ?_⟩) (hy := tM_n ht (by omega) (tpN_m (by omega) (by omega)))
    · show nI _ + 1 = _
      rw [cn_s1 (decide_eq_true z), nI_1]
    · show nI _ = _
      rw [cn_s0 (decide_eq_false z)]
theorem isBadM {P : Nat → Nat} {x : Nat} {m : zM} (hP : tV P) (ht : tM 23 P m) (hx : kv (P 3) x) : ok (f_MO_isBad (lN (km (P 3) x)) m) (fun p => fl2 [25] [(0, 36)] m p.2 ∧ p.1 = bd P x) := by
  have b5 : P 5 ≤ 4 := hP.1.2.2.2.2.2.2.2.1
  unfold f_MO_isBad
  refine ok_bi (opensK hx) (fun p1 ⟨o1, o2⟩ => ?_)
  have t1 := tM_fl ht o1 (by decide)
  refine ok_mo (K := fun p => p.2 = p1 ∧ (p.1 = true ↔ bdP P x)) ?_ (fun p ⟨h1, h2⟩ => ⟨by rw [h1]; exact o1, bd_of h2⟩)
  unfold f_MO_isBad_L7
  refine ok_for (P 5) (fun k (s : Int32) => s = nI k ∧ ∀ j, j < k → ¬ bdk P x j) ⟨rfl, fun j hj => absurd hj (Nat.not_lt_zero _)⟩ (Nat.zero_le _) ?_
  rintro k y - hk ⟨rfl, g⟩
  unfold f_MO_isBad_B7
  refine ok_ix (show (5 : Int32) = nI 5 from rfl) (by decide) (by decide) ?_
  refine ok_le (P 5) k (fun q => ok_mk ⟨rfl, fun h => (by cases h), fun ⟨j, h1, h2⟩ => absurd h2 (g j (by omega))⟩) (fun q => ?_) (hx := tM_n t1 (by decide) (by decide))
  refine ok_bi (isNeverM hP t1 hx o2 q) (fun r hr => ?_)
  refine ok_it (fun z => ok_mk ⟨rfl, fun _ => ⟨k, q, hr.mp z⟩, fun _ => rfl⟩) (fun z => ok_mk ⟨q, nI_1 k, fun j hj y => ?_⟩)
  by_cases w' : j = k
  · rw [w'] at y; exact z (hr.mpr y)
  · exact g j (by omega) y
/-- for how many worlds a folded one stands, as both sides count it -/
def tmr (a : Nat → Nat) : Nat → Nat
  | 0 => 0
  | i + 1 => if 0 < i ∧ a i = a (i - 1) then tmr a i + 1 else 1
def tmw (a : Nat → Nat) : Nat → Int32
  | 0 => 1
  | i + 1 => tmw a i * (nI i + 1) / nI (tmr a (i + 1))
theorem tmr_b (a : Nat → Nat) (i : Nat) : tmr a i ≤ i ∧ (0 < i → 0 < tmr a i) := by
  induction i with
  | zero => exact ⟨Nat.le_refl _, fun h => absurd h (Nat.lt_irrefl _)⟩
  | succ i ih =>
    show (if 0 < i ∧ a i = a (i - 1) then tmr a i + 1 else 1) ≤ i + 1 ∧ (_ → 0 < (if 0 < i ∧ a i = a (i - 1) then tmr a i + 1 else 1))
    split <;> omega
def timesOf (P : Nat → Nat) (x : Nat) : Int32 := tmw (da (P 3) x) (P 3)
theorem copiesM {P : Nat → Nat} {N i : Nat} {W D : Nat → Nat} {m : zM} (hP : tV P) (ht : tM 23 P m) (hM : MXm (P 3) N W D m) (hN : N ≤ 600) (hi : i < N) (hx : kv (P 3) (W i)) : ok (f_MO_copies (nI i) m) (fun p => fl2 [25] [(0, 36)] m p.2 ∧ p.1 = timesOf P (W i)) := by
  have n4 := hP.1.2.1
  unfold f_MO_copies
  refine ok_ix rfl (show i < 608 by omega) (by decide) ?_
  rw [(hM.2.1 i hi).1]
  refine ok_bi (opensK hx) (fun p2 ⟨o1, o2⟩ => ?_)
  have t1 := tM_fl ht o1 (by decide)
  unfold f_MO_copies_L17
  refine ok_for (P 3) (fun k (s : Int32 × Int32 × Int32) => s.2.2 = nI k ∧ s.2.1 = nI (tmr (da (P 3) (W i)) k) ∧ s.1 = tmw (da (P 3) (W i)) k) ⟨rfl, rfl, rfl⟩ (Nat.zero_le _) ?_
  rintro k ⟨x, y, z⟩ - hk ⟨e1, e2, e3⟩
  have e1 : z = nI k := e1
  have e2 : y = nI (tmr (da (P 3) (W i)) k) := e2
  have e3 : x = tmw (da (P 3) (W i)) k := e3
  subst e1
  subst e2
  subst e3
  have bb := tmr_b (da (P 3) (W i)) k
  have bb' := tmr_b (da (P 3) (W i)) (k + 1)
  have go : ∀ t0 : Int32, k < P 3 → t0 = nI (tmr (da (P 3) (W i)) (k + 1)) → ok (f_MO_copies_J57 (tmw (da (P 3) (W i)) k) (nI k) t0 p2) (lp (fun p => fl2 [25] [(0, 36)] m p.2 ∧ p.1 = timesOf P (W i)) (fun s' : Int32 × Int32 × Int32 => k < P 3 ∧ s'.2.2 = nI (k + 1) ∧ s'.2.1 = nI (tmr (da (P 3) (W i)) (k + 1)) ∧ s'.1 = tmw (da (P 3) (W i)) (k + 1))) := by
    intro t0 hk3 ht0
    unfold f_MO_copies_J57 nz
    rw [if_neg (by rw [ht0]; exact nI_ne0 (by omega) (by omega))]
    refine ok_mk ⟨hk3, nI_1 k, ht0, ?_⟩
    show tmw (da (P 3) (W i)) k * (nI k + 1) / t0 = _
    rw [ht0]
    rfl
  unfold f_MO_copies_B17 f_MO_copies_J56
  refine ok_eb (agM (tM_n t1 (by decide) (by decide))) ?_
  refine ok_le (P 3) k (fun q => ok_mk ⟨o1, by show tmw _ k = tmw _ (P 3); rw [show k = P 3 by omega]⟩) (fun q => ?_)
  refine ok_le k 0 (fun q2 => go 1 q ?_) (fun q2 => ?_)
  · show (1 : Int32) = nI (if 0 < k ∧ _ then _ else 1)
    rw [if_neg (by omega)]; rfl
  · rw [nI_pr q2]
    refine ok_ix rfl (show k < 4 by omega) (by decide) (ok_ix rfl (show k - 1 < 4 by omega) (by decide) ?_)
    rw [wM_a o2 q n4, wM_a o2 (show k - 1 < P 3 by omega) n4]
    have m1 := mOf_lt (da_lt (P 3) (W i) k)
    have m2 := mOf_lt (da_lt (P 3) (W i) (k - 1))
    refine ok_ee (mOf (da (P 3) (W i) k)) (mOf (da (P 3) (W i) (k - 1))) (fun z => go _ q ?_) (fun z => go 1 q ?_)
    · show nI _ + 1 = nI (if 0 < k ∧ _ then _ else 1)
      rw [if_pos ⟨q2, (mOf_o _ _).2.mpr z⟩, nI_1]
    · show (1 : Int32) = nI (if 0 < k ∧ _ then _ else 1)
      rw [if_neg (fun y => z ((mOf_o _ _).2.mp y.2))]; rfl
theorem movesFromM {P : Nat → Nat} {w N i : Nat} {W : Nat → Nat} {m : zM} (hD : LDm P w N W m) (hN : N ≤ 600) (hi : i < N) : f_MO_movesFrom (nI i) m = some (nI (cn (fun c => decide (nxw P w N W i c ≠ 0)) 64)) := by
  refine ok_eq.mp ?_
  unfold f_MO_movesFrom f_MO_movesFrom_L4
  refine ok_for 64 (fun k (s : Int32 × Int32) => s.2 = nI k ∧ s.1 = nI (cn (fun c => decide (nxw P w N W i c ≠ 0)) k)) ⟨rfl, rfl⟩ (Nat.zero_le _) ?_
  rintro k ⟨x, y⟩ - hk ⟨e1, e2⟩
  have e1 : y = nI k := e1
  have e2 : x = nI (cn (fun c => decide (nxw P w N W i c ≠ 0)) k) := e2
  subst e1
  subst e2
  unfold f_MO_movesFrom_B4 f_MO_movesFrom_J28
  refine ok_le 64 k (fun q => ok_mk (show nI _ = nI _ by rw [show k = 64 by omega])) (fun q => ?_)
  have ex : (64 : Int32) * nI i + nI k = nI (64 * i + k) := by rw [show (64 : Int32) = nI 64 from rfl, pk_mul, nI_add]
  rw [ex]
  refine ok_ix rfl (show 64 * i + k < 38912 by omega) (by decide) ?_
  have nb : nxw P w N W i k < 2 ^ 31 := by
    unfold nxw
    split
    · decide
    · split
      · decide
      · rename_i y _
        have := (fi_sp (fun k => decide (W k = fo (P 3) y)) N).1
        omega
  refine ok_mm (nxw P w N W i k) (fun z => ok_mk ⟨q, nI_1 k, ?_⟩) (fun z => ok_mk ⟨q, nI_1 k, ?_⟩) (hx := hD i hi k q)
  · show nI _ = _
    rw [cn_s0 (decide_eq_false (by omega))]
  · show nI _ + 1 = _
    rw [cn_s1 (decide_eq_true (by omega)), nI_1]
