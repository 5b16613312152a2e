/-- what the reference takes a byte for -/
def t7 (v : Nat) : Nat := if v = 255 then 0 else if v ≤ 6 then v + 1 else 7
theorem t7_lt (v : Nat) : t7 v < 8 := by
  unfold t7
  split
  · omega
  · split <;> omega
theorem t7_t {v : Nat} (h : t7 v < 7) : t7 v = tol v ∧ tol v < 7 := by
  unfold t7 at h ⊢
  unfold tol
  by_cases e : v = 255
  · rw [if_pos e, if_pos e]; omega
  · rw [if_neg e, if_neg e]
    rw [if_neg e] at h
    split at h
    · rename_i q
      rw [if_pos q]; omega
    · omega
theorem toldM {j v : Nat} {x : Int32} {m : zM} (h : m.1 1 j = nI v) (hv : v < 256) (hj : j < 1600) (e : x = nI j) : f_MO_toldAt x m = some (nI (t7 v)) := by
  unfold f_MO_toldAt t7
  rw [e, ix_nI hj (by decide), Option.bind_some, h]
  by_cases c : v = 255
  · rw [if_pos (by rw [c]; rfl), if_pos c]; rfl
  · rw [if_neg (show ¬ nI v = 255 from fun z => c ((nI_eq (b := 255) (by omega) (by decide)).mp z)), if_neg c, Option.bind_some, h]
    by_cases d : v ≤ 6
    · rw [if_pos (show nI v ≤ 6 from (nI_leI (b := 6) (by omega) (by decide)).mpr d), if_pos d, Option.bind_some, h, nI_1]
    · rw [if_neg (show ¬ nI v ≤ 6 from fun z => d ((nI_leI (b := 6) (by omega) (by decide)).mp z)), if_neg d]
      rfl
def dg8 (s a b c : Nat) : Nat := ((s * 8 + a) * 8 + b) * 8 + c
theorem dg8_e : ∀ s, s < 6 → ∀ a, a < 8 → ∀ b, b < 8 → ∀ c, c < 8 → ((shl (nI s) 9 ||| shl (nI a) 6) ||| shl (nI b) 3) ||| nI c = nI (dg8 s a b c) := by decide +kernel
/-- digits of the key that the reference makes of bytes -/
def dgB (n : Nat) (g : Nat → Nat) (i : Nat) : Nat := if i < n then dg8 (g (1 + 4 * i)) (t7 (g (2 + 4 * i))) (t7 (g (3 + 4 * i))) (t7 (g (4 + 4 * i))) else 0
theorem dgB_lt {n : Nat} {g : Nat → Nat} (h : ∀ i, i < n → g (1 + 4 * i) < 6) (i : Nat) : dgB n g i < 4096 := by
  unfold dgB
  split
  · rename_i q
    have := h i q
    have := t7_lt (g (2 + 4 * i))
    have := t7_lt (g (3 + 4 * i))
    have := t7_lt (g (4 + 4 * i))
    unfold dg8
    omega
  · decide
theorem ky_48 {h k : Nat} {d : Nat → Nat} (hh : h < 8) (hk : k ≤ 4) (hd : ∀ j, j < k → d j < 4096) : ky 4096 h d k < 2 ^ 52 := by
  have b := ky_lt (b := 4096) (h := h) (n := k) hd
  have : (4096 : Nat) ^ k ≤ 4096 ^ 4 := Nat.pow_le_pow_right (by decide) hk
  have h1 : (h + 1) * 4096 ^ k ≤ 8 * 4096 ^ 4 := Nat.mul_le_mul (by omega) this
  have : 8 * 4096 ^ 4 < 2 ^ 52 := by decide
  omega
theorem imgL {P : Nat → Nat} {n : Nat} {g : Nat → Nat} {m : zM} (hP : tV P) (ht : tM 23 P m) (hT : ∀ j, j < n → m.1 1 j = nI (g j) ∧ g j < 256) (hn : n = 4 * P 3 + 2) : ok (f_MO_imaged_L54 (nI (t7 (g 0))).toInt64 0 m) (fun p => p.2 = m ∧ ((p.1 = -1 ∧ ∃ i, i < P 3 ∧ P 0 ≤ g (1 + 4 * i)) ∨ ((∀ i, i < P 3 → g (1 + 4 * i) < P 0) ∧ p.1 = lN (ky 4096 (t7 (g 0)) (dgB (P 3) g) 4)))) := by
  obtain ⟨a1, a2, a3, a4, a5, a6, a7⟩ := hP.1
  have h8 := t7_lt (g 0)
  unfold f_MO_imaged_L54
  refine ok_for 4 (fun k (s : Int64 × Int32) => s.1 = lN (ky 4096 (t7 (g 0)) (dgB (P 3) g) k) ∧ s.2 = nI k ∧ ∀ i, i < k → i < P 3 → g (1 + 4 * i) < P 0) (k0 := 0) ⟨nI_l (by omega), rfl, fun i hi => absurd hi (Nat.not_lt_zero _)⟩ (Nat.zero_le _) ?_
  rintro k ⟨x, y⟩ - hk ⟨e1, e2, hs⟩
  have e1 : x = lN (ky 4096 (t7 (g 0)) (dgB (P 3) g) k) := e1
  have e2 : y = nI k := e2
  subst e1 e2
  unfold f_MO_imaged_B54
  refine ok_le 4 k (fun q => ok_mk ⟨rfl, Or.inr ⟨fun i hi => hs i (by omega) hi, ?_⟩⟩) (fun q => ?_)
  · show lN (ky 4096 (t7 (g 0)) (dgB (P 3) g) k) = _
    rw [show k = 4 by omega]
  have e1 : 1 + 4 * nI k = nI (1 + 4 * k) := by rw [show (4 : Int32) = nI 4 from rfl, pk_mul, show (1 : Int32) = nI 1 from rfl, nI_add]
  rw [e1]
  have kb : ky 4096 (t7 (g 0)) (dgB (P 3) g) k < 2 ^ 50 ∨ ¬ ∀ j, j < k → dgB (P 3) g j < 4096 := by
    by_cases c : ∀ j, j < k → dgB (P 3) g j < 4096
    · left
      have b := ky_lt (b := 4096) (h := t7 (g 0)) (n := k) c
      have : (4096 : Nat) ^ k ≤ 4096 ^ 3 := Nat.pow_le_pow_right (by decide) (by omega)
      have h1 : (t7 (g 0) + 1) * 4096 ^ k ≤ 8 * 4096 ^ 3 := Nat.mul_le_mul (by omega) this
      have : 8 * 4096 ^ 3 < 2 ^ 50 := by decide
      omega
    · exact Or.inr c
  have dl : ∀ j, j < k → dgB (P 3) g j < 4096 := by
    intro j hj
    unfold dgB
    split
    · rename_i w
      have := hs j hj w
      have := t7_lt (g (2 + 4 * j))
      have := t7_lt (g (3 + 4 * j))
      have := t7_lt (g (4 + 4 * j))
      unfold dg8
      omega
    · decide
  have kb := kb.resolve_right (fun z => z dl)
  refine ok_eb (agM (tM_n ht (by decide) (by decide))) (ok_le (P 3) k (fun z => ?_) (fun z => ?_))
  · unfold f_MO_imaged_J82
    refine ok_in Bool.false_ne_true ?_
    unfold f_MO_imaged_J109
    refine ok_in Bool.false_ne_true (ok_mk ⟨q, ?_, nI_1 k, fun i hi hi' => hs i (by omega) hi'⟩)
    have d0 : dgB (P 3) g k = 0 := if_neg (by omega)
    show lsl (lN (ky 4096 (t7 (g 0)) (dgB (P 3) g) k)) 12 ||| (nI 0).toInt64 = lN (ky 4096 (t7 (g 0)) (dgB (P 3) g) k * 4096 + dgB (P 3) g k)
    rw [d0, nI_l (by decide)]
    exact lq_or (by omega) (by decide)
  · unfold f_MO_imaged_J82
    have b1 := hT (1 + 4 * k) (by omega)
    refine ok_ip rfl (ok_ix rfl (by omega : 1 + 4 * k < 1600) (by decide) (ok_ix rfl (by decide : 0 < 184) (by decide) (ok_ll (g (1 + 4 * k)) (P 0) (fun w => ?_) (fun w => ok_zl (ok_mk ⟨rfl, Or.inl ⟨rfl, k, z, w⟩⟩)) (hx := b1.1) (hy := tM_n ht (by decide) (by decide)))))
    unfold f_MO_imaged_J109
    have b2 := hT (2 + 4 * k) (by omega)
    have b3 := hT (3 + 4 * k) (by omega)
    have b4 := hT (4 + 4 * k) (by omega)
    refine ok_ip rfl (ok_ix rfl (by omega : 1 + 4 * k < 1600) (by decide) (ok_eb (toldM b2.1 b2.2 (by omega) ?_) (ok_eb (toldM b3.1 b3.2 (by omega) ?_) (ok_eb (toldM b4.1 b4.2 (by omega) ?_) ?_))))
    · rw [nI_1]; congr 1; omega
    · rw [show (2 : Int32) = nI 2 from rfl, nI_add]; congr 1; omega
    · rw [show (3 : Int32) = nI 3 from rfl, nI_add]; congr 1; omega
    have d0 : dgB (P 3) g k = dg8 (g (1 + 4 * k)) (t7 (g (2 + 4 * k))) (t7 (g (3 + 4 * k))) (t7 (g (4 + 4 * k))) := if_pos z
    refine ok_mk ⟨q, ?_, nI_1 k, fun i hi hi' => ?_⟩
    · show lsl (lN (ky 4096 (t7 (g 0)) (dgB (P 3) g) k)) 12 ||| ((((shl (m.1 1 (1 + 4 * k)) 9) ||| (shl (nI (t7 (g (2 + 4 * k)))) 6)) ||| (shl (nI (t7 (g (3 + 4 * k)))) 3)) ||| nI (t7 (g (4 + 4 * k)))).toInt64 = lN (ky 4096 (t7 (g 0)) (dgB (P 3) g) k * 4096 + dgB (P 3) g k)
      have c1 := t7_lt (g (2 + 4 * k))
      have c2 := t7_lt (g (3 + 4 * k))
      have c3 := t7_lt (g (4 + 4 * k))
      rw [b1.1, dg8_e _ (by omega) _ c1 _ c2 _ c3, d0, nI_l (by unfold dg8; omega)]
      exact lq_or (by unfold dg8; omega) (by unfold dg8; omega)
    · rcases Nat.lt_or_ge i k with u | u
      · exact hs i u hi'
      · rw [show i = k by omega]; exact w
/-- keys that are opened, put in order and shut though they tell no world -/
theorem opensG {h : Nat} {d : Nat → Nat} {m : zM} (hh : h < 8) (hd : ∀ j, j < 4 → d j < 4096) : ok (f_MO_opens (lN (ky 4096 h d 4)) m) (fun p => fl2 [25] [(0, 36)] m p ∧ p.1 0 36 = nI h - 1 ∧ ∀ j, j < 4 → p.1 25 j = nI (d j)) := by
  have kb := ky_48 hh (Nat.le_refl 4) hd
  have d0 := hd 0 (by decide)
  have d1 := hd 1 (by decide)
  have d2 := hd 2 (by decide)
  have d3 := hd 3 (by decide)
  have ke : ky 4096 h d 4 = (((h * 4096 + d 0) * 4096 + d 1) * 4096 + d 2) * 4096 + d 3 := rfl
  unfold f_MO_opens
  refine ok_lt ?_
  unfold f_MO_opens_L13
  refine ok_for 4 (fun k (s : Int32 × zM) => s.1 = nI k ∧ fl2 [25] [(0, 36)] m s.2 ∧ s.2.1 0 36 = nI h - 1 ∧ ∀ j, j < k → s.2.1 25 j = nI (d j)) (k0 := 0) ⟨rfl, fl2_I (inS_f (by simp)), ?_, fun j hj => absurd hj (Nat.not_lt_zero _)⟩ (Nat.zero_le _) ?_
  · show (sI m 0 36 _).1 0 36 = _
    rw [rd_I1]
    unfold lsr
    rw [lq_shrN (by omega) _ 48 (by decide), lN_i, show ky 4096 h d 4 / 2 ^ 48 = h by omega]
  rintro k ⟨x, m1⟩ - hk ⟨e1, gf, g36, gn⟩
  have e1 : x = nI k := e1
  subst e1
  have g36 : m1.1 0 36 = nI h - 1 := g36
  have gn : ∀ j, j < k → m1.1 25 j = nI (d j) := gn
  unfold f_MO_opens_B13
  refine ok_le 4 k (fun q => ok_mk ⟨gf, g36, fun j hj => gn j (by omega)⟩) (fun q => ?_)
  refine ok_ix rfl q (by decide) (ok_lt (ok_mk ⟨q, nI_1 k, fl2_tr gf (fl2_I (inS_c (by simp))), ?_, fun j hj => ?_⟩))
  · show (sI m1 25 k _).1 0 36 = _
    rw [rd_I0 (by omega)]; exact g36
  · show (sI m1 25 k _).1 25 j = _
    by_cases e : j = k
    · rw [e, rd_I1]
      unfold lsr
      rcases (show k = 0 ∨ k = 1 ∨ k = 2 ∨ k = 3 by omega) with z | z | z | z <;> rw [z]
      · rw [lq_shrN (by omega) _ 36 (show ((((36 : Int32) - 12 * nI 0).toInt64 &&& 63).toBitVec.smod 64).toNat = 36 by decide), lN_i, lq_and]
        congr 1
        omega
      · rw [lq_shrN (by omega) _ 24 (show ((((36 : Int32) - 12 * nI 1).toInt64 &&& 63).toBitVec.smod 64).toNat = 24 by decide), lN_i, lq_and]
        congr 1
        omega
      · rw [lq_shrN (by omega) _ 12 (show ((((36 : Int32) - 12 * nI 2).toInt64 &&& 63).toBitVec.smod 64).toNat = 12 by decide), lN_i, lq_and]
        congr 1
        omega
      · rw [lq_shrN (by omega) _ 0 (show ((((36 : Int32) - 12 * nI 3).toInt64 &&& 63).toBitVec.smod 64).toNat = 0 by decide), lN_i, lq_and]
        congr 1
        omega
    · rw [rd_I0 (by omega)]; exact gn j (by omega)
theorem shutG {h : Nat} {d : Nat → Nat} {m : zM} (hh : h < 8) (hd : ∀ j, j < 4 → d j < 4096) (h1 : m.1 0 38 = nI h - 1) (h2 : ∀ j, j < 4 → m.1 26 j = nI (d j)) : f_MO_shut m = some (lN (ky 4096 h d 4)) := by
  refine ok_eq.mp ?_
  unfold f_MO_shut f_MO_shut_L10
  refine ok_for 4 (fun k (s : Int64 × Int32) => s.2 = nI k ∧ s.1 = lN (ky 4096 h d k)) (k0 := 0) ⟨rfl, ?_⟩ (Nat.zero_le _) ?_
  · show (m.1 0 38 + 1).toInt64 = lN h
    rw [h1, Int32.sub_add_cancel, nI_l (by omega)]
  rintro k ⟨x, y⟩ - hk ⟨e1, e2⟩
  have e1 : y = nI k := e1
  have e2 : x = lN (ky 4096 h d k) := e2
  subst e1
  subst e2
  unfold f_MO_shut_B10
  refine ok_le 4 k (fun q => ok_mk (show lN (ky 4096 h d k) = lN (ky 4096 h d 4) by rw [show k = 4 by omega])) (fun q => ok_ix rfl q (by decide) (ok_mk ⟨q, nI_1 k, ?_⟩))
  show lsl (lN (ky 4096 h d k)) 12 ||| (m.1 26 k).toInt64 = lN (ky 4096 h d k * 4096 + d k)
  have dk := hd k q
  have b : ky 4096 h d k * 4096 + d k < 2 ^ 52 := ky_48 (k := k + 1) hh (by omega) (fun j hj => hd j (by omega))
  rw [h2 k q, nI_l (by omega), lq_or (by omega) dk]
/-- digits put in order: each is still there -/
theorem foldsG {n v : Nat} {d : Nat → Nat} {m : zM} (hn : m.1 23 3 = nI n) (h4 : n ≤ 4) (hd : ∀ j, j < 4 → d j < 4096) (h2 : ∀ j, j < 4 → m.1 26 j = nI (d j)) (hv : ∃ j, j < 4 ∧ d j = v) : ok (f_MO_folds m) (fun p => fl2 [26] [] m p ∧ ∃ e : Nat → Nat, (∀ j, j < 4 → e j < 4096) ∧ (∀ j, j < 4 → p.1 26 j = nI (e j)) ∧ ∃ j, j < 4 ∧ e j = v) := by
  unfold f_MO_folds f_MO_folds_L2
  refine ok_lop (fun k (s : Int32 × zM) => 1 ≤ k ∧ k ≤ 5 ∧ s.1 = nI k ∧ fl2 [26] [] m s.2 ∧ ∃ e : Nat → Nat, (∀ j, j < 4 → e j < 4096) ∧ (∀ j, j < 4 → s.2.1 26 j = nI (e j)) ∧ ∃ j, j < 4 ∧ e j = v) (fun k => 5 - k) ?_ 1 _ ⟨by omega, by omega, rfl, fl2_rf, d, hd, h2, hv⟩ (by decide)
  rintro k ⟨x, m1⟩ ⟨k1, k2, e1, gf, e, ge1, ge2, ge3⟩
  have e1 : x = nI k := e1
  subst e1
  have gf : fl2 [26] [] m m1 := gf
  unfold f_MO_folds_B2
  refine ok_eb (agM (n := n) (by rw [fl2_i gf (by decide)]; exact hn)) ?_
  refine ok_le n k (fun q => ok_mk ⟨gf, e, ge1, ge2, ge3⟩) (fun q => ?_)
  unfold f_MO_folds_L12
  refine ok_lop (fun j (s : Int32 × zM) => j ≤ k ∧ s.1 = nI j ∧ fl2 [26] [] m s.2 ∧ ∃ e : Nat → Nat, (∀ j, j < 4 → e j < 4096) ∧ (∀ j, j < 4 → s.2.1 26 j = nI (e j)) ∧ ∃ j, j < 4 ∧ e j = v) (fun j => j) ?_ k _ ⟨Nat.le_refl _, rfl, gf, e, ge1, ge2, ge3⟩ (by omega)
  rintro j ⟨y, m2⟩ ⟨hj, e2, hf, c, c1, c2, c3⟩
  have e2 : y = nI j := e2
  subst e2
  have hf : fl2 [26] [] m m2 := hf
  have c2 : ∀ j, j < 4 → m2.1 26 j = nI (c j) := c2
  have fin : ok (f_MO_folds_J69 (nI k) m2) (lp (fun p => fl2 [26] [] m p ∧ ∃ e : Nat → Nat, (∀ j, j < 4 → e j < 4096) ∧ (∀ j, j < 4 → p.1 26 j = nI (e j)) ∧ ∃ j, j < 4 ∧ e j = v) (fun s' : Int32 × zM => ∃ i', 5 - i' < 5 - k ∧ 1 ≤ i' ∧ i' ≤ 5 ∧ s'.1 = nI i' ∧ fl2 [26] [] m s'.2 ∧ ∃ e : Nat → Nat, (∀ j, j < 4 → e j < 4096) ∧ (∀ j, j < 4 → s'.2.1 26 j = nI (e j)) ∧ ∃ j, j < 4 ∧ e j = v)) := by
    unfold f_MO_folds_J69
    exact ok_mk ⟨k + 1, by omega, by omega, by omega, nI_1 k, hf, c, c1, c2, c3⟩
  unfold f_MO_folds_B12
  refine ok_le j 0 (fun q' => ok_zl fin) (fun q' => ?_)
  have ej : nI j - 1 = nI (j - 1) := nI_pr q'
  rw [ej]
  refine ok_ix rfl (by omega : j - 1 < 4) (by decide) (ok_ix rfl (by omega : j < 4) (by decide) ?_)
  have b1 := c1 (j - 1) (by omega)
  have b2 := c1 j (by omega)
  refine ok_le (c (j - 1)) (c j) (fun u => ok_zl fin) (fun u => ?_) (hx := c2 _ (by omega)) (hy := c2 _ (by omega))
  refine ok_ix rfl (by omega : j < 4) (by decide) (ok_ix rfl (by omega : j - 1 < 4) (by decide) (ok_ix rfl (by omega : j < 4) (by decide) (ok_lt (ok_ix rfl (by omega : j - 1 < 4) (by decide) (ok_lt (ok_mk ⟨j - 1, by omega, by omega, nI_pm q', fl2_tr hf (fl2_tr (fl2_I (inS_c (by simp))) (fl2_I (inS_c (by simp)))), fun i => if i = j then c (j - 1) else if i = j - 1 then c j else c i, fun i hi => ?_, fun i hi => ?_, ?_⟩))))))
  · show (if i = j then c (j - 1) else if i = j - 1 then c j else c i) < 4096
    split
    · exact b1
    · split
      · exact b2
      · exact c1 i hi
  · show (sI (sI m2 26 j _) 26 (j - 1) _).1 26 i = nI (if i = j then c (j - 1) else if i = j - 1 then c j else c i)
    by_cases w : i = j - 1
    · rw [w, rd_I1, if_neg (by omega), if_pos rfl]; exact c2 j (by omega)
    · rw [rd_I0 (by omega)]
      by_cases z : i = j
      · rw [z, rd_I1, if_pos rfl]; exact c2 _ (by omega)
      · rw [rd_I0 (by omega), if_neg z, if_neg w]; exact c2 i hi
  · obtain ⟨i, hi, ei⟩ := c3
    by_cases w : i = j - 1
    · refine ⟨j, by omega, ?_⟩
      show (if j = j then c (j - 1) else _) = v
      rw [if_pos rfl, ← w]; exact ei
    · by_cases z : i = j
      · refine ⟨j - 1, by omega, ?_⟩
        show (if j - 1 = j then c (j - 1) else if j - 1 = j - 1 then c j else _) = v
        rw [if_neg (by omega), if_pos rfl, ← z]; exact ei
      · refine ⟨i, hi, ?_⟩
        show (if i = j then c (j - 1) else if i = j - 1 then c j else c i) = v
        rw [if_neg z, if_neg w]; exact ei
/-- a key that tells no world is the key of no world -/
theorem foldedG {P : Nat → Nat} {N h : Nat} {W D d : Nat → Nat} {m : zM} (hP : tV P) (ht : tM 23 P m) (hL : LMx P 16 N W D m) (hh : h < 8) (hd : ∀ j, j < 4 → d j < 4096) (hb : h = 7 ∨ ∃ j, j < 4 ∧ ∀ c, c < 2058 → d j ≠ mOf c) : ok (f_MO_foldedOf (lN (ky 4096 h d 4)) m) (fun p => fl2 [25, 26] [(0, 36), (0, 38)] m p.2 ∧ p.1 = -1) := by
  obtain ⟨l1, l2, l3, l4, l5⟩ := id hL
  unfold f_MO_foldedOf
  refine ok_bi (opensG hh hd) (fun p1 ⟨o1, o2, o3⟩ => ok_lt ?_)
  unfold f_MO_foldedOf_L15
  refine ok_for 4 (fun k (s : Int32 × zM) => s.1 = nI k ∧ fl2 [26] [(0, 38)] p1 s.2 ∧ s.2.1 0 38 = nI h - 1 ∧ ∀ i, i < k → s.2.1 26 i = nI (d i)) ⟨rfl, fl2_I (inS_f (by simp)), by show (sI p1 0 38 _).1 0 38 = _; rw [rd_I1]; exact o2, fun i hi => absurd hi (Nat.not_lt_zero _)⟩ (Nat.zero_le _) ?_
  rintro k ⟨y, m1⟩ - hk ⟨e, f1, g1, g2⟩
  have e : y = nI k := e
  subst e
  have f1 : fl2 [26] [(0, 38)] p1 m1 := f1
  have g1 : m1.1 0 38 = nI h - 1 := g1
  have g2 : ∀ i, i < k → m1.1 26 i = nI (d i) := g2
  unfold f_MO_foldedOf_B15
  refine ok_le 4 k (fun q => ok_zl ?_) (fun q => ?_)
  · unfold f_MO_foldedOf_J38
    have t1 : tM 23 P m1 := tM_fl (tM_fl ht o1 (by decide)) f1 (by decide)
    obtain ⟨jb, jb4, jbv⟩ : ∃ j, j < 4 ∧ (h = 7 ∨ ∀ c, c < 2058 → d j ≠ mOf c) := by
      rcases hb with z | ⟨j, hj, z⟩
      · exact ⟨0, by decide, Or.inl z⟩
      · exact ⟨j, hj, Or.inr z⟩
    refine ok_bi (foldsG (v := d jb) (tM_n t1 (by decide) (by decide)) hP.1.2.1 hd (fun j hj => g2 j (by omega)) ⟨jb, jb4, rfl⟩) (fun p6 ⟨h1, e, e1, e2, e3⟩ => ?_)
    have f6 : fl2 [25, 26] [(0, 36), (0, 38)] m p6 := fl2_tr (fl2_su o1 (by decide)) (fl2_tr (fl2_su f1 (by decide)) (fl2_su h1 (by decide)))
    have M6 := MXm_fl l4 f6 (by decide)
    refine ok_eb (shutG hh e1 (by rw [fl2_i h1 (by decide)]; exact g1) e2) (ok_bi (foundM (v := lN (ky 4096 h e 4)) M6.2.2 (by omega)) (fun r hr => ok_mk ⟨f6, ?_⟩))
    rcases hr with ⟨i, hi, d1, d2⟩ | ⟨d2, d1⟩
    · exfalso
      rw [(M6.2.1 i hi).1] at d1
      have kx := (Rn_kv hP (l3.1 i hi).1).1
      have := km_lt kx
      have := ky_48 hh (Nat.le_refl 4) e1
      have eq : km (P 3) (W i) = ky 4096 h e 4 := (pk_lEQ (by omega) (by omega)).mp d1
      unfold km kM at eq
      obtain ⟨u1, u2⟩ := ky_in (fun j _ => mD_lt (kv_w kx) j) e1 eq
      rcases jbv with z | z
      · have := kx.2.2; omega
      · obtain ⟨j, hj, ej⟩ := e3
        have w := u2 j hj
        unfold mD at w
        split at w
        · exact z _ (da_lt _ _ _) (by rw [← ej, ← w])
        · exact z 0 (by decide) (by rw [← ej, ← w]; rfl)
    · exact d2
  · refine ok_ix rfl q (by decide) (ok_ix rfl q (by decide) (ok_lt (ok_mk ⟨q, nI_1 k, fl2_tr f1 (fl2_I (inS_c (by simp))), ?_, fun i hi => ?_⟩)))
    · show (sI m1 26 k _).1 0 38 = _
      rw [rd_I0 (by omega)]; exact g1
    · show (sI m1 26 k _).1 26 i = _
      by_cases w : i = k
      · rw [w, rd_I1, fl2_ic f1 (fun j => by simp [inS])]; exact o3 k q
      · rw [rd_I0 (by omega)]; exact g2 i (by omega)
/-- the key of bytes that tell things is the key of their world -/
theorem dgB_k {n : Nat} {g : Nat → Nat} (h0 : 0 < n) (h4 : n ≤ 4) (hs : ∀ i, i < n → g (1 + 4 * i) < 6) (hh : t7 (g 0) < 7) (ha : ∀ i, i < n → t7 (g (2 + 4 * i)) < 7 ∧ t7 (g (3 + 4 * i)) < 7 ∧ t7 (g (4 + 4 * i)) < 7) : byO g n ∧ ky 4096 (t7 (g 0)) (dgB n g) 4 = km n (imW n g) := by
  have hb : byO g n := ⟨(t7_t hh).2, fun i hi => ⟨hs i hi, (t7_t (ha i hi).1).2, (t7_t (ha i hi).2.1).2, (t7_t (ha i hi).2.2).2⟩⟩
  refine ⟨hb, ?_⟩
  have hv := byO_w hb h0 h4
  obtain ⟨e1, e2⟩ := dk_ky (h := tol (g 0)) hv.2.2.2
  unfold km kM imW
  rw [e1, (t7_t hh).1]
  refine ky_cg (fun j hj => ?_)
  unfold dgB mD
  by_cases q : j < n
  · rw [if_pos q, if_pos q, e2 j q]
    unfold imA
    obtain ⟨b1, b2, b3, b4⟩ := hb.2 j q
    rw [mOf_C b2 b3 b4, (t7_t (ha j q).1).1, (t7_t (ha j q).2.1).1, (t7_t (ha j q).2.2).1]
    rfl
  · rw [if_neg q, if_neg q]
theorem dg8_b {s a b c e : Nat} (ha : a < 8) (hb : b < 8) (hc : c < 8) (h : a = 7 ∨ b = 7 ∨ c = 7) : dg8 s a b c ≠ mOf e := by
  have := o1_lt e
  have := o2_lt e
  have := o3_lt e
  unfold dg8 mOf
  omega
theorem t7_o {v : Nat} (h : tol v < 7) : t7 v < 7 := by
  unfold tol at h
  unfold t7
  split at h
  · rename_i q; rw [if_pos q]; omega
  · rename_i q; rw [if_neg q, if_pos (by omega)]; omega
