theorem cn_cea {P : Nat → Nat} {x r N w : Nat} {W : Nat → Nat} (hr : r < 16) (e : W w = x) : cn (fun i => decide (cea P x i / 4 = r)) (cn (psb P x) 64) = cn (fun a => decide (nxw P 16 N W w (4 * r + a) ≠ 0)) 4 := by
  refine Nat.le_antisymm ?_ ?_
  · refine cn_inj (fun i => cea P x i % 4) (fun i hi hq => ?_) (fun i j hi hj qi qj ee => ?_)
    · have c := cea_sp hi
      have q := of_decide_eq_true hq
      refine ⟨by omega, decide_eq_true (nxw_nz.mpr ?_)⟩
      rw [show 4 * r + cea P x i % 4 = cea P x i by omega, e]
      exact ⟨c.2.1, by omega⟩
    · have c := cea_sp hi
      have c' := cea_sp hj
      have q := of_decide_eq_true qi
      have q' := of_decide_eq_true qj
      have : cea P x i = cea P x j := by omega
      rw [← c.2.2, ← c'.2.2, this]
  · refine cn_inj (fun a => cn (psb P x) (4 * r + a)) (fun a ha hq => ?_) (fun a a' ha ha' qa qa' ee => ?_)
    · have q := nxw_nz.mp (of_decide_eq_true hq)
      rw [e] at q
      have c := cea_cn (show 4 * r + a < 64 by omega) q.1
      refine ⟨c.1, decide_eq_true ?_⟩
      rw [c.2]; omega
    · have q := nxw_nz.mp (of_decide_eq_true qa)
      have q' := nxw_nz.mp (of_decide_eq_true qa')
      rw [e] at q q'
      have := cn_un q.1 q'.1 ee
      omega
theorem usesM {P : Nat → Nat} {N r : Nat} {W D : Nat → Nat} {m : zM} (hP : tV P) (ht : tM 23 P m) (hL : LMx P 16 N W D m) (hr : r < 16) : ok (f_MO_uses_L29 (nI r) 0 0 m) (fun p => fl2 [25] [(0, 36)] m p.2 ∧ p.1 = sumI (fun i => timesOf P (W i) * nI (cn (fun a => decide (nxw P 16 N W i (4 * r + a) ≠ 0)) 4)) N) := by
  obtain ⟨l1, l2, l3, l4, l5⟩ := id hL
  unfold f_MO_uses_L29
  refine ok_for N (fun k (s : Int32 × Int32 × zM) => s.2.1 = nI k ∧ s.1 = sumI (fun i => timesOf P (W i) * nI (cn (fun a => decide (nxw P 16 N W i (4 * r + a) ≠ 0)) 4)) k ∧ fl2 [25] [(0, 36)] m s.2.2) ⟨rfl, rfl, fl2_rf⟩ (Nat.zero_le _) ?_
  rintro k ⟨x, y, m1⟩ - hk ⟨e1, e2, f1⟩
  have e1 : y = nI k := e1
  have e2 : x = _ := e2
  subst e1
  subst e2
  have f1 : fl2 [25] [(0, 36)] m m1 := f1
  have L2 := LMx_fl hL f1 (by decide) (by decide)
  unfold f_MO_uses_B29
  refine ok_le N k (fun q => ok_mk ⟨f1, by show sumI _ k = sumI _ N; rw [show k = N by omega]⟩) (fun q => ?_) (hx := L2.2.2.2.1.1)
  have kw := (Rn_kv hP (l3.1 k q).1).1
  unfold f_MO_uses_L40
  refine ok_for 4 (fun j (s : Int32 × Int32 × zM) => s.2.1 = nI j ∧ s.1 = sumI (fun i => timesOf P (W i) * nI (cn (fun a => decide (nxw P 16 N W i (4 * r + a) ≠ 0)) 4)) k + timesOf P (W k) * nI (cn (fun a => decide (nxw P 16 N W k (4 * r + a) ≠ 0)) j) ∧ fl2 [25] [(0, 36)] m s.2.2) ⟨rfl, ?_, f1⟩ (Nat.zero_le _) ?_
  · show _ = sumI _ k + timesOf P (W k) * nI 0
    rw [show timesOf P (W k) * nI 0 = 0 from Int32.mul_zero, Int32.add_zero]
  rintro j ⟨x, y, m2⟩ - hj ⟨e1, e2, f2⟩
  have e1 : y = nI j := e1
  have e2 : x = _ := e2
  subst e1
  subst e2
  have f2 : fl2 [25] [(0, 36)] m m2 := f2
  have L3 := LMx_fl hL f2 (by decide) (by decide)
  unfold f_MO_uses_B40
  refine ok_le 4 j (fun q' => ?_) (fun q' => ?_)
  · have : j = 4 := by omega
    subst this
    unfold f_MO_uses_J80
    exact ok_zl (ok_mk ⟨q, nI_1 k, rfl, f2⟩)
  · refine ok_ix (i := 64 * k + (4 * r + j)) ?_ (by omega) (by decide) ?_
    · rw [show (64 : Int32) = nI 64 from rfl, show (4 : Int32) = nI 4 from rfl, pk_mul, pk_mul, nI_add, nI_add, Nat.add_assoc]
    · refine ok_mm (nxw P 16 N W k (4 * r + j)) (fun z => ?_) (fun z => ?_) (hx := L3.2.2.2.2 k q (4 * r + j) (by omega)) (ha := by have := nxw_le (w := 16) l3 q (show 4 * r + j < 64 by omega); omega)
      · unfold f_MO_uses_J74
        refine ok_mk ⟨q', nI_1 j, ?_, f2⟩
        show _ = sumI _ k + timesOf P (W k) * nI (cn _ (j + 1))
        rw [cn_s0 (decide_eq_false (fun y => y z))]
      · refine ok_bi (copiesM hP (tM_fl ht f2 (by decide)) L3.2.2.2.1 l2 q kw) (fun p ⟨y1, y2⟩ => ?_)
        unfold f_MO_uses_J74
        refine ok_mk ⟨q', nI_1 j, ?_, fl2_tr f2 y1⟩
        show _ + p.1 = sumI _ k + timesOf P (W k) * nI (cn _ (j + 1))
        rw [cn_s1 (decide_eq_true (by omega)), mul_1, y2, Int32.add_assoc]
theorem c_uses {a1 : Int32} {mx mm : zM} (h : IvW mx mm) : Alk ((f_PA_uses a1 mx).bind fun r => some (r, mx)) (f_MO_uses a1 mm) := by
  refine Alk_b ?_
  unfold f_PA_uses f_MO_uses
  obtain ⟨hc, hn | ⟨P, N, W, D, pr, sp, b, ht⟩⟩ := id h
  · unfold f_PA_isRule
    rw [if_pos hn.1]
    exact ok_mk (ok_eb (ntA hn) (ok_in Bool.false_ne_true (ok_mk ⟨rfl, h⟩)))
  · obtain ⟨p, ep, z1, z2, z3, z4⟩ := askT ht
    obtain ⟨⟨h1, h2, h3, h4, h5, h6, h7⟩, r0, g1, g2, g3, g4, g5⟩ := ht.1
    have p8 := h1.1.2.2.2.2.2.2.2.2.2.2.1
    have hq : Qy P N W D pr sp b mx mm p.2 := ⟨hc, ht, z2, z3, z4⟩
    rw [ep]
    refine ok_bi (isRuT ht.1) (fun r hr => ok_it (fun q => ?_) (fun q => ok_mk (ok_ip z1 (ok_eb (rulesM z3) (ok_in (fun y => q (hr.mpr ((isIn_n (by omega)).mp y))) (ok_mk ⟨rfl, Qy_i hq⟩))))))
    obtain ⟨i, hi, e⟩ := hr.mp q
    subst e
    refine ok_eb (allMovesX (q := fun c => decide (c / 4 = i)) h1 h3 h4 g3 (Or.inr ⟨i, by omega, rfl, fun _ => rfl⟩)) (ok_mk (ok_ip z1 (ok_eb (rulesM z3) (ok_ip ((isIn_n (by omega)).mpr ⟨i, hi, rfl⟩) ?_))))
    refine ok_mo (usesM h1 z3 z4.2.1 (by omega : i < 16)) (fun q y => ⟨?_, Qy_s hq y.1 (by decide) (by decide) (by decide) (by decide) (by decide)⟩)
    rw [y.2]
    refine sumI_cg (fun w hw => ?_)
    rw [cn_cea (N := N) (W := W) (w := w) (by omega) rfl]
theorem firstL {N : Nat} {B : Nat → Bool} {v1 : Int32} {m : zM} (h41 : m.1 0 41 = nI N) (hN : N ≤ 600) (hB : ∀ i m1, i < N → fl2 [25] [(0, 36)] m m1 → ok (f_MO_isFirst (nI i) v1 m1) (fun p => fl2 [25] [(0, 36)] m1 p.2 ∧ p.1 = B i)) : ok (f_MO_first_J30 v1 m) (fun p => fl2 [25] [(0, 36)] m p.2 ∧ p.1 = if fi B N < N then nI (fi B N) else -1) := by
  unfold f_MO_first_J30 f_MO_first_L32
  refine ok_for N (fun k (s : Int32 × zM) => s.1 = nI k ∧ (∀ j, j < k → B j = false) ∧ fl2 [25] [(0, 36)] m s.2) ⟨rfl, fun j hj => absurd hj (Nat.not_lt_zero _), fl2_rf⟩ (Nat.zero_le _) ?_
  rintro k ⟨x, m1⟩ - hk ⟨e1, e2, f1⟩
  have e1 : x = nI k := e1
  subst e1
  have f1 : fl2 [25] [(0, 36)] m m1 := f1
  unfold f_MO_first_B32
  refine ok_le N k (fun q => ok_mk ⟨f1, ?_⟩) (fun q => ?_) (hx := by rw [fl2_i f1 (by decide)]; exact h41)
  · rw [fi_no (fun j hj => e2 j (by omega)), if_neg (Nat.lt_irrefl _)]
  · refine ok_bi (hB k m1 q f1) (fun p ⟨y1, y2⟩ => ok_tf (fun t => ok_mk ⟨fl2_tr f1 y1, ?_⟩) (fun t => ok_mk ⟨q, nI_1 k, fun j hj => ?_, fl2_tr f1 y1⟩))
    · rw [fi_eq q (by rw [← y2]; exact t) e2, if_pos q]
    · rcases Nat.lt_or_ge j k with z | z
      · exact e2 j z
      · rw [show j = k by omega, ← y2]; exact t
theorem fi_4 {n N : Nat} {B : Nat → Bool} (hn : n ≤ 4) (hB : ∀ v, B v = true → v % 4 < n) : (if fi B (4 * N) < 4 * N then nI (fi B (4 * N) / 4) else -1) = if fi (fun i => decide (0 < cn (fun a => B (4 * i + a)) n)) N < N then nI (fi (fun i => decide (0 < cn (fun a => B (4 * i + a)) n)) N) else -1 := by
  obtain ⟨f1, f2, f3⟩ := fi_sp B (4 * N)
  by_cases c : fi B (4 * N) < 4 * N
  · have ft := f3 c
    have e : fi (fun i => decide (0 < cn (fun a => B (4 * i + a)) n)) N = fi B (4 * N) / 4 := by
      refine fi_eq (by omega) (decide_eq_true ?_) (fun j hj => decide_eq_false (fun z => ?_))
      · rcases Nat.eq_zero_or_pos (cn (fun a => B (4 * (fi B (4 * N) / 4) + a)) n) with z | z
        · have := cn_rm (p := fun a => B (4 * (fi B (4 * N) / 4) + a)) (hB _ ft) (by show B (4 * (fi B (4 * N) / 4) + fi B (4 * N) % 4) = true; rw [show 4 * (fi B (4 * N) / 4) + fi B (4 * N) % 4 = fi B (4 * N) by omega]; exact ft)
          omega
        · exact z
      · obtain ⟨a, a1, a2, _⟩ := cn_at z
        have := f2 (4 * j + a) (by omega)
        rw [this] at a2
        cases a2
    rw [e, if_pos c, if_pos (by omega)]
  · have e : fi (fun i => decide (0 < cn (fun a => B (4 * i + a)) n)) N = N := by
      refine fi_no (fun j hj => decide_eq_false (fun z => ?_))
      obtain ⟨a, a1, a2, _⟩ := cn_at z
      have := f2 (4 * j + a) (by omega)
      rw [this] at a2
      cases a2
    rw [e, if_neg c, if_neg (Nat.lt_irrefl _)]
theorem c_first {a1 : Int32} {mx mm : zM} (h : IvW mx mm) : Alk ((f_PA_first a1 mx).bind fun r => some (r, mx)) (f_MO_first a1 mm) := by
  refine Alk_b ?_
  unfold f_PA_first f_MO_first
  refine aqry (v := -1) h (fun P N W D pr sp b p hq => ?_)
  obtain ⟨hc, ht, z2, z3, z4⟩ := id hq
  obtain ⟨⟨h1, h2, h3, h4, h5, h6, h7⟩, r0, g1, g2, g3, g4, g5⟩ := ht.1
  have p8 := h1.1.2.2.2.2.2.2.2.2.2.2.1
  have p3 := h1.1.2.1
  have inst : ∀ v s, instA P W v s = true → v % 4 < P 3 := fun v s z => by
    unfold instA at z
    rw [Bool.and_eq_true] at z
    exact of_decide_eq_true z.1
  rcases num_or a1 4 with ⟨k, hk, e⟩ | e
  · have e6 := (isIn_c (n := 4) (x := a1) (hi := 3) (by decide) (by decide)).mpr ⟨k, hk, e⟩
    subst e
    rcases (show k = 0 ∨ k = 1 ∨ k = 2 ∨ k = 3 by omega) with z | z | z | z <;> subst z
    · refine ok_ip (by decide) (ok_eb (firstBadX g3 h3) (ok_mk (ok_ip e6 (ok_ip (by decide) ?_))))
      refine ok_mo (firstL (B := fun w => bd P (W w)) z4.2.1.2.2.2.1.1 h3 (fun i m1 hi f1 => ?_)) (fun q y => ⟨y.2.symm, Qy_s hq y.1 (by decide) (by decide) (by decide) (by decide) (by decide)⟩)
      unfold f_MO_isFirst
      refine ok_ip (by decide) (ok_ix rfl (by omega : i < 608) (by decide) ?_)
      rw [((LMx_fl z4.2.1 f1 (by decide) (by decide)).2.2.2.1.2.1 i hi).1]
      exact ok_bi (isBadM h1 (tM_fl z3 f1 (by decide)) (W_kv h1 h4 hi).1) (fun q y => ok_mk y)
    · refine ok_in (by decide) (ok_ip (by decide) (ok_eb (firstStuckX g3 h3) (ok_mk (ok_ip e6 (ok_ip (by decide) ?_)))))
      refine ok_mo (firstL (B := fun w => decide (cn (psb P (W w)) 64 = 0)) z4.2.1.2.2.2.1.1 h3 (fun i m1 hi f1 => ?_)) (fun q y => ⟨y.2.symm, Qy_s hq y.1 (by decide) (by decide) (by decide) (by decide) (by decide)⟩)
      unfold f_MO_isFirst
      have hm := movesFromM (LMx_fl z4.2.1 f1 (by decide) (by decide)).2.2.2.2 h3 hi
      rw [cn_nx (w := 0) p8] at hm
      have cl := cn_le (psb P (W i)) 64
      refine ok_in (by decide) (ok_ip (by decide) (ok_eb hm (ok_ee (cn (psb P (W i)) 64) 0 (fun z => ok_mk ⟨fl2_rf, (decide_eq_true z).symm⟩) (fun z => ok_mk ⟨fl2_rf, (decide_eq_false z).symm⟩))))
    all_goals
      have wI : ∀ (what : Int32) (m' : zM), QkFr p.2 m' → LKm P 16 N W m' → ∀ i m1, i < N → fl2 [25] [(0, 36)] m' m1 → ok (f_MO_isFirst (nI i) (what + 2) m1) (fun q => (what + 2 ≠ 0 ∧ what + 2 ≠ 1 → fl2 [25] [(0, 36)] m1 q.2 ∧ q.1 = decide (0 < cn (fun a => wnB P 16 N W what (4 * i + a)) (P 3)))) := by
        intro what m' g gl i m1 hi f1
        have L1 := LMx_fl (LMx_fl z4.2.1 g (by decide) (by decide)) f1 (by decide) (by decide)
        have t1 := tM_fl (tM_fl z3 g (by decide)) f1 (by decide)
        unfold f_MO_isFirst
        refine ok_it (fun z => ?_) (fun z => ok_it (fun z' => ?_) (fun z' => ?_))
        · refine ok_ix rfl (by omega : i < 608) (by decide) ?_
          rw [(L1.2.2.2.1.2.1 i hi).1]
          exact ok_bi (isBadM h1 t1 (W_kv h1 h4 hi).1) (fun q y => ok_mk (fun w => absurd z w.1))
        · refine ok_eb (movesFromM L1.2.2.2.2 h3 hi) (ok_it (fun _ => ok_mk (fun w => absurd z' w.2)) (fun _ => ok_mk (fun w => absurd z' w.2)))
        · rw [Int32.add_sub_cancel]
          refine ok_bi (wantInM h1 t1 L1 (LKm_fl gl f1 (by decide)) hi) (fun q y => ?_)
          have cl := cn_le (fun a => wnB P 16 N W what (4 * i + a)) (P 3)
          refine ok_le (cn (fun a => wnB P 16 N W what (4 * i + a)) (P 3)) 0 (fun c => ok_mk (fun _ => ⟨y.1, (decide_eq_false (by omega)).symm⟩)) (fun c => ok_mk (fun _ => ⟨y.1, (decide_eq_true (by omega)).symm⟩)) (hx := y.2)
    · refine ok_in (by decide) (ok_in (by decide) (ok_ip (by decide) (ok_eb (firstWithX (B := stvB P 16 N W) g3 h3 (Or.inl rfl) (fun v hv => (g4.2 v hv).1)) (ok_mk (ok_ip e6 (ok_in (by decide) (ok_bi (looksM h1 z3 z4.2.1 z4.2.2) (fun m' y => ?_))))))))
      refine ok_mo (firstL (B := fun i => decide (0 < cn (fun a => stvB P 16 N W (4 * i + a)) (P 3))) (by rw [fl2_i y.1 (by decide)]; exact z4.2.1.2.2.2.1.1) h3 (fun i m1 hi f1 => ok_mo (wI 0 m' y.1 y.2.1 i m1 hi f1) (fun q w => w (by decide)))) (fun q w => ⟨?_, Qy_l hq (fl2_tr y.1 (fl2_su w.1 (by decide))) (LKm_fl y.2.1 w.1 (by decide))⟩)
      rw [w.2]
      exact fi_4 (by omega) (fun v hv => inst v _ (cBo_iff.mp hv).2.1)
    · refine ok_in (by decide) (ok_in (by decide) (ok_in (by decide) (ok_ip (by decide) (ok_eb (firstWithX (B := lefB P N W) g3 h3 (Or.inr rfl) (fun v hv => (g4.2 v hv).2)) (ok_mk (ok_ip e6 (ok_in (by decide) (ok_bi (looksM h1 z3 z4.2.1 z4.2.2) (fun m' y => ?_)))))))))
      refine ok_mo (firstL (B := fun i => decide (0 < cn (fun a => lefB P N W (4 * i + a)) (P 3))) (by rw [fl2_i y.1 (by decide)]; exact z4.2.1.2.2.2.1.1) h3 (fun i m1 hi f1 => ok_mo (wI 1 m' y.1 y.2.1 i m1 hi f1) (fun q w => ?_))) (fun q w => ⟨?_, Qy_l hq (fl2_tr y.1 (fl2_su w.1 (by decide))) (LKm_fl y.2.1 w.1 (by decide))⟩)
      · have w' := w (by decide)
        refine ⟨w'.1, w'.2.trans ?_⟩
        show decide (0 < cn (fun a => wnB P 16 N W 1 (4 * i + a)) (P 3)) = decide (0 < cn (fun a => lefB P N W (4 * i + a)) (P 3))
        congr 2
        refine cn_cg (fun a _ => ?_)
        rw [lefB_Q p8]
        rfl
      · rw [w.2]
        exact fi_4 (by omega) (fun v hv => inst v _ (cBo_iff.mp hv).2.1)
  · exact ok_in (e 0 (by omega)) (ok_in (e 1 (by omega)) (ok_in (e 2 (by omega)) (ok_in (e 3 (by omega)) (ok_mk (ok_in (by rw [isIn_d (n := 4) (by decide) (by decide) e]; decide) (ok_mk ⟨rfl, Qy_i hq⟩))))))
