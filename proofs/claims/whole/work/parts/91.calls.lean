theorem partL {P : Nat → Nat} {N k : Nat} {W D : Nat → Nat} {v2 : Int32} {m : zM} (hL : LMx P 16 N W D m) (hp : PMm P N W m) (hk : k < 2 ^ 31) {K : Int32 × zM → Prop} (h : ok (f_MO_part_J59 (nI k) v2 (nI (cn (fun u => decide (pno (smw P N W) u = k)) N)) m) K) : ok (f_MO_part_L30 (nI k) v2 0 0 m) K := by
  obtain ⟨l1, l2, l3, l4, l5⟩ := id hL
  unfold f_MO_part_L30
  refine ok_for N (fun j (s : Int32 × Int32) => s.2 = nI j ∧ s.1 = nI (cn (fun u => decide (pno (smw P N W) u = k)) j)) ⟨rfl, rfl⟩ (Nat.zero_le _) ?_
  rintro j ⟨x, y⟩ - hj ⟨e1, e2⟩
  have e1 : y = nI j := e1
  have e2 : x = _ := e2
  subst e1
  subst e2
  unfold f_MO_part_B30
  refine ok_le N j (fun q => ?_) (fun q => ?_) (hx := l4.1)
  · have : j = N := by omega
    subst this
    exact ok_zl h
  · have pl := pno_lt (smw_eqv (P := P) (N := N) (W := W)) q
    have pc := cn_le (isf (smw P N W)) N
    refine ok_ix rfl (by omega : j < 608) (by decide) (ok_ee (pno (smw P N W) j) k (fun z => ?_) (fun z => ?_) (hx := hp.1 j q))
    · unfold f_MO_part_J53
      refine ok_mk ⟨q, nI_1 j, ?_⟩
      show nI (cn _ j) + 1 = nI (cn _ (j + 1))
      rw [cn_s1 (decide_eq_true z), nI_1]
    · unfold f_MO_part_J53
      refine ok_mk ⟨q, nI_1 j, ?_⟩
      show nI (cn _ j) = nI (cn _ (j + 1))
      rw [cn_s0 (decide_eq_false z)]
theorem c_part {a1 a2 : Int32} {mx mm : zM} (h : IvW mx mm) : Alk ((f_PA_part a1 a2 mx).bind fun r => some (r, mx)) (f_MO_part a1 a2 mm) := by
  refine Alk_b ?_
  unfold f_PA_part f_MO_part
  refine aqry (v := -1) h (fun P N W D pr sp b p hq => ?_)
  obtain ⟨hc, ht, z2, z3, z4⟩ := id hq
  obtain ⟨⟨h1, h2, h3, h4, h5, h6, h7⟩, r0, g1, g2, g3, g4, g5⟩ := ht.1
  have pc := cn_le (isf (smw P N W)) N
  obtain ⟨q, eq, y1, y2, y3⟩ := partManyM h1 z4.2.1
  rw [eq, Option.bind_some, y2]
  have iv : IvW mx q.2 := Qy_s hq y1 (by decide) (by decide) (by decide) (by decide) (by decide)
  have L1 := LMx_fl z4.2.1 y1 (by decide) (by decide)
  rw [g4.1.1]
  rcases num_or a1 (cn (isf (smw P N W)) N) with ⟨k, hk, e⟩ | e
  · subst e
    refine ok_in (nI_pos (by omega)) (ok_ip ((nI_ltI (by omega) (by omega)).mpr hk) ?_)
    have em := (isIn_n (n := cn (isf (smw P N W)) N) (x := nI k) (by omega)).mpr ⟨k, hk, rfl⟩
    have g := g4.1.2.2.1 k hk
    rcases num_or a2 3 with ⟨j, hj, e⟩ | e
    · subst e
      rcases (show j = 0 ∨ j = 1 ∨ j = 2 by omega) with z | z | z <;> subst z
      · refine ok_ip (by decide) (ok_ix rfl (by omega : k < 600) (by decide) (ok_mk (ok_ip em (partL L1 y3 (by omega) ?_))))
        unfold f_MO_part_J59
        exact ok_ip (by decide) (ok_mk ⟨g.1, iv⟩)
      · refine ok_in (by decide) (ok_ip (by decide) (ok_ix rfl (by omega : k < 600) (by decide) (ok_mk (ok_ip em (partL L1 y3 (by omega) ?_)))))
        unfold f_MO_part_J59
        obtain ⟨u, u1, u2, u3⟩ := cn_at hk
        refine ok_in (by decide) (ok_ip (by decide) (ok_ix rfl (by omega : k < 608) (by decide) (ok_mk ⟨?_, iv⟩)))
        rw [← u3, g4.1.2.2.2 u u1 u2, y3.2 u u1 u2]
      · refine ok_in (by decide) (ok_in (by decide) (ok_ip (by decide) (ok_ix rfl (by omega : k < 600) (by decide) (ok_mk (ok_ip em (partL L1 y3 (by omega) ?_))))))
        unfold f_MO_part_J59
        refine ok_in (by decide) (ok_in (by decide) (ok_ip (by decide) (ok_eb (isEndM L1 y3 (by omega)) ?_)))
        rw [g.2]
        cases cBo (endQ P N W k) with
        | true => exact ok_ip rfl (ok_mk ⟨as_t, iv⟩)
        | false => exact ok_in Bool.false_ne_true (ok_mk ⟨as_f, iv⟩)
    · refine ok_in (e 0 (by omega)) (ok_in (e 1 (by omega)) (ok_in (e 2 (by omega)) (ok_mk (ok_ip em (partL L1 y3 (by omega) ?_)))))
      unfold f_MO_part_J59
      exact ok_in (e 0 (by omega)) (ok_in (e 1 (by omega)) (ok_in (e 2 (by omega)) (ok_mk ⟨rfl, iv⟩)))
  · have no : ok (if f_MO_isIn a1.toInt64 0 ((nI (cn (isf (smw P N W)) N) - 1).toInt64) = true then f_MO_part_L30 a1 a2 0 0 q.2 else some (-1, q.2)) (fun q => (-1 : Int32) = q.1 ∧ IvW mx q.2) := ok_in (by rw [isIn_f (by omega) e]; decide) (ok_mk ⟨rfl, iv⟩)
    rcases rng_f (n := cn (isf (smw P N W)) N) (by omega) e with s | s
    · exact ok_ip s (ok_mk no)
    · exact ok_it (fun _ => ok_mk no) (fun _ => ok_in (fun y => Int32.lt_irrefl (Int32.lt_of_lt_of_le y s)) (ok_mk no))
theorem fr_fin {P : Nat → Nat} {N t : Nat} {W fr : Nat → Nat} (hN : N ≤ 600) (hE : ∀ i j, EWo P N W i j → i < N ∧ j < N) (ht : t < N) (hf : frS P N W t fr) (hm : ∀ i d, i < N → Rn (EWo P N W) i d t → fr i ≤ d) {i : Nat} (hi : i < N) : fr i < 100000 ↔ Rc (EWo P N W) i t := by
  have dn : ∀ v i, i < N → fr i = v → v < 100000 → v < N := by
    intro v i hi e hv
    have ex : ∀ k, k ≤ v → ∃ j, j < N ∧ fr j = v - k := by
      intro k
      induction k with
      | zero => exact fun _ => ⟨i, hi, e⟩
      | succ k ih =>
        intro hk
        obtain ⟨j, j1, j2⟩ := ih (by omega)
        have r := (hf.2 j j1).2 (by omega)
        rw [j2, show v - k = (v - (k + 1)) + 1 by omega] at r
        obtain ⟨l, l1, l2⟩ := Rn_un r
        have lN := (hE j l l1).2
        have a := hm l _ lN l2
        have b := (hf.2 l lN).2 (by omega)
        have c := hm j _ j1 (Rn_fr l1 b)
        exact ⟨l, lN, by omega⟩
    have ch : ∀ k, ∃ j, k ≤ v → j < N ∧ fr j = v - k := fun k => by
      by_cases hk : k ≤ v
      · obtain ⟨j, hj⟩ := ex k hk
        exact ⟨j, fun _ => hj⟩
      · exact ⟨0, fun z => absurd z hk⟩
    have := pigeon (n := v + 1) (m := N) (fun k => Classical.choose (ch k)) (fun k hk => (Classical.choose_spec (ch k) (by omega)).1) (fun k l hk hl e => by
      have a := (Classical.choose_spec (ch k) (by omega)).2
      have b := (Classical.choose_spec (ch l) (by omega)).2
      have e : Classical.choose (ch k) = Classical.choose (ch l) := e
      rw [e] at a
      omega)
    omega
  constructor
  · intro h
    exact ⟨fr i, (hf.2 i hi).2 h⟩
  · rintro ⟨d, h⟩
    have key : ∀ d i, i < N → Rn (EWo P N W) i d t → fr i < 100000 := by
      intro d
      induction d with
      | zero =>
        intro i hi h
        have h : t = i := h
        rw [← h, hf.1]
        omega
      | succ d ih =>
        intro i hi h
        obtain ⟨j, j1, j2⟩ := Rn_un h
        have jN := (hE i j j1).2
        have a := ih j jN j2
        have b := dn _ j jN rfl a
        have c := hm i _ hi (Rn_fr j1 ((hf.2 j jN).2 a))
        omega
    exact key d i hi h
theorem retM {P : Nat → Nat} {N : Nat} {W D fr : Nat → Nat} {m : zM} (hP : tV P) (ht : tM 23 P m) (hL : LMx P 16 N W D m) (hf : FrM P N W 0 fr m) : ok (f_MO_returns_L18 0 0 m) (fun p => fl2 [25] [(0, 36)] m p.2 ∧ p.1 = sumI (fun i => if fr i < 100000 then timesOf P (W i) else 0) N) := by
  obtain ⟨l1, l2, l3, l4, l5⟩ := id hL
  unfold f_MO_returns_L18
  refine ok_for N (fun k (s : Int32 × Int32 × zM) => s.2.1 = nI k ∧ s.1 = sumI (fun i => if fr i < 100000 then timesOf P (W i) else 0) k ∧ fl2 [25] [(0, 36)] m s.2.2) ⟨rfl, rfl, fl2_rf⟩ (Nat.zero_le _) ?_
  rintro k ⟨x, y, m1⟩ - hk ⟨e1, e2, f1⟩
  have e1 : y = nI k := e1
  have e2 : x = _ := e2
  subst e1
  subst e2
  have f1 : fl2 [25] [(0, 36)] m m1 := f1
  have L2 := LMx_fl hL f1 (by decide) (by decide)
  unfold f_MO_returns_B18
  refine ok_le N k (fun q => ok_mk ⟨f1, by show sumI _ k = sumI _ N; rw [show k = N by omega]⟩) (fun q => ?_) (hx := L2.2.2.2.1.1)
  have kw := (Rn_kv hP (l3.1 k q).1).1
  have fl := (hf.2.1.2 k q).1
  refine ok_ix rfl (by omega : k < 608) (by decide) (ok_le 100000 (fr k) (fun z => ?_) (fun z => ?_) (hy := by rw [fl2_i f1 (by simp [inS])]; exact hf.1 k q))
  · unfold f_MO_returns_J46
    refine ok_mk ⟨q, nI_1 k, ?_, f1⟩
    show sumI _ k = sumI _ k + (if fr k < 100000 then timesOf P (W k) else 0)
    rw [if_neg (by omega), Int32.add_zero]
  · refine ok_bi (copiesM hP (tM_fl ht f1 (by decide)) L2.2.2.2.1 l2 q kw) (fun p ⟨y1, y2⟩ => ?_)
    unfold f_MO_returns_J46
    refine ok_mk ⟨q, nI_1 k, ?_, fl2_tr f1 y1⟩
    show sumI _ k + p.1 = sumI _ k + (if fr k < 100000 then timesOf P (W k) else 0)
    rw [if_pos z, y2]
theorem pno_0 {P : Nat → Nat} {N w : Nat} {W D : Nat → Nat} (hL : Lst (Ed P 16) (wx0 P) N W D) (h0 : 0 < N) (hw : w < N) : pno (smw P N W) w = 0 ↔ Rc (EWo P N W) w 0 := by
  have ev := smw_eqv (P := P) (N := N) (W := W)
  have f0 : fwp (smw P N W) 0 = 0 := Nat.le_zero.mp (fwp_sp ev 0).1
  have p0 : pno (smw P N W) 0 = 0 := by unfold pno; rw [f0]; rfl
  have fw : Rc (EWo P N W) 0 w := ⟨D w, (Rn_W hL hw).mp (hL.1 w hw).1⟩
  constructor
  · intro h
    exact (smw_iff.mp (pno_in ev (h.trans p0.symm))).1
  · intro h
    rw [← p0]
    exact pno_same ev (smw_iff.mpr ⟨h, fw⟩)
theorem c_returns {mx mm : zM} (h : IvW mx mm) : Alk ((f_PA_returns mx).bind fun r => some (r, mx)) (f_MO_returns mm) := by
  refine Alk_b ?_
  unfold f_PA_returns f_MO_returns
  refine aqry (v := -1) h (fun P N W D pr sp b p hq => ?_)
  obtain ⟨hc, ht, z2, z3, z4⟩ := id hq
  obtain ⟨⟨h1, h2, h3, h4, h5, h6, h7⟩, r0, g1, g2, g3, g4, g5⟩ := ht.1
  refine ok_eb (partWX (k := 0) g3 g4.1 h3 (by decide)) (ok_mk (ok_bi (measuresM z4.2.1 h2) (fun m' ⟨y, fr, hf⟩ => ?_)))
  refine ok_mo (retM h1 (tM_fl z3 y (by decide)) (LMx_fl z4.2.1 y (by decide) (by decide)) hf) (fun q w => ⟨?_, Qy_s hq (S := [25, 50]) (F := [(0, 36)]) (fl2_tr (fl2_su y (by decide)) (fl2_su w.1 (by decide))) (by decide) (by decide) (by decide) (by decide) (by decide)⟩)
  rw [w.2]
  refine sumI_cg (fun i hi => ?_)
  have e := (pno_0 h4 h2 hi).trans (fr_fin h3 (fun i j e => ⟨e.1, EW_lt h4 e⟩) h2 hf.2.1 hf.2.2 hi).symm
  by_cases c : fr i < 100000
  · rw [if_pos c, if_pos (e.mpr c)]
  · rw [if_neg c, if_neg (fun z => c (e.mp z))]
