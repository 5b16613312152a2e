/-- the tape is empty on both sides -/
theorem CoR_0 {mx mx' mm mm' : zM} {S S' : List Nat} {F F' : List (Nat × Nat)} (h : CoR mx mm) (hf : fl2 S F mx mx') (hf' : fl2 S' F' mm mm') (e1 : mx'.1 1 1 = nI 0) (e2 : mm'.1 0 1 = nI 0) (hk : kps [4, 64] [(0, 15), (3, 1), (5, 1), (65, 7), (65, 8)] S F = true) (hk' : kps [2, 56] [(0, 7), (0, 8), (0, 76), (0, 83)] S' F' = true) (k3 : kps [] [(5, 1), (65, 7), (65, 8)] S F = true := by decide) (k4 : kps [3, 4, 5, 6, 7, 8, 9, 10, 11, 12, 13, 14, 15, 16, 17, 18, 19, 20, 21] [(0, 7), (0, 8)] S' F' = true := by decide) : CoR mx' mm' := by
  obtain ⟨h1, h2, h3, h4, h5⟩ := h
  refine ⟨⟨0, by omega, e1, e2, fun j hj => absurd hj (Nat.not_lt_zero _)⟩, ?_, ?_, ?_, ?_⟩
  · rw [show mm'.1 2 = mm.1 2 from fl2_ic hf' (kps_c hk' (by simp)), show mx'.1 64 = mx.1 64 from fl2_ic hf (kps_c hk (by simp))]; exact h2
  · exact CoF_f h3 hf hf' k3 k4
  · rw [show mm'.2.1 0 76 = mm.2.1 0 76 from fl2_j hf' (kps_g hk' (by simp)), show mx'.2.1 0 15 = mx.2.1 0 15 from fl2_j hf (kps_g hk (by simp))]; exact h4
  · rw [show mm'.1 0 83 = mm.1 0 83 from fl2_i hf' (kps_g hk' (by simp)), show mm'.1 56 = mm.1 56 from fl2_ic hf' (kps_c hk' (by simp)), show mx'.1 3 1 = mx.1 3 1 from fl2_i hf (kps_g hk (by simp)), show mx'.1 4 = mx.1 4 from fl2_ic hf (kps_c hk (by simp))]; exact h5
theorem cut1 {n0 : Nat} {m : zM} (h : m.1 1 1 = nI n0) (hn : n0 < 2 ^ 31) : fl2 [] [(1, 1)] m (f_Bytes_cut 1 0 m) ∧ (f_Bytes_cut 1 0 m).1 1 1 = nI 0 := by
  unfold f_Bytes_cut
  rw [if_neg (by decide)]
  by_cases c : m.1 1 1 ≤ 0
  · rw [if_pos c]
    rw [h] at c
    have := (nI_leI (a := n0) (b := 0) hn (by decide)).mp c
    exact ⟨fl2_rf, by rw [h, show n0 = 0 by omega]⟩
  · rw [if_neg c]
    exact ⟨fl2_I (inS_f (by simp)), rd_I1 _ _ _ _⟩
/-- the tape as bytes, on both sides -/
theorem CoR_tp {mx mm : zM} (h : CoR mx mm) : ∃ (n : Nat) (g : Nat → Nat), n ≤ 1600 ∧ TpX n g mx ∧ mm.1 0 1 = nI n ∧ ∀ j, j < n → mm.1 1 j = nI (g j) ∧ g j < 256 := by
  obtain ⟨⟨n, hn, n1, n2, n3⟩, _⟩ := h
  have k : ∀ j, j < n → mx.1 2 j = nI ((mx.1 2 j).toNatClampNeg) ∧ mm.1 1 j = nI ((mx.1 2 j).toNatClampNeg) ∧ (mx.1 2 j).toNatClampNeg < 256 := by
    intro j hj
    obtain ⟨k, k1, k2, k3⟩ := n3 j hj
    have e : (mx.1 2 j).toNatClampNeg = k := by rw [k2, nI_clamp (by omega)]
    rw [e]
    exact ⟨k2, k3, k1⟩
  exact ⟨n, fun j => (mx.1 2 j).toNatClampNeg, hn, ⟨n1, fun j hj => ⟨(k j hj).1, (k j hj).2.2⟩⟩, n2, fun j hj => ⟨(k j hj).2.1, (k j hj).2.2⟩⟩
/-- Told stays where the reference has only shortened its tape -/
theorem Told_m {P : Nat → Nat} {N : Nat} {W D pr sp : Nat → Nat} {b : Nat} {mx mm mm' : zM} {S' : List Nat} {F' : List (Nat × Nat)} (h : Told P N W D pr sp b mx mm) (hf' : fl2 S' F' mm mm') (m0 : kps [23] [] S' F' = true) (m1 : kps [27, 28, 29] [(0, 41)] S' F' = true) (m2 : kps [30] [] S' F' = true) (m3 : kps [32, 35, 36] [] S' F' = true) (m4 : kps [] [(0, 40), (0, 46)] S' F' = true) (m5 : kps [52] [(0, 72), (0, 74), (0, 75)] S' F' = true) (m6 : kps [53] [(0, 77), (0, 78)] S' F' = true) (m7 : kps [] [(0, 33)] S' F' = true) : Told P N W D pr sp b mx mm' :=
  ⟨h.1, ⟨by rw [fl2_i hf' (kps_g m7 (by simp))]; exact h.2.1.1, tM_fl h.2.1.2.1 hf' m0, MCa_fl h.2.1.2.2 hf' m1 m2 m3 m4⟩, WaR_m h.2.2.1 hf' m5, SiR_m h.2.2.2 hf' m6⟩
theorem imgM {P : Nat → Nat} {N n : Nat} {W D pr sp g : Nat → Nat} {b : Nat} {mx mm : zM} (ht : Told P N W D pr sp b mx mm) (hT : ∀ j, j < n → mm.1 1 j = nI (g j) ∧ g j < 256) (hn : n ≤ 1600) : ok (f_MO_imaged (nI n) mm) (fun p => fl2 MS MF mm p.2 ∧ tM 23 P p.2 ∧ MaK P N W D p.2 ∧ ((p.1 = -1 ∧ ¬ imOK P n g) ∨ (n = 4 * P 3 + 2 ∧ g (4 * P 3 + 1) = chB g (4 * P 3 + 1) ∧ (∀ i, i < P 3 → g (1 + 4 * i) < P 0) ∧ p.1 = lN (ky 4096 (t7 (g 0)) (dgB (P 3) g) 4)))) := by
  have h1 := ht.1.1.1
  have p3 := h1.1.2.1
  unfold f_MO_imaged f_MO_imaged_J40
  refine ok_bi (askT ht) (fun p ⟨z1, z2, z3, z4⟩ => ok_ip z1 (ok_eb (agM (tM_n z3 (by decide) (by decide))) ?_))
  have hT' : ∀ j, j < n → p.2.1 1 j = nI (g j) ∧ g j < 256 := fun j hj => by rw [fl2_ic z2 (fun j => by simp [inS, MS, MF])]; exact hT j hj
  have e2 : 2 + 4 * nI (P 3) = nI (4 * P 3 + 2) := by
    rw [show (4 : Int32) = nI 4 from rfl, pk_mul, show (2 : Int32) = nI 2 from rfl, nI_add, Nat.add_comm]
  rw [e2]
  refine ok_ee n (4 * P 3 + 2) (fun q => ?_) (fun q => ok_mk ⟨z2, z3, z4, Or.inl ⟨rfl, fun z => q z.1⟩⟩)
  have e3 : nI n - 1 = nI (4 * P 3 + 1) := by rw [q, show 4 * P 3 + 2 = 4 * P 3 + 1 + 1 by omega, nI_pred]
  rw [e3]
  have c1 := chB_lt g (4 * P 3 + 1)
  have c2 := hT' (4 * P 3 + 1) (by omega)
  refine ok_ix rfl (by omega : 4 * P 3 + 1 < 1600) (by decide) (ok_eb (checkM (g := g) (c := 1) (fun j hj => hT' j (by omega)) (show 4 * P 3 + 1 ≤ 1600 by omega) (by decide)) ?_)
  refine ok_ee (g (4 * P 3 + 1)) (chB g (4 * P 3 + 1)) (fun q1 => ?_) (fun q1 => ok_mk ⟨z2, z3, z4, Or.inl ⟨rfl, fun z => q1 z.2.1⟩⟩) (hx := c2.1)
  have c0 := hT' 0 (by omega)
  refine ok_eb (toldM c0.1 c0.2 (by omega) rfl) (ok_mo (imgL h1 z3 hT' q) (fun r ⟨r1, r2⟩ => ?_))
  rw [r1]
  refine ⟨z2, z3, z4, ?_⟩
  rcases r2 with ⟨r2, i, hi, r3⟩ | ⟨r2, r3⟩
  · exact Or.inl ⟨r2, fun z => by have := (z.2.2.2 (1 + 4 * i) (by omega) (by omega)).1 (by omega); omega⟩
  · exact Or.inr ⟨q, q1, r2, r3⟩
def onP (P : Nat → Nat) (N : Nat) (W : Nat → Nat) (n : Nat) (g : Nat → Nat) : Prop := imOK P n g ∧ ∃ k, k < N ∧ W k = fo (P 3) (imW (P 3) g)
theorem onMm {P : Nat → Nat} {N n : Nat} {W D pr sp g : Nat → Nat} {b : Nat} {mx mm : zM} (ht : Told P N W D pr sp b mx mm) (hT : ∀ j, j < n → mm.1 1 j = nI (g j) ∧ g j < 256) (hn : n ≤ 1600) (h01 : mm.1 0 1 = nI n) : ok (f_MO_on mm) (fun q => ∃ p, fl2 MS ((0, 1) :: MF) mm p ∧ p.1 0 1 = nI 0 ∧ tM 23 P p ∧ MaK P N W D p ∧ ((onP P N W n g ∧ q = (true, sI (sJ p 0 72 (lN (km (P 3) (imW (P 3) g)))) 0 74 0)) ∨ (¬ onP P N W n g ∧ q = (false, sI p 2 5 (p.1 2 5 + 1))))) := by
  have h1 := ht.1.1.1
  have hG := ht.1.1.2.2.2.2.2.2.2
  have h4 := ht.1.1.2.2.2.1
  obtain ⟨a1, a2, a3, a4, a5, a6, a7⟩ := h1.1
  unfold f_MO_on
  have f1 : fl2 MS ((0, 1) :: MF) mm (sI mm 0 1 0) := fl2_I (inS_f (by simp))
  have f1' : fl2 [] [(0, 1)] mm (sI mm 0 1 0) := fl2_I (inS_f (by simp))
  have t1 := Told_m ht f1' (by decide) (by decide) (by decide) (by decide) (by decide) (by decide) (by decide) (by decide)
  rw [h01]
  refine ok_lt (ok_bi (imgM (n := n) (g := g) t1 (fun j hj => by rw [rd_I0 (by omega)]; exact hT j hj) hn) (fun p ⟨z2, z3, z4, z5⟩ => ?_))
  have fp : fl2 MS ((0, 1) :: MF) mm p.2 := fl2_tr f1 (fl2_su z2 (by decide))
  have e0 : p.2.1 0 1 = nI 0 := by rw [fl2_i z2 (by decide), rd_I1]; rfl
  have no : ∀ p' : zM, fl2 [25, 26] [(0, 36), (0, 38)] p.2 p' → ¬ onP P N W n g → ok (f_MO_on_J31 p') (fun q => ∃ p, fl2 MS ((0, 1) :: MF) mm p ∧ p.1 0 1 = nI 0 ∧ tM 23 P p ∧ MaK P N W D p ∧ ((onP P N W n g ∧ q = (true, sI (sJ p 0 72 (lN (km (P 3) (imW (P 3) g)))) 0 74 0)) ∨ (¬ onP P N W n g ∧ q = (false, sI p 2 5 (p.1 2 5 + 1))))) := by
    intro p' hf hno
    unfold f_MO_on_J31
    rw [show f_MO_isRefused 5 p' = _ from refMb (i := 5) (by decide) p']
    exact ok_mk ⟨p', fl2_tr fp (fl2_su hf (by decide)), by rw [fl2_i hf (by decide)]; exact e0, tM_fl z3 hf (by decide), MaK_fl z4 hf (by decide) (by decide) (by decide) (by decide), Or.inr ⟨hno, rfl⟩⟩
  rcases z5 with ⟨y1, y2⟩ | ⟨y1, y2, y3, y4⟩
  · rw [y1]
    exact ok_ip (by decide) (no p.2 fl2_rf (fun z => y2 z.1))
  · have h8 := t7_lt (g 0)
    have s6 : ∀ i, i < P 3 → g (1 + 4 * i) < 6 := fun i hi => by have := y3 i hi; omega
    have dl := dgB_lt s6
    have kb := ky_48 h8 (Nat.le_refl 4) (fun j _ => dl j)
    rw [y4]
    refine ok_in (fun z => ?_) ?_
    · have := (lg_cmp_lt _ _).mp z
      rw [Int64.lt_iff_toInt_lt, pk_lT (by omega), show (0 : Int64).toInt = 0 from rfl] at this
      omega
    · by_cases good : t7 (g 0) < 7 ∧ ∀ i, i < P 3 → t7 (g (2 + 4 * i)) < 7 ∧ t7 (g (3 + 4 * i)) < 7 ∧ t7 (g (4 + 4 * i)) < 7
      · obtain ⟨hb, hk⟩ := dgB_k (by omega) a2 s6 good.1 good.2
        have hx : kv (P 3) (imW (P 3) g) := kv_k (byO_w hb (by omega) a2)
        rw [hk]
        refine ok_bi (foldedOfM h1 z3 z4.2.1 hx) (fun pf ⟨ff, hh⟩ => ?_)
        rcases hh with ⟨l, l1, l2, l3⟩ | ⟨l1, l2⟩
        · have hl := z4.2.1.2.1
          refine ok_in (by rw [l3]; exact nI_ne_m1 (by omega)) (ok_lt (ok_lt (ok_mk ⟨pf.2, fl2_tr fp (fl2_su ff (by decide)), by rw [fl2_i ff (by decide)]; exact e0, tM_fl z3 ff (by decide), MaK_fl z4 ff (by decide) (by decide) (by decide) (by decide), Or.inl ⟨⟨?_, l, l1, l2⟩, rfl⟩⟩)))
          refine imOK_g h1 (fun j hj => (hT j hj).2) y1 y2 hb ?_
          rw [← gwd_fo hx, ← l2]
          exact gwd_R h1 hG (h4.1 l l1).1
        · exact ok_ip l2 (no pf.2 ff (fun z => by obtain ⟨k, k1, k2⟩ := z.2; exact l1 k k1 k2))
      · refine ok_bi (foldedG h1 z3 z4.2.1 h8 (fun j _ => dl j) ?_) (fun pf ⟨ff, hh⟩ => ok_ip hh (no pf.2 ff (fun z => ?_)))
        · by_cases c : t7 (g 0) < 7
          · right
            obtain ⟨i, hi, c2⟩ : ∃ i, i < P 3 ∧ ¬ (t7 (g (2 + 4 * i)) < 7 ∧ t7 (g (3 + 4 * i)) < 7 ∧ t7 (g (4 + 4 * i)) < 7) := Classical.byContradiction (fun z => good ⟨c, fun i hi => Classical.byContradiction (fun y => z ⟨i, hi, y⟩)⟩)
            refine ⟨i, by omega, fun e _ => ?_⟩
            rw [show dgB (P 3) g i = _ from if_pos hi]
            have u1 := t7_lt (g (2 + 4 * i))
            have u2 := t7_lt (g (3 + 4 * i))
            have u3 := t7_lt (g (4 + 4 * i))
            exact dg8_b u1 u2 u3 (by omega)
          · left; omega
        · have hb := imOK_b h1 (fun j hj => (hT j hj).2) z.1
          refine good ⟨?_, fun i hi => ⟨?_, ?_, ?_⟩⟩
          · exact t7_o hb.1
          · exact t7_o (hb.2 i hi).2.1
          · exact t7_o (hb.2 i hi).2.2.1
          · exact t7_o (hb.2 i hi).2.2.2
theorem onXx {P : Nat → Nat} {N n : Nat} {W D pr sp g : Nat → Nat} {b : Nat} {mx mm : zM} (ht : Told P N W D pr sp b mx mm) (hT : TpX n g mx) (hn : n ≤ 1600) : ok (f_PA_on mx) (fun q => ∃ p, fl2 [59, 60, 61, 62] [(1, 1)] mx p ∧ p.1 1 1 = nI 0 ∧ ((onP P N W n g ∧ q.1 = true ∧ fl2 [55, 56] [(0, 14)] p q.2 ∧ kv (P 3) (imW (P 3) g) ∧ wX 55 (P 3) (dh (P 3) (imW (P 3) g)) (da (P 3) (imW (P 3) g)) q.2 ∧ q.2.1 0 14 = nI 0) ∨ (¬ onP P N W n g ∧ q = (false, sI p 64 5 (p.1 64 5 + 1))))) := by
  obtain ⟨⟨h1, h2, h3, h4, h5, h6, h7⟩, r0, g1, g2, g3, g4, g5⟩ := ht.1
  obtain ⟨a1, a2, a3, a4, a5, a6, a7⟩ := h1.1
  have no : ∀ p' : zM, fl2 [59, 60, 61, 62] [] mx p' → ¬ onP P N W n g → ok (f_PA_on_J67 false p') (fun q => ∃ p, fl2 [59, 60, 61, 62] [(1, 1)] mx p ∧ p.1 1 1 = nI 0 ∧ ((onP P N W n g ∧ q.1 = true ∧ fl2 [55, 56] [(0, 14)] p q.2 ∧ kv (P 3) (imW (P 3) g) ∧ wX 55 (P 3) (dh (P 3) (imW (P 3) g)) (da (P 3) (imW (P 3) g)) q.2 ∧ q.2.1 0 14 = nI 0) ∨ (¬ onP P N W n g ∧ q = (false, sI p 64 5 (p.1 64 5 + 1))))) := by
    intro p' hf hno
    unfold f_PA_on_J67
    obtain ⟨c1, c2⟩ := cut1 (m := p') (n0 := n) (by rw [fl2_i hf (by decide)]; exact hT.1) (by omega)
    refine ok_lt (ok_in Bool.false_ne_true (ok_eb (refX (i := 5) (by decide) _) (ok_mk ⟨f_Bytes_cut 1 0 p', fl2_tr (fl2_su hf (by decide)) (fl2_su c1 (by decide)), c2, Or.inr ⟨hno, rfl⟩⟩)))
  unfold f_PA_on f_PA_on_J25
  refine ok_in (by rw [g1]; decide) (ok_eb (tb_ok r0.2.1 r0.1) (ok_bi (isImX h1 g2 hT hn) (fun r hr => ok_it (fun q => ?_) (fun q => ?_))))
  · have hi := hr.mp q
    have hb := imOK_b h1 (fun j hj => (hT.2 j hj).2) hi
    have hv := byO_w hb (by omega) a2
    have hx : kv (P 3) (imW (P 3) g) := kv_k hv
    obtain ⟨d1, d2⟩ := dk_ky (h := tol (g 0)) hv.2.2.2
    unfold f_PA_on_J26
    refine ok_ip rfl (ok_eb (tb_ok r0.2.1 r0.1) (ok_bi (devX h1 r0.1 g2 hT hn hi.1) (fun p4 ⟨f4, w4⟩ => ?_)))
    have w4' : wX 59 (P 3) (dh (P 3) (imW (P 3) g)) (da (P 3) (imW (P 3) g)) p4 := by
      refine ⟨?_, w4.2.1, fun i hi => ?_⟩
      · rw [w4.1]; unfold imW; rw [d1]
      · rw [w4.2.2 i hi]; unfold imW; rw [d2 i hi]
    refine ok_bi (numG h1 h4 h3 (AXm_fl g3 f4 (by decide)) hx w4' (by decide) (by decide)) (fun p5 ⟨f5, hh⟩ => ?_)
    have fx : fl2 [59, 60, 61, 62] [] mx p5.2 := fl2_tr (fl2_su f4 (by decide)) (fl2_su f5 (by decide))
    unfold f_PA_on_J66
    rcases hh with ⟨l, l1, l2, l3⟩ | ⟨l1, l2⟩
    · refine ok_in (by rw [l3]; exact nI_ne_m1 (by omega)) ?_
      unfold f_PA_on_J67
      obtain ⟨c1, c2⟩ := cut1 (m := p5.2) (n0 := n) (by rw [fl2_i fx (by decide)]; exact hT.1) (by omega)
      refine ok_lt (ok_ip rfl (ok_bi (copyX (w := 55) (wX_fl (wX_fl w4' f5 (by decide)) c1 (by decide)) (by omega) (by decide) (by decide) (by decide)) (fun p7 ⟨f7, w7⟩ => ok_lt (ok_mk ?_))))
      have f8 : fl2 [] [(0, 14)] p7 (sI p7 0 14 0) := fl2_I (inS_f (by simp))
      exact ⟨f_Bytes_cut 1 0 p5.2, fl2_tr (fl2_su fx (by decide)) (fl2_su c1 (by decide)), c2, Or.inl ⟨⟨hi, l, l1, l2⟩, rfl, fl2_tr (fl2_su f7 (by decide)) (fl2_su f8 (by decide)), hx, wX_fl w7 f8 (by decide), rd_I1 _ _ _ _⟩⟩
    · exact ok_ip l2 (no p5.2 fx (fun z => by obtain ⟨k, k1, k2⟩ := z.2; exact l1 k k1 k2))
  · unfold f_PA_on_J26
    exact ok_in Bool.false_ne_true (no mx fl2_rf (fun z => q (hr.mpr z.1)))
/-- both sides have worked; the tape is empty -/
theorem IvOn {P : Nat → Nat} {N : Nat} {W D pr sp : Nat → Nat} {b : Nat} {mx mm p mx' p' : zM} {S S' : List Nat} {F F' : List (Nat × Nat)} (ht : Told P N W D pr sp b mx mm) (z2 : fl2 MS ((0, 1) :: MF) mm p) (z3 : tM 23 P p) (z4 : MaK P N W D p) (hf : fl2 S F mx mx') (hf' : fl2 S' F' p p') (hc : CoR mx' p') (hw : WaR P N W mx' p') (ho : offT S F = true) (hk : kps [26, 27, 28, 29, 30, 31, 32, 33, 34, 35, 36, 37] [(24, 0), (24, 1)] S F = true) (hk2 : kps [117, 118, 119, 120] [(116, 3)] S F = true) (hk3 : kps [122, 123] [] S F = true) (hk4 : kps [127, 128] [(0, 13)] S F = true) (k6 : kps [49, 50, 53] [(48, 2), (48, 3), (48, 7), (48, 8)] S F = true) (m0 : kps [23] [] S' F' = true) (m1 : kps [27, 28, 29] [(0, 41)] S' F' = true) (m2 : kps [30] [] S' F' = true) (m3 : kps [32, 35, 36] [] S' F' = true) (m4 : kps [] [(0, 40), (0, 46)] S' F' = true) (m6 : kps [53] [(0, 77), (0, 78)] S' F' = true) (m7 : kps [] [(0, 33)] S' F' = true) : IvW mx' p' := by
  obtain ⟨h1, h2, h3, h4⟩ := ht
  refine ⟨hc, Or.inr ⟨P, N, W, D, pr, sp, b, TdX_f h1 hf ho hk hk2 hk3 hk4, ⟨?_, tM_fl z3 hf' m0, MaK_c (MaK_fl z4 hf' m1 m2 m3 m4) h1.1.2.2.2.2.1 h1.1.2.2.2.2.2.1⟩, hw, SiR_m (SiR_m (SiR_x h4 hf k6) z2 (by decide)) hf' m6⟩⟩
  rw [fl2_i hf' (kps_g m7 (by simp)), fl2_i z2 (by decide)]; exact h2.1
theorem c_on {mx mm : zM} (h : IvW mx mm) : Alk ((f_PA_on mx).bind fun p => some (b2i p.1, p.2)) ((f_MO_on mm).bind fun p => some (b2i p.1, p.2)) := by
  refine Alk_bb ?_
  obtain ⟨hc, hn | ⟨P, N, W, D, pr, sp, b, ht⟩⟩ := id h
  · obtain ⟨n, g, n0, n1, n2, n3⟩ := CoR_tp hc
    obtain ⟨c1, c2⟩ := cut1 (m := mx) n1.1 (by omega)
    have f1 : fl2 [] [(0, 1)] mm (sI mm 0 1 0) := fl2_I (inS_f (by simp))
    have hn' : NtR (f_Bytes_cut 1 0 mx) (sI mm 0 1 0) := NtR_f hn c1 f1 (by decide) (by decide)
    have iv : IvW (f_Bytes_cut 1 0 mx) (sI mm 0 1 0) := ⟨CoR_0 hc c1 f1 c2 (rd_I1 _ _ _ _) (by decide) (by decide), Or.inl hn'⟩
    unfold f_PA_on f_PA_on_J25 f_PA_on_J26 f_PA_on_J67 f_MO_on f_MO_imaged f_MO_imaged_J40 f_MO_on_J31
    refine ok_ip hn.1 (ok_in Bool.false_ne_true (ok_lt (ok_in Bool.false_ne_true ?_)))
    refine ok_mo (refBB (i := 5) (v := 5) (w := 5) (by decide) rfl rfl iv) (fun r hr => ok_lt (ok_eb (a := ((-1 : Int64), sI mm 0 1 0)) ?_ (ok_ip (by show lg_cmp (-1) 0 < 0; decide) hr)))
    rw [ntA hn']
    rfl
  · obtain ⟨n, g, n0, n1, n2, n3⟩ := CoR_tp hc
    refine ok_mo (onXx ht n1 n0) (fun qx ⟨px, fx, ex, hx⟩ => ok_mo (onMm ht n3 n0 n2) (fun qm ⟨pm, fm, em, tm, mkk, hm⟩ => ?_))
    rcases hx with ⟨o1, x1, x2, x3, x4, x5⟩ | ⟨o1, x1⟩
    · rcases hm with ⟨_, m1⟩ | ⟨o2, _⟩
      rotate_left
      · exact absurd o1 o2
      rw [m1]
      refine ⟨x1, ?_⟩
      have fx2 : fl2 [55, 56, 59, 60, 61, 62] [(1, 1), (0, 14)] mx qx.2 := fl2_tr (fl2_su fx (by decide)) (fl2_su x2 (by decide))
      have fm2 : fl2 [] [(0, 72), (0, 74)] pm (sI (sJ pm 0 72 (lN (km (P 3) (imW (P 3) g)))) 0 74 0) := fl2_tr (fl2_J (inS_f (by simp))) (fl2_I (inS_f (by simp)))
      have fm3 : fl2 MS ((0, 1) :: (0, 72) :: (0, 74) :: MF) mm (sI (sJ pm 0 72 (lN (km (P 3) (imW (P 3) g)))) 0 74 0) := fl2_tr (fl2_su fm (by decide)) (fl2_su fm2 (by decide))
      refine IvOn ht fm tm mkk fx2 fm2 (CoR_0 hc fx2 fm3 (by rw [fl2_i x2 (by decide)]; exact ex) (by rw [fl2_i fm2 (by decide)]; exact em) (by decide) (by decide)) ⟨⟨imW (P 3) g, ⟨x3, o1.2⟩, x4, ?_⟩, ?_⟩ (by decide) (by decide) (by decide) (by decide) (by decide) (by decide) (by decide) (by decide) (by decide) (by decide) (by decide) (by decide) (by decide)
      · rw [rd_IJ, rd_J1]
      · obtain ⟨_, k, q, tr, t1, t2, t3, t4, t5, t6⟩ := ht.2.2.1
        refine ⟨0, q, tr, by omega, t2, x5, rd_I1 _ _ _ _, ?_, fun i hi => absurd hi (Nat.not_lt_zero _)⟩
        rw [fl2_i fm3 (by decide)]; exact t5
    · rcases hm with ⟨o2, _⟩ | ⟨_, m1⟩
      · exact absurd o2 o1
      rw [x1, m1]
      refine ⟨rfl, ?_⟩
      have iv : IvW px pm := IvOn (S' := []) (F' := []) ht fm tm mkk fx fl2_rf (CoR_0 hc fx fm ex em (by decide) (by decide)) (WaR_m (WaR_x ht.2.2.1 fx (by decide)) fm (by decide)) (by decide) (by decide) (by decide) (by decide) (by decide) (by decide) (by decide) (by decide) (by decide) (by decide) (by decide) (by decide) (by decide)
      exact IvRf iv (by decide)
