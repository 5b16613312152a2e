theorem cutV {v n0 : Nat} {m : zM} (h : m.1 v 1 = nI n0) (hn : n0 < 2 ^ 31) : fl2 [v + 1] [(v, 1)] m (f_Bytes_cut v 0 m) ∧ TxX v [] (f_Bytes_cut v 0 m) := by
  unfold f_Bytes_cut
  rw [if_neg (by decide)]
  by_cases c : m.1 v 1 ≤ 0
  · rw [if_pos c]
    rw [h] at c
    have := (nI_leI (a := n0) (b := 0) hn (by decide)).mp c
    exact ⟨fl2_rf, by rw [h, show n0 = 0 by omega]; rfl, fun j hj => absurd hj (Nat.not_lt_zero _)⟩
  · rw [if_neg c]
    exact ⟨fl2_I (inS_f (by simp)), rd_I1 _ _ _ _, fun j hj => absurd hj (Nat.not_lt_zero _)⟩
/-- the class writes a world -/
theorem wwX {P : Nat → Nat} {N v b i n0 : Nat} {W D pr sp : Nat → Nat} {m : zM} (hP : tV P) (hG : tGd P) (hL : Lst (Ed P 16) (wx0 P) N W D) (h3 : N ≤ 600) (hv : v = 3 ∨ v = 5) (r0 : Rfs b m) (ht : tX b P m) (hA : AXm P N W D pr sp m) (hi : i < N) (h0 : m.1 v 1 = nI n0) (hn : n0 < 2 ^ 31) : ok (f_PA_write (nI i) v m) (fun p => fl2 [v + 1, 40, 41] [(v, 1)] m p ∧ TxX v (wdL P (W i) (P 3)) p) := by
  obtain ⟨a1, a2, a3, a4, a5, a6, a7, a8, a9, a10, a11, a12⟩ := hP.1
  have hkv := (W_kv hP hL hi).1
  have hg := gwd_R hP hG (hL.1 i hi).1
  have ho : offT [v + 1, 40, 41] [(v, 1)] = true := by rcases hv with z | z <;> subst z <;> decide
  have hk : kps [26, 27, 28, 29, 30, 31, 32, 33, 34, 35, 36, 37] [(24, 0), (24, 1)] [v + 1, 40, 41] [(v, 1)] = true := by rcases hv with z | z <;> subst z <;> decide
  unfold f_PA_write f_PA_write_J41
  obtain ⟨c1, c2⟩ := cutV h0 hn
  have c1' : fl2 [v + 1, 40, 41] [(v, 1)] m (f_Bytes_cut v 0 m) := fl2_su c1 (by rcases hv with z | z <;> subst z <;> decide)
  refine ok_lt ?_
  have hX := ((AXm_fl hA c1' hk).1.2.1 i hi).1
  have h24 := (AXm_fl hA c1' hk).1.1.2
  unfold f_Atlas_home
  have hl := loadX (w := 40) (m := f_Bytes_cut v 0 m) (kv_w hkv)
  rw [ky_d] at hl
  refine ok_bi (G := fun r => fl2 [40, 41] [] (f_Bytes_cut v 0 m) r.2 ∧ r.1 = nI (dh (P 3) (W i)) - 1) (ok_ix rfl (by omega : i < 600) (by decide) ?_) (fun r ⟨f2, e2⟩ => ?_)
  · rw [hX, h24]
    exact ok_bi hl (fun m' y => ok_mk ⟨y.1, y.2.1⟩)
  have f2' : fl2 [v + 1, 40, 41] [(v, 1)] m r.2 := fl2_tr c1' (fl2_su f2 (by rcases hv with z | z <;> subst z <;> decide))
  have t2 : TxX v [] r.2 := ⟨by rw [fl2_i f2 (by rcases hv with z | z <;> subst z <;> decide)]; exact c2.1, fun j hj => absurd hj (Nat.not_lt_zero _)⟩
  have T2 := tX_fl r0.1 ht f2' ho a11
  have A2 := AXm_fl hA f2' hk
  have R2 := Rfs_x r0 f2'
  have go : ∀ p, WrX v r.2 (wdL P (W i) 0) p → ok (f_PA_write_L44 (nI i) v 0 p) (fun p => fl2 [v + 1, 40, 41] [(v, 1)] m p ∧ TxX v (wdL P (W i) (P 3)) p) := by
    intro p hp
    unfold f_PA_write_L44
    refine ok_for (P 3) (fun k (s : Int32 × zM) => s.1 = nI k ∧ WrX v r.2 (wdL P (W i) k) s.2) (k0 := 0) ⟨rfl, hp⟩ (Nat.zero_le _) ?_
    rintro k ⟨x, m1⟩ - hkk ⟨e, w1⟩
    have e : x = nI k := e
    subst e
    have w1 : WrX v r.2 (wdL P (W i) k) m1 := w1
    have fw : fl2 [v + 1, 40, 41] [(v, 1)] r.2 m1 := fl2_su w1.1 (by rcases hv with z | z <;> subst z <;> decide)
    have T3 := tX_fl r0.1 T2 fw ho a11
    unfold f_PA_write_B44
    refine ok_eb (tb_ok (b := b) (by rw [fw.2]; exact R2.2.1) r0.1) (ok_le (P 3) k (fun q => ok_mk ⟨fl2_tr f2' fw, ?_⟩) (fun q => ?_) (hx := T3.1.1))
    · rw [show P 3 = k by omega]; exact w1.2
    · have ea := (((AXm_fl A2 fw hk).2.1 i hi).2.2 k q).1
      refine ok_ix (i := 4 * i + k) ?_ (by omega) (by decide) ?_
      · exact nI_4
      · show ok ((f_PA_writeAgent (m1.1 34 (4 * i + k)) v m1).bind _) _
        rw [ea]
        have wl := wdL_n P (W i) k
        refine ok_bi (wagX hP hG hv R2 T2 w1 (da_lt _ _ _) (hg.2 k q) (by omega)) (fun p9 h9 => ok_mk ⟨q, nI_1 k, h9⟩)
  have d7 := hkv.2.2
  rw [e2]
  refine ok_mm (dh (P 3) (W i)) (fun q => ?_) (fun q => ?_)
  · refine ok_bi (wrC (c := 45) (m0 := r.2) ⟨fl2_rf, t2⟩ (by decide) rfl (by decide)) (fun p6 h6 => go p6 ?_)
    show WrX v r.2 (hoL P (dh (P 3) (W i))) p6
    unfold hoL
    rw [if_pos q]; exact h6
  · refine wrN hP hG hv R2 T2 (m0 := r.2) ⟨fl2_rf, t2⟩ (k := 1) (j := dh (P 3) (W i) - 1) (by decide) (by have := hg.1; omega) rfl (nI_pr q) (by decide) (fun p5 h5 => go p5 ?_)
    show WrX v r.2 (hoL P (dh (P 3) (W i))) p5
    unfold hoL
    rw [if_neg (by omega)]; exact h5
/-- the reference writes a world -/
theorem wwM {P : Nat → Nat} {N i : Nat} {W D : Nat → Nat} {m : zM} (hP : tV P) (hG : tGd P) (ht : tM 23 P m) (hL : LMx P 16 N W D m) (hi : i < N) : ok (f_MO_writesWorld (nI i) m) (fun p => fl2 [25, 56] [(0, 36), (0, 83)] m p ∧ TxM (wdL P (W i) (P 3)) p) := by
  obtain ⟨a1, a2, a3, a4, a5, a6, a7⟩ := hP.1
  have h3 := hL.2.1
  have hkv := (W_kv hP hL.2.2.1 hi).1
  have hg := gwd_R hP hG (hL.2.2.1.1 i hi).1
  have d7 := hkv.2.2
  unfold f_MO_writesWorld f_MO_writesWorld_J41
  have f1 : fl2 [25, 56] [(0, 36), (0, 83)] m (sI m 0 83 0) := fl2_I (inS_f (by simp))
  refine ok_lt (ok_ix rfl (by omega : i < 608) (by decide) ?_)
  rw [show (sI m 0 83 0).2.1 27 i = lN (km (P 3) (W i)) from (hL.2.2.2.1.2.1 i hi).1]
  refine ok_bi (opensK hkv) (fun p3 ⟨o1, o2⟩ => ?_)
  have f3 : fl2 [25, 56] [(0, 36), (0, 83)] m p3 := fl2_tr f1 (fl2_su o1 (by decide))
  have t3 := tM_fl ht f3 (by decide)
  have x3 : TxM [] p3 := ⟨by rw [fl2_i o1 (by decide), rd_I1]; rfl, fun j hj => absurd hj (Nat.not_lt_zero _)⟩
  have go : ∀ p, WrM p3 (wdL P (W i) 0) p → ok (f_MO_writesWorld_L43 0 p) (fun p => fl2 [25, 56] [(0, 36), (0, 83)] m p ∧ TxM (wdL P (W i) (P 3)) p) := by
    intro p hp
    unfold f_MO_writesWorld_L43
    refine ok_for (P 3) (fun k (s : Int32 × zM) => s.1 = nI k ∧ WrM p3 (wdL P (W i) k) s.2) (k0 := 0) ⟨rfl, hp⟩ (Nat.zero_le _) ?_
    rintro k ⟨x, m1⟩ - hkk ⟨e, w1⟩
    have e : x = nI k := e
    subst e
    have w1 : WrM p3 (wdL P (W i) k) m1 := w1
    unfold f_MO_writesWorld_B43
    refine ok_eb (agM (tM_n (tM_fl t3 w1.1 (by decide)) (by decide) (by decide))) (ok_le (P 3) k (fun q => ok_mk ⟨fl2_tr f3 (fl2_su w1.1 (by decide)), ?_⟩) (fun q => ok_ix rfl (by omega : k < 4) (by decide) ?_))
    · rw [show P 3 = k by omega]; exact w1.2
    · have ea : m1.1 25 k = nI (mOf (da (P 3) (W i) k)) := by
        rw [fl2_ic w1.1 (fun j => by simp [inS]), o2.2 k (by omega), if_pos q]
      show ok ((f_MO_writesAgent (m1.1 25 k) m1).bind _) _
      rw [ea]
      have wl := wdL_n P (W i) k
      refine ok_bi (wagM hP hG t3 w1 (da_lt _ _ _) (hg.2 k q) (by omega)) (fun p8 h8 => ok_mk ⟨q, nI_1 k, h8⟩)
  rw [o2.1]
  refine ok_mm (dh (P 3) (W i)) (fun q => ?_) (fun q => ?_)
  · refine ok_bi (wrD (c := 45) (m0 := p3) ⟨fl2_rf, x3⟩ (by decide) rfl) (fun p6 h6 => go p6 ?_)
    show WrM p3 (hoL P (dh (P 3) (W i))) p6
    unfold hoL
    rw [if_pos q]; exact h6
  · refine ok_bi (wrO hP hG t3 (m0 := p3) ⟨fl2_rf, x3⟩ (k := 1) (j := dh (P 3) (W i) - 1) (by decide) (by have := hg.1; omega) rfl (nI_pr q) (by decide)) (fun p5 h5 => go p5 ?_)
    show WrM p3 (hoL P (dh (P 3) (W i))) p5
    unfold hoL
    rw [if_neg (by omega)]; exact h5
theorem c_spell {a1 : Int32} {mx mm : zM} (h : IvW mx mm) : Alk (f_PA_spell a1 mx) (f_MO_spell a1 mm) := by
  unfold f_PA_spell f_MO_spell f_Bytes_size
  refine wqrz h (fun P N W D pr sp b i p hq hi e => ?_)
  obtain ⟨hc, ht, z2, z3, z4⟩ := id hq
  obtain ⟨⟨h1, h2, h3, h4, h5, h6, h7⟩, r0, g1, g2, g3, g4, g5⟩ := ht.1
  subst e
  obtain ⟨c1, c2, c3, c4, n0, hn0, c5, c6, c7⟩ := Qy_c hq
  refine ok_bi (wwX h1 h7.2 h4 h3 (Or.inl rfl) r0 g2 g3 hi c5 (by omega)) (fun px ⟨fx, x2⟩ => ok_mk ?_)
  refine ok_bi (wwM h1 h7.2 z3 z4.2.1 hi) (fun pm ⟨fm, m2⟩ => ok_mk ⟨x2.1.trans m2.1.symm, ?_⟩)
  have wl := wdL_n P (W i) (P 3)
  have p3 := h1.1.2.1
  refine IvC (Qy_i hq) ⟨?_, ?_, ?_, ?_, (wdL P (W i) (P 3)).length, by omega, x2.1, m2.1, fun j hj => (x2.2 j hj).trans (m2.2 j hj).symm⟩ fx fm (by decide) (by decide) (by decide) (by decide) (by decide) (by decide) (by decide) (by decide) (by decide) (by decide) (by decide) (by decide) (by decide) (by decide) (by decide)
  · rw [fl2_i fx (by decide), fl2_i fm (by decide), fl2_ic fx (fun j => by simp [inS]), fl2_ic fm (fun j => by simp [inS])]; exact c1
  · rw [fl2_ic fx (fun j => by simp [inS]), fl2_ic fm (fun j => by simp [inS])]; exact c2
  · exact CoF_f c3 fx fm (by decide) (by decide)
  · rw [fl2_j fx (by decide), fl2_j fm (by decide)]; exact c4
