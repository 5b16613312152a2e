/-- the reference's key of a world -/
def km (n x : Nat) : Nat := kM n (dh n x) (da n x)
theorem km_lt {n x : Nat} (h : kv n x) : km n x < 2 ^ 51 := kM_lt (kv_w h)
theorem km_o {n x y : Nat} (hx : kv n x) (hy : kv n y) : (x < y ↔ km n x < km n y) ∧ (x = y ↔ km n x = km n y) := by
  have := key_o (kv_w hx) (kv_w hy)
  rw [ky_d, ky_d] at this
  exact this
theorem km_l {n x y : Nat} (hx : kv n x) (hy : kv n y) : lN (km n x) = lN (km n y) ↔ x = y := by
  have h1 := km_lt hx
  have h2 := km_lt hy
  rw [pk_lEQ (by omega) (by omega)]
  exact (km_o hx hy).2.symm
theorem wT_cg {n h : Nat} {a b : Nat → Nat} {m : zM} (hw : wT n h a m) (e : ∀ j, j < n → b j = a j) : wT n h b m := ⟨hw.1, fun i hi => by
  rw [hw.2 i hi]
  by_cases q : i < n
  · rw [if_pos q, if_pos q, e i q]
  · rw [if_neg q, if_neg q]⟩
theorem opensK {n x : Nat} {m : zM} (hx : kv n x) : ok (f_MO_opens (lN (km n x)) m) (fun p => fl2 [25] [(0, 36)] m p ∧ wM n (dh n x) (da n x) p) := opensM (kv_w hx)
theorem shutK {n x : Nat} {m : zM} (ht : wT n (dh n x) (da n x) m) (hx : kv n x) : f_MO_shut m = some (lN (km n x)) := shutM ht (kv_w hx)
theorem foldsK {n x : Nat} {m : zM} (hn : m.1 23 3 = nI n) (ht : wT n (dh n x) (da n x) m) (hx : kv n x) : ok (f_MO_folds m) (fun p => fl2 [26] [] m p ∧ wT n (dh n (fo n x)) (da n (fo n x)) p) := by
  refine ok_mo (foldsM hn ht (kv_w hx)) (fun p ⟨h1, b, h2, _, _, h5⟩ => ⟨h1, ?_⟩)
  rw [(fo_d hx).1]
  exact wT_cg h5 (fun j hj => by rw [(fo_d hx).2 j hj]; exact Ior_un (srt_Ior hx.2.1) h2 j hj)
def moQ (P : Nat → Nat) (x c : Nat) (m : zM) (p : Bool × zM) : Prop := fl2 [26] [(0, 38)] m p.2 ∧ (∀ y, sP P x c = some y → p.1 = true ∧ kv (P 3) y ∧ wT (P 3) (dh (P 3) y) (da (P 3) y) p.2) ∧ (sP P x c = none → p.1 = false)
theorem movedK {P : Nat → Nat} {x r i : Nat} {m : zM} (hP : tV P) (ht : tM 23 P m) (hx : kv (P 3) x) (hw : wM (P 3) (dh (P 3) x) (da (P 3) x) m) (hr : r < P 8) (hi : i < P 3) : ok (f_MO_isMoved (nI r) (nI i) m) (moQ P x (4 * r + i) m) := by
  have r16 := hP.1.2.2.2.2.2.2.2.2.2.2.1
  have hF := tV_F hP hr
  have e := sP_ye (x := x) hr hi hx.2.1
  refine ok_mo (goM (l := P 4) (by omega) (tM_r ht hr) hF (tM_n ht (by decide) (by decide)) (tM_n ht (by decide) (by decide)) hP.1.2.2.2.2.2.2.1 hw (kv_w hx) hi) (fun p hp => ?_)
  obtain ⟨p1, p2, p3⟩ := hp
  refine ⟨p1, fun y hy => ?_, fun hn => p3 ?_⟩
  · rw [e] at hy
    unfold sx at hy
    cases em : mv (P 4) (P 3) (tF P r) (dh (P 3) x) (da (P 3) x) i with
    | none => rw [em] at hy; cases hy
    | some q =>
      rw [em] at hy
      cases hy
      have wv := mv_wV hF (kv_w hx) hi em
      obtain ⟨d1, d2⟩ := dk_ky (h := q.1) wv.2.2.2
      obtain ⟨q1, q2⟩ := p2 q em
      refine ⟨q1, kv_k wv, ?_⟩
      show wT (P 3) (dh (P 3) (ky 2058 q.1 q.2 (P 3))) (da (P 3) (ky 2058 q.1 q.2 (P 3))) p.2
      rw [d1]
      exact wT_cg q2 d2
  · rw [e] at hn
    unfold sx at hn
    cases em : mv (P 4) (P 3) (tF P r) (dh (P 3) x) (da (P 3) x) i with
    | none => rfl
    | some q => rw [em] at hn; cases hn
theorem tM_fl {P : Nat → Nat} {c : Nat} {m m' : zM} {S : List Nat} {F : List (Nat × Nat)} (h : tM c P m) (hf : fl2 S F m m') (hk : kps [c] [] S F = true) : tM c P m' := by
  have e : m'.1 c = m.1 c := fl2_ic hf (kps_c hk (by simp))
  intro k hk'
  rw [e]
  exact h k hk'
theorem wM_fl {n h : Nat} {a : Nat → Nat} {m m' : zM} {S : List Nat} {F : List (Nat × Nat)} (hw : wM n h a m) (hf : fl2 S F m m') (hk : kps [25] [(0, 36)] S F = true) : wM n h a m' := by
  have e : m'.1 25 = m.1 25 := fl2_ic hf (kps_c hk (by simp))
  unfold wM
  rw [e, fl2_i hf (kps_g hk (by simp))]
  exact hw
def MXm (n N : Nat) (fk dp : Nat → Nat) (m : zM) : Prop := m.1 0 41 = nI N ∧ (∀ i, i < N → m.2.1 27 i = lN (km n (fk i)) ∧ m.1 28 i = nI (dp i)) ∧ prb (m.1 29) (m.2.1 27) N
theorem MXm_fl {n N : Nat} {fk dp : Nat → Nat} {m m' : zM} {S : List Nat} {F : List (Nat × Nat)} (h : MXm n N fk dp m) (hf : fl2 S F m m') (hk : kps [27, 28, 29] [(0, 41)] S F = true) : MXm n N fk dp m' := by
  have e1 : m'.2.1 27 = m.2.1 27 := fl2_jc hf (kps_c hk (by simp))
  have e2 : m'.1 28 = m.1 28 := fl2_ic hf (kps_c hk (by simp))
  have e3 : m'.1 29 = m.1 29 := fl2_ic hf (kps_c hk (by simp))
  unfold MXm
  rw [e1, e2, e3, fl2_i hf (kps_g hk (by simp))]
  exact h
theorem prb_cg {sl : Nat → Int32} {ke ke' : Nat → Int64} {N : Nat} (h : prb sl ke N) (e : ∀ i, i < N → ke' i = ke i) : prb sl ke' N := ⟨fun i hi => by rw [e i hi]; exact h.1 i hi, h.2.1, h.2.2⟩
theorem comesM {n N y dd : Nat} {fk dp : Nat → Nat} {v3 : Int32} {m : zM} (hM : MXm n N fk dp m) (hN : N ≤ 601) (hk : ∀ i, i < N → kv n (fk i)) (hy : kv n y) (hv : v3 = nI dd) : ok (f_MO_comes (lN (km n y)) v3 m) (fun p => fl2 [27, 28, 29] [(0, 41)] m p ∧ ((N = 601 ∧ p = m) ∨ (N ≤ 600 ∧ (∃ k, k < N ∧ fk k = y) ∧ p = m) ∨ (N ≤ 600 ∧ (∀ k, k < N → fk k ≠ y) ∧ MXm n (N + 1) (upn fk N y) (upn dp N dd) p))) := by
  unfold f_MO_comes
  refine ok_ll 600 N (fun q => ok_mk ⟨fl2_rf, Or.inl ⟨by omega, rfl⟩⟩) (fun q => ?_) (hy := hM.1)
  refine ok_bi (foundM (v := lN (km n y)) hM.2.2 (by omega)) (fun r hr => ?_)
  rcases hr with ⟨i, hi, e1, e2⟩ | ⟨e2, e1⟩
  · rw [e2]
    refine ok_in (nI_ne_m1 (by omega)) (ok_mk ⟨fl2_rf, Or.inr (Or.inl ⟨q, ⟨i, hi, ?_⟩, rfl⟩)⟩)
    rw [(hM.2.1 i hi).1] at e1
    exact (km_l (hk i hi) hy).mp e1
  · have hne : ∀ k, k < N → fk k ≠ y := fun k hk' z => e1 k hk' (by rw [(hM.2.1 k hk').1, z])
    refine ok_ip e2 (ok_ix hM.1 (show N < 608 by omega) (by decide) (ok_lt ?_))
    refine ok_ix (show (sJ m 27 N (lN (km n y))).1 0 41 = nI N from hM.1) (show N < 608 by omega) (by decide) (ok_lt ?_)
    have e41 : (sI (sJ m 27 N (lN (km n y))) 28 N v3).1 0 41 = nI N := by rw [rd_I0 (by omega)]; exact hM.1
    rw [e41]
    have k27 : ∀ i, i < N → (sI (sJ m 27 N (lN (km n y))) 28 N v3).2.1 27 i = m.2.1 27 i := fun i hi => by
      show (sJ m 27 N (lN (km n y))).2.1 27 i = _
      rw [rd_J0 (by omega)]
    have pr : prb ((sI (sJ m 27 N (lN (km n y))) 28 N v3).1 29) ((sI (sJ m 27 N (lN (km n y))) 28 N v3).2.1 27) N := by
      rw [rd_Ic (show 29 ≠ 28 by decide)]
      exact prb_cg hM.2.2 k27
    refine ok_bi (entersM pr (by omega)) (fun p ⟨g1, g2⟩ => ok_lt (ok_mk ⟨?_, Or.inr (Or.inr ⟨q, hne, ?_, fun i hi => ⟨?_, ?_⟩, ?_⟩)⟩))
    · exact fl2_tr (fl2_J (inS_c (by simp))) (fl2_tr (fl2_I (inS_c (by simp))) (fl2_tr (fl2_su g2 (by decide)) (fl2_I (inS_f (by simp)))))
    · rw [rd_I1, fl2_i g2 (by decide), e41, nI_1]
    · show p.2.1 27 i = _
      rw [fl2_j g2 (by simp [inS])]
      by_cases u : i = N
      · rw [u, upn_s]
        show (sJ m 27 N (lN (km n y))).2.1 27 N = _
        rw [rd_J1]
      · rw [k27 i (by omega), upn_n u]; exact (hM.2.1 i (by omega)).1
    · rw [rd_I0 (by omega), fl2_i g2 (by simp [inS])]
      by_cases u : i = N
      · rw [u, upn_s, rd_I1]; exact hv
      · rw [rd_I0 (by omega), upn_n u]; exact (hM.2.1 i (by omega)).2
    · rw [rd_Ic (show 29 ≠ 0 by decide)]
      exact g1
/-- the reference's search, pure -/
def MIv (P : Nat → Nat) (w N wi c : Nat) (fk dp : Nat → Nat) : Prop := Bf (Ed P w) (wx0 P) N wi (fun y => ∃ c', c' < c ∧ c' / 4 ≠ w ∧ (sP P (fk wi) c').map (fo (P 3)) = some y) fk dp
theorem MIv_sk {P : Nat → Nat} {w N wi c c2 : Nat} {fk dp : Nat → Nat} (h : MIv P w N wi c fk dp) (hn : ∀ c', c ≤ c' → c' < c2 → c' / 4 ≠ w → sP P (fk wi) c' = none) : MIv P w N wi c2 fk dp := by
  refine Bf_Q h (fun y ⟨c', h1, h2, h3⟩ => ?_)
  rcases Nat.lt_or_ge c' c with u | u
  · exact ⟨c', u, h2, h3⟩
  · rw [hn c' u h1 h2] at h3; cases h3
theorem MIv_old {P : Nat → Nat} {w N wi c y k : Nat} {fk dp : Nat → Nat} (h : MIv P w N wi c fk dp) (e : sP P (fk wi) c = some y) (hk : k < N) (hf : fk k = fo (P 3) y) : MIv P w N wi (c + 1) fk dp := by
  refine Bf_Q (Bf_old h hk hf) (fun z ⟨c', h5, h6, h7⟩ => ?_)
  by_cases u : c' = c
  · rw [u, e] at h7
    cases h7
    exact Or.inr rfl
  · exact Or.inl ⟨c', by omega, h6, h7⟩
theorem MIv_new {P : Nat → Nat} {w N wi c y : Nat} {fk dp : Nat → Nat} (h : MIv P w N wi c fk dp) (hw : wi < N) (hc : c < 64) (h4 : c / 4 ≠ w) (e : sP P (fk wi) c = some y) (hn : ∀ k, k < N → fk k ≠ fo (P 3) y) : MIv P w (N + 1) wi (c + 1) (upn fk N (fo (P 3) y)) (upn dp N (dp wi + 1)) := by
  refine Bf_Q (Bf_new h hw ⟨c, hc, h4, by rw [e]; rfl⟩ hn (fun i hi => ⟨upn_n (by omega), upn_n (by omega)⟩) upn_s upn_s) (fun z ⟨c', h5, h6, h7⟩ => ?_)
  rw [upn_n (show wi ≠ N by omega)] at h7
  by_cases u : c' = c
  · rw [u, e] at h7
    cases h7
    exact Or.inr rfl
  · exact Or.inl ⟨c', by omega, h6, h7⟩
def MFr (m0 m : zM) : Prop := fl2 [25, 26, 27, 28, 29] [(0, 36), (0, 38), (0, 41)] m0 m
/-- the reference's search under way -/
def MEx (P : Nat → Nat) (w wi c : Nat) (m0 m : zM) : Prop := MFr m0 m ∧ ∃ (N : Nat) (fk dp : Nat → Nat), N ≤ 601 ∧ wi < N ∧ MXm (P 3) N fk dp m ∧ (∀ i, i < N → Rn (Ed P w) (wx0 P) (dp i) (fk i)) ∧ (∀ i j, i < N → j < N → fk i = fk j → i = j) ∧ (N ≤ 600 → MIv P w N wi c fk dp)
theorem comesByM {P : Nat → Nat} {w wi r : Nat} {m0 m : zM} (hP : tV P) (ht : tM 23 P m0) (hr : r < P 8) (hw : r ≠ w) (h : MEx P w wi (4 * r) m0 m) : ok (f_MO_comesBy (nI wi) (nI r) m) (fun p => MEx P w wi (4 * (r + 1)) m0 p) := by
  have n4 := hP.1.2.1
  have r16 := hP.1.2.2.2.2.2.2.2.2.2.2.1
  obtain ⟨f0, N, fk, dp, a1, a2, a3, a4, a5, a6⟩ := h
  have kw := (Rn_kv hP (a4 wi a2)).1
  unfold f_MO_comesBy
  refine ok_ix rfl (show wi < 608 by omega) (by decide) ?_
  rw [(a3.2.1 wi a2).1]
  refine ok_bi (opensK kw) (fun p2 ⟨o1, o2⟩ => ?_)
  unfold f_MO_comesBy_L12
  refine ok_for (P 3) (fun k (s : Int32 × zM) => s.1 = nI k ∧ MFr m0 s.2 ∧ wM (P 3) (dh (P 3) (fk wi)) (da (P 3) (fk wi)) s.2 ∧ ∃ (N' : Nat) (fk' dp' : Nat → Nat), N' ≤ 601 ∧ wi < N' ∧ fk' wi = fk wi ∧ MXm (P 3) N' fk' dp' s.2 ∧ (∀ i, i < N' → Rn (Ed P w) (wx0 P) (dp' i) (fk' i)) ∧ (∀ i j, i < N' → j < N' → fk' i = fk' j → i = j) ∧ (N' ≤ 600 → MIv P w N' wi (4 * r + k) fk' dp')) ⟨rfl, fl2_tr f0 (fl2_su o1 (by decide)), o2, N, fk, dp, a1, a2, rfl, MXm_fl a3 o1 (by decide), a4, a5, a6⟩ (Nat.zero_le _) ?_
  rintro i ⟨x, m1⟩ - hi ⟨e, f1, o3, N1, fk1, dp1, b1, b2, b3, b4, b5, b6, b7⟩
  have e : x = nI i := e
  subst e
  have f1 : MFr m0 m1 := f1
  have o3 : wM (P 3) (dh (P 3) (fk wi)) (da (P 3) (fk wi)) m1 := o3
  have b4 : MXm (P 3) N1 fk1 dp1 m1 := b4
  have t1 : tM 23 P m1 := tM_fl ht f1 (by decide)
  unfold f_MO_comesBy_B12 f_MO_comesBy_J52
  refine ok_eb (agM (tM_n t1 (by decide) (by decide))) ?_
  refine ok_le (P 3) i (fun q => ?_) (fun q => ?_)
  · exact ok_mk ⟨f1, N1, fk1, dp1, b1, b2, b4, b5, b6, fun z => MIv_sk (b7 z) (fun c' h1 h2 _ => sP_no (by omega))⟩
  · refine ok_bi (movedK hP t1 kw o3 hr q) (fun p4 ⟨g1, g2, g3⟩ => ?_)
    have f4 : MFr m0 p4.2 := fl2_tr f1 (fl2_su g1 (by decide))
    cases em : sP P (fk wi) (4 * r + i) with
    | none =>
      rw [g3 em]
      refine ok_in (by decide) (ok_mk ⟨q, nI_1 i, f4, wM_fl o3 g1 (by decide), N1, fk1, dp1, b1, b2, b3, MXm_fl b4 g1 (by decide), b5, b6, fun z => MIv_sk (b7 z) (fun c' h1 h2 _ => by rw [b3, show c' = 4 * r + i by omega]; exact em)⟩)
    | some y =>
      obtain ⟨y1, y2, y3⟩ := g2 y em
      rw [y1]
      refine ok_ip rfl ?_
      refine ok_bi (foldsK (tM_n (tM_fl ht f4 (by decide)) (by decide) (by decide)) y3 y2) (fun p5 ⟨g4, g5⟩ => ?_)
      have f5 : MFr m0 p5 := fl2_tr f4 (fl2_su g4 (by decide))
      have o5 : wM (P 3) (dh (P 3) (fk wi)) (da (P 3) (fk wi)) p5 := wM_fl (wM_fl o3 g1 (by decide)) g4 (by decide)
      have b8 : MXm (P 3) N1 fk1 dp1 p5 := MXm_fl (MXm_fl b4 g1 (by decide)) g4 (by decide)
      have ky := fo_kv y2
      refine ok_eb (shutK g5 ky) (ok_ix rfl (show wi < 608 by omega) (by decide) ?_)
      refine ok_bi (comesM (dd := dp1 wi + 1) b8 b1 (fun i hi => (Rn_kv hP (b5 i hi)).1) ky (by rw [(b8.2.1 wi b2).2, nI_1])) (fun p8 ⟨g6, g7⟩ => ok_mk ⟨q, nI_1 i, fl2_tr f5 (fl2_su g6 (by decide)), wM_fl o5 g6 (by decide), ?_⟩)
      have em1 : sP P (fk1 wi) (4 * r + i) = some y := by rw [b3]; exact em
      rcases g7 with ⟨c1, c2⟩ | ⟨c1, ⟨k, hk, c2⟩, c3⟩ | ⟨c1, c2, c3⟩
      · exact ⟨N1, fk1, dp1, b1, b2, b3, by rw [c2]; exact b8, b5, b6, fun z => by omega⟩
      · exact ⟨N1, fk1, dp1, b1, b2, b3, by rw [c3]; exact b8, b5, b6, fun z => MIv_old (b7 z) em1 hk c2⟩
      · have nw := MIv_new (b7 c1) b2 (by omega) (by omega) em1 c2
        exact ⟨N1 + 1, _, _, by omega, by omega, by rw [upn_n (show wi ≠ N1 by omega)]; exact b3, c3, nw.2.1, nw.2.2.1, fun _ => nw⟩
def wvl (w : Nat) (v : Int32) : Prop := (w = 16 ∧ v = -1) ∨ (w < 16 ∧ v = nI w)
theorem wvl_eq {w r : Nat} {v : Int32} (h : wvl w v) (hr : r < 16) : nI r = v ↔ r = w := by
  rcases h with ⟨h1, h2⟩ | ⟨h1, h2⟩
  · rw [h1, h2]
    exact ⟨fun z => absurd z (nI_ne_m1 (by omega)), fun z => by omega⟩
  · rw [h2]; exact nI_eq (by omega) (by omega)
theorem opensFirstM {P : Nat → Nat} {m : zM} (hP : tV P) (ht : tM 23 P m) : ok (f_MO_opensFirst m) (fun p => fl2 [26] [(0, 38)] m p ∧ wT (P 3) (dh (P 3) (wx0 P)) (da (P 3) (wx0 P)) p) := by
  obtain ⟨d1, d2⟩ := dk_ky (h := if P 1 = 0 then 0 else 1) (wx0_w hP).2.2.2
  have go : ∀ t1 : Int32, t1 = nI (if P 1 = 0 then 0 else 1) - 1 → ok (f_MO_opensFirst_J15 t1 m) (fun p => fl2 [26] [(0, 38)] m p ∧ wT (P 3) (dh (P 3) (wx0 P)) (da (P 3) (wx0 P)) p) := by
    intro t1 h1
    unfold f_MO_opensFirst_J15 f_MO_opensFirst_L20
    refine ok_lt (ok_for 4 (fun k (s : Int32 × zM) => s.1 = nI k ∧ fl2 [26] [(0, 38)] m s.2 ∧ s.2.1 0 38 = t1 ∧ ∀ i, i < k → s.2.1 26 i = 0) ⟨rfl, fl2_I (inS_f (by simp)), rd_I1 _ _ _ _, fun i hi => absurd hi (Nat.not_lt_zero _)⟩ (Nat.zero_le _) ?_)
    rintro k ⟨x, m1⟩ - hk ⟨e, f1, g1, g2⟩
    have e : x = nI k := e
    subst e
    have f1 : fl2 [26] [(0, 38)] m m1 := f1
    have g1 : m1.1 0 38 = t1 := g1
    have g2 : ∀ i, i < k → m1.1 26 i = 0 := g2
    unfold f_MO_opensFirst_B20
    refine ok_le 4 k (fun q => ok_mk ⟨f1, ?_, fun i hi => ?_⟩) (fun q => ?_)
    · show m1.1 0 38 = _
      rw [g1, show dh (P 3) (wx0 P) = _ from d1]; exact h1
    · show m1.1 26 i = _
      rw [g2 i (by omega)]
      split
      · rename_i q
        rw [show da (P 3) (wx0 P) i = 0 from d2 i q]; decide
      · rfl
    · refine ok_ix rfl q (by decide) (ok_lt (ok_mk ⟨q, nI_1 k, fl2_tr f1 (fl2_I (inS_c (by simp))), ?_, fun i hi => ?_⟩))
      · show (sI m1 26 k 0).1 0 38 = t1
        rw [rd_I0 (by omega)]; exact g1
      · show (sI m1 26 k 0).1 26 i = 0
        by_cases u : i = k
        · rw [u, rd_I1]
        · rw [rd_I0 (by omega)]; exact g2 i (by omega)
  unfold f_MO_opensFirst
  refine ok_ix (show (1 : Int32) = nI 1 from rfl) (by decide) (by decide) ?_
  have b6 : P 1 ≤ 6 := hP.1.2.2.2.2.1
  refine ok_le (P 1) 0 (fun q => go _ ?_) (fun q => go _ ?_) (hx := tM_n ht (by decide) (by decide))
  · rw [if_pos (by omega)]; decide
  · rw [if_neg (by omega)]; decide
theorem rulM {P : Nat → Nat} {m : zM} (ht : tM 23 P m) : f_MO_rules m = some (nI (P 8)) := by
  unfold f_MO_rules
  rw [show ix 184 (8 : Int32) = some 8 from ix_nI (n := 184) (i := 8) (by decide) (by decide), Option.bind_some, tM_n ht (by decide) (by decide)]
/-- goesThrough up to where all is found, or too many are -/
theorem gthM {P : Nat → Nat} {w : Nat} {v1 : Int32} {m : zM} {K : Bool × zM → Prop} (hP : tV P) (ht : tM 23 P m) (hv : wvl w v1) (hK : ∀ (m' : zM) (N : Nat) (fk dp : Nat → Nat), MFr m m' → 0 < N → N ≤ 601 → MXm (P 3) N fk dp m' → (∀ i, i < N → Rn (Ed P w) (wx0 P) (dp i) (fk i)) → (∀ i j, i < N → j < N → fk i = fk j → i = j) → (N ≤ 600 → MIv P w N N 0 fk dp) → ok (f_MO_goesThrough_J93 v1 m') K) : ok (f_MO_goesThrough v1 m) K := by
  have n4 := hP.1.2.1
  have r16 := hP.1.2.2.2.2.2.2.2.2.2.2.1
  unfold f_MO_goesThrough f_MO_goesThrough_L7
  refine ok_lt (ok_for 2048 (fun k (s : Int32 × zM) => s.1 = nI k ∧ MFr m s.2 ∧ s.2.1 0 41 = 0 ∧ ∀ i, i < k → s.2.1 29 i = -1) ⟨rfl, fl2_I (inS_f (by simp)), rd_I1 _ _ _ _, fun i hi => absurd hi (Nat.not_lt_zero _)⟩ (Nat.zero_le _) ?_)
  rintro k ⟨x, m1⟩ - hk ⟨e, f1, g1, g2⟩
  have e : x = nI k := e
  subst e
  have f1 : MFr m m1 := f1
  have g1 : m1.1 0 41 = 0 := g1
  have g2 : ∀ i, i < k → m1.1 29 i = -1 := g2
  unfold f_MO_goesThrough_B7
  refine ok_le 2048 k (fun q => ok_zl ?_) (fun q => ?_)
  · unfold f_MO_goesThrough_J27
    refine ok_bi (opensFirstM hP (tM_fl ht f1 (by decide))) (fun p4 ⟨o1, o2⟩ => ?_)
    have f4 : MFr m p4 := fl2_tr f1 (fl2_su o1 (by decide))
    refine ok_eb (shutK o2 (wx0_kv hP)) ?_
    have M0 : MXm (P 3) 0 (fun _ => 0) (fun _ => 0) p4 := by
      refine MXm_fl (m := m1) ⟨g1, fun i hi => absurd hi (Nat.not_lt_zero _), fun i hi => absurd hi (Nat.not_lt_zero _), fun s hs => Or.inl (g2 s (by omega)), ?_⟩ o1 (by decide)
      rw [cn_cg (q := fun _ => false) (fun j hj => decide_eq_false (fun z => z (g2 j (by omega)))), cn_non]
      exact Nat.le_refl _
    refine ok_bi (comesM (dd := 0) M0 (by omega) (fun i hi => absurd hi (Nat.not_lt_zero _)) (wx0_kv hP) rfl) (fun p6 ⟨g6, g7⟩ => ?_)
    have f6 : MFr m p6 := fl2_tr f4 (fl2_su g6 (by decide))
    rcases g7 with ⟨c1, _⟩ | ⟨_, ⟨k, hk, _⟩, _⟩ | ⟨_, _, c3⟩
    · omega
    · omega
    · have B0 : MIv P w 1 0 0 (upn (fun _ => 0) 0 (wx0 P)) (upn (fun _ => 0) 0 0) := Bf_Q (Bf_0 upn_s upn_s) (fun y ⟨c', h5, _⟩ => by omega)
      unfold f_MO_goesThrough_L42
      refine ok_lop (ι := Nat) (fun wi (s : Int32 × zM) => wi ≤ 601 ∧ s.1 = nI wi ∧ MFr m s.2 ∧ ∃ (N : Nat) (fk dp : Nat → Nat), 0 < N ∧ N ≤ 601 ∧ wi ≤ N ∧ MXm (P 3) N fk dp s.2 ∧ (∀ i, i < N → Rn (Ed P w) (wx0 P) (dp i) (fk i)) ∧ (∀ i j, i < N → j < N → fk i = fk j → i = j) ∧ (N ≤ 600 → MIv P w N wi 0 fk dp)) (fun wi => 601 - wi) ?_ 0 _ ⟨by omega, rfl, f6, 1, _, _, by omega, by omega, by omega, c3, B0.2.1, B0.2.2.1, fun _ => B0⟩ (by omega)
      rintro wi ⟨x, m2⟩ ⟨hw, e, f2, N, fk, dp, a0, a1, a2, a3, a4, a5, a6⟩
      have e : x = nI wi := e
      subst e
      have f2 : MFr m m2 := f2
      have a3 : MXm (P 3) N fk dp m2 := a3
      unfold f_MO_goesThrough_B42
      refine ok_le N wi (fun q1 => ok_zl ?_) (fun q1 => ?_) (hx := a3.1)
      · exact ok_mo (hK m2 N fk dp f2 a0 a1 a3 a4 a5 (fun z => by have := a6 z; rwa [show wi = N by omega] at this)) (fun _ z => z)
      · refine ok_ll 600 N (fun q2 => ok_zl ?_) (fun q2 => ?_) (hy := a3.1)
        · exact ok_mo (hK m2 N fk dp f2 a0 a1 a3 a4 a5 (fun z => by omega)) (fun _ z => z)
        · unfold f_MO_goesThrough_L62
          refine ok_for (P 8) (fun r (s : Int32 × zM) => s.1 = nI r ∧ MEx P w wi (4 * r) m s.2) ⟨rfl, f2, N, fk, dp, a1, q1, a3, a4, a5, a6⟩ (Nat.zero_le _) ?_
          rintro r ⟨x, m3⟩ - hr ⟨e, h3⟩
          have e : x = nI r := e
          subst e
          have h3 : MEx P w wi (4 * r) m m3 := h3
          unfold f_MO_goesThrough_B62
          refine ok_eb (rulM (tM_fl ht h3.1 (by decide))) ?_
          refine ok_le (P 8) r (fun q3 => ?_) (fun q3 => ?_)
          · obtain ⟨f3, N3, fk3, dp3, b1, b2, b3, b4, b5, b6⟩ := h3
            unfold f_MO_goesThrough_J87
            refine ok_zl (ok_mk ⟨wi + 1, by omega, by omega, nI_1 wi, f3, N3, fk3, dp3, by omega, b1, by omega, b3, b4, b5, fun z => ?_⟩)
            have c64 : MIv P w N3 wi 64 fk3 dp3 := MIv_sk (b6 z) (fun c' h1 h2 _ => sP_no (by omega))
            refine Bf_Q (Bf_next c64 b2 (fun y ⟨c, h1, h2, h3⟩ => ⟨c, h1, h2, h3⟩)) (fun y ⟨c', h5, _⟩ => by omega)
          · have nxt : ∀ m4, MEx P w wi (4 * (r + 1)) m m4 → ok (f_MO_goesThrough_J81 v1 (nI wi) (nI r) m4) (lp (lp K (fun s' : Int32 × zM => ∃ i', 601 - i' < 601 - wi ∧ i' ≤ 601 ∧ s'.1 = nI i' ∧ MFr m s'.2 ∧ ∃ (N : Nat) (fk dp : Nat → Nat), 0 < N ∧ N ≤ 601 ∧ i' ≤ N ∧ MXm (P 3) N fk dp s'.2 ∧ (∀ i, i < N → Rn (Ed P w) (wx0 P) (dp i) (fk i)) ∧ (∀ i j, i < N → j < N → fk i = fk j → i = j) ∧ (N ≤ 600 → MIv P w N i' 0 fk dp))) (fun s' : Int32 × zM => r < P 8 ∧ s'.1 = nI (r + 1) ∧ MEx P w wi (4 * (r + 1)) m s'.2)) := fun m4 h4 => ok_mk ⟨q3, nI_1 r, h4⟩
            refine ok_it (fun z => ?_) (fun z => ?_)
            · have rw' := (wvl_eq hv (by omega)).mp z
              obtain ⟨f3, N3, fk3, dp3, b1, b2, b3, b4, b5, b6⟩ := h3
              exact nxt _ ⟨f3, N3, fk3, dp3, b1, b2, b3, b4, b5, fun z => MIv_sk (b6 z) (fun c' h1 h2 h5 => absurd (show c' / 4 = w by omega) h5)⟩
            · exact ok_bi (comesByM hP ht q3 (fun y => z ((wvl_eq hv (by omega)).mpr y)) h3) (fun p h4 => nxt p h4)
  · refine ok_ix rfl q (by decide) (ok_lt (ok_mk ⟨q, nI_1 k, fl2_tr f1 (fl2_I (inS_c (by simp))), ?_, fun i hi => ?_⟩))
    · show (sI m1 29 k (-1)).1 0 41 = 0
      rw [rd_I0 (by omega)]; exact g1
    · show (sI m1 29 k (-1)).1 29 i = -1
      by_cases u : i = k
      · rw [u, rd_I1]
      · rw [rd_I0 (by omega)]; exact g2 i (by omega)
