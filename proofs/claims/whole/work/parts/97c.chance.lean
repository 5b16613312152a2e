theorem chanceLM {P : Nat → Nat} {N n x s : Nat} {W D : Nat → Nat} {m : zM} (hP : tV P) (hL : Lst (Ed P 16) (wx0 P) N W D) (ht : tM 23 P m) (hr : rchd P N W x) (hw : m.2.1 0 72 = lN (km (P 3) x)) (hs : s < 2 ^ 31) (hm : m.2.1 0 76 = lN s) (hn : n ≤ 100) : ok (f_MO_chance_L37 (nI n) 0 (nI (cn (psb P x) 64)) m) (fun p => fl2 [25, 26] [(0, 36), (0, 38), (0, 72), (0, 76)] m p.2 ∧ p.1 = nI (chN P n x s).1 ∧ p.2.2.1 0 72 = lN (km (P 3) (chN P n x s).2.1) ∧ p.2.2.1 0 76 = lN (chN P n x s).2.2) := by
  unfold f_MO_chance_L37
  refine ok_for n (fun k (t : Int32 × Int32 × zM) => t.1 = nI k ∧ fl2 [25, 26] [(0, 36), (0, 38), (0, 72), (0, 76)] m t.2.2 ∧ ∃ x1 s1, rchd P N W x1 ∧ s1 < 2 ^ 31 ∧ t.2.1 = nI (cn (psb P x1) 64) ∧ t.2.2.2.1 0 72 = lN (km (P 3) x1) ∧ t.2.2.2.1 0 76 = lN s1 ∧ chN P n x s = (k + (chN P (n - k) x1 s1).1, (chN P (n - k) x1 s1).2)) (k0 := 0) ⟨rfl, fl2_rf, x, s, hr, hs, rfl, hw, hm, by rw [Nat.zero_add]; rfl⟩ (Nat.zero_le _) ?_
  rintro k ⟨u, v, m1⟩ - hk ⟨e1, f1, x1, s1, rx, sl, e2, wx, sx, ec⟩
  have e1 : u = nI k := e1
  have e2 : v = nI (cn (psb P x1) 64) := e2
  subst e1
  subst e2
  have f1 : fl2 [25, 26] [(0, 36), (0, 38), (0, 72), (0, 76)] m m1 := f1
  have wx : m1.2.1 0 72 = lN (km (P 3) x1) := wx
  have sx : m1.2.1 0 76 = lN s1 := sx
  have cl := cn_le (psb P x1) 64
  have fin : chN P (n - k) x1 s1 = (0, x1, s1) → fl2 [25, 26] [(0, 36), (0, 38), (0, 72), (0, 76)] m m1 ∧ nI k = nI (chN P n x s).1 ∧ m1.2.1 0 72 = lN (km (P 3) (chN P n x s).2.1) ∧ m1.2.1 0 76 = lN (chN P n x s).2.2 := by
    intro z
    rw [ec, z]
    exact ⟨f1, rfl, wx, sx⟩
  unfold f_MO_chance_B37
  refine ok_le n k (fun q => ok_mk (fin (by rw [show n - k = 0 by omega]; rfl))) (fun q => ?_)
  refine ok_le (cn (psb P x1) 64) 0 (fun z => ok_mk (fin (chN_0 (by omega)))) (fun z => ?_)
  have f3 : fl2 [] [(0, 76)] m1 (sJ m1 0 76 (lN (sdN s1))) := fl2_J (inS_f (by simp))
  refine ok_bi (G := fun p6 => p6 = (nI (sdN s1 / 64 % cn (psb P x1) 64), sJ m1 0 76 (lN (sdN s1)))) ?_ (fun p6 e6 => ?_)
  · unfold f_MO_drawOf
    rw [sx, drawV sl, show irl (lN (1103515245 * s1 + 12345)) 2147483648 = lN (sdN s1) from pk_lRem (b := 2147483648) (by omega) (by decide) (by decide)]
    refine ok_lt ?_
    rw [nzl_n (by omega) cl, rd_J1]
    refine ok_mk ?_
    show ((irl (lN (sdN s1) / 64) (nI (cn (psb P x1) 64)).toInt64).toInt32, _) = _
    rw [pickV (by omega) cl]
  · subst e6
    have t3 := tM_fl (tM_fl ht f1 (by decide)) f3 (by decide)
    have st := stChn_s (s := s1) (by omega : cn (psb P x1) 64 ≠ 0)
    have ml : sdN s1 / 64 % cn (psb P x1) 64 < cn (psb P x1) 64 := Nat.mod_lt _ (by omega)
    refine ok_bi (mowM (v1 := nI (sdN s1 / 64 % cn (psb P x1) 64)) hP t3 rx.1 (by rw [rd_J0 (by omega)]; exact wx)) (fun p5 ⟨a1, _, _, a4⟩ => ?_)
    have w5 := a4 _ _ ml rfl st
    have ry := rchd_s hP hL rx st
    refine ok_bi (mowM (v1 := -1) hP (tM_fl t3 a1 (by decide)) ry.1 w5) (fun p6 ⟨b1, b2, b3, _⟩ => ok_mk ⟨q, nI_1 k, ?_, stChn P x1 s1, sdN s1, ry, sd_lt _, b2, b3 rfl, ?_, ?_⟩)
    · exact fl2_tr f1 (fl2_tr (fl2_su f3 (by decide)) (fl2_tr (fl2_su a1 (by decide)) (fl2_su b1 (by decide))))
    · show p6.2.2.1 0 76 = _
      rw [fl2_j b1 (by decide), fl2_j a1 (by decide), rd_J1]
    · rw [ec, show n - k = (n - (k + 1)) + 1 by omega]
      show (k + (if cn (psb P x1) 64 = 0 then _ else _ : Nat × Nat × Nat).1, (if cn (psb P x1) 64 = 0 then _ else _ : Nat × Nat × Nat).2) = _
      rw [if_neg (by omega)]
      show (k + ((chN P (n - (k + 1)) (stChn P x1 s1) (sdN s1)).1 + 1), _) = _
      rw [show ∀ a, k + (a + 1) = k + 1 + a from fun a => by omega]
theorem isIn_1 {x : Int32} : f_MO_isIn x.toInt64 1 100 = true ↔ ∃ k, 1 ≤ k ∧ k ≤ 100 ∧ x = nI k := by
  rw [isIn_iff, Int64.le_iff_toInt_le, Int64.le_iff_toInt_le, Int32.toInt_toInt64, show (1 : Int64).toInt = 1 from rfl, show (100 : Int64).toInt = 100 from rfl]
  constructor
  · rintro ⟨h1, h2⟩
    have : ¬ x < 0 := fun z => by
      rw [Int32.lt_iff_toInt_lt] at z
      have : (0 : Int32).toInt = 0 := rfl
      omega
    obtain ⟨j, hj, e⟩ := nI_of this
    rw [e, nI_toInt hj] at h1 h2
    exact ⟨j, by omega, by omega, e⟩
  · rintro ⟨k, h1, h2, h3⟩
    rw [h3, nI_toInt (by omega)]
    omega
theorem CoR_s {mx mm mx' mm' : zM} {S S' : List Nat} {F F' : List (Nat × Nat)} {k : Nat} (h : CoR mx mm) (hf : fl2 S F mx mx') (hf' : fl2 S' F' mm mm') (k1 : kps [2, 4, 64] [(1, 1), (3, 1), (5, 1), (65, 7), (65, 8)] S F = true) (k2 : kps [1, 2, 56] [(0, 1), (0, 7), (0, 8), (0, 83)] S' F' = true) (hk : k < 2 ^ 31) (e1 : mx'.2.1 0 15 = lN k) (e2 : mm'.2.1 0 76 = lN k) (k3 : kps [] [(5, 1), (65, 7), (65, 8)] S F = true := by decide) (k4 : kps [3, 4, 5, 6, 7, 8, 9, 10, 11, 12, 13, 14, 15, 16, 17, 18, 19, 20, 21] [(0, 7), (0, 8)] S' F' = true := by decide) : CoR mx' mm' := by
  obtain ⟨h1, h2, h3, h4, h5⟩ := h
  refine ⟨?_, ?_, ?_, ⟨k, hk, e1, e2⟩, ?_⟩
  · rw [show mm'.1 0 1 = mm.1 0 1 from fl2_i hf' (kps_g k2 (by simp)), show mm'.1 1 = mm.1 1 from fl2_ic hf' (kps_c k2 (by simp)), show mx'.1 1 1 = mx.1 1 1 from fl2_i hf (kps_g k1 (by simp)), show mx'.1 2 = mx.1 2 from fl2_ic hf (kps_c k1 (by simp))]; exact h1
  · rw [show mm'.1 2 = mm.1 2 from fl2_ic hf' (kps_c k2 (by simp)), show mx'.1 64 = mx.1 64 from fl2_ic hf (kps_c k1 (by simp))]; exact h2
  · exact CoF_f h3 hf hf' k3 k4
  · rw [show mm'.1 0 83 = mm.1 0 83 from fl2_i hf' (kps_g k2 (by simp)), show mm'.1 56 = mm.1 56 from fl2_ic hf' (kps_c k2 (by simp)), show mx'.1 3 1 = mx.1 3 1 from fl2_i hf (kps_g k1 (by simp)), show mx'.1 4 = mx.1 4 from fl2_ic hf (kps_c k1 (by simp))]; exact h5
theorem c_chance {a1 : Int32} {mx mm : zM} (h : IvW mx mm) : Alk (f_PA_chance a1 mx) (f_MO_chance a1 mm) := by
  unfold f_PA_chance f_MO_chance f_PA_chance_J18 f_MO_chance_J19
  obtain ⟨hc, hn | ⟨P, N, W, D, pr, sp, b, ht⟩⟩ := id h
  · rw [if_pos hn.1, ntA hn]
    exact refNN (i := 3) (by decide) rfl rfl h
  · obtain ⟨p, ep, z1, z2, z3, z4⟩ := askT ht
    obtain ⟨⟨h1, h2, h3, h4, h5, h6, h7⟩, r0, g1, g2, g3, g4, g5⟩ := ht.1
    have hq : Qy P N W D pr sp b mx mm p.2 := ⟨hc, ht, z2, z3, z4⟩
    have p8 := h1.1.2.2.2.2.2.2.2.2.2.2.1
    rw [ep, Option.bind_some, if_neg (by rw [g1]; decide), if_pos z1]
    have no := refNN (i := 3) (v := 3) (w := 3) (by decide) rfl rfl (Qy_i hq)
    by_cases c : f_MO_isIn a1.toInt64 1 100 = true
    · rw [if_pos c]
      obtain ⟨n, n1, n2, e⟩ := isIn_1.mp c
      subst e
      rw [if_neg (show ¬ nI n < 1 from fun z => absurd ((nI_ltI (a := n) (b := 1) (by omega) (by decide)).mp z) (by omega)), if_pos (show nI n ≤ 100 from (nI_leI (a := n) (b := 100) (by omega) (by decide)).mpr n2)]
      obtain ⟨⟨x, rx, wx, wm⟩, tr⟩ := Qy_t hq
      obtain ⟨s, sl, s1, s2⟩ := (Qy_c hq).2.2.2.1
      refine ok_bi (remX rx wx wm tr) (fun px ⟨f1, hk⟩ => ?_)
      have T1 := tX_fl r0.1 g2 f1 (by decide) p8
      refine ok_mo (chanceLX h1 h4 (Rfs_x r0 f1) T1 rx (wX_fl wx f1 (by decide)) sl (by rw [fl2_j f1 (by decide)]; exact s1) n2) (fun q ⟨l1, l2, l3, l4, l5, l6⟩ => ?_)
      refine ok_bi hk (fun pm ⟨f2, t2⟩ => ?_)
      have wm2 : pm.2.1 0 72 = lN (km (P 3) x) := by rw [fl2_j f2 (by decide)]; exact wm
      refine ok_bi (mowM (v1 := -1) h1 (tM_fl z3 f2 (by decide)) rx.1 wm2) (fun p3 ⟨b1, b2, b3, _⟩ => ?_)
      rw [b2]
      refine ok_mo (chanceLM h1 h4 (tM_fl (tM_fl z3 f2 (by decide)) b1 (by decide)) rx (b3 rfl) sl (by rw [fl2_j b1 (by decide), fl2_j f2 (by decide)]; exact s2) n2) (fun q' ⟨c1, c2, c3, c4⟩ => ⟨l2.trans c2.symm, ?_⟩)
      have fx : fl2 [55, 56, 59, 60, 63] [(0, 14), (0, 15)] mx q.2 := fl2_tr (fl2_su f1 (by decide)) (fl2_su l1 (by decide))
      have fb : fl2 [25, 26] [(0, 36), (0, 38), (0, 72), (0, 76)] pm q'.2 := fl2_tr (fl2_su b1 (by decide)) c1
      have fm : fl2 [25, 26, 52] [(0, 36), (0, 38), (0, 72), (0, 74), (0, 75), (0, 76)] p.2 q'.2 := fl2_tr (fl2_su f2 (by decide)) (fl2_su fb (by decide))
      refine IvWk hq fx fm (CoR_s (Qy_c hq) fx fm (by decide) (by decide) l4 l6 c4) ⟨⟨_, l3, l5, c3⟩, TrR_f t2 l1 fb (by decide) (by decide)⟩ (by decide) (by decide) (by decide) (by decide) (by decide) (by decide) (by decide) (by decide) (by decide) (by decide) (by decide) (by decide) (by decide)
    · rw [if_neg c]
      by_cases d : a1 < 1
      · rw [if_pos d]; exact no
      · rw [if_neg d, if_neg]
        · exact no
        · intro d2
          refine c (isIn_1.mpr ?_)
          obtain ⟨k, hk, e⟩ := nI_of (x := a1) (fun z => d (Int32.lt_trans z (by decide)))
          subst e
          have a := (nI_leI (a := k) (b := 100) hk (by decide)).mp d2
          refine ⟨k, ?_, a, rfl⟩
          rcases Nat.lt_or_ge k 1 with y | y
          · exact absurd ((nI_ltI (a := k) (b := 1) hk (by decide)).mpr y) d
          · exact y
