def sdN (s : Nat) : Nat := (1103515245 * s + 12345) % 2 ^ 31
def stChn (P : Nat → Nat) (x s : Nat) : Nat := (sP P x (cea P x (sdN s / 64 % cn (psb P x) 64))).getD 0
/-- a walk by chance: moves made, world, seed -/
def chN (P : Nat → Nat) : Nat → Nat → Nat → Nat × Nat × Nat
  | 0, x, s => (0, x, s)
  | n + 1, x, s => if cn (psb P x) 64 = 0 then (0, x, s) else ((chN P n (stChn P x s) (sdN s)).1 + 1, (chN P n (stChn P x s) (sdN s)).2)
theorem chN_0 {P : Nat → Nat} {n x s : Nat} (h : cn (psb P x) 64 = 0) : chN P n x s = (0, x, s) := by
  cases n with
  | zero => rfl
  | succ n => show (if _ then _ else _) = _; rw [if_pos h]
theorem stChn_s {P : Nat → Nat} {x s : Nat} (h : cn (psb P x) 64 ≠ 0) : sP P x (cea P x (sdN s / 64 % cn (psb P x) 64)) = some (stChn P x s) := by
  have c := cea_sp (P := P) (x := x) (e := sdN s / 64 % cn (psb P x) 64) (Nat.mod_lt _ (by omega))
  obtain ⟨y, y1, y2⟩ := psb_s c.2.1
  unfold stChn
  rw [y2]; exact y1
theorem drawV {s : Nat} (hs : s < 2 ^ 31) : (1103515245 * lN s + 12345 : Int64) = lN (1103515245 * s + 12345) := by
  rw [show (1103515245 : Int64) = lN 1103515245 from rfl, show (12345 : Int64) = lN 12345 from rfl, lN_mul, lN_add]
theorem sd_lt (s : Nat) : sdN s < 2 ^ 31 := Nat.mod_lt _ (by decide)
theorem pickV {s n : Nat} (hn : 0 < n) (hn2 : n ≤ 64) : (irl (lN (sdN s) / 64) (nI n).toInt64).toInt32 = nI (sdN s / 64 % n) := by
  have := sd_lt s
  unfold irl
  rw [nI_l (by omega), show (64 : Int64) = lN 64 from rfl, pk_lDiv (by omega) (by decide) (by decide), pk_lRem (by omega) hn (by omega), lN_i]
theorem nzl_n {n : Nat} (hn : 0 < n) (hn2 : n ≤ 64) : nzl (nI n).toInt64 = some () := by
  unfold nzl
  rw [if_neg]
  rw [nI_l (by omega)]
  intro z
  have := (pk_lEQ (a := n) (b := 0) (by omega) (by decide)).mp z
  omega
theorem chanceLX {P : Nat → Nat} {N b n x s : Nat} {W D : Nat → Nat} {m : zM} (hP : tV P) (hL : Lst (Ed P 16) (wx0 P) N W D) (r0 : Rfs b m) (ht : tX b P m) (hr : rchd P N W x) (hw : wX 55 (P 3) (dh (P 3) x) (da (P 3) x) m) (hs : s < 2 ^ 31) (hm : m.2.1 0 15 = lN s) (hn : n ≤ 100) : ok (f_PA_chance_L32 (nI n) 0 0 m) (fun p => fl2 [55, 56, 59, 60] [(0, 15)] m p.2 ∧ p.1 = nI (chN P n x s).1 ∧ rchd P N W (chN P n x s).2.1 ∧ (chN P n x s).2.2 < 2 ^ 31 ∧ wX 55 (P 3) (dh (P 3) (chN P n x s).2.1) (da (P 3) (chN P n x s).2.1) p.2 ∧ p.2.2.1 0 15 = lN (chN P n x s).2.2) := by
  have p8 := hP.1.2.2.2.2.2.2.2.2.2.2.1
  have p3 := hP.1.2.1
  unfold f_PA_chance_L32
  refine ok_for n (fun k (t : Int32 × Int32 × zM) => t.1 = nI k ∧ t.2.1 = nI k ∧ fl2 [55, 56, 59, 60] [(0, 15)] m t.2.2 ∧ ∃ x1 s1, rchd P N W x1 ∧ s1 < 2 ^ 31 ∧ wX 55 (P 3) (dh (P 3) x1) (da (P 3) x1) t.2.2 ∧ t.2.2.2.1 0 15 = lN s1 ∧ chN P n x s = (k + (chN P (n - k) x1 s1).1, (chN P (n - k) x1 s1).2)) (k0 := 0) ⟨rfl, rfl, fl2_rf, x, s, hr, hs, hw, hm, by rw [Nat.zero_add]; rfl⟩ (Nat.zero_le _) ?_
  rintro k ⟨u, v, m1⟩ - hk ⟨e1, e2, f1, x1, s1, rx, sl, wx, sx, ec⟩
  have e1 : u = nI k := e1
  have e2 : v = nI k := e2
  subst e1
  subst e2
  have f1 : fl2 [55, 56, 59, 60] [(0, 15)] m m1 := f1
  have wx : wX 55 (P 3) (dh (P 3) x1) (da (P 3) x1) m1 := wx
  have sx : m1.2.1 0 15 = lN s1 := sx
  have t1 := tX_fl r0.1 ht f1 (by decide) p8
  have cl := cn_le (psb P x1) 64
  have fin : chN P (n - k) x1 s1 = (0, x1, s1) → ∀ m2 : zM, fl2 [59, 60] [] m1 m2 → fl2 [55, 56, 59, 60] [(0, 15)] m m2 ∧ nI k = nI (chN P n x s).1 ∧ rchd P N W (chN P n x s).2.1 ∧ (chN P n x s).2.2 < 2 ^ 31 ∧ wX 55 (P 3) (dh (P 3) (chN P n x s).2.1) (da (P 3) (chN P n x s).2.1) m2 ∧ m2.2.1 0 15 = lN (chN P n x s).2.2 := by
    intro z m2 f2
    rw [ec, z]
    exact ⟨fl2_tr f1 (fl2_su f2 (by decide)), rfl, rx, sl, wX_fl wx f2 (by decide), by rw [fl2_j f2 (by decide)]; exact sx⟩
  unfold f_PA_chance_B32
  refine ok_le n k (fun q => ok_mk (fin (by rw [show n - k = 0 by omega]; rfl) m1 fl2_rf)) (fun q => ?_)
  refine ok_eb (tb_ok (b := b) (by rw [f1.2]; exact r0.2.1) r0.1) (ok_bi (choicesX r0.1 hP t1 rx.1 wx) (fun p ⟨g1, g2⟩ => ?_))
  refine ok_ee (cn (psb P x1) 64) 0 (fun z => ok_zl (ok_mk (fin (chN_0 z) p.2 g1))) (fun z => ?_) (hx := g2)
  refine ok_eb (tb_ok (b := b) (by rw [g1.2, f1.2]; exact r0.2.1) r0.1) ?_
  have sp : p.2.2.1 0 15 = lN s1 := by rw [fl2_j g1 (by decide)]; exact sx
  have f3 : fl2 [] [(0, 15)] p.2 (sJ p.2 0 15 (lN (sdN s1))) := fl2_J (inS_f (by simp))
  refine ok_bi (G := fun p6 => p6 = (nI (sdN s1 / 64 % cn (psb P x1) 64), sJ p.2 0 15 (lN (sdN s1)))) ?_ (fun p6 e6 => ?_)
  · unfold f_PA_draw
    rw [sp, drawV sl, lq_m31 (by omega)]
    refine ok_lt (ok_le (cn (psb P x1) 64) 0 (fun y => absurd y (by omega)) (fun y => ?_) (hx := g2))
    rw [g2, nzl_n (by omega) cl, rd_J1]
    refine ok_mk ?_
    show ((irl (lN (sdN s1) / 64) (nI (cn (psb P x1) 64)).toInt64).toInt32, _) = _
    rw [pickV (by omega) cl]
    rfl
  · subst e6
    have t3 := tX_fl r0.1 (tX_fl r0.1 t1 g1 (by decide) p8) f3 (by decide) p8
    have st := stChn_s (s := s1) z
    refine ok_bi (chooseX r0.1 hP t3 rx.1 (wX_fl (wX_fl wx g1 (by decide)) f3 (by decide)) (Nat.mod_lt _ (by omega))) (fun p7 ⟨h1, y, h2, h3⟩ => ?_)
    rw [st] at h2
    cases h2
    refine ok_bi (copyX (w := 55) h3 p3 (by decide) (by decide) (by decide)) (fun p8 ⟨c1, c2⟩ => ok_mk ⟨q, nI_1 k, nI_1 k, ?_, stChn P x1 s1, sdN s1, rchd_s hP hL rx st, sd_lt _, c2, ?_, ?_⟩)
    · exact fl2_tr f1 (fl2_tr (fl2_su g1 (by decide)) (fl2_tr (fl2_su f3 (by decide)) (fl2_tr (fl2_su h1 (by decide)) (fl2_su c1 (by decide)))))
    · show p8.2.1 0 15 = _
      rw [fl2_j c1 (by decide), fl2_j h1 (by decide), rd_J1]
    · rw [ec, show n - k = (n - (k + 1)) + 1 by omega]
      show (k + (if cn (psb P x1) 64 = 0 then _ else _ : Nat × Nat × Nat).1, (if cn (psb P x1) 64 = 0 then _ else _ : Nat × Nat × Nat).2) = _
      rw [if_neg z]
      show (k + ((chN P (n - (k + 1)) (stChn P x1 s1) (sdN s1)).1 + 1), _) = _
      rw [show ∀ a, k + (a + 1) = k + 1 + a from fun a => by omega]
