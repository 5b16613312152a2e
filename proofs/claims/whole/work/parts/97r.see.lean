/-- a sight: pairs of a state and how many are in it -/
def sgP (P : Nat → Nat) (g : Nat → Nat) (i : Nat) : Prop := g (2 * i) < P 0 ∧ g (2 * i + 1) ≤ 4
def sgO (P : Nat → Nat) (n : Nat) (g : Nat → Nat) : Prop := 2 ≤ n ∧ n ≤ 12 ∧ n % 2 = 0 ∧ ∀ i, i < n / 2 → sgP P g i
theorem isSgX {P : Nat → Nat} {b n : Nat} {g : Nat → Nat} {m : zM} (hP : tV P) (ht : tX b P m) (hT : TpX n g m) (hn : n ≤ 1600) : ok (f_Sight_isSight 1 b m) (fun r => r = true ↔ sgO P n g) := by
  have p0 := hP.1.2.2.2.1
  unfold f_Sight_isSight f_Bytes_size
  rw [hT.1]
  refine ok_ll n 2 (fun q => ok_mk ⟨fun z => (by cases z), fun z => by have := z.1; omega⟩) (fun q => ok_ll 12 n (fun q2 => ok_mk ⟨fun z => (by cases z), fun z => by have := z.2.1; omega⟩) (fun q2 => ?_))
  rw [show ir (nI n) 2 = nI (n % 2) from pk_rem (d := 2) (by omega) (by decide) (by decide)]
  refine ok_ee (n % 2) 0 (fun q3 => ?_) (fun q3 => ok_mk ⟨fun z => (by cases z), fun z => absurd z.2.2.1 q3⟩)
  unfold f_Sight_isSight_L26
  refine ok_for (n / 2) (fun k (s : Int32) => s = nI (2 * k) ∧ ∀ i, i < k → sgP P g i) (k0 := 0) ⟨rfl, fun i hi => absurd hi (Nat.not_lt_zero _)⟩ (Nat.zero_le _) ?_
  rintro k s - hk ⟨e, hs⟩
  subst e
  unfold f_Sight_isSight_B26
  refine ok_le n (2 * k) (fun z => ok_mk ⟨fun _ => ⟨q, q2, q3, fun i hi => hs i (by omega)⟩, fun _ => rfl⟩) (fun z => ?_)
  have l0 := (hT.2 (2 * k) (by omega)).2
  have l1 := (hT.2 (2 * k + 1) (by omega)).2
  refine ok_eb (gtBX hT hn (j := 2 * k) (by omega) rfl) (ok_ix rfl (by decide : 0 < 3) (by decide) (ok_le (P 0) (g (2 * k)) (fun y => ok_mk ⟨fun w => (by cases w), fun w => ?_⟩) (fun y => ?_) (hx := ht.2.1 0 (by decide))))
  · have := (w.2.2.2 k (by omega)).1; omega
  refine ok_eb (gtBX hT hn (j := 2 * k + 1) (by omega) (nI_1 _)) (ok_le (g (2 * k + 1)) 4 (fun u => ok_mk ⟨by omega, ?_, fun i hi => ?_⟩) (fun u => ok_mk ⟨fun w => (by cases w), fun w => ?_⟩))
  · show nI (2 * k) + 2 = nI (2 * (k + 1))
    rw [show (2 : Int32) = nI 2 from rfl, nI_add, Nat.mul_add]
  · rcases Nat.lt_or_ge i k with v | v
    · exact hs i v
    · rw [show i = k by omega]; exact ⟨y, u⟩
  · have := (w.2.2.2 k (by omega)).2; omega
/-- the class's sight -/
def sgX (r s : Nat) (g : Nat → Nat) (m : zM) : Prop := m.1 48 2 = nI r ∧ m.1 48 3 = nI s ∧ m.1 48 8 = -1 ∧ ∀ i, i < r → m.1 49 i = nI (g (2 * i)) ∧ m.1 50 i = nI (g (2 * i + 1))
theorem takeX {n s : Nat} {g : Nat → Nat} {m : zM} (hT : TpX n g m) (h2 : 2 ≤ n) (h12 : n ≤ 12) : ok (f_Sight_take 1 (nI s) m) (fun p => fl2 [49, 50] [(48, 2), (48, 3), (48, 8)] m p ∧ sgX (n / 2) s g p) := by
  unfold f_Sight_take f_Bytes_size f_Math_min
  rw [hT.1, show nI n / 2 = nI (n / 2) from pk_div (d := 2) (by omega) (by decide) (by decide), if_neg (show ¬ (6 : Int32) < nI (n / 2) from fun z => by have := (nI_ltI (a := 6) (b := n / 2) (by decide) (by omega)).mp z; omega)]
  refine ok_lt ?_
  have f0 : fl2 [49, 50] [(48, 2), (48, 3), (48, 8)] m (sI m 48 2 (nI (n / 2))) := fl2_I (inS_f (by simp))
  unfold f_Sight_take_L17
  refine ok_for (n / 2) (fun k (q : Int32 × zM) => q.1 = nI k ∧ fl2 [49, 50] [(48, 2), (48, 3), (48, 8)] m q.2 ∧ q.2.1 48 2 = nI (n / 2) ∧ ∀ i, i < k → q.2.1 49 i = nI (g (2 * i)) ∧ q.2.1 50 i = nI (g (2 * i + 1))) (k0 := 0) ⟨rfl, f0, rd_I1 _ _ _ _, fun i hi => absurd hi (Nat.not_lt_zero _)⟩ (Nat.zero_le _) ?_
  rintro k ⟨x, m1⟩ - hk ⟨e, f1, g1, g2⟩
  have e : x = nI k := e
  subst e
  have f1 : fl2 [49, 50] [(48, 2), (48, 3), (48, 8)] m m1 := f1
  have g1 : m1.1 48 2 = nI (n / 2) := g1
  have g2 : ∀ i, i < k → m1.1 49 i = nI (g (2 * i)) ∧ m1.1 50 i = nI (g (2 * i + 1)) := g2
  have T1 : TpX n g m1 := ⟨by rw [fl2_i f1 (by decide)]; exact hT.1, fun j hj => by rw [fl2_ic f1 (fun j => by simp [inS])]; exact hT.2 j hj⟩
  unfold f_Sight_take_B17
  refine ok_le (n / 2) k (fun q => ok_zl ?_) (fun q => ?_) (hx := g1)
  · unfold f_Sight_take_J59
    refine ok_lt (ok_lt (ok_mk ⟨fl2_tr f1 (fl2_tr (fl2_I (inS_f (by simp))) (fl2_I (inS_f (by simp)))), ?_, ?_, rd_I1 _ _ _ _, fun i hi => ?_⟩))
    · rw [rd_I0 (by omega), rd_I0 (by omega)]; exact g1
    · rw [rd_I0 (by omega), rd_I1]
    · rw [rd_I0 (by omega), rd_I0 (by omega), rd_I0 (by omega), rd_I0 (by omega)]; exact g2 i (by omega)
  · have e2 : 2 * nI k = nI (2 * k) := pk_mul 2 k
    rw [e2]
    have f2 : fl2 [49, 50] [(48, 2), (48, 3), (48, 8)] m1 (sI m1 49 k (nI (g (2 * k)))) := fl2_I (inS_c (by simp))
    have T2 : TpX n g (sI m1 49 k (nI (g (2 * k)))) := ⟨by rw [fl2_i f2 (by decide)]; exact T1.1, fun j hj => by rw [fl2_ic f2 (fun j => by simp [inS])]; exact T1.2 j hj⟩
    refine ok_eb (gtBX T1 (by omega) (j := 2 * k) (by omega) rfl) (ok_ix rfl (by omega : k < 6) (by decide) (ok_lt (ok_eb (gtBX T2 (by omega) (j := 2 * k + 1) (by omega) (nI_1 _)) (ok_ix rfl (by omega : k < 6) (by decide) (ok_lt (ok_mk ⟨q, nI_1 k, fl2_tr f1 (fl2_tr f2 (fl2_I (inS_c (by simp)))), ?_, fun i hi => ?_⟩))))))
    · show (sI (sI m1 49 k _) 50 k _).1 48 2 = _
      rw [rd_I0 (by omega), rd_I0 (by omega)]; exact g1
    · show (sI (sI m1 49 k _) 50 k _).1 49 i = _ ∧ (sI (sI m1 49 k _) 50 k _).1 50 i = _
      by_cases z : i = k
      · rw [z, rd_I0 (by omega), rd_I1, rd_I1]; exact ⟨rfl, rfl⟩
      · rw [rd_I0 (by omega), rd_I0 (by omega), rd_I0 (by omega), rd_I0 (by omega)]; exact g2 i (by omega)
def sgM (r s : Nat) (g : Nat → Nat) (m : zM) : Prop := m.1 0 77 = nI r ∧ m.1 0 78 = nI s ∧ ∀ i, i < r → m.1 53 (2 * i) = nI (g (2 * i)) ∧ m.1 53 (2 * i + 1) = nI (g (2 * i + 1))
theorem sawM {n s : Nat} {g : Nat → Nat} {m : zM} (hT : ∀ j, j < n → m.1 1 j = nI (g j)) (h12 : n ≤ 12) : ok (f_MO_see_L120 (nI s) (nI n) 0 m) (fun p => fl2 [53] [(0, 77), (0, 78)] m p.2 ∧ p.1 = nI (n / 2) ∧ sgM (n / 2) s g p.2) := by
  unfold f_MO_see_L120
  refine ok_for n (fun k (q : Int32 × zM) => q.1 = nI k ∧ fl2 [53] [(0, 77), (0, 78)] m q.2 ∧ ∀ j, j < k → q.2.1 53 j = nI (g j)) (k0 := 0) ⟨rfl, fl2_rf, fun i hi => absurd hi (Nat.not_lt_zero _)⟩ (Nat.zero_le _) ?_
  rintro k ⟨x, m1⟩ - hk ⟨e, f1, g2⟩
  have e : x = nI k := e
  subst e
  have f1 : fl2 [53] [(0, 77), (0, 78)] m m1 := f1
  have g2 : ∀ j, j < k → m1.1 53 j = nI (g j) := g2
  unfold f_MO_see_B120
  refine ok_le n k (fun q => ok_zl ?_) (fun q => ok_ix rfl (by omega : k < 1600) (by decide) (ok_ix rfl (by omega : k < 12) (by decide) (ok_lt (ok_mk ⟨q, nI_1 k, fl2_tr f1 (fl2_I (inS_c (by simp))), fun j hj => ?_⟩))))
  · unfold f_MO_see_J146
    rw [show nI n / 2 = nI (n / 2) from pk_div (d := 2) (by omega) (by decide) (by decide)]
    refine ok_lt (ok_lt (ok_mk ⟨fl2_tr f1 (fl2_tr (fl2_I (inS_f (by simp))) (fl2_I (inS_f (by simp)))), ?_, ?_, rd_I1 _ _ _ _, fun i hi => ?_⟩))
    · show (sI (sI m1 0 77 (nI (n / 2))) 0 78 (nI s)).1 0 77 = _
      rw [rd_I0 (by omega), rd_I1]
    · show (sI (sI m1 0 77 (nI (n / 2))) 0 78 (nI s)).1 0 77 = _
      rw [rd_I0 (by omega), rd_I1]
    · show (sI (sI m1 0 77 _) 0 78 _).1 53 (2 * i) = _ ∧ (sI (sI m1 0 77 _) 0 78 _).1 53 (2 * i + 1) = _
      rw [rd_I0 (by omega), rd_I0 (by omega), rd_I0 (by omega), rd_I0 (by omega)]
      exact ⟨g2 _ (by omega), g2 _ (by omega)⟩
  · show (sI m1 53 k _).1 53 j = _
    by_cases z : j = k
    · rw [z, rd_I1]
      show m1.1 1 k = _
      rw [fl2_ic f1 (fun j => by simp [inS])]; exact hT k q
    · rw [rd_I0 (by omega)]; exact g2 j (by omega)
theorem sgLM {P : Nat → Nat} {n s : Nat} {g : Nat → Nat} {m : zM} {K : Int32 × zM → Prop} (hP : tV P) (ht : tM 23 P m) (hT : ∀ j, j < n → m.1 1 j = nI (g j) ∧ g j < 256) (h12 : n ≤ 12) (h2 : 2 ≤ n) (he : n % 2 = 0) (hy : sgO P n g → ok (f_MO_see_J107 (nI s) (nI n) true m) K) (hno : ¬ sgO P n g → ok (f_MO_see_J107 (nI s) (nI n) false m) K) : ok (f_MO_see_J52 (nI s) (nI n) true m) K := by
  have p0 := hP.1.2.2.2.1
  unfold f_MO_see_J52 f_MO_see_L56
  refine ok_for (n / 2) (fun k (q : Bool × Int32) => ((q.1 = true ∧ ∀ i, i < k → sgP P g i) ∨ (q.1 = false ∧ ¬ sgO P n g)) ∧ q.2 = nI (2 * k)) (k0 := 0) ⟨Or.inl ⟨rfl, fun i hi => absurd hi (Nat.not_lt_zero _)⟩, rfl⟩ (Nat.zero_le _) ?_
  rintro k ⟨c, x⟩ - hk ⟨h, e⟩
  have e : x = nI (2 * k) := e
  subst e
  have h : (c = true ∧ ∀ i, i < k → sgP P g i) ∨ (c = false ∧ ¬ sgO P n g) := h
  unfold f_MO_see_B56
  rcases h with ⟨hc, hs⟩ | ⟨hc, hs⟩
  · subst hc
    refine ok_le n (2 * k) (fun q => ok_zl (hy ⟨h2, h12, he, fun i hi => hs i (by omega)⟩)) (fun q => ok_ip rfl ?_)
    have b0 := hT (2 * k) (by omega)
    have b1 := hT (2 * k + 1) (by omega)
    have e2 : nI (2 * k) + 2 = nI (2 * (k + 1)) := by rw [show (2 : Int32) = nI 2 from rfl, nI_add, Nat.mul_add]
    unfold f_MO_see_J99 f_MO_see_J100
    refine ok_ix rfl (by omega : 2 * k < 1600) (by decide) (ok_ix rfl (by decide : 0 < 184) (by decide) (ok_le (P 0) (g (2 * k)) (fun y => ok_mk ⟨by omega, Or.inr ⟨rfl, fun w => ?_⟩, e2⟩) (fun y => ?_) (hx := tM_n ht (by decide) (by decide)) (hy := b0.1)))
    · have := (w.2.2.2 k (by omega)).1; omega
    refine ok_ix (nI_1 _) (by omega : 2 * k + 1 < 1600) (by decide) (ok_ll 4 (g (2 * k + 1)) (fun u => ok_mk ⟨by omega, Or.inr ⟨rfl, fun w => ?_⟩, e2⟩) (fun u => ok_mk ⟨by omega, Or.inl ⟨rfl, fun i hi => ?_⟩, e2⟩) (hy := b1.1))
    · have := (w.2.2.2 k (by omega)).2; omega
    · rcases Nat.lt_or_ge i k with v | v
      · exact hs i v
      · rw [show i = k by omega]; exact ⟨y, u⟩
  · subst hc
    exact ok_it (fun _ => ok_zl (hno hs)) (fun _ => ok_in Bool.false_ne_true (ok_zl (hno hs)))
theorem sgFM {v : Int32} {n : Nat} {m : zM} {K : Int32 × zM → Prop} (h : ok (f_MO_see_J107 v (nI n) false m) K) : ok (f_MO_see_J51 v (nI n) m) K := by
  unfold f_MO_see_J51 f_MO_see_J52 f_MO_see_L56
  refine ok_for 0 (fun k (q : Bool × Int32) => q = (false, 0)) (k0 := 0) rfl (Nat.zero_le _) ?_
  rintro k q - hk e
  subst e
  unfold f_MO_see_B56
  exact ok_it (fun _ => ok_zl h) (fun _ => ok_in Bool.false_ne_true (ok_zl h))
theorem c_see {a1 : Int32} {mx mm : zM} (h : IvW mx mm) : Alk (f_PA_see a1 mx) (f_MO_see a1 mm) := by
  obtain ⟨n, g, n0, n1, n2, n3⟩ := CoR_tp h.1
  have f0 : fl2 [] [(0, 1)] mm (sI mm 0 1 0) := fl2_I (inS_f (by simp))
  obtain ⟨c1, c2⟩ := cut1 (m := mx) (n0 := n) n1.1 (by omega)
  have co : CoR (f_Bytes_cut 1 0 mx) (sI mm 0 1 0) := CoR_0 h.1 c1 f0 c2 (rd_I1 _ _ _ _) (by decide) (by decide)
  have iv : IvW (f_Bytes_cut 1 0 mx) (sI mm 0 1 0) := IvC h co c1 f0 (by decide) (by decide) (by decide) (by decide) (by decide) (by decide) (by decide) (by decide) (by decide) (by decide) (by decide) (by decide) (by decide) (by decide) (by decide)
  have no : ok (f_PA_see_J35 a1 mx) (fun p => ok (f_MO_see_J107 a1 (nI n) false (sI mm 0 1 0)) (fun q => p.1 = q.1 ∧ IvW p.2 q.2)) := by
    unfold f_PA_see_J35 f_PA_see_J36 f_PA_see_J53 f_MO_see_J107
    refine ok_in Bool.false_ne_true (ok_lt (ok_in Bool.false_ne_true ?_))
    exact ok_mo (refNN (i := 1) (v := 1) (w := 1) (by decide) rfl rfl iv) (fun p hp => ok_in Bool.false_ne_true hp)
  unfold f_PA_see f_MO_see
  rw [n2]
  obtain ⟨hc, hn | ⟨P, N, W, D, pr, sp, b, ht⟩⟩ := id h
  · refine ok_ip hn.1 (ok_mo no (fun p hp => ok_lt (ok_ip ?_ (sgFM hp))))
    rw [fl2_i f0 (by decide)]; exact hn.2.1
  · obtain ⟨⟨h1, h2, h3, h4, h5, h6, h7⟩, r0, g1, g2, g3, g4, g5⟩ := ht.1
    have m33 : ¬ (sI mm 0 1 0).1 0 33 = 0 := by rw [fl2_i f0 (by decide), ht.2.1.1]; decide
    refine ok_in (by rw [g1]; decide) ?_
    rcases num_or a1 7 with ⟨s, hs, e⟩ | e
    rotate_left
    · have i7 := isIn_d (n := 7) (x := a1) (hi := 6) (by decide) (by decide) e
      have no' : ok (f_PA_see_J35 a1 mx) (fun p => ok (lt (sI mm 0 1 0) fun m1 => if m1.1 0 33 = 0 then f_MO_see_J51 a1 (nI n) m1 else if f_MO_isIn a1.toInt64 0 6 = true then if nI n ≤ 0 then f_MO_see_J51 a1 (nI n) m1 else if ir (nI n) 2 = 0 then if 6 < nI n / 2 then f_MO_see_J51 a1 (nI n) m1 else f_MO_see_J52 a1 (nI n) true m1 else f_MO_see_J51 a1 (nI n) m1 else f_MO_see_J51 a1 (nI n) m1) (fun q => p.1 = q.1 ∧ IvW p.2 q.2)) := ok_mo no (fun p hp => ok_lt (ok_in m33 (ok_in (by rw [i7]; decide) (sgFM hp))))
      refine ok_it (fun _ => no') (fun q => ok_it (fun _ => no') (fun q2 => ?_))
      obtain ⟨k, hk, ek⟩ := nI_of q
      exfalso
      refine e k ?_ ek
      rw [ek] at q2
      rcases Nat.lt_or_ge k 7 with z | z
      · exact z
      · exact absurd ((nI_ltI (a := 6) (b := k) (by decide) hk).mpr (by omega)) q2
    · have i7 := (isIn_c (n := 7) (x := a1) (hi := 6) (by decide) (by decide)).mpr ⟨s, hs, e⟩
      subst e
      refine ok_in (nI_pos (by omega)) (ok_in (show ¬ (6 : Int32) < nI s from fun z => by have := (nI_ltI (a := 6) (b := s) (by decide) (by omega)).mp z; omega) (ok_eb (tb_ok r0.2.1 r0.1) (ok_bi (isSgX h1 g2 n1 n0) (fun r hr => ?_))))
      have red : ∀ K : Int32 × zM → Prop, (¬ sgO P n g → ok (f_MO_see_J107 (nI s) (nI n) false (sI mm 0 1 0)) K) → (sgO P n g → ok (f_MO_see_J107 (nI s) (nI n) true (sI mm 0 1 0)) K) → ok (lt (sI mm 0 1 0) fun m1 => if m1.1 0 33 = 0 then f_MO_see_J51 (nI s) (nI n) m1 else if f_MO_isIn (nI s).toInt64 0 6 = true then if nI n ≤ 0 then f_MO_see_J51 (nI s) (nI n) m1 else if ir (nI n) 2 = 0 then if 6 < nI n / 2 then f_MO_see_J51 (nI s) (nI n) m1 else f_MO_see_J52 (nI s) (nI n) true m1 else f_MO_see_J51 (nI s) (nI n) m1 else f_MO_see_J51 (nI s) (nI n) m1) K := by
        intro K hno hy
        refine ok_lt (ok_in m33 (ok_ip i7 ?_))
        rw [show ir (nI n) 2 = nI (n % 2) from pk_rem (d := 2) (by omega) (by decide) (by decide), show nI n / 2 = nI (n / 2) from pk_div (d := 2) (by omega) (by decide) (by decide)]
        refine ok_le n 0 (fun q => sgFM (hno (fun z => by have := z.1; omega))) (fun q => ok_ee (n % 2) 0 (fun q2 => ok_ll 6 (n / 2) (fun q3 => sgFM (hno (fun z => by have := z.2.1; omega))) (fun q3 => ?_)) (fun q2 => sgFM (hno (fun z => q2 z.2.2.1))))
        exact sgLM h1 (tM_fl ht.2.1.2.1 f0 (by decide)) (fun j hj => by rw [fl2_ic f0 (fun j => by simp [inS])]; exact n3 j hj) (by omega) (by omega) q2 hy hno
      refine ok_it (fun q => ?_) (fun q => ok_mo no (fun p hp => red _ (fun _ => hp) (fun z => absurd (hr.mpr z) q)))
      have sg := hr.mp q
      have sg2 := sg
      obtain ⟨s1, s2, s3, s4⟩ := sg2
      unfold f_PA_see_J36
      refine ok_ip rfl (ok_bi (takeX (s := s) n1 s1 s2) (fun p ⟨fp, sp'⟩ => ?_))
      unfold f_PA_see_J53
      obtain ⟨d1, d2⟩ := cut1 (m := p) (n0 := n) (by rw [fl2_i fp (by decide)]; exact n1.1) (by omega)
      refine ok_lt (ok_ip rfl (ok_mk (red _ (fun z => absurd sg z) (fun _ => ?_))))
      unfold f_MO_see_J107
      refine ok_ip rfl (ok_mo (sawM (g := g) (fun j hj => by rw [fl2_ic f0 (fun j => by simp [inS])]; exact (n3 j hj).1) s2) (fun pm ⟨fm, e1, sm⟩ => ⟨?_, ?_⟩))
      · show (f_Bytes_cut 1 0 p).1 48 2 = pm.1
        rw [e1, fl2_i d1 (by decide)]; exact sp'.1
      · have fx : fl2 [49, 50] [(1, 1), (48, 2), (48, 3), (48, 8)] mx (f_Bytes_cut 1 0 p) := fl2_tr (fl2_su fp (by decide)) (fl2_su d1 (by decide))
        have fm' : fl2 [53] [(0, 1), (0, 77), (0, 78)] mm pm.2 := fl2_tr (fl2_su f0 (by decide)) (fl2_su fm (by decide))
        have p0 := h1.1.2.2.2.1
        refine ⟨CoR_0 hc fx fm' d2 (by rw [fl2_i fm (by decide), rd_I1]; rfl) (by decide) (by decide), Or.inr ⟨P, N, W, D, pr, sp, b, TdX_f ht.1 fx (by decide) (by decide) (by decide) (by decide) (by decide), ⟨by rw [fl2_i fm' (by decide)]; exact ht.2.1.1, tM_fl ht.2.1.2.1 fm' (by decide), MCa_fl ht.2.1.2.2 fm' (by decide) (by decide) (by decide) (by decide)⟩, WaR_m (WaR_x ht.2.2.1 fx (by decide)) fm' (by decide), ?_⟩⟩
        refine ⟨n / 2, s, fun i => g (2 * i), fun i => g (2 * i + 1), by omega, by omega, by omega, ?_, ?_, sm.1, fun _ => sm.2.1, fun i hi => ⟨(n3 _ (by omega)).2, (n3 _ (by omega)).2, ?_, ?_, (sm.2.2 i hi).1, (sm.2.2 i hi).2⟩, Or.inl ?_⟩
        · rw [fl2_i d1 (by decide)]; exact sp'.1
        · rw [fl2_i d1 (by decide)]; exact sp'.2.1
        · rw [fl2_ic d1 (fun j => by simp [inS])]; exact (sp'.2.2.2 i hi).1
        · rw [fl2_ic d1 (fun j => by simp [inS])]; exact (sp'.2.2.2 i hi).2
        · rw [fl2_i d1 (by decide)]; exact sp'.2.2.1
