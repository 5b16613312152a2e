theorem lq_or5 {n x : Nat} (h : n * 32 + x < 2 ^ 63) (hx : x < 32) : lsl (lN n) 5 ||| lN x = lN (n * 32 + x) := by
  apply Int64.toBitVec_inj.mp
  apply BitVec.eq_of_toNat_eq
  show ((lsl (lN n) 5).toBitVec ||| (lN x).toBitVec).toNat = _
  unfold lsl
  have e1 : n * 2 ^ 5 % 2 ^ 64 = n * 32 := by omega
  rw [BitVec.toNat_or, lq_shl _ _ 5 (by decide), lq_tn (n := n) (by omega), lq_tn (n := x) (by omega), lq_tn (n := n * 32 + x) (by omega), e1]
  have := Nat.shiftLeft_add_eq_or_of_lt (i := 5) (b := x) hx n
  rw [Nat.shiftLeft_eq] at this
  exact this.symm
theorem ltr_l {c : Nat} (h : ibL c = true) : (nI c - 97 + 1).toInt64 = lN (c - 96) := by
  have := ibL_i.mp h
  rw [show (97 : Int32) = nI 97 from rfl, pk_sub (by omega), nI_1, nI_l (by omega)]
  congr 1
  omega
theorem ltr_x_a : ∀ c, c < 256 → f_PA_isLetter (nI c) = ibL c := by decide +kernel
theorem ltr_x {c : Nat} (h : c < 256) : f_PA_isLetter (nI c) = ibL c := ltr_x_a c h
theorem dgt_x_a : ∀ c, c < 256 → f_PA_isDigit (nI c) = ibD c := by decide +kernel
theorem dgt_x {c : Nat} (h : c < 256) : f_PA_isDigit (nI c) = ibD c := dgt_x_a c h
theorem blk_x_a : ∀ c, c < 256 → f_PA_isBlank (nI c) = ibBk c := by decide +kernel
theorem blk_x {c : Nat} (h : c < 256) : f_PA_isBlank (nI c) = ibBk c := blk_x_a c h
theorem ltr_m (x : Int32) : f_MO_isLetter x = f_PA_isLetter x := rfl
theorem dgt_m (x : Int32) : f_MO_isDigit x = f_PA_isDigit x := rfl
/-- the byte at q, or -1 -/
def byA (n : Nat) (g : Nat → Nat) (q : Nat) : Int32 := if q < n then nI (g q) else -1
theorem gtA {n q : Nat} {g : Nat → Nat} {v : Int32} {m : zM} (h : TpX n g m) (hn : n ≤ 1600) (hq : q < 2 ^ 31) (e : v = nI q) : f_Bytes_get 1 v m = some (byA n g q) := by
  unfold byA
  rcases Nat.lt_or_ge q n with z | z
  · rw [if_pos z]; exact gtBX h hn z e
  · rw [if_neg (by omega)]
    unfold f_Bytes_get
    rw [e, if_neg (nI_pos hq), h.1, if_pos ((nI_leI (by omega) hq).mpr z)]
theorem byA_L {n q : Nat} {g : Nat → Nat} (h : ∀ j, j < n → g j < 256) : f_PA_isLetter (byA n g q) = (decide (q < n) && ibL (g q)) := by
  unfold byA
  by_cases z : q < n
  · rw [if_pos z, ltr_x (h q z), decide_eq_true z, Bool.true_and]
  · rw [if_neg z, decide_eq_false z, Bool.false_and]; decide
theorem byA_D {n q : Nat} {g : Nat → Nat} (h : ∀ j, j < n → g j < 256) : f_PA_isDigit (byA n g q) = (decide (q < n) && ibD (g q)) := by
  unfold byA
  by_cases z : q < n
  · rw [if_pos z, dgt_x (h q z), decide_eq_true z, Bool.true_and]
  · rw [if_neg z, decide_eq_false z, Bool.false_and]; decide
/-- the class's row of words -/
def chL : List Nat := owW.flatMap (fun l => l ++ [32])
def chK (k : Nat) : Nat := chL.getD k 0
def cuN : Nat → Nat
  | 0 => 0
  | k + 1 => if chK k = 32 then 0 else cuN k * 32 + (chK k - 96)
theorem chK_e : ∀ k, k < 105 → (zsB.getD 0 []).getD k 0 = nI (chK k) ∧ (chK k = 32 ∨ (97 ≤ chK k ∧ chK k ≤ 122)) ∧ cuN k < 2 ^ 50 := by decide +kernel
theorem chK_w : (∀ k, k < 105 → chK k = 32 → ∃ w, w < 19 ∧ cuN k = pkN 32 (owF w) (owL w).length) ∧ ∀ w, w < 19 → ∃ k, k < 105 ∧ chK k = 32 ∧ cuN k = pkN 32 (owF w) (owL w).length := by decide +kernel
theorem ownW {v : Nat} (hv : v < 2 ^ 63) : f_Reader_isOwnWord (lN v) = some (cBo (∃ w, w < 19 ∧ v = pkN 32 (owF w) (owL w).length)) := by
  refine ok_eq.mp ?_
  unfold f_Reader_isOwnWord f_Reader_isOwnWord_L5
  refine ok_for 105 (fun k (s : Int64 × Int32) => s.1 = lN (cuN k) ∧ s.2 = nI k ∧ ∀ k', k' < k → chK k' = 32 → cuN k' ≠ v) (k0 := 0) ⟨rfl, rfl, fun k' h => absurd h (Nat.not_lt_zero _)⟩ (Nat.zero_le _) ?_
  rintro k ⟨x, y⟩ - hk ⟨e1, e2, h⟩
  have e1 : x = lN (cuN k) := e1
  have e2 : y = nI k := e2
  subst e1 e2
  unfold f_Reader_isOwnWord_B5 f_String_length f_Reader_isOwnWord_J57
  refine ok_le 105 k (fun q => ok_mk ?_) (fun q => ?_)
  · refine (cBo_f (fun ⟨w, w1, w2⟩ => ?_)).symm
    obtain ⟨k', k1, k2, k3⟩ := chK_w.2 w w1
    exact h k' (by omega) k2 (k3.trans w2.symm)
  · obtain ⟨c1, c2, c3⟩ := chK_e k q
    have ec : f_String_charAt 0 (nI k) = some (nI (chK k)) := by
      unfold f_String_charAt
      rw [show zsL.getD 0 0 = 105 from rfl, ix_nI q (by decide), Option.bind_some, c1]
    refine ok_eb ec ?_
    refine ok_ee (chK k) 32 (fun z => ?_) (fun z => ?_)
    · refine ok_it (fun u => ok_mk ?_) (fun u => ok_mk ⟨q, ?_, nI_1 k, fun k' h1 h2 => ?_⟩)
      · have := (pk_lEQ (by omega) (by omega)).mp ((lg_cmp_eq _ _).mp u)
        obtain ⟨w, w1, w2⟩ := chK_w.1 k q z
        exact (cBo_t ⟨w, w1, by rw [← this]; exact w2⟩).symm
      · show (0 : Int64) = lN (cuN (k + 1))
        rw [show cuN (k + 1) = 0 from if_pos z]; rfl
      · rcases Nat.lt_or_ge k' k with w | w
        · exact h k' w h2
        · rw [show k' = k by omega]
          exact fun y => u ((lg_cmp_eq _ _).mpr (by rw [y]))
    · have c2' := c2.resolve_left z
      have sx : cuN (k + 1) = cuN k * 32 + (chK k - 96) := if_neg z
      refine ok_mk ⟨q, ?_, nI_1 k, fun k' h1 h2 => ?_⟩
      · rw [ltr_l (ibL_i.mpr c2'), lq_or5 (by omega) (by omega), sx]
      · rcases Nat.lt_or_ge k' k with w | w
        · exact h k' w h2
        · rw [show k' = k by omega] at h2; exact absurd h2 z
/-- what stands at p is a word of the language -/
def owQ (n : Nat) (g : Nat → Nat) (p w : Nat) : Prop := rnK ibL n g p = (owL w).length ∧ ∀ j, j < (owL w).length → g (p + j) = (owL w).getD j 0
def wvN (n : Nat) (g : Nat → Nat) (p : Nat) : Nat := pkN 32 (wdf g p) (min 12 (rnK ibL n g p))
theorem owQ_v {n p w : Nat} {g : Nat → Nat} (hp : p ≤ n) (hw : w < 19) : wvN n g p = pkN 32 (owF w) (owL w).length ↔ owQ n g p w := by
  obtain ⟨o1, o2, o3⟩ := owL_ok w hw
  have wo := wdf_ok (l := min 12 (rnK ibL n g p)) hp (Nat.min_le_right _ _)
  have fo : ∀ j, j < (owL w).length → owF w j < 32 ∧ 0 < owF w j := fun j hj => by have := o3 j hj; unfold owF; omega
  constructor
  · intro e
    obtain ⟨e1, e2⟩ := pkN_in (fun j hj => ⟨by have := (wo j hj).1; omega, (wo j hj).2⟩) fo e
    have e3 : rnK ibL n g p = (owL w).length := by omega
    refine ⟨e3, fun j hj => ?_⟩
    have h1 := e2 j (by omega)
    have h2 := ibL_i.mp ((rnK_sp (q := ibL) (g := g) hp).2.1 j (by omega))
    have h3 := o3 j hj
    unfold wdf owF at h1
    omega
  · rintro ⟨e1, e2⟩
    unfold wvN
    rw [show min 12 (rnK ibL n g p) = (owL w).length by omega]
    refine pkN_cg (fun j hj => ?_)
    unfold wdf owF
    rw [e2 j hj]
theorem wvN_lt {n p : Nat} {g : Nat → Nat} (hp : p ≤ n) : wvN n g p < 2 ^ 60 := by
  have wo := wdf_ok (l := min 12 (rnK ibL n g p)) hp (Nat.min_le_right _ _)
  have := pkN_lt (b := 32) (f := wdf g p) (l := min 12 (rnK ibL n g p)) (fun j hj => by have := (wo j hj).1; omega)
  have : (32 : Nat) ^ min 12 (rnK ibL n g p) ≤ 32 ^ 12 := Nat.pow_le_pow_right (by decide) (Nat.min_le_left _ _)
  have : (32 : Nat) ^ 12 = 2 ^ 60 := by decide
  unfold wvN
  omega
/-- what is put down of a thing -/
def tkA (t p l k v : Nat) (m0 m : zM) : Prop := fl2 [89, 90, 91, 92] [] m0 m ∧ m.1 90 t = nI p ∧ m.1 91 t = nI l ∧ m.1 89 t = nI k ∧ m.2.1 92 t = lN v ∧ ∀ u, u ≠ t → m.1 90 u = m0.1 90 u ∧ m.1 91 u = m0.1 91 u ∧ m.1 89 u = m0.1 89 u ∧ m.2.1 92 u = m0.2.1 92 u
noncomputable def kd0 (n : Nat) (g : Nat → Nat) (p : Nat) : Nat := if ibL (g p) = true then (if cBo (∃ w, w < 19 ∧ owQ n g p w) = true then 2 else 1) else if ibD (g p) = true then 3 else 4
def va0 (n : Nat) (g : Nat → Nat) (p : Nat) : Nat := if ibL (g p) = true then wvN n g p else if ibD (g p) = true then g p - 48 else g p
theorem takeTX {n t p : Nat} {g : Nat → Nat} {m : zM} (hT : TpX n g m) (hn : n ≤ 1600) (hp : p < n) (ht : t < 1601) : ok (f_Reader_take 1 (nI p) (nI t) m) (fun r => tkA t p (tln n g p) (kd0 n g p) (va0 n g p) m r.2 ∧ (r.1 = true ↔ kd0 n g p = 4)) := by
  have g8 := fun j hj => (hT.2 j hj).2
  have gp := g8 p hp
  have J70 : ∀ m', tkA t p (tln n g p) (kd0 n g p) (va0 n g p) m m' → ok (f_Reader_take_J70 (nI t) m') (fun r => tkA t p (tln n g p) (kd0 n g p) (va0 n g p) m r.2 ∧ (r.1 = true ↔ kd0 n g p = 4)) := by
    intro m' h'
    unfold f_Reader_take_J70
    have kl : kd0 n g p ≤ 4 := by unfold kd0; split <;> (try split) <;> omega
    refine ok_ix rfl ht (by decide) (ok_ee (kd0 n g p) 4 (fun z => ok_mk ⟨h', fun _ => z, fun _ => rfl⟩) (fun z => ok_mk ⟨h', fun y => (by cases y), fun y => absurd y z⟩) (hx := h'.2.2.2.1))
  unfold f_Reader_take
  refine ok_eb (gtBX hT hn hp rfl) (ok_ix rfl ht (by decide) (ok_lt (ok_ix rfl ht (by decide) (ok_lt (ok_ix rfl ht (by decide) (ok_lt (ok_ix rfl ht (by decide) (ok_lt ?_))))))))
  have m9 : tkA t p 1 4 (g p) m (sI (sJ (sI (sI m 90 t (nI p)) 91 t 1) 92 t (nI (g p)).toInt64) 89 t 4) := by
    refine ⟨fl2_tr (fl2_I (inS_c (by simp))) (fl2_tr (fl2_I (inS_c (by simp))) (fl2_tr (fl2_J (inS_c (by simp))) (fl2_I (inS_c (by simp))))), ?_, ?_, ?_, ?_, fun u hu => ⟨?_, ?_, ?_, ?_⟩⟩
    · rw [rd_I0 (by omega), rd_JI, rd_I0 (by omega), rd_I1]
    · rw [rd_I0 (by omega), rd_JI, rd_I1]; rfl
    · rw [rd_I1]; rfl
    · rw [rd_IJ, rd_J1, nI_l (by omega)]
    · rw [rd_I0 (by omega), rd_JI, rd_I0 (by omega), rd_I0 (by omega)]
    · rw [rd_I0 (by omega), rd_JI, rd_I0 (by omega), rd_I0 (by omega)]
    · rw [rd_I0 (by omega), rd_JI, rd_I0 (by omega), rd_I0 (by omega)]
    · rw [rd_IJ, rd_J0 (by omega)]; rfl
  generalize sI (sJ (sI (sI m 90 t (nI p)) 91 t 1) 92 t (nI (g p)).toInt64) 89 t 4 = mb at m9 ⊢
  obtain ⟨b0, b1, b2, b3, b4, b5⟩ := m9
  have Tb : TpX n g mb := ⟨by rw [fl2_i b0 (by decide)]; exact hT.1, fun j hj => by rw [fl2_ic b0 (fun j => by simp [inS])]; exact hT.2 j hj⟩
  rw [ltr_x gp, dgt_x gp]
  refine ok_tf (fun zl => ?_) (fun zl => ok_tf (fun zd => ?_) (fun zd => J70 mb ?_))
  · -- a word
    refine ok_bi ?_ (fun p11 h11 => J70 p11 h11)
    obtain ⟨r1, r2, r3⟩ := rnK_sp (q := ibL) (g := g) (Nat.le_of_lt hp)
    unfold f_Reader_takeWord f_Reader_takeWord_L6
    have J67 : ok (f_Reader_takeWord_J67 (nI t) (lN (wvN n g p)) (nI (rnK ibL n g p)) mb) (tkA t p (tln n g p) (kd0 n g p) (va0 n g p) m) := by
      unfold f_Reader_takeWord_J67 f_Reader_takeWord_J101
      have wl := wvN_lt (g := g) (Nat.le_of_lt hp)
      refine ok_ix rfl ht (by decide) (ok_lt (ok_ix rfl ht (by decide) (ok_lt (ok_eb (ownW (by omega)) ?_))))
      have eo : cBo (∃ w, w < 19 ∧ wvN n g p = pkN 32 (owF w) (owL w).length) = cBo (∃ w, w < 19 ∧ owQ n g p w) := cBo_cg ⟨fun ⟨w, w1, w2⟩ => ⟨w, w1, (owQ_v (Nat.le_of_lt hp) w1).mp w2⟩, fun ⟨w, w1, w2⟩ => ⟨w, w1, (owQ_v (Nat.le_of_lt hp) w1).mpr w2⟩⟩
      have fin : ∀ k : Nat, k = kd0 n g p → tkA t p (tln n g p) (kd0 n g p) (va0 n g p) m (sI (sJ (sI mb 91 t (nI (rnK ibL n g p))) 92 t (lN (wvN n g p))) 89 t (nI k)) := by
        intro k hk
        refine ⟨fl2_tr b0 (fl2_tr (fl2_I (inS_c (by simp))) (fl2_tr (fl2_J (inS_c (by simp))) (fl2_I (inS_c (by simp))))), ?_, ?_, ?_, ?_, fun u hu => ⟨?_, ?_, ?_, ?_⟩⟩
        · rw [rd_I0 (by omega), rd_JI, rd_I0 (by omega)]; exact b1
        · rw [rd_I0 (by omega), rd_JI, rd_I1]; unfold tln; rw [if_pos zl]
        · rw [rd_I1, hk]
        · rw [rd_IJ, rd_J1]; unfold va0; rw [if_pos zl]
        · rw [rd_I0 (by omega), rd_JI, rd_I0 (by omega)]; exact (b5 u hu).1
        · rw [rd_I0 (by omega), rd_JI, rd_I0 (by omega)]; exact (b5 u hu).2.1
        · rw [rd_I0 (by omega), rd_JI, rd_I0 (by omega)]; exact (b5 u hu).2.2.1
        · rw [rd_IJ, rd_J0 (by omega)]; exact (b5 u hu).2.2.2
      have kx : kd0 n g p = if cBo (∃ w, w < 19 ∧ owQ n g p w) = true then 2 else 1 := if_pos zl
      rw [eo]
      refine ok_tf (fun z => ok_ix rfl (show t < zlen gX 89 from ht) (by decide) (ok_lt (ok_mk (fin 2 ?_)))) (fun z => ok_ix rfl (show t < zlen gX 89 from ht) (by decide) (ok_lt (ok_mk (fin 1 ?_))))
      · rw [kx, if_pos z]
      · rw [kx, if_neg (by rw [z]; decide)]
    refine ok_for (rnK ibL n g p) (fun k (s : Int64 × Int32) => s.1 = lN (pkN 32 (wdf g p) (min 12 k)) ∧ s.2 = nI k) (k0 := 0) ⟨rfl, rfl⟩ (Nat.zero_le _) ?_
    rintro k ⟨x, y⟩ - hk ⟨e1, e2⟩
    have e1 : x = lN (pkN 32 (wdf g p) (min 12 k)) := e1
    have e2 : y = nI k := e2
    subst e1 e2
    unfold f_Reader_takeWord_B6
    have fin : k = rnK ibL n g p → ok (f_Reader_takeWord_J67 (nI t) (lN (pkN 32 (wdf g p) (min 12 k))) (nI k) mb) (fun r => tkA t p (tln n g p) (kd0 n g p) (va0 n g p) m r) := by
      intro e
      rw [e]; exact J67
    refine ok_le 1600 k (fun q => ok_zl (fin (by omega))) (fun q => ?_)
    have ga := gtA (q := p + k) (v := nI p + nI k) Tb hn (by omega) (nI_add p k)
    refine ok_eb ga ?_
    rw [byA_L g8]
    rcases Nat.lt_or_ge k (rnK ibL n g p) with u | u
    · have ul := r2 k u
      rw [decide_eq_true (show p + k < n by omega), ul]
      unfold f_Reader_takeWord_J59
      refine ok_ip rfl (ok_le 12 k (fun v => ok_mk ⟨u, ?_, nI_1 k⟩) (fun v => ok_eb ga (ok_mk ⟨u, ?_, nI_1 k⟩)))
      · rw [show min 12 (k + 1) = min 12 k by omega]
      · have wo := wdf_ok (l := k) (Nat.le_of_lt hp) (Nat.le_of_lt u)
        have pl := pkN_lt (b := 32) (f := wdf g p) (l := k) (fun j hj => by have := (wo j hj).1; omega)
        have : (32 : Nat) ^ k ≤ 32 ^ 11 := Nat.pow_le_pow_right (by decide) (by omega)
        have : (32 : Nat) ^ 11 = 2 ^ 55 := by decide
        have ub := ibL_i.mp ul
        unfold byA
        rw [if_pos (by omega), ltr_l ul, show min 12 k = k by omega, show min 12 (k + 1) = k + 1 by omega, lq_or5 (by omega) (by omega)]
        rfl
    · rw [show (decide (p + k < n) && ibL (g (p + k))) = false by
        rcases Nat.lt_or_ge (p + k) n with v | v
        · have := r3 (by omega)
          rw [show k = rnK ibL n g p by omega, this, Bool.and_false]
        · rw [decide_eq_false (by omega), Bool.false_and]]
      exact ok_in Bool.false_ne_true (ok_zl (fin (by omega)))
  · -- a number
    refine ok_bi ?_ (fun p11 h11 => J70 p11 h11)
    obtain ⟨r1, r2, r3⟩ := rnK_sp (q := ibD) (g := g) (Nat.le_of_lt hp)
    have nl : ¬ ibL (g p) = true := by rw [zl]; decide
    unfold f_Reader_takeNumber f_Reader_takeNumber_L3
    have J31 : ok (f_Reader_takeNumber_J31 1 (nI p) (nI t) (nI (rnK ibD n g p)) mb) (tkA t p (tln n g p) (kd0 n g p) (va0 n g p) m) := by
      unfold f_Reader_takeNumber_J31
      have T2 : TpX n g (sI mb 91 t (nI (rnK ibD n g p))) := ⟨by rw [rd_I0 (by omega)]; exact Tb.1, fun j hj => by rw [rd_I0 (by omega)]; exact Tb.2 j hj⟩
      have := ibD_i.mp zd
      have ev : (nI (g p) - 48).toInt64 = lN (g p - 48) := by rw [show (48 : Int32) = nI 48 from rfl, pk_sub (by omega), nI_l (by omega)]
      refine ok_ix rfl ht (by decide) (ok_lt (ok_eb (gtBX T2 hn hp rfl) (ok_ix rfl ht (by decide) (ok_lt (ok_ix rfl ht (by decide) (ok_lt (ok_mk ?_)))))))
      refine ⟨fl2_tr b0 (fl2_tr (fl2_I (inS_c (by simp))) (fl2_tr (fl2_J (inS_c (by simp))) (fl2_I (inS_c (by simp))))), ?_, ?_, ?_, ?_, fun u hu => ⟨?_, ?_, ?_, ?_⟩⟩
      · rw [rd_I0 (by omega), rd_JI, rd_I0 (by omega)]; exact b1
      · rw [rd_I0 (by omega), rd_JI, rd_I1]; unfold tln; rw [if_neg nl, if_pos zd]
      · rw [rd_I1]; unfold kd0; rw [if_neg nl, if_pos zd]; rfl
      · rw [rd_IJ, rd_J1, ev]; unfold va0; rw [if_neg nl, if_pos zd]
      · rw [rd_I0 (by omega), rd_JI, rd_I0 (by omega)]; exact (b5 u hu).1
      · rw [rd_I0 (by omega), rd_JI, rd_I0 (by omega)]; exact (b5 u hu).2.1
      · rw [rd_I0 (by omega), rd_JI, rd_I0 (by omega)]; exact (b5 u hu).2.2.1
      · rw [rd_IJ, rd_J0 (by omega)]; exact (b5 u hu).2.2.2
    refine ok_for (rnK ibD n g p) (fun k (s : Int32) => s = nI k) (k0 := 0) rfl (Nat.zero_le _) ?_
    rintro k s - hk e
    subst e
    unfold f_Reader_takeNumber_B3
    have fin : k = rnK ibD n g p → ok (f_Reader_takeNumber_J31 1 (nI p) (nI t) (nI k) mb) (fun r => tkA t p (tln n g p) (kd0 n g p) (va0 n g p) m r) := by
      intro e
      rw [e]; exact J31
    refine ok_le 1600 k (fun q => ok_zl (fin (by omega))) (fun q => ?_)
    refine ok_eb (gtA (q := p + k) (v := nI p + nI k) Tb hn (by omega) (nI_add p k)) ?_
    rw [byA_D g8]
    rcases Nat.lt_or_ge k (rnK ibD n g p) with u | u
    · rw [decide_eq_true (show p + k < n by omega), r2 k u]
      exact ok_ip rfl (ok_mk ⟨u, nI_1 k⟩)
    · rw [show (decide (p + k < n) && ibD (g (p + k))) = false by
        rcases Nat.lt_or_ge (p + k) n with v | v
        · have := r3 (by omega)
          rw [show k = rnK ibD n g p by omega, this, Bool.and_false]
        · rw [decide_eq_false (by omega), Bool.false_and]]
      exact ok_in Bool.false_ne_true (ok_zl (fin (by omega)))
  · have nl : ¬ ibL (g p) = true := by rw [zl]; decide
    have nd : ¬ ibD (g p) = true := by rw [zd]; decide
    refine ⟨b0, b1, ?_, ?_, ?_, b5⟩
    · rw [b2]; unfold tln; rw [if_neg nl, if_neg nd]
    · rw [b3]; unfold kd0; rw [if_neg nl, if_neg nd]
    · rw [b4]; unfold va0; rw [if_neg nl, if_neg nd]
