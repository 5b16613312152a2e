noncomputable def kdT (n : Nat) (g : Nat → Nat) (t : Nat) : Nat := if kd0 n g (tst n g t) = 4 then 4 else if glu n g t = true then 5 else kd0 n g (tst n g t)
def TKp (n : Nat) (g : Nat → Nat) (t : Nat) (m : zM) : Prop := ∀ u, u < t → tst n g u < n ∧ m.1 90 u = nI (tst n g u) ∧ m.1 91 u = nI (tln n g (tst n g u)) ∧ m.1 89 u = nI (kdT n g u) ∧ m.2.1 92 u = lN (va0 n g (tst n g u))
def TKx (n : Nat) (g : Nat → Nat) (T : Nat) (m : zM) : Prop := T ≤ 1600 ∧ tst n g T = n ∧ TKp n g T m ∧ m.1 89 T = 0 ∧ m.1 90 T = nI n
theorem kd0_le (n : Nat) (g : Nat → Nat) (p : Nat) : kd0 n g p ≤ 4 ∧ 0 < kd0 n g p := by unfold kd0; split <;> (try split) <;> omega
theorem kd0_4 {n p : Nat} {g : Nat → Nat} : kd0 n g p = 4 ↔ ¬ (ibL (g p) = true ∨ ibD (g p) = true) := by
  unfold kd0
  split
  · rename_i h
    refine ⟨fun z => ?_, fun z => absurd (Or.inl h) z⟩
    split at z <;> omega
  · rename_i h
    split
    · rename_i h2
      exact ⟨fun z => by omega, fun z => absurd (Or.inr h2) z⟩
    · rename_i h2
      exact ⟨fun _ z => z.elim h h2, fun _ => rfl⟩
theorem scanX {n : Nat} {g : Nat → Nat} {m : zM} (hT : TpX n g m) (hn : n ≤ 1600) : ok (f_Reader_scan 1 m) (fun p => fl2 [89, 90, 91, 92] [] m p ∧ ∃ T, TKx n g T p) := by
  have g8 := fun j hj => (hT.2 j hj).2
  unfold f_Reader_scan f_Reader_scan_L10
  refine ok_lop (fun p (s : Int32 × Int32 × Int32 × Int32 × zM) => ∃ t c, s.1 = nI t ∧ s.2.1 = nI (tle n g t) - 1 ∧ s.2.2.1 = nI p ∧ s.2.2.2.1 = nI c ∧ p ≤ n ∧ c ≤ p ∧ t ≤ p ∧ skp n g p = tst n g t ∧ fl2 [89, 90, 91, 92] [] m s.2.2.2.2 ∧ TKp n g t s.2.2.2.2) (fun p => n - p) ?_ 0 _ ⟨0, 0, rfl, rfl, rfl, rfl, by omega, by omega, by omega, rfl, fl2_rf, fun u hu => absurd hu (Nat.not_lt_zero _)⟩ (by omega)
  rintro p ⟨x1, x2, x3, x4, m1⟩ ⟨t, c, e1, e2, e3, e4, pn, cp, tp, sk, f1, K1⟩
  have e1 : x1 = nI t := e1
  have e2 : x2 = nI (tle n g t) - 1 := e2
  have e3 : x3 = nI p := e3
  have e4 : x4 = nI c := e4
  subst e1 e2 e3 e4
  have f1 : fl2 [89, 90, 91, 92] [] m m1 := f1
  have K1 : TKp n g t m1 := K1
  have T1 : TpX n g m1 := ⟨by rw [fl2_i f1 (by decide)]; exact hT.1, fun j hj => by rw [fl2_ic f1 (fun j => by simp [inS])]; exact hT.2 j hj⟩
  have fin : n ≤ p → ok (f_Reader_scan_J109 1 (nI t) m1) (fun r => fl2 [89, 90, 91, 92] [] m r ∧ ∃ T, TKx n g T r) := by
    intro np
    unfold f_Reader_scan_J109 f_Bytes_size
    refine ok_ix rfl (by omega : t < 1601) (by decide) (ok_lt (ok_ix rfl (by omega : t < 1601) (by decide) (ok_lt (ok_mk ⟨fl2_tr f1 (fl2_tr (fl2_I (inS_c (by simp))) (fl2_I (inS_c (by simp)))), t, by omega, ?_, fun u hu => ?_, ?_, ?_⟩))))
    · rw [← sk]; exact (skp_n pn (Or.inl (by omega))).trans (by omega)
    · rw [rd_I0 (by omega), rd_I0 (by omega), rd_I0 (by omega), rd_I0 (by omega), rd_I0 (by omega), rd_I0 (by omega)]; exact K1 u hu
    · rw [rd_I0 (by omega), rd_I1]
    · rw [rd_I1, rd_I0 (by omega)]; exact T1.1
  unfold f_Reader_scan_B10 f_Bytes_size
  refine ok_le 1600 c (fun q => ok_zl (fin (by omega))) (fun q => ok_le n p (fun q1 => ok_zl (fin q1)) (fun q1 => ?_) (hx := T1.1))
  refine ok_eb (gtBX T1 hn q1 rfl) ?_
  rw [blk_x (g8 p q1)]
  refine ok_tf (fun z => ?_) (fun z => ?_)
  · unfold f_Reader_scan_J96
    exact ok_mk ⟨p + 1, by omega, t, c + 1, rfl, rfl, nI_1 p, nI_1 c, by omega, by omega, by omega, by rw [← skp_b q1 z]; exact sk, f1, K1⟩
  · have pt : p = tst n g t := by rw [← sk]; exact (skp_n pn (Or.inr z)).symm
    obtain ⟨l1, l2⟩ := tln_sp (g := g) q1
    refine ok_bi (takeTX (t := t) T1 hn q1 (by omega)) (fun r ⟨⟨a0, a1, a2, a3, a4, a5⟩, a6⟩ => ok_ix rfl (by omega : t < 1601) (by decide) ?_)
    have f2 : fl2 [89, 90, 91, 92] [] m r.2 := fl2_tr f1 a0
    have Kr : TKp n g t r.2 := fun u hu => by
      obtain ⟨k1, k2, k3, k4⟩ := a5 u (by omega)
      rw [k1, k2, k3, k4]; exact K1 u hu
    have en : ∀ t1 : Int32, t1 = nI p + r.2.1 91 t → t1 = nI (p + tln n g p) := fun t1 h => by rw [h, a2, nI_add]
    have lt1 : tst n g t < n := by omega
    have sk2 : skp n g (p + tln n g p) = tst n g (t + 1) := by rw [tst_s lt1, ← pt]
    have ele : ∀ h : ibL (g p) = true ∨ ibD (g p) = true, tle n g (t + 1) = p + tln n g p + 1 := fun h => by
      show (if _ then _ else _) = _
      rw [← pt, if_pos h]
    have put : ∀ (m2 : zM) (k : Nat), k = kdT n g t → fl2 [89, 90, 91, 92] [] m m2 → TKp n g t m2 → m2.1 90 t = nI p → m2.1 91 t = nI (tln n g p) → m2.1 89 t = nI k → m2.2.1 92 t = lN (va0 n g p) → TKp n g (t + 1) m2 := by
      intro m2 k hk _ K2 k1 k2 k3 k4 u hu
      rcases Nat.lt_or_ge u t with y | y
      · exact K2 u y
      · rw [show u = t by omega, ← pt]
        exact ⟨q1, k1, k2, by rw [k3, hk], k4⟩
    refine ok_it (fun y => ?_) (fun y => ?_)
    · have k4 := a6.mp y
      unfold f_Reader_scan_J93 f_Reader_scan_J96
      refine ok_mk ⟨p + tln n g p, by omega, t + 1, c + 1, nI_1 t, ?_, en _ rfl, nI_1 c, l2, by omega, by omega, sk2, f2, put r.2 4 ?_ f2 Kr a1 a2 (by rw [a3, k4]) a4⟩
      · show nI (tle n g t) - 1 = nI (tle n g (t + 1)) - 1
        have : tle n g (t + 1) = tle n g t := by
          show (if _ then _ else _) = _
          rw [← pt, if_neg (kd0_4.mp k4)]
        rw [this]
      · unfold kdT; rw [← pt, if_pos k4]
    · have k4 : ¬ kd0 n g p = 4 := fun w => y (a6.mpr w)
      have lw : ibL (g p) = true ∨ ibD (g p) = true := Classical.byContradiction (fun w => k4 (kd0_4.mpr w))
      have tl := tle_le n g t
      have J86 : ∀ k : Nat, k = kdT n g t → ok (f_Reader_scan_J86 1 (nI t) (nI p) (nI c) (r.2.1 91 t) 89 (nI t) (nI k) r.2) (lp (fun r => fl2 [89, 90, 91, 92] [] m r ∧ ∃ T, TKx n g T r) (fun s : Int32 × Int32 × Int32 × Int32 × zM => ∃ p', n - p' < n - p ∧ ∃ t c, s.1 = nI t ∧ s.2.1 = nI (tle n g t) - 1 ∧ s.2.2.1 = nI p' ∧ s.2.2.2.1 = nI c ∧ p' ≤ n ∧ c ≤ p' ∧ t ≤ p' ∧ skp n g p' = tst n g t ∧ fl2 [89, 90, 91, 92] [] m s.2.2.2.2 ∧ TKp n g t s.2.2.2.2)) := by
        intro k hk
        unfold f_Reader_scan_J86 f_Reader_scan_J93 f_Reader_scan_J96
        have f3 : fl2 [89, 90, 91, 92] [] m (sI r.2 89 t (nI k)) := fl2_tr f2 (fl2_I (inS_c (by simp)))
        refine ok_ix rfl (show t < zlen gX 89 from (by have : zlen gX 89 = 1601 := rfl; omega)) (by decide) (ok_lt (ok_mk ⟨p + tln n g p, by omega, t + 1, c + 1, nI_1 t, ?_, en _ rfl, nI_1 c, l2, by omega, by omega, sk2, f3, put _ k hk f3 (fun u hu => ?_) ?_ ?_ (rd_I1 _ _ _ _) ?_⟩))
        · show nI p + r.2.1 91 t = nI (tle n g (t + 1)) - 1
          rw [ele lw, en _ rfl, nI_pred]
        · rw [rd_I0 (by omega), rd_I0 (by omega), rd_I0 (by omega)]; exact Kr u hu
        · rw [rd_I0 (by omega)]; exact a1
        · rw [rd_I0 (by omega)]; exact a2
        · exact a4
      have kx : kdT n g t = if glu n g t = true then 5 else kd0 n g p := by unfold kdT; rw [← pt, if_neg k4]
      have ge : nI (tle n g t) - 1 = nI p ↔ glu n g t = true := by
        unfold glu
        rw [decide_eq_true_iff, ← pt, show nI p = nI (p + 1) - 1 from (nI_pred p).symm, sd_eq (by omega) (by omega)]
        exact eq_comm
      refine ok_it (fun w => J86 5 (by rw [kx, if_pos (ge.mp w)])) (fun w => ok_ix rfl (by omega : t < 1601) (by decide) ?_)
      show ok (f_Reader_scan_J86 1 (nI t) (nI p) (nI c) (r.2.1 91 t) 89 (nI t) (r.2.1 89 t) r.2) _
      rw [a3]
      exact J86 _ (by rw [kx, if_neg (fun y => w (ge.mpr y))])
/-- the class reads on at the t-th thing -/
def CsX (n : Nat) (g : Nat → Nat) (T t : Nat) (m : zM) : Prop := TKx n g T m ∧ m.1 65 5 = nI t ∧ t ≤ T ∧ n ≤ 1600 ∧ m.1 65 7 = 0 ∧ m.1 65 8 = -1
def FlX (c q : Nat) (m : zM) : Prop := m.1 65 7 = nI c ∧ m.1 65 8 = nI q
theorem TKx_f {n T : Nat} {g : Nat → Nat} {m m' : zM} {S : List Nat} {F : List (Nat × Nat)} (h : TKx n g T m) (hf : fl2 S F m m') (hk : kps [89, 90, 91, 92] [] S F = true) : TKx n g T m' := by
  unfold TKx TKp
  rw [show m'.1 89 = m.1 89 from fl2_ic hf (kps_c hk (by simp)), show m'.1 90 = m.1 90 from fl2_ic hf (kps_c hk (by simp)), show m'.1 91 = m.1 91 from fl2_ic hf (kps_c hk (by simp)), show m'.2.1 92 = m.2.1 92 from fl2_jc hf (kps_c hk (by simp))]
  exact h
theorem CsX_f {n T t : Nat} {g : Nat → Nat} {m m' : zM} {S : List Nat} {F : List (Nat × Nat)} (h : CsX n g T t m) (hf : fl2 S F m m') (hk : kps [89, 90, 91, 92] [] S F = true) (h5 : kps [] [(65, 5)] S F = true) (h7 : kps [] [(65, 7), (65, 8)] S F = true := by decide) : CsX n g T t m' := ⟨TKx_f h.1 hf hk, by rw [fl2_i hf (kps_g h5 (by simp))]; exact h.2.1, h.2.2.1, h.2.2.2.1, by rw [fl2_i hf (kps_g h7 (by simp))]; exact h.2.2.2.2.1, by rw [fl2_i hf (kps_g h7 (by simp))]; exact h.2.2.2.2.2⟩
theorem CsX_lt {n T t : Nat} {g : Nat → Nat} {m : zM} (h : CsX n g T t m) : t < T ↔ tst n g t < n := by
  refine ⟨fun z => (h.1.2.2.1 t z).1, fun z => ?_⟩
  rcases Nat.lt_or_ge t T with y | y
  · exact y
  · have := h.2.2.1
    rw [show t = T by omega, h.1.2.1] at z
    omega
theorem CsX_p {n T t : Nat} {g : Nat → Nat} {m : zM} (h : CsX n g T t m) : m.1 90 t = nI (tst n g t) := by
  rcases Nat.lt_or_ge t T with y | y
  · exact (h.1.2.2.1 t y).2.1
  · have := h.2.2.1
    rw [show t = T by omega, h.1.2.1]; exact h.1.2.2.2.2
theorem CsX_n {n T t : Nat} {g : Nat → Nat} {m m' : zM} {S : List Nat} {F : List (Nat × Nat)} (h : CsX n g T t m) (ht : t < T) (hf : fl2 S F m m') (hk : kps [89, 90, 91, 92] [] S F = true) (h5 : m'.1 65 5 = nI (t + 1)) (h7 : kps [] [(65, 7), (65, 8)] S F = true := by decide) : CsX n g T (t + 1) m' := ⟨TKx_f h.1 hf hk, h5, ht, h.2.2.2.1, by rw [fl2_i hf (kps_g h7 (by simp))]; exact h.2.2.2.2.1, by rw [fl2_i hf (kps_g h7 (by simp))]; exact h.2.2.2.2.2⟩
/-- the class's strings, by the numbers of the words -/
def wsI (w : Nat) : Nat := [1, 2, 3, 4, 5, 7, 6, 8, 9, 10, 11, 12, 13, 14, 15, 16, 17, 19, 18].getD w 0
theorem wsI_e : ∀ w, w < 19 → zsL.getD (wsI w) 0 = (owL w).length ∧ ∀ j, j < (owL w).length → (zsB.getD (wsI w) []).getD j 0 = nI ((owL w).getD j 0) := by decide +kernel
/-- the kind of the t-th thing -/
theorem kdT_2 {n t : Nat} {g : Nat → Nat} (h : tst n g t < n) : (kdT n g t = 2 ↔ iWo n g t) ∧ (kdT n g t = 1 ↔ (iWd n g t ∧ ¬ iWo n g t)) ∧ (kdT n g t = 3 ↔ iNu n g t) ∧ (kdT n g t = 4 ↔ ¬ (ibL (g (tst n g t)) = true ∨ ibD (g (tst n g t)) = true)) := by
  have LD : ibL (g (tst n g t)) = true → ibD (g (tst n g t)) = true → False := fun a b => by have := ibL_i.mp a; have := ibD_i.mp b; omega
  have ow : iWd n g t → (iWo n g t ↔ ∃ w, w < 19 ∧ owQ n g (tst n g t) w) := fun hd => ⟨fun ⟨w, w1, w2⟩ => ⟨w, w1, w2.2⟩, fun ⟨w, w1, w2⟩ => ⟨w, w1, hd, w2⟩⟩
  have od : iWo n g t → iWd n g t := fun ⟨w, _, w2⟩ => w2.1
  by_cases a : ibL (g (tst n g t)) = true
  · have k4 : ¬ kd0 n g (tst n g t) = 4 := fun z => kd0_4.mp z (Or.inl a)
    have kx : kd0 n g (tst n g t) = if cBo (∃ w, w < 19 ∧ owQ n g (tst n g t) w) = true then 2 else 1 := if_pos a
    unfold kdT
    rw [if_neg k4]
    by_cases b : glu n g t = true
    · rw [if_pos b]
      have nd : ¬ iWd n g t := fun z => by rw [z.2.2] at b; cases b
      exact ⟨⟨fun z => by omega, fun z => absurd (od z) nd⟩, ⟨fun z => by omega, fun z => absurd z.1 nd⟩, ⟨fun z => by omega, fun z => absurd z.2.1 (fun y => LD a y)⟩, ⟨fun z => by omega, fun z => absurd (Or.inl a) z⟩⟩
    · have hd : iWd n g t := ⟨h, a, Bool.eq_false_iff.mpr b⟩
      rw [if_neg b, kx]
      by_cases c : ∃ w, w < 19 ∧ owQ n g (tst n g t) w
      · rw [if_pos (cBo_t c)]
        exact ⟨⟨fun _ => (ow hd).mpr c, fun _ => rfl⟩, ⟨fun z => by omega, fun z => absurd ((ow hd).mpr c) z.2⟩, ⟨fun z => by omega, fun z => absurd z.2.1 (fun y => LD a y)⟩, ⟨fun z => by omega, fun z => absurd (Or.inl a) z⟩⟩
      · rw [if_neg (by rw [cBo_f c]; decide)]
        exact ⟨⟨fun z => by omega, fun z => absurd ((ow hd).mp z) c⟩, ⟨fun _ => ⟨hd, fun z => c ((ow hd).mp z)⟩, fun _ => rfl⟩, ⟨fun z => by omega, fun z => absurd z.2.1 (fun y => LD a y)⟩, ⟨fun z => by omega, fun z => absurd (Or.inl a) z⟩⟩
  · have nd : ¬ iWd n g t := fun z => a z.2.1
    by_cases b : ibD (g (tst n g t)) = true
    · have k4 : ¬ kd0 n g (tst n g t) = 4 := fun z => kd0_4.mp z (Or.inr b)
      have kx : kd0 n g (tst n g t) = 3 := by unfold kd0; rw [if_neg a, if_pos b]
      unfold kdT
      rw [if_neg k4, kx]
      by_cases c : glu n g t = true
      · rw [if_pos c]
        exact ⟨⟨fun z => by omega, fun z => absurd (od z) nd⟩, ⟨fun z => by omega, fun z => absurd z.1 nd⟩, ⟨fun z => by omega, fun z => by rw [z.2.2] at c; cases c⟩, ⟨fun z => by omega, fun z => absurd (Or.inr b) z⟩⟩
      · rw [if_neg c]
        exact ⟨⟨fun z => by omega, fun z => absurd (od z) nd⟩, ⟨fun z => by omega, fun z => absurd z.1 nd⟩, ⟨fun _ => ⟨h, b, Bool.eq_false_iff.mpr c⟩, fun _ => rfl⟩, ⟨fun z => by omega, fun z => absurd (Or.inr b) z⟩⟩
    · have k4 : kd0 n g (tst n g t) = 4 := kd0_4.mpr (fun z => z.elim a b)
      unfold kdT
      rw [if_pos k4]
      exact ⟨⟨fun z => by omega, fun z => absurd (od z) nd⟩, ⟨fun z => by omega, fun z => absurd z.1 nd⟩, ⟨fun z => by omega, fun z => absurd z.2.1 b⟩, ⟨fun _ z => z.elim a b, fun _ => rfl⟩⟩
theorem kdT_le (n : Nat) (g : Nat → Nat) (t : Nat) : kdT n g t ≤ 5 := by
  have := (kd0_le n g (tst n g t)).1
  unfold kdT; split <;> (try split) <;> omega
theorem iNxtRX {n T t w : Nat} {g : Nat → Nat} {m : zM} (hC : CsX n g T t m) (hw : w < 19) : f_Reader_isNext (wsI w) m = some (iWb n g t w) := by
  obtain ⟨o1, o2, o3⟩ := owL_ok w hw
  obtain ⟨z1, z2⟩ := wsI_e w hw
  have T16 := hC.1.1
  refine ok_eq.mp ?_
  unfold f_Reader_isNext f_Reader_isNext_L5
  have fo : ∀ j, j < (owL w).length → owF w j < 27 := fun j hj => by have := o3 j hj; unfold owF; omega
  have pb : ∀ k, k ≤ (owL w).length → pkN 32 (owF w) k < 2 ^ 40 := by
    intro k hk
    have := pkN_lt (b := 32) (f := owF w) (l := k) (fun j hj => by have := fo j (by omega); omega)
    have : (32 : Nat) ^ k ≤ 32 ^ 8 := Nat.pow_le_pow_right (by decide) (by omega)
    have : (32 : Nat) ^ 8 = 2 ^ 40 := by decide
    omega
  refine ok_for (owL w).length (fun k (s : Int64 × Int32) => s.1 = lN (pkN 32 (owF w) k) ∧ s.2 = nI k) (k0 := 0) ⟨rfl, rfl⟩ (Nat.zero_le _) ?_
  rintro k ⟨x, y⟩ - hk ⟨e1, e2⟩
  have e1 : x = lN (pkN 32 (owF w) k) := e1
  have e2 : y = nI k := e2
  subst e1 e2
  unfold f_Reader_isNext_B5 f_String_length
  rw [z1]
  refine ok_le (owL w).length k (fun q => ok_zl ?_) (fun q => ?_)
  · unfold f_Reader_isNext_J37
    have tl := hC.2.2.1
    rw [show k = (owL w).length by omega]
    refine ok_ix hC.2.1 (by omega : t < 1601) (by decide) ?_
    rcases Nat.lt_or_ge t T with u | u
    · obtain ⟨a1, a2, a3, a4, a5⟩ := hC.1.2.2.1 t u
      have kl := kdT_le n g t
      refine ok_ee (kdT n g t) 2 (fun v => ok_ix hC.2.1 (by omega : t < 1601) (by decide) ?_) (fun v => ok_mk ?_) (hx := a4)
      · obtain ⟨w', w1, w2⟩ := (kdT_2 a1).1.mp v
        rw [a5, show va0 n g (tst n g t) = wvN n g (tst n g t) from if_pos w2.1.2.1]
        have wl := wvN_lt (g := g) (Nat.le_of_lt a1)
        have pl := pb _ (Nat.le_refl _)
        refine ok_it (fun y => ok_mk ?_) (fun y => ok_mk ?_)
        · have := (pk_lEQ (by omega) (by omega)).mp ((lg_cmp_eq _ _).mp y)
          exact (cBo_t ⟨w2.1, (owQ_v (Nat.le_of_lt a1) hw).mp this⟩).symm
        · exact (cBo_f (fun z => y ((lg_cmp_eq _ _).mpr (by rw [(owQ_v (Nat.le_of_lt a1) hw).mpr z.2])))).symm
      · exact (cBo_f (fun z => v ((kdT_2 a1).1.mpr ⟨w, hw, z⟩))).symm
    · have et : t = T := by omega
      refine ok_in ?_ (ok_mk ?_)
      · rw [et, hC.1.2.2.2.1]; decide
      · refine (cBo_f (fun z => ?_)).symm
        have := z.1.1
        rw [et, hC.1.2.1] at this
        omega
  · have ec : f_String_charAt (wsI w) (nI k) = some (nI ((owL w).getD k 0)) := by
      unfold f_String_charAt
      rw [z1, ix_nI q (by omega), Option.bind_some, z2 k q]
    have p1 := pb k (by omega)
    have f1 := fo k q
    have lb := ibL_i.mpr (o3 k q)
    refine ok_eb ec (ok_mk ⟨q, ?_, nI_1 k⟩)
    have f1' : (owL w).getD k 0 - 96 < 27 := f1
    rw [ltr_l lb, lq_or5 (by omega) (by omega)]
    rfl
