def lefoQ (P : Nat → Nat) (w N : Nat) (W : Nat → Nat) (v : Nat) : Prop := opF P W (P 7) v = true ∧ ∃ u, Rc (EFo P w N W (P 7)) v u ∧ RgQ P w N W (P 7) u
/-- what the reference has looked at -/
def LKm (P : Nat → Nat) (w N : Nat) (W : Nat → Nat) (m : zM) : Prop := (∀ v, v < 4 * N → m.1 32 v = nI (lkd P W v) - 1) ∧ ∀ v, v < 4 * N → nod P W v = true → (P 7 ≠ 0 → m.1 35 v = b2i (cBo (hopeP P w N W v))) ∧ m.1 36 v = b2i (cBo (lefoQ P w N W v))
def QkFr (m0 m : zM) : Prop := fl2 [25, 26, 31, 32, 34, 35, 36, 37, 38, 39, 40, 41, 42, 43, 44, 45, 46] [(0, 36), (0, 38), (0, 46), (0, 60), (0, 61), (0, 62), (0, 63)] m0 m
theorem LKm_fl {P : Nat → Nat} {w N : Nat} {W : Nat → Nat} {m m' : zM} {S : List Nat} {F : List (Nat × Nat)} (h : LKm P w N W m) (hf : fl2 S F m m') (hk : kps [32, 35, 36] [] S F = true) : LKm P w N W m' := by
  unfold LKm
  rw [show m'.1 32 = m.1 32 from fl2_ic hf (kps_c hk (by simp)), show m'.1 35 = m.1 35 from fl2_ic hf (kps_c hk (by simp)), show m'.1 36 = m.1 36 from fl2_ic hf (kps_c hk (by simp))]
  exact h
theorem LMx_fl {P : Nat → Nat} {w N : Nat} {W D : Nat → Nat} {m m' : zM} {S : List Nat} {F : List (Nat × Nat)} (h : LMx P w N W D m) (hf : fl2 S F m m') (hk : kps [27, 28, 29] [(0, 41)] S F = true) (hk2 : kps [30] [] S F = true) : LMx P w N W D m' := by
  obtain ⟨h1, h2, h3, h4, h5⟩ := h
  refine ⟨h1, h2, h3, MXm_fl h4 hf hk, ?_⟩
  unfold LDm
  rw [show m'.1 30 = m.1 30 from fl2_ic hf (kps_c hk2 (by simp))]
  exact h5
theorem lkd_b {P W : Nat → Nat} {v : Nat} : lkd P W v ≤ 6 := by
  unfold lkd
  have := oS_lt (da_lt (P 3) (W (v / 4)) (v % 4))
  split <;> omega
theorem looksM {P : Nat → Nat} {w N : Nat} {W D : Nat → Nat} {m : zM} (hP : tV P) (ht : tM 23 P m) (hL : LMx P w N W D m) (hc : m.1 0 46 ≠ 0 → LKm P w N W m) : ok (f_MO_looks m) (fun p => QkFr m p ∧ LKm P w N W p ∧ p.1 0 46 ≠ 0) := by
  have b7 : P 7 ≤ 6 := hP.1.2.2.2.2.2.2.2.2.2.1
  obtain ⟨l1, l2, l3, l4, l5⟩ := id hL
  unfold f_MO_looks
  refine ok_it (fun z => ok_lt ?_) (fun z => ok_mk ⟨fl2_rf, hc z, z⟩)
  have f0 : QkFr m (sI m 0 46 1) := fl2_I (inS_f (by simp))
  unfold f_MO_looks_L15
  refine ok_for (4 * N) (fun v (s : Int32 × zM) => s.1 = nI v ∧ KFr (sI m 0 46 1) s.2 ∧ (∀ u, u < v → s.2.1 32 u = nI (lkd P W u) - 1) ∧ ∀ u, u < v → ∀ c, c < 64 → s.2.1 31 (64 * u + c) = nI (ndn P w N W u c) - 1) (k0 := 0) ⟨rfl, fl2_rf, fun u hu => absurd hu (Nat.not_lt_zero _), fun u hu => absurd hu (Nat.not_lt_zero _)⟩ (Nat.zero_le _) ?_
  rintro v ⟨x, m1⟩ - hv ⟨e, f1, g1, g2⟩
  have e : x = nI v := e
  subst e
  have f1 : KFr (sI m 0 46 1) m1 := f1
  have g1 : ∀ u, u < v → m1.1 32 u = nI (lkd P W u) - 1 := g1
  have g2 : ∀ u, u < v → ∀ c, c < 64 → m1.1 31 (64 * u + c) = nI (ndn P w N W u c) - 1 := g2
  have f1' : QkFr m m1 := fl2_tr f0 (fl2_su f1 (by decide))
  have L1 := LMx_fl hL f1' (by decide) (by decide)
  have t1 := tM_fl ht f1' (by decide)
  unfold f_MO_looks_B15
  refine ok_le (4 * N) v (fun q => ok_zl ?_) (fun q => ?_) (hx := lookManyM L1.2.2.2.1.1)
  · have : v = 4 * N := by omega
    subst this
    have e46 : m1.1 0 46 = 1 := by rw [fl2_i f1 (by decide), rd_I1]
    unfold f_MO_looks_J39
    refine ok_ix (show (7 : Int32) = nI 7 from rfl) (by decide) (by decide) ?_
    rw [tM_o t1 (by decide) (by decide)]
    unfold f_MO_looks_L49
    refine ok_for (4 * N) (fun i (s : Int32 × zM) => s.1 = nI i ∧ fl2 [34, 35] [] m1 s.2 ∧ ∀ u, u < i → s.2.1 34 u = b2i (nod P W u) ∧ s.2.1 35 u = b2i (nod P W u && decide (lkd P W u = P 7))) (k0 := 0) ⟨rfl, fl2_rf, fun u hu => absurd hu (Nat.not_lt_zero _)⟩ (Nat.zero_le _) ?_
    rintro i ⟨x, m2⟩ - hi ⟨e, f2, a1⟩
    have e : x = nI i := e
    subst e
    have f2 : fl2 [34, 35] [] m1 m2 := f2
    have a1 : ∀ u, u < i → m2.1 34 u = b2i (nod P W u) ∧ m2.1 35 u = b2i (nod P W u && decide (lkd P W u = P 7)) := a1
    have c41 : m2.1 0 41 = nI N := by rw [fl2_i f2 (by decide)]; exact L1.2.2.2.1.1
    have r32 : ∀ u, u < 4 * N → m2.1 32 u = nI (lkd P W u) - 1 := fun u hu => by rw [fl2_i f2 (by simp [inS])]; exact g1 u hu
    unfold f_MO_looks_B49
    refine ok_le (4 * N) i (fun q1 => ok_zl ?_) (fun q1 => ?_) (hx := lookManyM c41)
    · have : i = 4 * N := by omega
      subst this
      unfold f_MO_looks_J114
      have r31 : ∀ (S : zM), fl2 [34, 35, 36] [] m1 S → ∀ u, u < 4 * N → ∀ c, c < 64 → S.1 31 (64 * u + c) = nI (ndn P w N W u c) - 1 := fun S hS u hu c hc => by rw [fl2_i hS (by simp [inS])]; exact g2 u hu c hc
      refine ok_bi (spreadsM (so := fun u => decide (u < 4 * N) && (nod P W u && decide (lkd P W u = P 7))) (av := 0) hP l3 l2 (Or.inl rfl) c41 (r31 m2 (fl2_su f2 (by decide))) (fun u hu => by rw [opF_0]; exact (a1 u hu).1) (fun u hu => by rw [(a1 u hu).2, decide_eq_true hu, Bool.true_and]) (fun u hu => ?_)) (fun p5 ⟨d1, so, d2, d3⟩ => ?_)
      · rw [Bool.and_eq_true, Bool.and_eq_true] at hu
        exact ⟨of_decide_eq_true hu.1, by rw [opF_0]; exact hu.2.1⟩
      have f5 : fl2 [34, 35, 36] [] m1 p5 := fl2_tr (fl2_su f2 (by decide)) (fl2_su d1 (by decide))
      unfold f_MO_looks_L124
      refine ok_for (4 * N) (fun j (s : Int32 × zM) => s.1 = nI j ∧ fl2 [34, 36] [] p5 s.2 ∧ ∀ u, u < j → s.2.1 34 u = b2i (opF P W (P 7) u) ∧ s.2.1 36 u = 0) (k0 := 0) ⟨rfl, fl2_rf, fun u hu => absurd hu (Nat.not_lt_zero _)⟩ (Nat.zero_le _) ?_
      rintro j ⟨x, m3⟩ - hj ⟨e, f3, b1⟩
      have e : x = nI j := e
      subst e
      have f3 : fl2 [34, 36] [] p5 m3 := f3
      have b1 : ∀ u, u < j → m3.1 34 u = b2i (opF P W (P 7) u) ∧ m3.1 36 u = 0 := b1
      have f3' : fl2 [34, 35, 36] [] m1 m3 := fl2_tr f5 (fl2_su f3 (by decide))
      have c41' : m3.1 0 41 = nI N := by rw [fl2_i f3' (by decide)]; exact L1.2.2.2.1.1
      have r32' : ∀ u, u < 4 * N → m3.1 32 u = nI (lkd P W u) - 1 := fun u hu => by rw [fl2_i f3' (by simp [inS])]; exact g1 u hu
      unfold f_MO_looks_B124
      refine ok_le (4 * N) j (fun q2 => ok_zl ?_) (fun q2 => ?_) (hx := lookManyM c41')
      · have : j = 4 * N := by omega
        subst this
        unfold f_MO_looks_J176
        rw [lookManyM c41']
        have nle : ∀ v, v < 4 * N → ∀ e, e < 64 → ndn P w N W v e ≤ 4 * N := by
          intro v hv e he
          unfold ndn
          split
          · rename_i y
            by_cases t : nde P w N W v e = 0
            · omega
            · have := (nde_spW hP l3 hv (nod_a y) he t).1
              omega
          · omega
        refine ok_bi (joinsM (opb := opF P W (P 7)) (rw' := ndn P w N W) (show 4 * N ≤ 2400 by omega) (Or.inr rfl) (show 64 * (4 * N) ≤ zlen gM 31 from (show 64 * (4 * N) ≤ 155648 by omega)) (by decide) (fun v hv e he => ⟨r31 m3 f3' v hv e he, nle v hv e he⟩) (fun v hv => (b1 v hv).1)) (fun p8 ⟨h1, gp, G, h2, h3, h4, h5, h6⟩ => ?_)
        have k8 : ∀ c, c = 31 ∨ c = 34 ∨ c = 36 ∨ c = 32 ∨ c = 35 → ∀ u, p8.1 c u = m3.1 c u := fun c hc u => fl2_i h1 (by rcases hc with y | y | y | y | y <;> rw [y] <;> simp [inS])
        have f8 : QkFr m p8 := fl2_tr f1' (fl2_tr (fl2_su f3' (by decide)) (fl2_su h1 (by decide)))
        have c8 : p8.1 0 41 = nI N := by rw [fl2_i h1 (by decide)]; exact c41'
        refine ok_bi (ringsM (av := P 7) hP (tM_fl ht f8 (by decide)) l3 l2 c8 (fun v hv k hk => by rw [k8 31 (by omega)]; exact r31 m3 f3' v hv k hk) (fun v hv => by rw [k8 34 (by omega)]; exact (b1 v hv).1) (fun v hv => by rw [k8 36 (by omega)]; exact (b1 v hv).2) h2 h4 h5 h6) (fun p9 ⟨i1, i2⟩ => ?_)
        have k9 : ∀ c, c = 31 ∨ c = 34 ∨ c = 32 ∨ c = 35 → ∀ u, p9.1 c u = m3.1 c u := fun c hc u => by
          rw [fl2_i i1 (by rcases hc with y | y | y | y <;> rw [y] <;> simp [inS])]; exact k8 c (by omega) u
        refine ok_bi (spreadsM (so := fun u => decide (u < 4 * N) && (opF P W (P 7) u && cBo (RgQ P w N W (P 7) u))) (av := P 7) hP l3 l2 (Or.inr rfl) (by rw [fl2_i i1 (by decide)]; exact c8) (fun v hv k hk => by rw [k9 31 (by omega)]; exact r31 m3 f3' v hv k hk) (fun v hv => by rw [k9 34 (by omega)]; exact (b1 v hv).1) (fun u hu => by rw [i2 u hu, decide_eq_true hu, Bool.true_and]) (fun u hu => ?_)) (fun p10 ⟨j1, so', j2, j3⟩ => ok_mk ⟨?_, ⟨fun v hv => ?_, fun v hv hn => ⟨fun h7 => ?_, ?_⟩⟩, ?_⟩)
        · rw [Bool.and_eq_true, Bool.and_eq_true] at hu
          exact ⟨of_decide_eq_true hu.1, hu.2.1⟩
        · exact fl2_tr f8 (fl2_tr (fl2_su i1 (by decide)) (fl2_su j1 (by decide)))
        · rw [fl2_i j1 (by simp [inS]), k9 32 (by omega)]; exact r32' v hv
        · rw [fl2_i j1 (by simp [inS]), k9 35 (by omega), fl2_i f3 (by simp [inS]), d2 v hv]
          congr 1
          refine cBo_of ((d3 v hv).trans ?_)
          rw [opF_0]
          constructor
          · rintro ⟨_, u, u1, u2⟩
            rw [Bool.and_eq_true, Bool.and_eq_true] at u2
            have lk := of_decide_eq_true u2.2.2
            unfold lkd at lk
            rw [if_pos u2.2.1] at lk
            exact ⟨u, u1, instA_iff.mpr ⟨nod_a u2.2.1, by omega⟩⟩
          · rintro ⟨u, u1, u2⟩
            have ul := Rc_in (p := fun x => x < 4 * N ∧ opF P W 0 x = true) u1 ⟨hv, by rw [opF_0]; exact hn⟩ (fun x y hx hy => EF_lt hP l3 hx.1 hy)
            rw [opF_0] at ul
            refine ⟨hn, u, u1, ?_⟩
            rw [Bool.and_eq_true, Bool.and_eq_true]
            refine ⟨decide_eq_true ul.1, ul.2, decide_eq_true ?_⟩
            unfold lkd
            rw [if_pos ul.2]
            have := (instA_iff.mp u2).2
            omega
        · rw [j2 v hv]
          congr 1
          refine cBo_of ((j3 v hv).trans ?_)
          constructor
          · rintro ⟨y1, u, u1, u2⟩
            rw [Bool.and_eq_true, Bool.and_eq_true] at u2
            exact ⟨y1, u, u1, cBo_iff.mp u2.2.2⟩
          · rintro ⟨y1, u, u1, u2⟩
            have ul := Rc_in (p := fun x => x < 4 * N ∧ opF P W (P 7) x = true) u1 ⟨hv, y1⟩ (fun x y hx hy => EF_lt hP l3 hx.1 hy)
            refine ⟨y1, u, u1, ?_⟩
            rw [Bool.and_eq_true, Bool.and_eq_true]
            exact ⟨decide_eq_true ul.1, ul.2, cBo_iff.mpr u2⟩
        · rw [fl2_i j1 (by decide), fl2_i i1 (by decide), fl2_i h1 (by decide), fl2_i f3' (by decide), e46]; decide
      · have wr : ∀ t : Bool, t = opF P W (P 7) j → ok (f_MO_looks_J162 (nI (P 7) - 1) (nI j) 34 (nI j) t m3) (lp (fun p => QkFr m p ∧ LKm P w N W p ∧ p.1 0 46 ≠ 0) (fun s' : Int32 × zM => j < 4 * N ∧ s'.1 = nI (j + 1) ∧ fl2 [34, 36] [] p5 s'.2 ∧ ∀ u, u < j + 1 → s'.2.1 34 u = b2i (opF P W (P 7) u) ∧ s'.2.1 36 u = 0)) := by
          intro t htt
          unfold f_MO_looks_J162
          refine ok_ix rfl (show j < zlen gM 34 from (show j < 2432 by omega)) (by decide) (ok_lt (ok_ix rfl (show j < 2432 by omega) (by decide) (ok_lt (ok_mk ⟨q2, nI_1 j, fl2_tr f3 (fl2_tr (fl2_I (inS_c (by simp))) (fl2_I (inS_c (by simp)))), fun u hu => ?_⟩))))
          show (sI (sI m3 34 j (b2i t)) 36 j (b2i false)).1 34 u = _ ∧ (sI (sI m3 34 j (b2i t)) 36 j (b2i false)).1 36 u = _
          by_cases y : u = j
          · rw [y]
            exact ⟨by rw [rd_I0 (by omega), rd_I1, htt], by rw [rd_I1]; rfl⟩
          · rw [rd_I0 (by omega), rd_I0 (by omega), rd_I0 (by omega), rd_I0 (by omega)]
            exact b1 u (by omega)
        have lb := lkd_b (P := P) (W := W) (v := j)
        unfold f_MO_looks_J161
        refine ok_ix rfl (show j < 2432 by omega) (by decide) ?_
        rw [r32' j q2]
        have op : opF P W (P 7) j = (decide (lkd P W j ≠ 0) && decide (lkd P W j ≠ P 7)) := by
          unfold opF avd lkd
          cases en : nod P W j with
          | false => simp
          | true =>
            rw [if_pos rfl]
            by_cases h7 : P 7 = 0
            · simp [h7]
            · simp [h7]
        refine ok_mm (lkd P W j) (fun y => wr false ?_) (fun y => ?_)
        · rw [op, y]; rfl
        · refine ok_ix rfl (show j < 2432 by omega) (by decide) ?_
          rw [r32' j q2]
          refine ok_it (fun y2 => wr false ?_) (fun y2 => wr true ?_)
          · rw [op, (sd_eq (by omega) (by omega)).mp y2]; simp
          · have : lkd P W j ≠ P 7 := fun t => y2 (by rw [t])
            rw [op, decide_eq_true (show lkd P W j ≠ 0 by omega), decide_eq_true this]; rfl
    · have wr : ∀ t : Bool, t = nod P W i → ok (f_MO_looks_J77 (nI (P 7) - 1) (nI i) 34 (nI i) t m2) (lp (fun p => QkFr m p ∧ LKm P w N W p ∧ p.1 0 46 ≠ 0) (fun s' : Int32 × zM => i < 4 * N ∧ s'.1 = nI (i + 1) ∧ fl2 [34, 35] [] m1 s'.2 ∧ ∀ u, u < i + 1 → s'.2.1 34 u = b2i (nod P W u) ∧ s'.2.1 35 u = b2i (nod P W u && decide (lkd P W u = P 7)))) := by
        intro t htt
        unfold f_MO_looks_J77
        refine ok_ix rfl (show i < zlen gM 34 from (show i < 2432 by omega)) (by decide) (ok_lt (ok_ix rfl (show i < 2432 by omega) (by decide) ?_))
        rw [show (sI m2 34 i (b2i t)).1 34 i = b2i t from rd_I1 _ _ _ _]
        have w2 : ∀ t2 : Bool, t2 = (nod P W i && decide (lkd P W i = P 7)) → ok (f_MO_looks_J107 (nI (P 7) - 1) (nI i) 35 (nI i) t2 (sI m2 34 i (b2i t))) (lp (fun p => QkFr m p ∧ LKm P w N W p ∧ p.1 0 46 ≠ 0) (fun s' : Int32 × zM => i < 4 * N ∧ s'.1 = nI (i + 1) ∧ fl2 [34, 35] [] m1 s'.2 ∧ ∀ u, u < i + 1 → s'.2.1 34 u = b2i (nod P W u) ∧ s'.2.1 35 u = b2i (nod P W u && decide (lkd P W u = P 7)))) := by
          intro t2 ht2
          unfold f_MO_looks_J107
          refine ok_ix rfl (show i < zlen gM 35 from (show i < 2432 by omega)) (by decide) (ok_lt (ok_mk ⟨q1, nI_1 i, fl2_tr f2 (fl2_tr (fl2_I (inS_c (by simp))) (fl2_I (inS_c (by simp)))), fun u hu => ?_⟩))
          show (sI (sI m2 34 i (b2i t)) 35 i (b2i t2)).1 34 u = _ ∧ (sI (sI m2 34 i (b2i t)) 35 i (b2i t2)).1 35 u = _
          by_cases y : u = i
          · rw [y]
            exact ⟨by rw [rd_I0 (by omega), rd_I1, htt], by rw [rd_I1, ht2]⟩
          · rw [rd_I0 (by omega), rd_I0 (by omega), rd_I0 (by omega), rd_I0 (by omega)]
            exact a1 u (by omega)
        unfold f_MO_looks_J106
        refine ok_it (fun y => w2 false ?_) (fun y => ?_)
        · rw [← htt, b2i_0.mp y]; rfl
        · have yt : nod P W i = true := by
            rw [← htt]
            cases t with
            | true => rfl
            | false => exact absurd rfl y
          refine ok_ix rfl (show i < 2432 by omega) (by decide) ?_
          rw [show (sI m2 34 i (b2i t)).1 32 i = nI (lkd P W i) - 1 by rw [rd_I0 (by omega)]; exact r32 i q1]
          have lb := lkd_b (P := P) (W := W) (v := i)
          refine ok_it (fun y2 => w2 true ?_) (fun y2 => w2 false ?_)
          · rw [yt, decide_eq_true ((sd_eq (by omega) (by omega)).mp y2)]; rfl
          · rw [yt, decide_eq_false (fun s => y2 (by rw [s]))]; rfl
      refine ok_ix rfl (show i < 2432 by omega) (by decide) ?_
      have lb := lkd_b (P := P) (W := W) (v := i)
      refine ok_mm (lkd P W i) (fun y => wr false ?_) (fun y => wr true ?_) (hx := r32 i q1)
      · unfold lkd at y
        cases en : nod P W i with
        | false => rfl
        | true => rw [if_pos en] at y; omega
      · unfold lkd at y
        cases en : nod P W i with
        | true => rfl
        | false => rw [if_neg (by rw [en]; decide)] at y; omega
  · rw [show nI v / 4 = nI (v / 4) from pk_div (d := 4) (by omega) (by decide) (by decide), show ir (nI v) 4 = nI (v % 4) from pk_rem (d := 4) (by omega) (by decide) (by decide)]
    refine ok_bi (looksFromM hP t1 L1 q) (fun p2 ⟨h1, h2, h3, h4, h5⟩ => ok_mk ⟨q, nI_1 v, fl2_tr f1 h1, fun u hu => ?_, fun u hu c hc => ?_⟩)
    · show p2.1 32 u = _
      by_cases y : u = v
      · rw [y]; exact h3
      · rw [h2 u y]; exact g1 u (by omega)
    · show p2.1 31 _ = _
      by_cases y : u = v
      · rw [y]; exact h5 c hc
      · rw [h4 _ (by omega)]; exact g2 u (by omega) c hc
