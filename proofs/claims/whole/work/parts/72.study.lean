noncomputable def cBo (p : Prop) : Bool := @decide p (Classical.propDecidable p)
theorem cBo_iff {p : Prop} : cBo p = true ↔ p := by unfold cBo; exact @decide_eq_true_iff _ (Classical.propDecidable _)
theorem cBo_of {p : Prop} {r : Bool} (h : r = true ↔ p) : r = cBo p := Bool.eq_iff_iff.mpr (h.trans cBo_iff.symm)
theorem cBo_cg {p q : Prop} (h : p ↔ q) : cBo p = cBo q := cBo_of (cBo_iff.trans h)
theorem tb_ok {b i : Nat} {m : zM} (h : m.2.2 i = b) (hb : tbv b) : tb li_Table m i = some b := by
  unfold tb
  rw [h, if_pos]
  unfold li_Table
  rcases hb with e | e <;> rw [e] <;> simp
theorem clearX {c : Nat} {m : zM} (hl : zlen gX c ≤ 100000) : ok (f_Study_clear c m) (fun p => (∀ i, i < zlen gX c → p.1 c i = 0) ∧ fl2 [c] [] m p) := by
  unfold f_Study_clear f_Study_clear_L2
  refine ok_for (zlen gX c) (fun k (s : Int32 × zM) => s.1 = nI k ∧ (∀ i, i < k → s.2.1 c i = 0) ∧ fl2 [c] [] m s.2) ⟨rfl, fun i hi => absurd hi (Nat.not_lt_zero _), fl2_rf⟩ (Nat.zero_le _) ?_
  rintro k ⟨y, m1⟩ - hk ⟨e, h1, h2⟩
  have e : y = nI k := e
  subst e
  unfold f_Study_clear_B2
  refine ok_le (zlen gX c) k (fun q => ok_mk ⟨fun i hi => h1 i (by omega), h2⟩) (fun q => ?_)
  refine ok_ix rfl q (by omega) (ok_lt (ok_mk ⟨q, nI_1 k, fun i hi => ?_, fl2_tr h2 (fl2_I (inS_c (by simp)))⟩))
  show (sI m1 c k (b2i false)).1 c i = 0
  by_cases u : i = k
  · rw [u, rd_I1]; rfl
  · rw [rd_I0 (by omega)]; exact h1 i (by omega)
/-- the agent of a node is in the state -/
def instA (P W : Nat → Nat) (v s : Nat) : Bool := decide (v % 4 < P 3) && decide (oS (da (P 3) (W (v / 4)) (v % 4)) = s)
theorem instA_iff {P W : Nat → Nat} {v s : Nat} : instA P W v s = true ↔ v % 4 < P 3 ∧ oS (da (P 3) (W (v / 4)) (v % 4)) = s := by
  unfold instA
  rw [Bool.and_eq_true, decide_eq_true_iff, decide_eq_true_iff]
theorem agentInX {P : Nat → Nat} {N v s : Nat} {W D pr sp : Nat → Nat} {m : zM} (hN : N ≤ 600) (hA : AXm P N W D pr sp m) (h4 : P 3 ≤ 4) (hv : v < 4 * N) (hs : s < 2 ^ 31) : f_Study_isAgentIn (nI v) (nI s) m = some (instA P W v s) := by
  refine ok_eq.mp ?_
  have e5 : ir (nI v) 4 = nI (v % 4) := pk_rem (d := 4) (by omega) (by decide) (by decide)
  have dl := da_lt (P 3) (W (v / 4)) (v % 4)
  have ol := oS_lt dl
  unfold f_Study_isAgentIn instA
  rw [e5]
  refine ok_le (P 3) (v % 4) (fun q => ok_mk ?_) (fun q => ?_) (hx := hA.1.1.2)
  · show false = _
    rw [decide_eq_false (show ¬ v % 4 < P 3 by omega)]; rfl
  · refine ok_ix rfl (show v < 2400 by omega) (by decide) ?_
    have e34 := ((hA.2.1 (v / 4) (by omega)).2.2 (v % 4) q).1
    rw [show 4 * (v / 4) + v % 4 = v by omega] at e34
    rw [e34, hd0 dl, decide_eq_true q]
    refine ok_ee (oS (da (P 3) (W (v / 4)) (v % 4))) s (fun z => ok_mk ?_) (fun z => ok_mk ?_)
    · show true = _
      rw [decide_eq_true z]; rfl
    · show false = _
      rw [decide_eq_false z]; rfl
/-- one can come to what is wanted, without the rule w -/
def hopeP (P : Nat → Nat) (w N : Nat) (W : Nat → Nat) (v : Nat) : Prop := ∃ u, Rc (EFo P w N W 0) v u ∧ instA P W u (P 7 - 1) = true
def lefoP (P : Nat → Nat) (N : Nat) (W : Nat → Nat) (v : Nat) : Prop := opF P W (P 7) v = true ∧ ∃ u, Rc (EFo P 16 N W (P 7)) v u ∧ RgP P N W (P 7) u
def SFr (m0 m : zM) : Prop := fl2 [124, 130, 131, 132, 133, 134, 135, 136, 137] [(129, 1), (129, 2), (129, 3), (129, 4), (129, 13), (129, 14), (129, 15)] m0 m
theorem markHX {P : Nat → Nat} {b N w : Nat} {W D pr sp : Nat → Nat} {sk : Int32} {m : zM} (hb : tbv b) (hT : m.2.2 2 = b) (hP : tV P) (ht : tX b P m) (hN : N ≤ 600) (hL : Lst (Ed P 16) (wx0 P) N W D) (hA : AXm P N W D pr sp m) (hw : wvl w sk) (h7 : P 7 ≠ 0) : ok (f_Study_markHoping sk m) (fun p => SFr m p ∧ ∃ mk : Nat → Bool, (∀ v, v < 4 * N → p.1 124 v = b2i (mk v)) ∧ ∀ v, v < 4 * N → opF P W 0 v = true → (mk v = true ↔ hopeP P w N W v)) := by
  have r16 := hP.1.2.2.2.2.2.2.2.2.2.2.1
  have b7 : P 7 ≤ 6 := hP.1.2.2.2.2.2.2.2.2.2.1
  have n4 := hP.1.2.1
  unfold f_Study_markHoping
  refine ok_bi (clearX (c := 124) (by decide)) (fun p1 ⟨c1, c2⟩ => ?_)
  unfold f_Study_markHoping_L9
  refine ok_for (4 * N) (fun v (s : Int32 × zM) => s.1 = nI v ∧ fl2 [124] [] m s.2 ∧ ∀ u, u < v → s.2.1 124 u = b2i (instA P W u (P 7 - 1))) ⟨rfl, c2, fun u hu => absurd hu (Nat.not_lt_zero _)⟩ (Nat.zero_le _) ?_
  rintro v ⟨x, m1⟩ - hv ⟨e, f1, g1⟩
  have e : x = nI v := e
  subst e
  have f1 : fl2 [124] [] m m1 := f1
  have g1 : ∀ u, u < v → m1.1 124 u = b2i (instA P W u (P 7 - 1)) := g1
  have A1 := AXm_fl hA f1 (by decide)
  have t1 := tX_fl hb ht f1 (by decide) r16
  unfold f_Study_markHoping_B9
  have e24 : m1.1 24 0 * 4 = nI (4 * N) := by rw [A1.1.1.1, show (4 : Int32) = nI 4 from rfl, pk_mul, Nat.mul_comm]
  refine ok_le (4 * N) v (fun q => ok_zl ?_) (fun q => ?_) (hx := e24)
  · unfold f_Study_markHoping_J46
    rw [show (-1 : Int32) = nI 0 - 1 from no_m1]
    refine ok_bi (joinF (av := 0) hP hN hL A1 hw (by omega)) (fun p6 ⟨h1, h2, gp, sta, mem, G, h3⟩ => ?_)
    refine ok_bi (spreadX (mk := fun u => instA P W u (P 7 - 1)) hP hN hL hw h2 (by omega) h3 (fun u hu => ?_)) (fun p7 ⟨d1, mk', d2, _, d3⟩ => ok_mk ⟨?_, mk', d2, d3⟩)
    · rw [fl2_i h1 (by simp [inS])]; exact g1 u (by omega)
    · exact fl2_tr (fl2_su f1 (by decide)) (fl2_tr (fl2_su h1 (by decide)) (fl2_su d1 (by decide)))
  · refine ok_eb (tb_ok (b := b) (by rw [f1.2]; exact hT) hb) ?_
    rw [show m1.1 b 11 = nI (P 7 - 1) by rw [t1.1.2.2.2.2.2]; exact nI_pr (by omega)]
    refine ok_eb (agentInX hN A1 n4 q (by omega)) (ok_ix rfl (show v < 2400 by omega) (by decide) (ok_lt (ok_mk ⟨q, nI_1 v, fl2_tr f1 (fl2_I (inS_c (by simp))), fun u hu => ?_⟩)))
    show (sI m1 124 v _).1 124 u = _
    by_cases z : u = v
    · rw [z, rd_I1]
    · rw [rd_I0 (by omega)]; exact g1 u (by omega)
theorem markRX {P : Nat → Nat} {b N : Nat} {W D pr sp : Nat → Nat} {m : zM} (hb : tbv b) (hT : m.2.2 2 = b) (hP : tV P) (ht : tX b P m) (hN : N ≤ 600) (hL : Lst (Ed P 16) (wx0 P) N W D) (hA : AXm P N W D pr sp m) (h7 : P 7 ≠ 0) : ok (f_Study_markRings m) (fun p => SFr m p ∧ ∃ mk : Nat → Bool, (∀ v, v < 4 * N → p.1 124 v = b2i (mk v)) ∧ ∀ v, v < 4 * N → nod P W v = true → (mk v = true ↔ lefoP P N W v)) := by
  have r16 := hP.1.2.2.2.2.2.2.2.2.2.2.1
  have b7 : P 7 ≤ 6 := hP.1.2.2.2.2.2.2.2.2.2.1
  unfold f_Study_markRings
  refine ok_bi (clearX (c := 124) (by decide)) (fun p1 ⟨c1, c2⟩ => ?_)
  have t1 := tX_fl hb ht c2 (by decide) r16
  refine ok_eb (tb_ok (b := b) (by rw [c2.2]; exact hT) hb) ?_
  rw [t1.1.2.2.2.2.2]
  refine ok_bi (joinF (w := 16) (sk := -1) (av := P 7) hP hN hL (AXm_fl hA c2 (by decide)) (Or.inl ⟨rfl, rfl⟩) b7) (fun p3 ⟨h1, h2, gp, sta, mem, G, h3⟩ => ?_)
  have f3 : SFr m p3 := fl2_tr (fl2_su c2 (by decide)) (fl2_su h1 (by decide))
  have t3 := tX_fl hb ht f3 (by decide) r16
  obtain ⟨j1, j2, j3, j4, j5, j6, j7, j8, j9⟩ := id h3
  obtain ⟨s0, s1, s2, s3, s4⟩ := id j4
  have smo : ∀ d g, g + d ≤ G → sta g ≤ sta (g + d) := by
    intro d
    induction d with
    | zero => intro g _; exact Nat.le_refl _
    | succ d ih => intro g hg; exact Nat.le_trans (ih g (by omega)) (s1 (g + d) (by omega))
  unfold f_Study_markRings_L25
  refine ok_for G (fun g (s : Int32 × zM) => s.1 = nI g ∧ fl2 [124] [] p3 s.2 ∧ ∃ mk : Nat → Bool, (∀ v, v < 4 * N → s.2.1 124 v = b2i (mk v)) ∧ ∀ v, mk v = true ↔ gp v ≠ 0 ∧ gp v ≤ g ∧ RgP P N W (P 7) v) (k0 := 0) ⟨rfl, fl2_rf, fun _ => false, fun v hv => ?_, fun v => ⟨fun z => (by cases z), fun z => absurd (Nat.le_zero.mp z.2.1) z.1⟩⟩ (Nat.zero_le _) ?_
  · show p3.1 124 v = b2i false
    rw [fl2_i h1 (by simp [inS]), c1 v (show v < 2400 by omega)]; rfl
  rintro g ⟨x, m1⟩ - hg ⟨e, f1, mk, a1, a2⟩
  have e : x = nI g := e
  subst e
  have f1 : fl2 [124] [] p3 m1 := f1
  have a1 : ∀ v, v < 4 * N → m1.1 124 v = b2i (mk v) := a1
  have C1 := CxG_fl h2 f1 (by decide) (by decide)
  have J1 : JXm P N W (opF P W (P 7)) (xdF P 16 N W (P 7)) gp sta mem G m1 := by
    refine ⟨j1, j2, j3, j4, j5, by rw [fl2_i f1 (by decide)]; exact j6, fun v hv => ?_, fun k hk => ?_, fun i hi => ?_⟩
    · rw [fl2_i f1 (by simp [inS])]; exact j7 v hv
    · rw [fl2_i f1 (by simp [inS])]; exact j8 k hk
    · rw [fl2_i f1 (by simp [inS])]; exact j9 i hi
  unfold f_Study_markRings_B25
  refine ok_le G g (fun q => ok_zl ?_) (fun q => ?_) (hx := J1.2.2.2.2.2.1)
  · unfold f_Study_markRings_J103
    refine ok_bi (spreadX (w := 16) (sk := -1) (mk := mk) hP hN hL (Or.inl ⟨rfl, rfl⟩) C1 b7 J1 a1) (fun p7 ⟨d1, mk', d2, d4, d3⟩ => ok_mk ⟨fl2_tr f3 (fl2_tr (fl2_su f1 (by decide)) (fl2_su d1 (by decide))), mk', d2, fun v hv hn => ?_⟩)
    cases ea : opF P W (P 7) v with
    | true =>
      rw [d3 v hv ea]
      constructor
      · rintro ⟨u, u1, u2⟩
        exact ⟨ea, u, u1, ((a2 u).mp u2).2.2⟩
      · rintro ⟨_, u, u1, u2⟩
        have k := JGr_mo j1 (j1.2.1 v hv ea) ((Rc_eq (fun _ _ => TEd_F)).mpr u1)
        exact ⟨u, u1, (a2 u).mpr ⟨k.1, by have := (j1.1 u k.1).2.2; omega, u2⟩⟩
    | false =>
      have g0 : gp v = 0 := by
        by_cases z : gp v = 0
        · exact z
        · have : opF P W (P 7) v = true := (j1.1 v z).2.1
          rw [ea] at this; cases this
      rw [d4 v g0]
      exact ⟨fun z => absurd g0 ((a2 v).mp z).1, fun z => by have := z.1; rw [ea] at this; cases this⟩
  · refine ok_eb (tb_ok (b := b) (by rw [f1.2, f3.2]; exact hT) hb) ?_
    refine ok_bi (isRingX hb hP (tX_fl hb t3 f1 (by decide) r16) hN hL C1 b7 J1 q) (fun r hr => ?_)
    have sg := s1 g q
    have sG := smo (G - (g + 1)) (g + 1) (by omega)
    rw [show g + 1 + (G - (g + 1)) = G by omega] at sG
    have mgp : ∀ i, sta g ≤ i → i < sta (g + 1) → gp (mem i) = g + 1 := fun i h1 h2 => s2 g q i h1 h2
    unfold f_Study_markRings_J97
    refine ok_tf (fun z => ?_) (fun z => ok_mk ⟨q, nI_1 g, f1, mk, a1, fun v => ?_⟩)
    · refine ok_ix rfl (show g < 2401 by omega) (by decide) ?_
      rw [J1.2.2.2.2.2.2.2.1 g (by omega)]
      unfold f_Study_markRings_L61
      refine ok_for (sta (g + 1)) (fun i (s : Int32 × zM) => s.1 = nI i ∧ fl2 [124] [] m1 s.2 ∧ ∃ mk2 : Nat → Bool, (∀ v, v < 4 * N → s.2.1 124 v = b2i (mk2 v)) ∧ ∀ v, mk2 v = true ↔ mk v = true ∨ ∃ j, sta g ≤ j ∧ j < i ∧ mem j = v) (k0 := sta g) ⟨rfl, fl2_rf, mk, a1, fun v => ⟨Or.inl, fun y => y.elim id (fun ⟨j, h1, h2, _⟩ => by omega)⟩⟩ sg ?_ (by omega)
      rintro i ⟨x, m2⟩ hi0 hi ⟨e, f2, mk2, c1', c2'⟩
      have e : x = nI i := e
      subst e
      have f2 : fl2 [124] [] m1 m2 := f2
      have c1' : ∀ v, v < 4 * N → m2.1 124 v = b2i (mk2 v) := c1'
      unfold f_Study_markRings_B61 f_Study_markRings_J97
      rw [nI_1]
      refine ok_ix rfl (show g + 1 < 2401 by omega) (by decide) ?_
      refine ok_le (sta (g + 1)) i (fun q1 => ok_zl (ok_mk ⟨q, rfl, fl2_tr f1 f2, mk2, c1', fun v => ?_⟩)) (fun q1 => ?_) (hx := show m2.1 131 (g + 1) = nI (sta (g + 1)) by rw [fl2_i f2 (by simp [inS])]; exact J1.2.2.2.2.2.2.2.1 (g + 1) (by omega))
      · rw [c2' v, a2 v]
        constructor
        · rintro (⟨y1, y2, y3⟩ | ⟨j, y1, y2, y3⟩)
          · exact ⟨y1, by omega, y3⟩
          · have gj := mgp j y1 (by omega)
            rw [y3] at gj
            exact ⟨by omega, by omega, (hr v gj).mp z⟩
        · rintro ⟨y1, y2, y3⟩
          by_cases u : gp v = g + 1
          · obtain ⟨j, i1, i2, i3⟩ := s3 v y1
            rw [u, Nat.add_sub_cancel] at i1
            rw [u] at i2
            exact Or.inr ⟨j, i1, by omega, i3⟩
          · exact Or.inl ⟨y1, by omega, y3⟩
      · have mi := (j1.1 _ (mbs_nz j4 (show i < sta G by omega))).1
        refine ok_ix rfl (show i < 2400 by omega) (by decide) ?_
        rw [show m2.1 132 i = nI (mem i) by rw [fl2_i f2 (by simp [inS])]; exact J1.2.2.2.2.2.2.2.2 i (by omega)]
        refine ok_ix rfl (show mem i < 2400 by omega) (by decide) (ok_lt (ok_mk ⟨q1, nI_1 i, fl2_tr f2 (fl2_I (inS_c (by simp))), fun v => if v = mem i then true else mk2 v, fun v hv => ?_, fun v => ?_⟩))
        · show (sI m2 124 (mem i) (b2i true)).1 124 v = b2i (if v = mem i then true else mk2 v)
          by_cases u : v = mem i
          · rw [u, rd_I1, if_pos rfl]
          · rw [rd_I0 (by omega), c1' v hv, if_neg u]
        · show (if v = mem i then true else mk2 v) = true ↔ _
          by_cases u : v = mem i
          · rw [if_pos u]
            exact ⟨fun _ => Or.inr ⟨i, hi0, by omega, u.symm⟩, fun _ => rfl⟩
          · rw [if_neg u, c2' v]
            refine or_congr Iff.rfl ⟨fun ⟨j, y1, y2, y3⟩ => ⟨j, y1, by omega, y3⟩, fun ⟨j, y1, y2, y3⟩ => ⟨j, y1, ?_, y3⟩⟩
            have : j ≠ i := fun y => u (by rw [← y3, y])
            omega
    · rw [a2 v]
      refine ⟨fun ⟨y1, y2, y3⟩ => ⟨y1, by omega, y3⟩, fun ⟨y1, y2, y3⟩ => ⟨y1, ?_, y3⟩⟩
      by_cases u : gp v = g + 1
      · have := (hr v u).mpr y3
        rw [z] at this; cases this
      · omega
/-- the first of those like the node's agent -/
def fln (P W : Nat → Nat) (v : Nat) : Nat := 4 * (v / 4) + lkf (da (P 3) (W (v / 4))) (v % 4)
theorem fln_n {P W : Nat → Nat} {v : Nat} (h4 : P 3 ≤ 4) (h : v % 4 < P 3) : fln P W v / 4 = v / 4 ∧ fln P W v % 4 = lkf (da (P 3) (W (v / 4))) (v % 4) ∧ nod P W (fln P W v) = true := by
  have l := lkf_le (da (P 3) (W (v / 4))) (v % 4)
  have li := (lkf_id (da (P 3) (W (v / 4))) (v % 4)).2
  have e1 : fln P W v / 4 = v / 4 := by unfold fln; omega
  have e2 : fln P W v % 4 = lkf (da (P 3) (W (v / 4))) (v % 4) := by unfold fln; omega
  refine ⟨e1, e2, ?_⟩
  unfold nod
  rw [e1, e2, decide_eq_true li, decide_eq_true (show lkf (da (P 3) (W (v / 4))) (v % 4) < P 3 by omega)]
  rfl
theorem opF_0 {P W : Nat → Nat} {v : Nat} : opF P W 0 v = nod P W v := by
  unfold opF avd
  simp
theorem tellX {P : Nat → Nat} {b N c : Nat} {W D pr sp : Nat → Nat} {so : Int32} {mk : Nat → Bool} {m : zM} (hb : tbv b) (hT : m.2.2 2 = b) (hP : tV P) (ht : tX b P m) (hN : N ≤ 600) (hA : AXm P N W D pr sp m) (h6 : P 6 ≠ 0) (hc : c = 122 ∨ c = 123) (hm : ∀ v, v < 4 * N → m.1 124 v = b2i (mk v)) (h0 : ∀ v, v < 4 * N → m.1 c v = 0) : ok (f_Study_tellWanting c so m) (fun p => fl2 [c] [] m p ∧ ∀ v, v < 4 * N → p.1 c v = b2i (instA P W v (P 6 - 1) && decide (b2i (mk (fln P W v)) = so))) := by
  have r16 := hP.1.2.2.2.2.2.2.2.2.2.2.1
  have b6 : P 6 ≤ 6 := hP.1.2.2.2.2.2.2.2.2.1
  have n4 := hP.1.2.1
  have hz : zlen gX c = 2400 := by rcases hc with e | e <;> rw [e] <;> rfl
  have hoff : ∀ j, inS [c] [] j = fun _ => inS [c] [] j 0 := fun j => by funext k; simp [inS]
  unfold f_Study_tellWanting f_Study_tellWanting_L2
  refine ok_for (4 * N) (fun v (s : Int32 × zM) => s.1 = nI v ∧ fl2 [c] [] m s.2 ∧ (∀ u, u < v → s.2.1 c u = b2i (instA P W u (P 6 - 1) && decide (b2i (mk (fln P W u)) = so))) ∧ ∀ u, v ≤ u → s.2.1 c u = m.1 c u) ⟨rfl, fl2_rf, fun u hu => absurd hu (Nat.not_lt_zero _), fun _ _ => rfl⟩ (Nat.zero_le _) ?_
  rintro v ⟨x, m1⟩ - hv ⟨e, f1, g1, g2⟩
  have e : x = nI v := e
  subst e
  have f1 : fl2 [c] [] m m1 := f1
  have g1 : ∀ u, u < v → m1.1 c u = b2i (instA P W u (P 6 - 1) && decide (b2i (mk (fln P W u)) = so)) := g1
  have g2 : ∀ u, v ≤ u → m1.1 c u = m.1 c u := g2
  have A1 := AXm_fl hA f1 (by rcases hc with e | e <;> rw [e] <;> decide)
  have t1 := tX_fl hb ht f1 (by rcases hc with e | e <;> rw [e] <;> decide) r16
  have m124 : ∀ u, m1.1 124 u = m.1 124 u := fun u => fl2_i f1 (by rcases hc with e | e <;> rw [e] <;> simp [inS])
  unfold f_Study_tellWanting_B2 f_Study_tellWanting_J52
  have e24 : m1.1 24 0 * 4 = nI (4 * N) := by rw [A1.1.1.1, show (4 : Int32) = nI 4 from rfl, pk_mul, Nat.mul_comm]
  refine ok_le (4 * N) v (fun q => ok_mk ⟨f1, fun u hu => g1 u (by omega)⟩) (fun q => ?_) (hx := e24)
  refine ok_eb (tb_ok (b := b) (by rw [f1.2]; exact hT) hb) ?_
  rw [show m1.1 b 10 = nI (P 6 - 1) by rw [t1.1.2.2.2.2.1]; exact nI_pr (by omega)]
  refine ok_eb (agentInX hN A1 n4 q (by omega)) ?_
  refine ok_tf (fun z => ?_) (fun z => ?_)
  · have va := (instA_iff.mp z).1
    obtain ⟨fl1, fl2', fl3⟩ := fln_n (W := W) n4 va
    have flb : fln P W v < 4 * N := by
      have := nod_a fl3
      omega
    have ef : f_Study_firstLike (nI v) m1 = some (nI (fln P W v)) := by
      unfold f_Study_firstLike
      rw [show ix 2400 (nI v) = some v from ix_nI (by omega) (by decide), Option.bind_some]
      have e35 := ((A1.2.1 (v / 4) (by omega)).2.2 (v % 4) va).2
      rw [show 4 * (v / 4) + v % 4 = v by omega] at e35
      rw [e35, show ir (nI v) 4 = nI (v % 4) from pk_rem (d := 4) (by omega) (by decide) (by decide), pk_sub (by omega), nI_add]
      unfold fln
      congr 2
      omega
    refine ok_eb ef (ok_ix rfl (show fln P W v < 2400 by omega) (by decide) ?_)
    rw [m124, hm _ flb]
    have wr : ∀ t : Bool, t = decide (b2i (mk (fln P W v)) = so) → ok (f_Study_tellWanting_J51 c so (nI v) c (nI v) t m1) (lp (fun p => fl2 [c] [] m p ∧ ∀ v, v < 4 * N → p.1 c v = b2i (instA P W v (P 6 - 1) && decide (b2i (mk (fln P W v)) = so))) (fun s' : Int32 × zM => v < 4 * N ∧ s'.1 = nI (v + 1) ∧ fl2 [c] [] m s'.2 ∧ (∀ u, u < v + 1 → s'.2.1 c u = b2i (instA P W u (P 6 - 1) && decide (b2i (mk (fln P W u)) = so))) ∧ ∀ u, v + 1 ≤ u → s'.2.1 c u = m.1 c u)) := by
      intro t ht'
      unfold f_Study_tellWanting_J51 f_Study_tellWanting_J52
      refine ok_ix rfl (show v < zlen gX c by omega) (by omega) (ok_lt (ok_mk ⟨q, nI_1 v, fl2_tr f1 (fl2_I (inS_c (by simp))), fun u hu => ?_, fun u hu => ?_⟩))
      · show (sI m1 c v (b2i t)).1 c u = _
        by_cases y : u = v
        · rw [y, rd_I1, z, ht']; rfl
        · rw [rd_I0 (by omega)]; exact g1 u (by omega)
      · show (sI m1 c v (b2i t)).1 c u = _
        rw [rd_I0 (by omega)]; exact g2 u (by omega)
    refine ok_it (fun y => wr true ?_) (fun y => wr false ?_)
    · rw [decide_eq_true y]
    · rw [decide_eq_false y]
  · refine ok_mk ⟨q, nI_1 v, f1, fun u hu => ?_, fun u hu => g2 u (by omega)⟩
    show m1.1 c u = _
    by_cases y : u = v
    · rw [y, g2 v (Nat.le_refl _), h0 v q, z]; rfl
    · exact g1 u (by omega)
