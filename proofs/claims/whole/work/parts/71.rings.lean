/-- a bit -/
def gbt (x : Int32) (i : Nat) : Bool := x.toBitVec.getLsbD i
theorem gbt_or (x y : Int32) (i : Nat) : gbt (x ||| y) i = (gbt x i || gbt y i) := by
  show (x.toBitVec ||| y.toBitVec).getLsbD i = _
  rw [BitVec.getLsbD_or]
  rfl
theorem gbt_0 (i : Nat) : gbt 0 i = false := by
  show (0 : BitVec 32).getLsbD i = false
  simp
theorem gbt_x {x y : Int32} (h : ∀ i, i < 32 → gbt x i = gbt y i) : x = y := by
  apply Int32.toBitVec_inj.mp
  apply BitVec.eq_of_getLsbD_eq
  intro i hi
  exact h i hi
theorem gbt_s : ∀ r, r < 16 → ∀ i, i < 32 → gbt (shl 1 (nI r)) i = decide (i = r) := by decide +kernel
/-- two that can each be come to from the other -/
def Sco (E : Nat → Nat → Prop) (u v : Nat) : Prop := Rc E u v ∧ Rc E v u
/-- the agent itself can use the rule -/
def usb (P W : Nat → Nat) (u r : Nat) : Prop := psb P (W (u / 4)) (4 * r + u % 4) = true ∧ tF P r 0 = 0
/-- fair turns can go on for ever with v -/
def RgP (P : Nat → Nat) (N : Nat) (W : Nat → Nat) (av v : Nat) : Prop := (∃ u t, Sco (EFo P 16 N W av) v u ∧ Sco (EFo P 16 N W av) v t ∧ EFo P 16 N W av u t) ∧ ∀ r, (∃ u, Sco (EFo P 16 N W av) v u ∧ usb P W u r) → ∃ u t, Sco (EFo P 16 N W av) v u ∧ Sco (EFo P 16 N W av) v t ∧ usb P W u r ∧ nda P 16 N W av u (4 * r + u % 4) = t + 1
/-- pairs gone through -/
def Pzz (dg sta mem : Nat → Nat) (g i e i' e' : Nat) : Prop := sta g ≤ i' ∧ e' < dg (mem i') ∧ (i' < i ∨ (i' = i ∧ e' < e))
theorem Pzz_s {dg sta mem : Nat → Nat} {g i e : Nat} {Q : Nat → Nat → Prop} (hi : sta g ≤ i) (he : e < dg (mem i)) : (∃ i' e', Pzz dg sta mem g i (e + 1) i' e' ∧ Q i' e') ↔ (∃ i' e', Pzz dg sta mem g i e i' e' ∧ Q i' e') ∨ Q i e := by
  constructor
  · rintro ⟨i', e', ⟨h1, h2, h3⟩, h4⟩
    by_cases q : i' = i ∧ e' = e
    · rw [q.1, q.2] at h4; exact Or.inr h4
    · exact Or.inl ⟨i', e', ⟨h1, h2, by omega⟩, h4⟩
  · rintro (⟨i', e', ⟨h1, h2, h3⟩, h4⟩ | h4)
    · exact ⟨i', e', ⟨h1, h2, by omega⟩, h4⟩
    · exact ⟨i, e, ⟨hi, he, Or.inr ⟨rfl, by omega⟩⟩, h4⟩
theorem Pzz_n {dg sta mem : Nat → Nat} {g i : Nat} {Q : Nat → Nat → Prop} : (∃ i' e', Pzz dg sta mem g i (dg (mem i)) i' e' ∧ Q i' e') ↔ (∃ i' e', Pzz dg sta mem g (i + 1) 0 i' e' ∧ Q i' e') := by
  constructor
  · rintro ⟨i', e', ⟨h1, h2, h3⟩, h4⟩
    exact ⟨i', e', ⟨h1, h2, by omega⟩, h4⟩
  · rintro ⟨i', e', ⟨h1, h2, h3⟩, h4⟩
    refine ⟨i', e', ⟨h1, h2, ?_⟩, h4⟩
    by_cases q : i' = i
    · rw [q] at h2; exact Or.inr ⟨q, h2⟩
    · exact Or.inl (by omega)
def RSt (dg sta mem : Nat → Nat) (g : Nat) (ins : Nat → Nat → Prop) (use : Nat → Nat → Nat → Prop) (i e : Nat) (a c d : Int32) : Prop := (∃ ag : Bool, a = b2i ag ∧ (ag = true ↔ ∃ i' e', Pzz dg sta mem g i e i' e' ∧ ins i' e')) ∧ (∀ r, r < 32 → (gbt c r = true ↔ ∃ i' e', Pzz dg sta mem g i e i' e' ∧ use i' e' r)) ∧ ∀ r, r < 32 → (gbt d r = true ↔ ∃ i' e', Pzz dg sta mem g i e i' e' ∧ (use i' e' r ∧ ins i' e'))
theorem b2i_or : ∀ a b : Bool, b2i a ||| b2i b = b2i (a || b) := by decide
theorem RSt_a {dg sta mem : Nat → Nat} {g : Nat} {ins : Nat → Nat → Prop} {use : Nat → Nat → Nat → Prop} {i e : Nat} {a c d : Int32} {t0 : Bool} (h : RSt dg sta mem g ins use i e a c d) (hi : sta g ≤ i) (he : e < dg (mem i)) (h0 : t0 = true ↔ ins i e) : ∃ ag : Bool, a ||| b2i t0 = b2i ag ∧ (ag = true ↔ ∃ i' e', Pzz dg sta mem g i (e + 1) i' e' ∧ ins i' e') := by
  obtain ⟨ag, e1, e2⟩ := h.1
  refine ⟨ag || t0, by rw [e1, b2i_or], ?_⟩
  rw [Pzz_s hi he, Bool.or_eq_true, e2, h0]
theorem RSt_no {dg sta mem : Nat → Nat} {g : Nat} {ins : Nat → Nat → Prop} {use : Nat → Nat → Nat → Prop} {i e : Nat} {a c d : Int32} {t0 : Bool} (h : RSt dg sta mem g ins use i e a c d) (hi : sta g ≤ i) (he : e < dg (mem i)) (h0 : t0 = true ↔ ins i e) (hu : ∀ r, ¬ use i e r) : RSt dg sta mem g ins use i (e + 1) (a ||| b2i t0) c d := by
  refine ⟨RSt_a h hi he h0, fun r hr => ?_, fun r hr => ?_⟩
  · rw [Pzz_s (Q := fun i' e' => use i' e' r) hi he, h.2.1 r hr]
    exact ⟨Or.inl, fun z => z.elim id (fun y => absurd y (hu r))⟩
  · rw [Pzz_s (Q := fun i' e' => use i' e' r ∧ ins i' e') hi he, h.2.2 r hr]
    exact ⟨Or.inl, fun z => z.elim id (fun y => absurd y.1 (hu r))⟩
theorem RSt_ye {dg sta mem : Nat → Nat} {g : Nat} {ins : Nat → Nat → Prop} {use : Nat → Nat → Nat → Prop} {i e r0 : Nat} {a c d x : Int32} {t0 : Bool} (h : RSt dg sta mem g ins use i e a c d) (hi : sta g ≤ i) (he : e < dg (mem i)) (h0 : t0 = true ↔ ins i e) (hu : ∀ r, use i e r ↔ r = r0) (h16 : r0 < 16) (hx : x = if t0 = true then shl 1 (nI r0) else 0) : RSt dg sta mem g ins use i (e + 1) (a ||| b2i t0) (c ||| shl 1 (nI r0)) (d ||| x) := by
  refine ⟨RSt_a h hi he h0, fun r hr => ?_, fun r hr => ?_⟩
  · rw [Pzz_s (Q := fun i' e' => use i' e' r) hi he, gbt_or, Bool.or_eq_true, h.2.1 r hr, gbt_s r0 h16 r hr, hu r, decide_eq_true_iff]
  · rw [Pzz_s (Q := fun i' e' => use i' e' r ∧ ins i' e') hi he, gbt_or, Bool.or_eq_true, h.2.2 r hr, hu r, ← h0]
    refine or_congr Iff.rfl ?_
    rw [hx]
    cases t0 with
    | true => rw [if_pos rfl, gbt_s r0 h16 r hr, decide_eq_true_iff]; exact ⟨fun z => ⟨z, rfl⟩, fun z => z.1⟩
    | false => rw [if_neg (by decide), gbt_0]; exact ⟨fun z => (by cases z), fun z => (by cases z.2)⟩
theorem RSt_nx {dg sta mem : Nat → Nat} {g : Nat} {ins : Nat → Nat → Prop} {use : Nat → Nat → Nat → Prop} {i : Nat} {a c d : Int32} (h : RSt dg sta mem g ins use i (dg (mem i)) a c d) : RSt dg sta mem g ins use (i + 1) 0 a c d := by
  obtain ⟨⟨ag, e1, e2⟩, h2, h3⟩ := h
  exact ⟨⟨ag, e1, e2.trans Pzz_n⟩, fun r hr => (h2 r hr).trans (Pzz_n (Q := fun i' e' => use i' e' r)), fun r hr => (h3 r hr).trans (Pzz_n (Q := fun i' e' => use i' e' r ∧ ins i' e'))⟩
theorem isRingX {P : Nat → Nat} {b N av G g : Nat} {W D pr sp gp sta mem : Nat → Nat} {m : zM} (hb : tbv b) (hP : tV P) (ht : tX b P m) (hN : N ≤ 600) (hL : Lst (Ed P 16) (wx0 P) N W D) (hC : CxG P N W D pr sp 1 (-1) (nI av - 1) m) (hav : av ≤ 6) (hJ : JXm P N W (opF P W av) (xdF P 16 N W av) gp sta mem G m) (hg : g < G) : ok (f_Joined_isRing (nI g) b m) (fun r => ∀ v, gp v = g + 1 → (r = true ↔ RgP P N W av v)) := by
  obtain ⟨j1, j2, j3, j4, j5, j6, j7, j8, j9⟩ := hJ
  obtain ⟨s0, s1, s2, s3, s4⟩ := id j4
  have r16 := hP.1.2.2.2.2.2.2.2.2.2.2.1
  have hb66 : 66 ≤ b := by rcases hb with e | e <;> omega
  have smo : ∀ d g, g + d ≤ G → sta g ≤ sta (g + d) := by
    intro d
    induction d with
    | zero => intro g _; exact Nat.le_refl _
    | succ d ih => intro g hg; exact Nat.le_trans (ih g (by omega)) (s1 (g + d) (by omega))
  have sg := s1 g hg
  have sG := smo (G - (g + 1)) (g + 1) (by omega)
  rw [show g + 1 + (G - (g + 1)) = G by omega] at sG
  have mlt : ∀ i, i < sta (g + 1) → mem i < 4 * N ∧ opF P W av (mem i) = true := fun i hi => by
    have := j1.1 _ (mbs_nz j4 (show i < sta G by omega))
    exact ⟨this.1, this.2.1⟩
  have mgp : ∀ i, sta g ≤ i → i < sta (g + 1) → gp (mem i) = g + 1 := fun i h1 h2 => s2 g hg i h1 h2
  have c36 := hC.1.2.2.1
  -- what is meant by the numbers
  let ins : Nat → Nat → Prop := fun i e => ∃ t, xdF P 16 N W av (mem i) e = t + 1 ∧ gp t = g + 1
  let use : Nat → Nat → Nat → Prop := fun i e r => cea P (W (mem i / 4)) e % 4 = mem i % 4 ∧ cea P (W (mem i / 4)) e / 4 = r ∧ tF P r 0 = 0
  have fin : ∀ a c d : Int32, RSt (dgx P W) sta mem g ins use (sta (g + 1)) 0 a c d → ∀ v, gp v = g + 1 → ((a ≠ 0 ∧ c = d) ↔ RgP P N W av v) := by
    intro a c d h v hv
    obtain ⟨⟨ag, e1, e2⟩, h2, h3⟩ := h
    have sc : ∀ u, gp u = g + 1 → Sco (EFo P 16 N W av) v u := fun u hu => by
      have := (JGr_iff j1 (show gp v ≠ 0 by omega) (show gp u ≠ 0 by omega)).mp (by omega)
      exact ⟨(Rc_eq (fun _ _ => TEd_F)).mp this.1, (Rc_eq (fun _ _ => TEd_F)).mp this.2⟩
    have cs : ∀ u, Sco (EFo P 16 N W av) v u → gp u = g + 1 := fun u hu => by
      have r1 := (Rc_eq (fun _ _ => TEd_F)).mpr hu.1
      have r2 := (Rc_eq (fun _ _ => TEd_F)).mpr hu.2
      have k := JGr_mo j1 (show gp v ≠ 0 by omega) r1
      rw [← hv]
      exact ((JGr_iff j1 (show gp v ≠ 0 by omega) k.1).mpr ⟨r1, r2⟩).symm
    have mi : ∀ u, gp u = g + 1 → ∃ i, sta g ≤ i ∧ i < sta (g + 1) ∧ mem i = u := fun u hu => by
      obtain ⟨i, i1, i2, i3⟩ := s3 u (by omega)
      rw [hu, Nat.add_sub_cancel] at i1
      rw [hu] at i2
      exact ⟨i, i1, i2, i3⟩
    -- again
    have A : ag = true ↔ ∃ u t, Sco (EFo P 16 N W av) v u ∧ Sco (EFo P 16 N W av) v t ∧ EFo P 16 N W av u t := by
      rw [e2]
      constructor
      · rintro ⟨i, e, ⟨p1, p2, p3⟩, t, p4, p5⟩
        exact ⟨mem i, t, sc _ (mgp i p1 (by omega)), sc t p5, TEd_F.mp ⟨(mlt i (by omega)).2, e, p2, p4⟩⟩
      · rintro ⟨u, t, u1, u2, u3⟩
        obtain ⟨i, i1, i2, i3⟩ := mi u (cs u u1)
        obtain ⟨_, e, q1, q2⟩ := TEd_F.mpr u3
        rw [← i3] at q1 q2
        exact ⟨i, e, ⟨i1, q1, Or.inl i2⟩, t, q2, cs t u2⟩
    -- a rule that can be used
    have ub : ∀ i, sta g ≤ i → i < sta (g + 1) → ∀ r, (∃ e, e < dgx P W (mem i) ∧ use i e r) ↔ usb P W (mem i) r := by
      intro i i1 i2 r
      constructor
      · rintro ⟨e, q1, q2, q3, q4⟩
        obtain ⟨k1, k2, k3⟩ := cea_sp q1
        refine ⟨?_, q4⟩
        rw [← show cea P (W (mem i / 4)) e = 4 * r + mem i % 4 by omega]
        exact k2
      · rintro ⟨q1, q2⟩
        have pr := psb_r q1
        obtain ⟨k1, k2⟩ := cea_cn (show 4 * r + mem i % 4 < 64 by omega) q1
        refine ⟨_, k1, ?_, ?_, q2⟩
        · rw [k2]; omega
        · rw [k2]; omega
    have Cn : ∀ r, r < 32 → (gbt c r = true ↔ ∃ u, Sco (EFo P 16 N W av) v u ∧ usb P W u r) := by
      intro r hr
      rw [h2 r hr]
      constructor
      · rintro ⟨i, e, ⟨p1, p2, p3⟩, p4⟩
        exact ⟨mem i, sc _ (mgp i p1 (by omega)), (ub i p1 (by omega) r).mp ⟨e, p2, p4⟩⟩
      · rintro ⟨u, u1, u2⟩
        obtain ⟨i, i1, i2, i3⟩ := mi u (cs u u1)
        rw [← i3] at u2
        obtain ⟨e, q1, q2⟩ := (ub i i1 i2 r).mpr u2
        exact ⟨i, e, ⟨i1, q1, Or.inl i2⟩, q2⟩
    have Dn : ∀ r, r < 32 → (gbt d r = true ↔ ∃ u t, Sco (EFo P 16 N W av) v u ∧ Sco (EFo P 16 N W av) v t ∧ usb P W u r ∧ nda P 16 N W av u (4 * r + u % 4) = t + 1) := by
      intro r hr
      rw [h3 r hr]
      constructor
      · rintro ⟨i, e, ⟨p1, p2, p3⟩, p4, t, p5, p6⟩
        refine ⟨mem i, t, sc _ (mgp i p1 (by omega)), sc t p6, (ub i p1 (by omega) r).mp ⟨e, p2, p4⟩, ?_⟩
        obtain ⟨q1, q2, _⟩ := p4
        rw [← show cea P (W (mem i / 4)) e = 4 * r + mem i % 4 by omega]
        exact p5
      · rintro ⟨u, t, u1, u2, u3, u4⟩
        obtain ⟨i, i1, i2, i3⟩ := mi u (cs u u1)
        rw [← i3] at u3 u4
        obtain ⟨e, q1, q2⟩ := (ub i i1 i2 r).mpr u3
        refine ⟨i, e, ⟨i1, q1, Or.inl i2⟩, q2, t, ?_, cs t u2⟩
        obtain ⟨q3, q4, _⟩ := q2
        unfold xdF
        rw [show cea P (W (mem i / 4)) e = 4 * r + mem i % 4 by omega]
        exact u4
    unfold RgP
    rw [← A]
    have a1 : a ≠ 0 ↔ ag = true := by
      rw [e1]
      cases ag <;> decide
    rw [a1]
    refine and_congr Iff.rfl ⟨fun z r hu => ?_, fun z => gbt_x (fun r hr => Bool.eq_iff_iff.mpr ⟨fun y => ?_, fun y => ?_⟩)⟩
    · have hr : r < 32 := by
        obtain ⟨u, u1, u2⟩ := hu
        have := (psb_r u2.1).1
        omega
      exact (Dn r hr).mp (by rw [← z]; exact (Cn r hr).mpr hu)
    · exact (Dn r hr).mpr (z r ((Cn r hr).mp y))
    · obtain ⟨u, t, u1, u2, u3, u4⟩ := (Dn r hr).mp y
      exact (Cn r hr).mpr ⟨u, u1, u3⟩
  unfold f_Joined_isRing
  refine ok_ix rfl (show g < 2401 by omega) (by decide) ?_
  rw [j8 g (by omega)]
  unfold f_Joined_isRing_L16
  refine ok_for (sta (g + 1)) (fun i (s : Int32 × Int32 × Int32 × Int32) => s.2.2.2 = nI i ∧ RSt (dgx P W) sta mem g ins use i 0 s.1 s.2.1 s.2.2.1) (k0 := sta g) ⟨rfl, ⟨false, rfl, fun z => (by cases z), fun ⟨i', e', ⟨p1, p2, p3⟩, _⟩ => by omega⟩, fun r _ => ⟨fun z => (by rw [gbt_0] at z; cases z), fun ⟨i', e', ⟨p1, p2, p3⟩, _⟩ => by omega⟩, fun r _ => ⟨fun z => (by rw [gbt_0] at z; cases z), fun ⟨i', e', ⟨p1, p2, p3⟩, _⟩ => by omega⟩⟩ sg ?_ (by omega)
  rintro i ⟨v3, v4, v5, x⟩ hi0 hi ⟨e, hR⟩
  have e : x = nI i := e
  subst e
  have hR : RSt (dgx P W) sta mem g ins use i 0 v3 v4 v5 := hR
  unfold f_Joined_isRing_B16
  rw [nI_1]
  refine ok_ix rfl (show g + 1 < 2401 by omega) (by decide) ?_
  refine ok_le (sta (g + 1)) i (fun q => ok_zl ?_) (fun q => ?_) (hx := j8 (g + 1) (by omega))
  · have : i = sta (g + 1) := by omega
    subst this
    unfold f_Joined_isRing_J201
    refine ok_it (fun z => ok_mk (fun v hv => ?_)) (fun z => ok_it (fun y => ok_mk (fun v hv => ?_)) (fun y => ok_mk (fun v hv => ?_)))
    · rw [← fin v3 v4 v5 hR v hv]
      exact ⟨fun y => (by cases y), fun y => absurd z y.1⟩
    · rw [← fin v3 v4 v5 hR v hv]
      exact ⟨fun _ => ⟨z, y⟩, fun _ => rfl⟩
    · rw [← fin v3 v4 v5 hR v hv]
      exact ⟨fun t => (by cases t), fun t => absurd t.2 y⟩
  · obtain ⟨mi, mo⟩ := mlt i q
    have ma := nod_a (opF_n mo).1
    have e4 : nI (mem i) / 4 = nI (mem i / 4) := pk_div (d := 4) (by omega) (by decide) (by decide)
    have e5 : ir (nI (mem i)) 4 = nI (mem i % 4) := pk_rem (d := 4) (by omega) (by decide) (by decide)
    have fe : frm P W (mem i / 4 + 1) = frm P W (mem i / 4) + dgx P W (mem i) := rfl
    have fr := frm_le P W (mem i / 4 + 1)
    refine ok_ix rfl (show i < 2400 by omega) (by decide) ?_
    rw [j9 i (by omega), e4]
    refine ok_ix rfl (show mem i / 4 < 601 by omega) (by decide) ?_
    rw [c36 _ (by omega)]
    unfold f_Joined_isRing_L56
    refine ok_for (dgx P W (mem i)) (fun e (s : Int32 × Int32 × Int32 × Int32) => s.2.2.2 = nI (frm P W (mem i / 4) + e) ∧ RSt (dgx P W) sta mem g ins use i e s.1 s.2.1 s.2.2.1) (k0 := 0) ⟨rfl, hR⟩ (Nat.zero_le _) ?_ (by omega)
    rintro e ⟨v3, v4, v5, x⟩ - he ⟨ex, hR⟩
    have ex : x = nI (frm P W (mem i / 4) + e) := ex
    subst ex
    have hR : RSt (dgx P W) sta mem g ins use i e v3 v4 v5 := hR
    unfold f_Joined_isRing_B56
    rw [nI_1]
    refine ok_ix rfl (show mem i / 4 + 1 < 601 by omega) (by decide) ?_
    refine ok_le (frm P W (mem i / 4 + 1)) (frm P W (mem i / 4) + e) (fun q1 => ok_zl ?_) (fun q1 => ?_) (hx := c36 _ (by omega))
    · unfold f_Joined_isRing_J195
      refine ok_mk ⟨q, nI_1 i, RSt_nx ?_⟩
      rw [← show e = dgx P W (mem i) by omega]
      exact hR
    · have qe : e < dgx P W (mem i) := by omega
      obtain ⟨b1, b2, b3, b4, b5, b6, b7⟩ := movA hP hN hL hC.1 (show mem i / 4 < N by omega) qe
      obtain ⟨c1, c2, c3⟩ := cea_sp qe
      have cr := psb_r c2
      have go : ∀ t0 : Bool, (t0 = true ↔ ins i e) → ok (f_Joined_isRing_J105 (nI g) b v3 v4 v5 (nI i) (nI (mem i)) (nI (mem i / 4)) (nI (frm P W (mem i / 4) + e)) t0 m) (lp (lp (fun r => ∀ v, gp v = g + 1 → (r = true ↔ RgP P N W av v)) (fun s' : Int32 × Int32 × Int32 × Int32 => i < sta (g + 1) ∧ s'.2.2.2 = nI (i + 1) ∧ RSt (dgx P W) sta mem g ins use (i + 1) 0 s'.1 s'.2.1 s'.2.2.1)) (fun s' : Int32 × Int32 × Int32 × Int32 => e < dgx P W (mem i) ∧ s'.2.2.2 = nI (frm P W (mem i / 4) + (e + 1)) ∧ RSt (dgx P W) sta mem g ins use i (e + 1) s'.1 s'.2.1 s'.2.2.1)) := by
        intro t0 h0
        unfold f_Joined_isRing_J105 f_Joined_isRing_J186 f_Joined_isRing_J189
        refine ok_eb b6 ?_
        rw [e5]
        refine ok_ee (cea P (W (mem i / 4)) e % 4) (mem i % 4) (fun z => ?_) (fun z => ok_mk ⟨qe, nI_1 _, RSt_no hR hi0 qe h0 (fun r hr => z hr.1)⟩)
        refine ok_eb b5 (ok_ix rfl (show cea P (W (mem i / 4)) e / 4 < 16 by omega) (by decide) ?_)
        have f0 : m.1 (b + 7 + cea P (W (mem i / 4)) e / 4) 0 = nI (tF P (cea P (W (mem i / 4)) e / 4) 0) := ht.2.2.1 _ cr.1 0 (by decide)
        have fb := (tV_F hP cr.1).1
        refine ok_ee (tF P (cea P (W (mem i / 4)) e / 4) 0) 0 (fun y => ?_) (fun y => ok_mk ⟨qe, nI_1 _, RSt_no hR hi0 qe h0 (fun r hr => y (by rw [hr.2.1]; exact hr.2.2))⟩) (hx := f0)
        have hu : ∀ r, use i e r ↔ r = cea P (W (mem i / 4)) e / 4 := fun r => ⟨fun t => t.2.1.symm, fun t => by rw [t]; exact ⟨z, rfl, y⟩⟩
        refine ok_eb b5 ?_
        refine ok_tf (fun t => ok_eb b5 (ok_mk ⟨qe, nI_1 _, RSt_ye hR hi0 qe h0 hu (by omega) (by rw [if_pos t])⟩)) (fun t => ok_mk ⟨qe, nI_1 _, RSt_ye hR hi0 qe h0 hu (by omega) (by rw [t]; rfl)⟩)
      have bnd : ∀ t, nda P 16 N W av (mem i) (cea P (W (mem i / 4)) e) = t + 1 → t < 4 * N := fun t ht => (nda_sp hP hL mi ma c1 ht).1
      have xb : nda P 16 N W av (mem i) (cea P (W (mem i / 4)) e) < 2 ^ 31 := by
        rcases Nat.eq_zero_or_pos (nda P 16 N W av (mem i) (cea P (W (mem i / 4)) e)) with z | z
        · omega
        · have := bnd (nda P 16 N W av (mem i) (cea P (W (mem i / 4)) e) - 1) (by omega)
          omega
      refine ok_eb (nextF (w := 16) hP hN hL (Or.inl ⟨rfl, rfl⟩) hC hav mi ma qe) ?_
      unfold f_Joined_isRing_J104
      refine ok_mm (nda P 16 N W av (mem i) (cea P (W (mem i / 4)) e)) (fun z => go false ⟨fun y => (by cases y), fun ⟨t, y, _⟩ => ?_⟩) (fun z => ?_)
      · unfold xdF at y; omega
      · obtain ⟨t, et⟩ : ∃ t, nda P 16 N W av (mem i) (cea P (W (mem i / 4)) e) = t + 1 := ⟨nda P 16 N W av (mem i) (cea P (W (mem i / 4)) e) - 1, by omega⟩
        have tb' := bnd t et
        rw [et, nI_pred]
        have gtl : gp t ≤ G := by
          by_cases z : gp t = 0
          · omega
          · exact (j1.1 t z).2.2
        refine ok_ix rfl (show t < 2400 by omega) (by decide) ?_
        rw [j7 t tb']
        have eg : nI (gp t) - 1 = nI g ↔ gp t = g + 1 := by
          rw [← nI_pred g]
          exact sd_eq (by omega) (by omega)
        refine ok_it (fun y => go true ⟨fun _ => ⟨t, et, eg.mp y⟩, fun _ => rfl⟩) (fun y => go false ⟨fun s => (by cases s), fun ⟨t', y1, y2⟩ => ?_⟩)
        unfold xdF at y1
        rw [← show t = t' by omega] at y2
        exact absurd (eg.mpr y2) y
