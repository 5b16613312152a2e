theorem gbt_an (x y : Int32) (r : Nat) (hr : r < 32) : gbt (x &&& (y ^^^ (-1))) r = (gbt x r && !gbt y r) := by
  show (x.toBitVec &&& (y.toBitVec ^^^ (-1 : Int32).toBitVec)).getLsbD r = _
  rw [BitVec.getLsbD_and, BitVec.getLsbD_xor]
  have : ∀ r, r < 32 → (-1 : Int32).toBitVec.getLsbD r = true := by decide +kernel
  rw [this r hr, Bool.xor_true]
  rfl
theorem an_0 {x y : Int32} : x &&& (y ^^^ (-1)) = 0 ↔ ∀ r, r < 32 → gbt x r = true → gbt y r = true := by
  constructor
  · intro h r hr hx
    have := gbt_an x y r hr
    rw [h, gbt_0, hx] at this
    cases e : gbt y r with
    | true => rfl
    | false => rw [e] at this; cases this
  · intro h
    refine gbt_x (fun r hr => ?_)
    rw [gbt_an x y r hr, gbt_0]
    cases e : gbt x r with
    | false => rfl
    | true => rw [h r hr e]; rfl
theorem RSt_id {dg sta mem : Nat → Nat} {g : Nat} {ins : Nat → Nat → Prop} {use : Nat → Nat → Nat → Prop} {i e : Nat} {a c d : Int32} (h : RSt dg sta mem g ins use i e a c d) (hi : sta g ≤ i) (he : e < dg (mem i)) (h0 : ¬ ins i e) (hu : ∀ r, ¬ use i e r) : RSt dg sta mem g ins use i (e + 1) a c d := by
  obtain ⟨⟨ag, e1, e2⟩, h2, h3⟩ := h
  refine ⟨⟨ag, e1, ?_⟩, fun r hr => ?_, fun r hr => ?_⟩
  · rw [Pzz_s hi he, e2]
    exact ⟨Or.inl, fun z => z.elim id (fun y => absurd y h0)⟩
  · rw [Pzz_s (Q := fun i' e' => use i' e' r) hi he, h2 r hr]
    exact ⟨Or.inl, fun z => z.elim id (fun y => absurd y (hu r))⟩
  · rw [Pzz_s (Q := fun i' e' => use i' e' r ∧ ins i' e') hi he, h3 r hr]
    exact ⟨Or.inl, fun z => z.elim id (fun y => absurd y.1 (hu r))⟩
theorem RSt_sk {dg sta mem : Nat → Nat} {g : Nat} {ins : Nat → Nat → Prop} {use : Nat → Nat → Nat → Prop} {i : Nat} {a c d : Int32} (h : RSt dg sta mem g ins use i 0 a c d) (hi : sta g ≤ i) (h0 : ∀ e, ¬ ins i e) (hu : ∀ e r, ¬ use i e r) : RSt dg sta mem g ins use (i + 1) 0 a c d := by
  have : ∀ e, e ≤ dg (mem i) → RSt dg sta mem g ins use i e a c d := by
    intro e
    induction e with
    | zero => intro _; exact h
    | succ e ih => intro he; exact RSt_id (ih (by omega)) hi (by omega) (h0 e) (hu e)
  exact RSt_nx (this _ (Nat.le_refl _))
theorem RSt_m {dg sta mem : Nat → Nat} {g : Nat} {ins : Nat → Nat → Prop} {use : Nat → Nat → Nat → Prop} {i e : Nat} {a a' c c' d d' : Int32} {t0 : Bool} (h : RSt dg sta mem g ins use i e a c d) (hi : sta g ≤ i) (he : e < dg (mem i)) (h0 : t0 = true ↔ ins i e) (ha : a' = if t0 = true then 1 else a) (hc : (c' = c ∧ d' = d ∧ ∀ r, ¬ use i e r) ∨ ∃ r0, r0 < 16 ∧ (∀ r, use i e r ↔ r = r0) ∧ c' = c ||| shl 1 (nI r0) ∧ d' = if t0 = true then d ||| shl 1 (nI r0) else d) : RSt dg sta mem g ins use i (e + 1) a' c' d' := by
  have A : ∃ ag : Bool, a' = b2i ag ∧ (ag = true ↔ ∃ i' e', Pzz dg sta mem g i (e + 1) i' e' ∧ ins i' e') := by
    obtain ⟨ag, e1, e2⟩ := RSt_a h hi he h0
    refine ⟨ag, ?_, e2⟩
    obtain ⟨ag', e3, _⟩ := h.1
    rw [← e1, ha, e3]
    cases t0 <;> cases ag' <;> decide
  rcases hc with ⟨h1, h2, h3⟩ | ⟨r0, h1, h2, h3, h4⟩
  · have k := RSt_no h hi he h0 h3
    rw [h1, h2]
    exact ⟨A, k.2⟩
  · have k := RSt_ye (x := if t0 = true then shl 1 (nI r0) else 0) h hi he h0 h2 h1 rfl
    refine ⟨A, by rw [h3]; exact k.2.1, ?_⟩
    have : d' = d ||| (if t0 = true then shl 1 (nI r0) else 0) := by
      rw [h4]
      cases t0 with
      | true => rw [if_pos rfl, if_pos rfl]
      | false => rw [if_neg (by decide), if_neg (by decide)]; exact gbt_x (fun r _ => by rw [gbt_or, gbt_0, Bool.or_false])
    rw [this]
    exact k.2.2
/-- the agent itself can use the rule, without the rule w -/
def usw (P : Nat → Nat) (w N : Nat) (W : Nat → Nat) (u r : Nat) : Prop := nde P w N W u (4 * r + u % 4) ≠ 0 ∧ tF P r 0 = 0
def RgQ (P : Nat → Nat) (w N : Nat) (W : Nat → Nat) (av v : Nat) : Prop := (∃ u t, Sco (EFo P w N W av) v u ∧ Sco (EFo P w N W av) v t ∧ EFo P w N W av u t) ∧ ∀ r, (∃ u, Sco (EFo P w N W av) v u ∧ usw P w N W u r) → ∃ u t, Sco (EFo P w N W av) v u ∧ Sco (EFo P w N W av) v t ∧ usw P w N W u r ∧ nda P w N W av u (4 * r + u % 4) = t + 1
theorem nde_nz {P : Nat → Nat} {w N u c : Nat} {W : Nat → Nat} : nde P w N W u c ≠ 0 ↔ psb P (W (u / 4)) c = true ∧ c / 4 ≠ w := by
  rw [← nxw_nz (N := N)]
  unfold nde
  by_cases q : nxw P w N W (u / 4) c = 0
  · rw [if_pos q]; exact ⟨fun z => absurd rfl z, fun z => absurd q z⟩
  · rw [if_neg q]; exact ⟨fun _ => q, fun _ => by omega⟩
theorem usw_16 {P : Nat → Nat} {N u r : Nat} {W : Nat → Nat} (h : P 8 ≤ 16) : usw P 16 N W u r ↔ usb P W u r := by
  unfold usw usb
  rw [nde_nz]
  refine and_congr ⟨fun z => z.1, fun z => ⟨z, ?_⟩⟩ Iff.rfl
  have := (psb_r z).1
  omega
theorem RgQ_16 {P : Nat → Nat} {N av v : Nat} {W : Nat → Nat} (h : P 8 ≤ 16) : RgQ P 16 N W av v ↔ RgP P N W av v := by
  unfold RgQ RgP
  refine and_congr Iff.rfl (forall_congr' fun r => ?_)
  constructor
  · intro k ⟨u, h1, h2⟩
    obtain ⟨u', t, a1, a2, a3, a4⟩ := k ⟨u, h1, (usw_16 h).mpr h2⟩
    exact ⟨u', t, a1, a2, (usw_16 h).mp a3, a4⟩
  · intro k ⟨u, h1, h2⟩
    obtain ⟨u', t, a1, a2, a3, a4⟩ := k ⟨u, h1, (usw_16 h).mp h2⟩
    exact ⟨u', t, a1, a2, (usw_16 h).mpr a3, a4⟩
theorem edO_nda {P : Nat → Nat} {w N v c av : Nat} {W D : Nat → Nat} (hP : tV P) (hL : Lst (Ed P w) (wx0 P) N W D) (hv : v < 4 * N) (ho : opF P W av v = true) (hc : c < 64) : edO (opF P W av) (ndn P w N W) v c = nda P w N W av v c := by
  have yn := (opF_n ho).1
  unfold edO ndn nda
  rw [if_pos yn]
  by_cases q : nde P w N W v c = 0
  · rw [if_neg (fun z => z.1 q), if_pos (Or.inl q)]
  · obtain ⟨n1, n2⟩ := nde_spW hP hL hv (nod_a yn) hc q
    cases ea : avd P W av (nde P w N W v c - 1) with
    | true =>
      rw [if_neg (fun z => ?_), if_pos (Or.inr rfl)]
      have := (opF_n z.2).2
      rw [ea] at this; cases this
    | false =>
      have ho' : opF P W av (nde P w N W v c - 1) = true := by unfold opF; rw [n2, ea]; rfl
      rw [if_pos ⟨q, ho'⟩, if_neg (fun z => by rcases z with z | z; exact q z; cases z)]
theorem TEd_M {P : Nat → Nat} {w N av u t : Nat} {W D : Nat → Nat} (hP : tV P) (hL : Lst (Ed P w) (wx0 P) N W D) (hu : u < 4 * N) : TEd (fun v => opF P W av v = true) (fun _ => 64) (edO (opF P W av) (ndn P w N W)) u t ↔ EFo P w N W av u t := by
  constructor
  · rintro ⟨h1, e, h2, h3⟩
    refine ⟨h1, e, h2, ?_⟩
    rw [← edO_nda hP hL hu h1 h2]; exact h3
  · rintro ⟨h1, e, h2, h3⟩
    refine ⟨h1, e, h2, ?_⟩
    rw [edO_nda hP hL hu h1 h2]; exact h3
theorem EF_lt {P : Nat → Nat} {w N av u t : Nat} {W D : Nat → Nat} (hP : tV P) (hL : Lst (Ed P w) (wx0 P) N W D) (hu : u < 4 * N) (h : EFo P w N W av u t) : t < 4 * N ∧ opF P W av t = true := by
  obtain ⟨h1, c, h2, h3⟩ := h
  rw [← edO_nda hP hL hu h1 h2] at h3
  unfold edO at h3
  split at h3
  · rename_i q
    rw [h3, Nat.add_sub_cancel] at q
    refine ⟨?_, q.2⟩
    unfold ndn at h3
    rw [if_pos (opF_n h1).1] at h3
    have := (nde_spW hP hL hu (nod_a (opF_n h1).1) h2 (by omega)).1
    omega
  · omega
theorem Rc_M {P : Nat → Nat} {w N av u t : Nat} {W D : Nat → Nat} (hP : tV P) (hL : Lst (Ed P w) (wx0 P) N W D) (hu : u < 4 * N) : Rc (TEd (fun v => opF P W av v = true) (fun _ => 64) (edO (opF P W av) (ndn P w N W))) u t ↔ Rc (EFo P w N W av) u t := by
  constructor
  · rintro ⟨d, h⟩
    have : ∀ d x, Rn (TEd (fun v => opF P W av v = true) (fun _ => 64) (edO (opF P W av) (ndn P w N W))) u d x → x < 4 * N ∧ Rn (EFo P w N W av) u d x := by
      intro d
      induction d with
      | zero => intro x hx; have hx : x = u := hx; rw [hx]; exact ⟨hu, rfl⟩
      | succ d ih =>
        rintro x ⟨y, h1, h2⟩
        obtain ⟨y1, y2⟩ := ih y h1
        have e := (TEd_M hP hL y1).mp h2
        exact ⟨(EF_lt hP hL y1 e).1, y, y2, e⟩
    exact ⟨d, (this d t h).2⟩
  · rintro ⟨d, h⟩
    have : ∀ d x, Rn (EFo P w N W av) u d x → x < 4 * N ∧ Rn (TEd (fun v => opF P W av v = true) (fun _ => 64) (edO (opF P W av) (ndn P w N W))) u d x := by
      intro d
      induction d with
      | zero => intro x hx; have hx : x = u := hx; rw [hx]; exact ⟨hu, rfl⟩
      | succ d ih =>
        rintro x ⟨y, h1, h2⟩
        obtain ⟨y1, y2⟩ := ih y h1
        exact ⟨(EF_lt hP hL y1 h2).1, y, y2, (TEd_M hP hL y1).mpr h2⟩
    exact ⟨d, (this d t h).2⟩
theorem ringsM {P : Nat → Nat} {w N av G : Nat} {W D gp : Nat → Nat} {m : zM} (hP : tV P) (ht : tM 23 P m) (hL : Lst (Ed P w) (wx0 P) N W D) (hN : N ≤ 600) (h41 : m.1 0 41 = nI N) (h31 : ∀ v, v < 4 * N → ∀ k, k < 64 → m.1 31 (64 * v + k) = nI (ndn P w N W v k) - 1) (h34 : ∀ v, v < 4 * N → m.1 34 v = b2i (opF P W av v)) (h36 : ∀ v, v < 4 * N → m.1 36 v = 0) (hJ : JGr (fun v => opF P W av v = true) (fun _ => 64) (edO (opF P W av) (ndn P w N W)) (4 * N) gp G) (hG : G ≤ 4 * N) (h63 : m.1 0 63 = nI G) (h37 : ∀ v, v < 4 * N → m.1 37 v = nI (gp v) - 1) : ok (f_MO_rings m) (fun p => fl2 [36, 44, 45, 46] [] m p ∧ ∀ v, v < 4 * N → p.1 36 v = b2i (opF P W av v && cBo (RgQ P w N W av v))) := by
  have r16 := hP.1.2.2.2.2.2.2.2.2.2.2.1
  have gof : ∀ v, v < 4 * N → opF P W av v = true → gp v ≠ 0 ∧ gp v ≤ G := fun v hv ho => by
    have a := hJ.2.1 v hv ho
    exact ⟨a, (hJ.1 v a).2.2⟩
  have gno : ∀ v, gp v ≠ 0 → v < 4 * N ∧ opF P W av v = true := fun v hv => ⟨(hJ.1 v hv).1, (hJ.1 v hv).2.1⟩
  have nb : ∀ v, v < 4 * N → ∀ k, k < 64 → ∀ t, ndn P w N W v k = t + 1 → t < 4 * N := by
    intro v hv k hk t h3
    unfold ndn at h3
    split at h3
    · rename_i y
      have := (nde_spW hP hL hv (nod_a y) hk (by omega)).1
      omega
    · omega
  let ins : Nat → Nat → Nat → Prop := fun g v k => gp v = g + 1 ∧ ∃ t, ndn P w N W v k = t + 1 ∧ gp t = gp v
  let use : Nat → Nat → Nat → Nat → Prop := fun g v k r => gp v = g + 1 ∧ ndn P w N W v k ≠ 0 ∧ k % 4 = v % 4 ∧ k / 4 = r ∧ tF P r 0 = 0
  -- a group's numbers at the end
  have fin : ∀ g a c d, RSt (fun _ => 64) (fun _ => 0) (fun i => i) 0 (ins g) (use g) (4 * N) 0 a c d → ∀ v, gp v = g + 1 → ((a ≠ 0 ∧ c &&& (d ^^^ (-1)) = 0) ↔ RgQ P w N W av v) := by
    intro g a c d h v hv
    obtain ⟨⟨ag, e1, e2⟩, h2, h3⟩ := h
    obtain ⟨vl, vo⟩ := gno v (by omega)
    have sc : ∀ u, gp u = g + 1 → Sco (EFo P w N W av) v u := fun u hu => by
      have := (JGr_iff hJ (show gp v ≠ 0 by omega) (show gp u ≠ 0 by omega)).mp (by omega)
      exact ⟨(Rc_M hP hL vl).mp this.1, (Rc_M hP hL (gno u (by omega)).1).mp this.2⟩
    have cs : ∀ u, Sco (EFo P w N W av) v u → gp u = g + 1 := fun u hu => by
      have r1 := (Rc_M hP hL vl).mpr hu.1
      have k := JGr_mo hJ (show gp v ≠ 0 by omega) r1
      have r2 := (Rc_M hP hL (gno u k.1).1).mpr hu.2
      rw [← hv]
      exact ((JGr_iff hJ (show gp v ≠ 0 by omega) k.1).mpr ⟨r1, r2⟩).symm
    have nd : ∀ u k t, gp u = g + 1 → k < 64 → ((ndn P w N W u k = t + 1 ∧ gp t = gp u) ↔ (nda P w N W av u k = t + 1 ∧ gp t = g + 1)) := by
      intro u k t hu hk
      obtain ⟨ul, uo⟩ := gno u (by omega)
      rw [← edO_nda hP hL ul uo hk, hu]
      unfold edO
      constructor
      · rintro ⟨y1, y2⟩
        rw [y1, Nat.add_sub_cancel, if_pos ⟨by omega, (gno t (by omega)).2⟩]
        exact ⟨rfl, y2⟩
      · rintro ⟨y1, y2⟩
        split at y1
        · exact ⟨y1, y2⟩
        · omega
    have A : ag = true ↔ ∃ u t, Sco (EFo P w N W av) v u ∧ Sco (EFo P w N W av) v t ∧ EFo P w N W av u t := by
      rw [e2]
      constructor
      · rintro ⟨u, k, ⟨p1, p2, p3⟩, p4, t, p5⟩
        obtain ⟨q1, q2⟩ := (nd u k t p4 p2).mp p5
        exact ⟨u, t, sc u p4, sc t q2, (gno u (by omega)).2, k, p2, q1⟩
      · rintro ⟨u, t, u1, u2, u3, k, u4, u5⟩
        have gu := cs u u1
        exact ⟨u, k, ⟨Nat.zero_le _, u4, Or.inl (gno u (by omega)).1⟩, gu, t, (nd u k t gu u4).mpr ⟨u5, cs t u2⟩⟩
    have us : ∀ u r, gp u = g + 1 → ((∃ k, k < 64 ∧ ndn P w N W u k ≠ 0 ∧ k % 4 = u % 4 ∧ k / 4 = r ∧ tF P r 0 = 0) ↔ usw P w N W u r) := by
      intro u r hu
      have yn := (opF_n (gno u (by omega)).2).1
      constructor
      · rintro ⟨k, k1, k2, k3, k4, k5⟩
        rw [show k = 4 * r + u % 4 by omega] at k2
        unfold ndn at k2
        rw [if_pos yn] at k2
        exact ⟨k2, k5⟩
      · rintro ⟨k2, k5⟩
        have := psb_r (nde_nz.mp k2).1
        refine ⟨4 * r + u % 4, by omega, ?_, by omega, by omega, k5⟩
        unfold ndn
        rw [if_pos yn]; exact k2
    have Cn : ∀ r, r < 32 → (gbt c r = true ↔ ∃ u, Sco (EFo P w N W av) v u ∧ usw P w N W u r) := by
      intro r hr
      rw [h2 r hr]
      constructor
      · rintro ⟨u, k, ⟨p1, p2, p3⟩, p4, p5⟩
        exact ⟨u, sc u p4, (us u r p4).mp ⟨k, p2, p5⟩⟩
      · rintro ⟨u, u1, u2⟩
        have gu := cs u u1
        obtain ⟨k, k1, k2⟩ := (us u r gu).mpr u2
        exact ⟨u, k, ⟨Nat.zero_le _, k1, Or.inl (gno u (by omega)).1⟩, gu, k2⟩
    have Dn : ∀ r, r < 32 → (gbt d r = true ↔ ∃ u t, Sco (EFo P w N W av) v u ∧ Sco (EFo P w N W av) v t ∧ usw P w N W u r ∧ nda P w N W av u (4 * r + u % 4) = t + 1) := by
      intro r hr
      rw [h3 r hr]
      constructor
      · rintro ⟨u, k, ⟨p1, p2, p3⟩, ⟨p4, p5⟩, _, t, p6⟩
        obtain ⟨q1, q2⟩ := (nd u k t p4 p2).mp p6
        refine ⟨u, t, sc u p4, sc t q2, (us u r p4).mp ⟨k, p2, p5⟩, ?_⟩
        rw [← show k = 4 * r + u % 4 by omega]; exact q1
      · rintro ⟨u, t, u1, u2, u3, u4⟩
        have gu := cs u u1
        obtain ⟨k, k1, k2⟩ := (us u r gu).mpr u3
        rw [← show k = 4 * r + u % 4 by omega] at u4
        exact ⟨u, k, ⟨Nat.zero_le _, k1, Or.inl (gno u (by omega)).1⟩, ⟨gu, k2⟩, gu, t, (nd u k t gu k1).mpr ⟨u4, cs t u2⟩⟩
    unfold RgQ
    rw [← A, an_0]
    have a1 : a ≠ 0 ↔ ag = true := by
      rw [e1]
      cases ag <;> decide
    rw [a1]
    refine and_congr Iff.rfl ⟨fun z r hu => ?_, fun z r hr y => (Dn r hr).mpr (z r ((Cn r hr).mp y))⟩
    have hr : r < 32 := by
      obtain ⟨u, u1, u2⟩ := hu
      have := (psb_r (nde_nz.mp u2.1).1).1
      omega
    exact (Dn r hr).mp (z r hr ((Cn r hr).mpr hu))
  unfold f_MO_rings f_MO_rings_L2
  refine ok_for G (fun k (s : Int32 × zM) => s.1 = nI k ∧ fl2 [44, 45, 46] [] m s.2 ∧ ∀ g, g < k → s.2.1 44 g = 0 ∧ s.2.1 45 g = 0 ∧ s.2.1 46 g = 0) ⟨rfl, fl2_rf, fun g hg => absurd hg (Nat.not_lt_zero _)⟩ (Nat.zero_le _) ?_
  rintro k ⟨x, m1⟩ - hk ⟨e, f1, g1⟩
  have e : x = nI k := e
  subst e
  have f1 : fl2 [44, 45, 46] [] m m1 := f1
  have g1 : ∀ g, g < k → m1.1 44 g = 0 ∧ m1.1 45 g = 0 ∧ m1.1 46 g = 0 := g1
  unfold f_MO_rings_B2
  refine ok_le G k (fun q => ok_zl ?_) (fun q => ?_) (hx := show m1.1 0 63 = nI G by rw [fl2_i f1 (by decide)]; exact h63)
  · have : k = G := by omega
    subst this
    unfold f_MO_rings_J37 f_MO_rings_L39
    refine ok_for (4 * N) (fun v (s : Int32 × zM) => s.1 = nI v ∧ fl2 [44, 45, 46] [] m s.2 ∧ ∀ g, g < k → RSt (fun _ => 64) (fun _ => 0) (fun i => i) 0 (ins g) (use g) v 0 (s.2.1 44 g) (s.2.1 45 g) (s.2.1 46 g)) (k0 := 0) ⟨rfl, f1, fun g hg => ?_⟩ (Nat.zero_le _) ?_
    · show RSt _ _ _ _ _ _ _ _ (m1.1 44 g) (m1.1 45 g) (m1.1 46 g)
      obtain ⟨z1, z2, z3⟩ := g1 g hg
      rw [z1, z2, z3]
      exact ⟨⟨false, rfl, fun z => (by cases z), fun ⟨i', e', ⟨p1, p2, p3⟩, _⟩ => by omega⟩, fun r _ => ⟨fun z => (by rw [gbt_0] at z; cases z), fun ⟨i', e', ⟨p1, p2, p3⟩, _⟩ => by omega⟩, fun r _ => ⟨fun z => (by rw [gbt_0] at z; cases z), fun ⟨i', e', ⟨p1, p2, p3⟩, _⟩ => by omega⟩⟩
    rintro v ⟨x, m2⟩ - hv ⟨e, f2, a1⟩
    have e : x = nI v := e
    subst e
    have f2 : fl2 [44, 45, 46] [] m m2 := f2
    have a1 : ∀ g, g < k → RSt (fun _ => 64) (fun _ => 0) (fun i => i) 0 (ins g) (use g) v 0 (m2.1 44 g) (m2.1 45 g) (m2.1 46 g) := a1
    have c41 : m2.1 0 41 = nI N := by rw [fl2_i f2 (by decide)]; exact h41
    unfold f_MO_rings_B39
    refine ok_le (4 * N) v (fun q1 => ok_zl ?_) (fun q1 => ?_) (hx := lookManyM c41)
    · have : v = 4 * N := by omega
      subst this
      unfold f_MO_rings_J82 f_MO_rings_L84
      refine ok_for (4 * N) (fun i (s : Int32 × zM) => s.1 = nI i ∧ fl2 [36] [] m2 s.2 ∧ (∀ u, u < i → s.2.1 36 u = b2i (opF P W av u && cBo (RgQ P w N W av u))) ∧ ∀ u, i ≤ u → s.2.1 36 u = m2.1 36 u) (k0 := 0) ⟨rfl, fl2_rf, fun u hu => absurd hu (Nat.not_lt_zero _), fun _ _ => rfl⟩ (Nat.zero_le _) ?_
      rintro i ⟨x, m3⟩ - hi ⟨e, f3, c1, c2⟩
      have e : x = nI i := e
      subst e
      have f3 : fl2 [36] [] m2 m3 := f3
      have c1 : ∀ u, u < i → m3.1 36 u = b2i (opF P W av u && cBo (RgQ P w N W av u)) := c1
      have c2 : ∀ u, i ≤ u → m3.1 36 u = m2.1 36 u := c2
      have r34 : ∀ u, u < 4 * N → m3.1 34 u = b2i (opF P W av u) := fun u hu => by rw [fl2_i f3 (by simp [inS]), fl2_i f2 (by simp [inS])]; exact h34 u hu
      have r37 : ∀ u, u < 4 * N → m3.1 37 u = nI (gp u) - 1 := fun u hu => by rw [fl2_i f3 (by simp [inS]), fl2_i f2 (by simp [inS])]; exact h37 u hu
      unfold f_MO_rings_B84 f_MO_rings_J146 f_MO_rings_J144
      refine ok_le (4 * N) i (fun q2 => ok_mk ⟨fl2_tr (fl2_su f2 (by decide)) (fl2_su f3 (by decide)), fun u hu => c1 u (by omega)⟩) (fun q2 => ?_) (hx := lookManyM (by rw [fl2_i f3 (by decide)]; exact c41))
      have i2 : i < 2432 := by omega
      refine ok_ix rfl i2 (by decide) ?_
      rw [r34 i q2]
      refine ok_it (fun y => ok_mk ⟨q2, nI_1 i, f3, fun u hu => ?_, fun u hu => c2 u (by omega)⟩) (fun y => ?_)
      · have y := b2i_0.mp y
        show m3.1 36 u = _
        by_cases z : u = i
        · rw [z, c2 i (Nat.le_refl _), fl2_i f2 (by simp [inS]), h36 i q2, y]; rfl
        · exact c1 u (by omega)
      · have yo : opF P W av i = true := by
          cases eo : opF P W av i with
          | true => rfl
          | false => exact absurd (b2i_0.mpr eo) y
        obtain ⟨y1, y2⟩ := gof i q2 yo
        have e37 : m3.1 37 i = nI (gp i - 1) := by rw [r37 i q2]; exact nI_pr (by omega)
        have gi2 : gp i - 1 < 2432 := by omega
        have ff := fin (gp i - 1) _ _ _ (a1 (gp i - 1) (by omega)) i (by omega)
        have r44 : m3.1 44 (gp i - 1) = m2.1 44 (gp i - 1) := fl2_i f3 (by simp [inS])
        have r45 : m3.1 45 (gp i - 1) = m2.1 45 (gp i - 1) := fl2_i f3 (by simp [inS])
        have r46 : m3.1 46 (gp i - 1) = m2.1 46 (gp i - 1) := fl2_i f3 (by simp [inS])
        have wr : ∀ t : Bool, (t = true ↔ RgQ P w N W av i) → ok (f_MO_rings_J145 (nI i) 36 (nI i) t m3) (lp (fun p => fl2 [36, 44, 45, 46] [] m p ∧ ∀ v, v < 4 * N → p.1 36 v = b2i (opF P W av v && cBo (RgQ P w N W av v))) (fun s' : Int32 × zM => i < 4 * N ∧ s'.1 = nI (i + 1) ∧ fl2 [36] [] m2 s'.2 ∧ (∀ u, u < i + 1 → s'.2.1 36 u = b2i (opF P W av u && cBo (RgQ P w N W av u))) ∧ ∀ u, i + 1 ≤ u → s'.2.1 36 u = m2.1 36 u)) := by
          intro t htt
          unfold f_MO_rings_J145 f_MO_rings_J146
          refine ok_ix rfl (show i < zlen gM 36 from i2) (by decide) (ok_lt (ok_mk ⟨q2, nI_1 i, fl2_tr f3 (fl2_I (inS_c (by simp))), fun u hu => ?_, fun u hu => ?_⟩))
          · show (sI m3 36 i (b2i t)).1 36 u = _
            by_cases z : u = i
            · rw [z, rd_I1, yo, cBo_of htt]; rfl
            · rw [rd_I0 (by omega)]; exact c1 u (by omega)
          · show (sI m3 36 i (b2i t)).1 36 u = _
            rw [rd_I0 (by omega)]; exact c2 u (by omega)
        refine ok_ix rfl i2 (by decide) ?_
        rw [e37]
        refine ok_ix rfl gi2 (by decide) ?_
        rw [r44]
        refine ok_it (fun z => wr false ⟨fun s => (by cases s), fun s => absurd z (ff.mpr s).1⟩) (fun z => ?_)
        refine ok_ix rfl gi2 (by decide) (ok_ix rfl gi2 (by decide) ?_)
        rw [r45, r46]
        refine ok_it (fun t => wr true ⟨fun _ => ff.mp ⟨z, t⟩, fun _ => rfl⟩) (fun t => wr false ⟨fun s => (by cases s), fun s => absurd (ff.mpr s).2 t⟩)
    · have v2 : v < 2432 := by omega
      have r34 : ∀ (S : zM), fl2 [44, 45, 46] [] m S → ∀ u, u < 4 * N → S.1 34 u = b2i (opF P W av u) := fun S hS u hu => by rw [fl2_i hS (by simp [inS])]; exact h34 u hu
      have r37 : ∀ (S : zM), fl2 [44, 45, 46] [] m S → ∀ u, u < 4 * N → S.1 37 u = nI (gp u) - 1 := fun S hS u hu => by rw [fl2_i hS (by simp [inS])]; exact h37 u hu
      refine ok_ix rfl v2 (by decide) ?_
      rw [r34 m2 f2 v q1]
      unfold f_MO_rings_J76
      refine ok_it (fun y => ok_mk ⟨q1, nI_1 v, f2, fun g hg => ?_⟩) (fun y => ?_)
      · have y := b2i_0.mp y
        have g0 : gp v = 0 := by
          by_cases z : gp v = 0
          · exact z
          · have := (gno v z).2; rw [y] at this; cases this
        exact RSt_sk (a1 g hg) (Nat.zero_le _) (fun e z => by have := z.1; omega) (fun e r z => by have := z.1; omega)
      · have yo : opF P W av v = true := by
          cases eo : opF P W av v with
          | true => rfl
          | false => exact absurd (b2i_0.mpr eo) y
        obtain ⟨y1, y2⟩ := gof v q1 yo
        unfold f_MO_rings_L58
        refine ok_for 64 (fun k' (s : Int32 × zM) => s.1 = nI k' ∧ fl2 [44, 45, 46] [] m s.2 ∧ ∀ g, g < k → RSt (fun _ => 64) (fun _ => 0) (fun i => i) 0 (ins g) (use g) v k' (s.2.1 44 g) (s.2.1 45 g) (s.2.1 46 g)) (k0 := 0) ⟨rfl, f2, a1⟩ (Nat.zero_le _) ?_
        rintro c ⟨x, m3⟩ - hc ⟨e, f3, b1⟩
        have e : x = nI c := e
        subst e
        have f3 : fl2 [44, 45, 46] [] m m3 := f3
        have b1 : ∀ g, g < k → RSt (fun _ => 64) (fun _ => 0) (fun i => i) 0 (ins g) (use g) v c (m3.1 44 g) (m3.1 45 g) (m3.1 46 g) := b1
        unfold f_MO_rings_B58 f_MO_rings_J76
        refine ok_le 64 c (fun q2 => ok_zl (ok_mk ⟨q1, nI_1 v, f3, fun g hg => RSt_nx (by have h := b1 g hg; rw [show c = 64 by omega] at h; exact h)⟩)) (fun q2 => ?_)
        refine ok_bi (G := fun p => fl2 [44, 45, 46] [] m p ∧ ∀ g, g < k → RSt (fun _ => 64) (fun _ => 0) (fun i => i) 0 (ins g) (use g) v (c + 1) (p.1 44 g) (p.1 45 g) (p.1 46 g)) ?_ (fun p hp => ok_mk ⟨q2, nI_1 c, hp.1, hp.2⟩)
        have ex : (64 : Int32) * nI v + nI c = nI (64 * v + c) := by rw [show (64 : Int32) = nI 64 from rfl, pk_mul, nI_add]
        have e31 : m3.1 31 (64 * v + c) = nI (ndn P w N W v c) - 1 := by rw [fl2_i f3 (by simp [inS])]; exact h31 v q1 c q2
        have e4 : nI c / 4 = nI (c / 4) := pk_div (d := 4) (by omega) (by decide) (by decide)
        have e5 : ir (nI c) 4 = nI (c % 4) := pk_rem (d := 4) (by omega) (by decide) (by decide)
        have e5v : ir (nI v) 4 = nI (v % 4) := pk_rem (d := 4) (by omega) (by decide) (by decide)
        have nbd : ndn P w N W v c < 2 ^ 31 := by
          rcases Nat.eq_zero_or_pos (ndn P w N W v c) with z | z
          · omega
          · have := nb v q1 c q2 (ndn P w N W v c - 1) (by omega)
            omega
        unfold f_MO_ringsBy
        rw [ex]
        refine ok_ix rfl (show 64 * v + c < 155648 by omega) (by decide) ?_
        refine ok_mm (ndn P w N W v c) (fun z => ok_mk ⟨f3, fun g hg => RSt_id (b1 g hg) (Nat.zero_le _) q2 (fun ⟨_, t, h1, _⟩ => by omega) (fun r h => h.2.1 z)⟩) (fun z => ?_) (hx := e31)
        obtain ⟨t, et⟩ : ∃ t, ndn P w N W v c = t + 1 := ⟨ndn P w N W v c - 1, by omega⟩
        have tb' := nb v q1 c q2 t et
        have t2 : t < 2432 := by omega
        have ym : psb P (W (v / 4)) c = true ∧ c / 4 ≠ w := by
          refine (nde_nz (N := N)).mp ?_
          unfold ndn at et
          rw [if_pos (opF_n yo).1] at et
          omega
        have cr := psb_r ym.1
        have gi : gp v - 1 < 2432 := by omega
        have e37 : m3.1 37 v = nI (gp v - 1) := by rw [r37 m3 f3 v q1]; exact nI_pr (by omega)
        -- what comes of it
        have go : ∀ t0 : Bool, (t0 = true ↔ gp t = gp v) → ok (f_MO_ringsBy_J51 (nI v) (nI c) (nI (gp v - 1)) t0 m3) (fun p => fl2 [44, 45, 46] [] m p ∧ ∀ g, g < k → RSt (fun _ => 64) (fun _ => 0) (fun i => i) 0 (ins g) (use g) v (c + 1) (p.1 44 g) (p.1 45 g) (p.1 46 g)) := by
          intro t0 h0
          have other : ∀ g, g ≠ gp v - 1 → (¬ ins g v c) ∧ ∀ r, ¬ use g v c r := fun g hg => ⟨fun z => hg (by have := z.1; omega), fun r z => hg (by have := z.1; omega)⟩
          have h0' : t0 = true ↔ ins (gp v - 1) v c := by
            rw [h0]
            exact ⟨fun z => ⟨by omega, t, et, z⟩, fun ⟨_, t', h1, h2⟩ => by rw [show t = t' by omega]; exact h2⟩
          have j66 : ∀ m4 : zM, fl2 [44, 45, 46] [] m m4 → (∀ g, g ≠ gp v - 1 → m4.1 44 g = m3.1 44 g) → (∀ g, m4.1 45 g = m3.1 45 g ∧ m4.1 46 g = m3.1 46 g) → m4.1 44 (gp v - 1) = (if t0 = true then 1 else m3.1 44 (gp v - 1)) → ok (f_MO_ringsBy_J66 (nI v) (nI c) (nI (gp v - 1)) t0 m4) (fun p => fl2 [44, 45, 46] [] m p ∧ ∀ g, g < k → RSt (fun _ => 64) (fun _ => 0) (fun i => i) 0 (ins g) (use g) v (c + 1) (p.1 44 g) (p.1 45 g) (p.1 46 g)) := by
            intro m4 f4 d1 d2 d3
            unfold f_MO_ringsBy_J66
            rw [e5, e5v, e4]
            have nouse : (∀ r, ¬ use (gp v - 1) v c r) → ok (some m4) (fun p => fl2 [44, 45, 46] [] m p ∧ ∀ g, g < k → RSt (fun _ => 64) (fun _ => 0) (fun i => i) 0 (ins g) (use g) v (c + 1) (p.1 44 g) (p.1 45 g) (p.1 46 g)) := by
              intro hu
              refine ok_mk ⟨f4, fun g hg => ?_⟩
              rw [(d2 g).1, (d2 g).2]
              by_cases s : g = gp v - 1
              · rw [s]; exact RSt_m (b1 _ (by omega)) (Nat.zero_le _) q2 h0' d3 (Or.inl ⟨rfl, rfl, hu⟩)
              · rw [d1 g s]; exact RSt_id (b1 g hg) (Nat.zero_le _) q2 (other g s).1 (other g s).2
            refine ok_ee (c % 4) (v % 4) (fun s => ?_) (fun s => nouse (fun r z => s z.2.2.1))
            refine ok_eb (ruleM (k := 0) (tM_r (tM_fl ht f4 (by decide)) cr.1) (by omega) (by decide)) ?_
            rw [show fI (tF P (c / 4)) 0 = nI (tF P (c / 4) 0) from rfl]
            have fb := (tV_F hP cr.1).1
            refine ok_ee (tF P (c / 4) 0) 1 (fun s1 => nouse (fun r z => by have := z.2.2.2.2; rw [← z.2.2.2.1] at this; omega)) (fun s1 => ?_)
            have hu : ∀ r, use (gp v - 1) v c r ↔ r = c / 4 := fun r => ⟨fun z => z.2.2.2.1.symm, fun z => by rw [z]; exact ⟨by omega, by omega, s, rfl, by omega⟩⟩
            refine ok_ix rfl gi (by decide) (ok_ix rfl gi (by decide) (ok_lt ?_))
            refine ok_tf (fun s2 => ?_) (fun s2 => ?_)
            · refine ok_ix rfl gi (by decide) (ok_ix rfl gi (by decide) (ok_lt (ok_mk ⟨fl2_tr f4 (fl2_tr (fl2_I (inS_c (by simp))) (fl2_I (inS_c (by simp)))), fun g hg => ?_⟩)))
              by_cases s3 : g = gp v - 1
              · rw [s3]
                refine RSt_m (b1 _ (by omega)) (Nat.zero_le _) q2 h0' ?_ (Or.inr ⟨c / 4, by omega, hu, ?_, ?_⟩)
                · rw [rd_I0 (by omega), rd_I0 (by omega)]; exact d3
                · rw [rd_I0 (by omega), rd_I1, (d2 _).1]
                · rw [rd_I1, rd_I0 (by omega), (d2 _).2, if_pos s2]
              · rw [rd_I0 (by omega), rd_I0 (by omega), rd_I0 (by omega), rd_I0 (by omega), rd_I0 (by omega), rd_I0 (by omega), d1 g s3, (d2 g).1, (d2 g).2]
                exact RSt_id (b1 g hg) (Nat.zero_le _) q2 (other g s3).1 (other g s3).2
            · refine ok_mk ⟨fl2_tr f4 (fl2_I (inS_c (by simp))), fun g hg => ?_⟩
              by_cases s3 : g = gp v - 1
              · rw [s3]
                refine RSt_m (b1 _ (by omega)) (Nat.zero_le _) q2 h0' ?_ (Or.inr ⟨c / 4, by omega, hu, ?_, ?_⟩)
                · rw [rd_I0 (by omega)]; exact d3
                · rw [rd_I1, (d2 _).1]
                · rw [rd_I0 (by omega), (d2 _).2, if_neg (by rw [s2]; decide)]
              · rw [rd_I0 (by omega), rd_I0 (by omega), rd_I0 (by omega), d1 g s3, (d2 g).1, (d2 g).2]
                exact RSt_id (b1 g hg) (Nat.zero_le _) q2 (other g s3).1 (other g s3).2
          unfold f_MO_ringsBy_J51
          refine ok_tf (fun s => ?_) (fun s => ?_)
          · refine ok_ix rfl gi (by decide) (ok_lt (j66 _ (fl2_tr f3 (fl2_I (inS_c (by simp)))) (fun g hg => rd_I0 (by omega)) (fun g => ⟨rd_I0 (by omega), rd_I0 (by omega)⟩) ?_))
            rw [rd_I1, if_pos s]; rfl
          · refine j66 m3 f3 (fun _ _ => rfl) (fun _ => ⟨rfl, rfl⟩) ?_
            rw [if_neg (by rw [s]; decide)]
        refine ok_ix rfl v2 (by decide) ?_
        rw [e31, et, nI_pred, e37]
        refine ok_ix rfl t2 (by decide) ?_
        rw [r34 m3 f3 t tb']
        unfold f_MO_ringsBy_J50
        refine ok_it (fun s => go false ⟨fun z => (by cases z), fun z => ?_⟩) (fun s => ?_)
        · have := (gno t (by omega)).2
          rw [b2i_0.mp s] at this; cases this
        · refine ok_ix rfl t2 (by decide) ?_
          rw [r37 m3 f3 t tb']
          have gtl : gp t ≤ k := by
            by_cases z : gp t = 0
            · omega
            · exact (hJ.1 t z).2.2
          have eg : nI (gp t) - 1 = nI (gp v - 1) ↔ gp t = gp v := by
            rw [← nI_pr (show 0 < gp v by omega)]
            exact sd_eq (by omega) (by omega)
          refine ok_it (fun z => go true ⟨fun _ => eg.mp z, fun _ => rfl⟩) (fun z => go false ⟨fun y => (by cases y), fun y => absurd (eg.mpr y) z⟩)
  · refine ok_ix rfl (show k < 2432 by omega) (by decide) (ok_lt (ok_ix rfl (show k < 2432 by omega) (by decide) (ok_lt (ok_ix rfl (show k < 2432 by omega) (by decide) (ok_lt (ok_mk ⟨q, nI_1 k, fl2_tr f1 (fl2_tr (fl2_I (inS_c (by simp))) (fl2_tr (fl2_I (inS_c (by simp))) (fl2_I (inS_c (by simp))))), fun g hg => ?_⟩))))))
    show (sI (sI (sI m1 44 k (b2i false)) 45 k 0) 46 k 0).1 44 g = _ ∧ (sI (sI (sI m1 44 k (b2i false)) 45 k 0) 46 k 0).1 45 g = _ ∧ (sI (sI (sI m1 44 k (b2i false)) 45 k 0) 46 k 0).1 46 g = _
    by_cases z : g = k
    · rw [z]
      refine ⟨?_, ?_, rd_I1 _ _ _ _⟩
      · rw [rd_I0 (by omega), rd_I0 (by omega), rd_I1]; rfl
      · rw [rd_I0 (by omega), rd_I1]
    · rw [rd_I0 (by omega), rd_I0 (by omega), rd_I0 (by omega), rd_I0 (by omega), rd_I0 (by omega), rd_I0 (by omega), rd_I0 (by omega), rd_I0 (by omega), rd_I0 (by omega)]
      exact g1 g (by omega)
