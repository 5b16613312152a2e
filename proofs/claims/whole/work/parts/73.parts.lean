/-- numbers of classes by their first ones -/
def fwp (sm : Nat → Nat → Bool) (w : Nat) : Nat := fi (fun u => sm u w) (w + 1)
def isf (sm : Nat → Nat → Bool) (w : Nat) : Bool := decide (fwp sm w = w)
def pno (sm : Nat → Nat → Bool) (w : Nat) : Nat := cn (isf sm) (fwp sm w)
def eqv (sm : Nat → Nat → Bool) : Prop := (∀ u, sm u u = true) ∧ (∀ u v, sm u v = true → sm v u = true) ∧ ∀ u v w, sm u v = true → sm v w = true → sm u w = true
theorem fwp_sp {sm : Nat → Nat → Bool} (h : eqv sm) (w : Nat) : fwp sm w ≤ w ∧ sm (fwp sm w) w = true ∧ ∀ u, u < fwp sm w → sm u w = false := by
  obtain ⟨a, b, c⟩ := fi_ex (p := fun u => sm u w) (n := w + 1) (k := w) (by omega) (h.1 w)
  exact ⟨c, b, (fi_sp (fun u => sm u w) (w + 1)).2.1⟩
theorem fwp_same {sm : Nat → Nat → Bool} (h : eqv sm) {u w : Nat} (e : sm u w = true) : fwp sm u = fwp sm w := by
  have key : ∀ u w, sm u w = true → ¬ fwp sm u < fwp sm w := by
    intro u w e z
    obtain ⟨a1, a2, a3⟩ := fwp_sp h u
    obtain ⟨b1, b2, b3⟩ := fwp_sp h w
    have := b3 _ z
    rw [h.2.2 _ _ _ a2 e] at this
    cases this
  have k1 := key u w e
  have k2 := key w u (h.2.1 _ _ e)
  omega
theorem isf_fwp {sm : Nat → Nat → Bool} (h : eqv sm) (w : Nat) : isf sm (fwp sm w) = true := decide_eq_true (fwp_same h (fwp_sp h w).2.1)
theorem pno_same {sm : Nat → Nat → Bool} (h : eqv sm) {u w : Nat} (e : sm u w = true) : pno sm u = pno sm w := by unfold pno; rw [fwp_same h e]
theorem pno_in {sm : Nat → Nat → Bool} (h : eqv sm) {u w : Nat} (e : pno sm u = pno sm w) : sm u w = true := by
  have k := cn_un (isf_fwp h u) (isf_fwp h w) e
  have a := (fwp_sp h u).2.1
  have b := (fwp_sp h w).2.1
  rw [k] at a
  exact h.2.2 _ _ _ (h.2.1 _ _ a) b
theorem pno_lt {sm : Nat → Nat → Bool} (h : eqv sm) {w n : Nat} (hw : w < n) : pno sm w < cn (isf sm) n := by
  have a := (fwp_sp h w).1
  have := cn_ms (p := isf sm) (show fwp sm w + 1 ≤ n by omega)
  rw [cn_s1 (isf_fwp h w)] at this
  unfold pno
  omega
theorem pno_f {sm : Nat → Nat → Bool} {w : Nat} (h : isf sm w = true) : pno sm w = cn (isf sm) w := by
  unfold pno
  rw [of_decide_eq_true h]
/-- moves between worlds -/
def EWo (P : Nat → Nat) (N : Nat) (W : Nat → Nat) (i j : Nat) : Prop := i < N ∧ ∃ c, c < 64 ∧ nxw P 16 N W i c = j + 1
theorem nxw_nz {P : Nat → Nat} {w N : Nat} {W : Nat → Nat} {i c : Nat} : nxw P w N W i c ≠ 0 ↔ psb P (W i) c = true ∧ c / 4 ≠ w := by
  unfold nxw psb
  by_cases q : c / 4 = w
  · rw [if_pos q]; exact ⟨fun z => absurd rfl z, fun z => absurd q z.2⟩
  · rw [if_neg q]
    cases sP P (W i) c with
    | none => exact ⟨fun z => absurd rfl z, fun z => (by cases z.1)⟩
    | some y => exact ⟨fun _ => ⟨rfl, q⟩, fun _ => by show _ + 1 ≠ 0; omega⟩
noncomputable def smw (P : Nat → Nat) (N : Nat) (W : Nat → Nat) (u v : Nat) : Bool := cBo (Sco (EWo P N W) u v)
theorem smw_iff {P : Nat → Nat} {N : Nat} {W : Nat → Nat} {u v : Nat} : smw P N W u v = true ↔ Sco (EWo P N W) u v := cBo_iff
theorem smw_eqv {P : Nat → Nat} {N : Nat} {W : Nat → Nat} : eqv (smw P N W) := by
  refine ⟨fun u => smw_iff.mpr ⟨Rc_rf, Rc_rf⟩, fun u v h => smw_iff.mpr ?_, fun u v w h h' => smw_iff.mpr ?_⟩
  · have := smw_iff.mp h
    exact ⟨this.2, this.1⟩
  · have a := smw_iff.mp h
    have b := smw_iff.mp h'
    exact ⟨Rc_tr a.1 b.1, Rc_tr b.2 a.2⟩
theorem TEd_0 {P : Nat → Nat} {N u x : Nat} {W : Nat → Nat} (hu : u < N) : TEd (fun v => op0 v = true) (dgx P W) (xd0 P N W) (4 * u) x ↔ ∃ j, x = 4 * j ∧ EWo P N W u j := by
  have e4 : 4 * u / 4 = u := by omega
  constructor
  · rintro ⟨_, e, h1, h2⟩
    unfold dgx at h1
    unfold xd0 at h2
    rw [e4] at h1 h2
    obtain ⟨c1, c2, c3⟩ := cea_sp h1
    have nz := (nxw_nz (w := 16) (N := N)).mpr ⟨c2, by omega⟩
    exact ⟨nxw P 16 N W u (cea P (W u) e) - 1, by omega, hu, _, c1, by omega⟩
  · rintro ⟨j, rfl, _, c, h1, h2⟩
    have ps := (nxw_nz (P := P) (w := 16) (N := N) (W := W) (i := u) (c := c)).mp (by omega)
    obtain ⟨k1, k2⟩ := cea_cn h1 ps.1
    refine ⟨decide_eq_true (by omega), cn (psb P (W u)) c, ?_, ?_⟩
    · unfold dgx; rw [e4]; exact k1
    · unfold xd0; rw [e4, k2, h2]; omega
theorem EW_lt {P : Nat → Nat} {N i j : Nat} {W D : Nat → Nat} (hL : Lst (Ed P 16) (wx0 P) N W D) (h : EWo P N W i j) : j < N := by
  obtain ⟨h1, c, h2, h3⟩ := h
  have := nxw_le (w := 16) hL h1 h2
  omega
theorem Rc_0 {P : Nat → Nat} {N u v : Nat} {W D : Nat → Nat} (hL : Lst (Ed P 16) (wx0 P) N W D) (hu : u < N) : Rc (TEd (fun v => op0 v = true) (dgx P W) (xd0 P N W)) (4 * u) (4 * v) ↔ Rc (EWo P N W) u v := by
  constructor
  · rintro ⟨d, h⟩
    have : ∀ d x, Rn (TEd (fun v => op0 v = true) (dgx P W) (xd0 P N W)) (4 * u) d x → ∃ j, x = 4 * j ∧ j < N ∧ Rn (EWo P N W) u d j := by
      intro d
      induction d with
      | zero => intro x hx; exact ⟨u, hx, hu, rfl⟩
      | succ d ih =>
        rintro x ⟨y, h1, h2⟩
        obtain ⟨j, rfl, j1, j2⟩ := ih y h1
        obtain ⟨k, k1, k2⟩ := (TEd_0 j1).mp h2
        exact ⟨k, k1, EW_lt hL k2, j, j2, k2⟩
    obtain ⟨j, j1, _, j2⟩ := this d _ h
    exact ⟨d, by rw [show v = j by omega]; exact j2⟩
  · rintro ⟨d, h⟩
    have : ∀ d x, Rn (EWo P N W) u d x → Rn (TEd (fun v => op0 v = true) (dgx P W) (xd0 P N W)) (4 * u) d (4 * x) := by
      intro d
      induction d with
      | zero => intro x hx; have hx : x = u := hx; rw [hx]; rfl
      | succ d ih =>
        rintro x ⟨y, h1, h2⟩
        exact ⟨4 * y, ih y h1, (TEd_0 h2.1).mpr ⟨x, rfl, h2⟩⟩
    exact ⟨d, this d v h⟩
theorem gp_smw {P : Nat → Nat} {N G u v : Nat} {W D gp : Nat → Nat} (hL : Lst (Ed P 16) (wx0 P) N W D) (hJ : JGr (fun v => op0 v = true) (dgx P W) (xd0 P N W) (4 * N) gp G) (hu : u < N) (hv : v < N) : gp (4 * u) = gp (4 * v) ↔ smw P N W u v = true := by
  have a := hJ.2.1 (4 * u) (by omega) (decide_eq_true (by omega))
  have b := hJ.2.1 (4 * v) (by omega) (decide_eq_true (by omega))
  rw [smw_iff, JGr_iff hJ a b, Rc_0 hL hu, Rc_0 hL hv]
  exact Iff.rfl
theorem G_le {P : Nat → Nat} {N G : Nat} {W gp : Nat → Nat} (hJ : JGr (fun v => op0 v = true) (dgx P W) (xd0 P N W) (4 * N) gp G) (hi : inh gp G) : G ≤ N := by
  have ex : ∀ t, ∃ v, t < G → gp v = t + 1 := by
    intro t
    by_cases q : t < G
    · obtain ⟨v, e⟩ := hi (t + 1) (by omega) (by omega)
      exact ⟨v, fun _ => e⟩
    · exact ⟨0, fun z => absurd z q⟩
  have g := fun t => Classical.choose_spec (ex t)
  have nd : ∀ t, t < G → Classical.choose (ex t) < 4 * N ∧ Classical.choose (ex t) % 4 = 0 := fun t ht => by
    have := hJ.1 _ (show gp (Classical.choose (ex t)) ≠ 0 by have := g t ht; omega)
    exact ⟨this.1, of_decide_eq_true this.2.1⟩
  refine pigeon (fun t => Classical.choose (ex t) / 4) (fun t ht => by have := nd t ht; omega) (fun t t' h1 h2 e => ?_)
  have a := g t h1
  have b := g t' h2
  have n1 := nd t h1
  have n2 := nd t' h2
  have e : Classical.choose (ex t) / 4 = Classical.choose (ex t') / 4 := e
  have : Classical.choose (ex t) = Classical.choose (ex t') := by omega
  rw [this, b] at a
  omega
/-- no move leads out of the part -/
def endQ (P : Nat → Nat) (N : Nat) (W : Nat → Nat) (k : Nat) : Prop := ∀ w, w < N → pno (smw P N W) w = k → ∀ c, c < 64 → nxw P 16 N W w c ≠ 0 → pno (smw P N W) (nxw P 16 N W w c - 1) = k
/-- the class's parts -/
def PXm (P : Nat → Nat) (N : Nat) (W : Nat → Nat) (m : zM) : Prop := m.1 116 3 = nI (cn (isf (smw P N W)) N) ∧ (∀ w, w < N → m.1 117 w = nI (pno (smw P N W) w)) ∧ (∀ k, k < cn (isf (smw P N W)) N → m.1 118 k = nI (cn (fun u => decide (pno (smw P N W) u = k)) N) ∧ m.1 120 k = b2i (cBo (endQ P N W k))) ∧ ∀ u, u < N → isf (smw P N W) u = true → m.1 119 (cn (isf (smw P N W)) u) = nI u
def PFr (m0 m : zM) : Prop := fl2 [117, 118, 119, 120, 121, 130, 131, 132, 133, 134, 135, 136, 137] [(116, 3), (129, 1), (129, 2), (129, 3), (129, 4), (129, 13), (129, 14), (129, 15)] m0 m
theorem partsX {P : Nat → Nat} {N : Nat} {W D pr sp : Nat → Nat} {m : zM} (hP : tV P) (hN : N ≤ 600) (hL : Lst (Ed P 16) (wx0 P) N W D) (hA : AXm P N W D pr sp m) : ok (f_Study_findParts m) (fun p => PFr m p ∧ PXm P N W p) := by
  unfold f_Study_findParts
  refine ok_bi (join0 hP hN hL hA) (fun p1 ⟨h1, h2, gp, sta, mem, G, j1, j2, j3, j4, j5, j6, j7, j8, j9⟩ => ?_)
  refine ok_bi (fillX (c := 121) (x := -1) (by decide)) (fun p2 ⟨c1, c2⟩ => ok_lt ?_)
  have gN := G_le j1 j2
  have f3 : PFr m (sI p2 116 3 0) := fl2_tr (fl2_su h1 (by decide)) (fl2_tr (fl2_su c2 (by decide)) (fl2_I (inS_f (by simp))))
  have gw : ∀ w, w < N → gp (4 * w) ≠ 0 ∧ gp (4 * w) ≤ G := fun w hw => by
    have a := j1.2.1 (4 * w) (by omega) (decide_eq_true (by omega))
    exact ⟨a, (j1.1 _ a).2.2⟩
  have E := smw_eqv (P := P) (N := N) (W := W)
  have gs := fun u v hu hv => gp_smw (u := u) (v := v) hL j1 hu hv
  generalize hsm : smw P N W = sm at E gs
  have r130 : ∀ w, w < N → (sI p2 116 3 0).1 130 (4 * w) = nI (gp (4 * w) - 1) := fun w hw => by
    rw [rd_I0 (by omega), fl2_i c2 (by simp [inS]), j7 (4 * w) (by omega)]
    exact nI_pr (by have := gw w hw; omega)
  unfold f_Study_findParts_L25
  refine ok_for N (fun w (s : Int32 × zM) => s.1 = nI w ∧ fl2 [117, 118, 119, 120, 121] [(116, 3)] (sI p2 116 3 0) s.2 ∧ s.2.1 116 3 = nI (cn (isf sm) w) ∧ (∀ u, u < w → s.2.1 117 u = nI (pno sm u) ∧ s.2.1 121 (gp (4 * u) - 1) = nI (pno sm u)) ∧ (∀ g, g < 600 → (∀ u, u < w → gp (4 * u) - 1 ≠ g) → s.2.1 121 g = -1) ∧ (∀ k, k < cn (isf sm) w → s.2.1 118 k = nI (cn (fun u => decide (pno sm u = k)) w) ∧ s.2.1 120 k = 1) ∧ ∀ u, u < w → isf sm u = true → s.2.1 119 (cn (isf sm) u) = nI u) (k0 := 0) ⟨rfl, fl2_rf, rd_I1 _ _ _ _, fun u hu => absurd hu (Nat.not_lt_zero _), fun g hg _ => ?_, fun k hk => absurd hk (Nat.not_lt_zero _), fun u hu => absurd hu (Nat.not_lt_zero _)⟩ (Nat.zero_le _) ?_
  · show (sI p2 116 3 0).1 121 g = -1
    rw [rd_I0 (by omega)]; exact c1 g hg
  rintro w ⟨x, m1⟩ - hw ⟨e, f1, g1, g2, g3, g4, g5⟩
  have e : x = nI w := e
  subst e
  have f1 : fl2 [117, 118, 119, 120, 121] [(116, 3)] (sI p2 116 3 0) m1 := f1
  have g1 : m1.1 116 3 = nI (cn (isf sm) w) := g1
  have g2 : ∀ u, u < w → m1.1 117 u = nI (pno sm u) ∧ m1.1 121 (gp (4 * u) - 1) = nI (pno sm u) := g2
  have g3 : ∀ g, g < 600 → (∀ u, u < w → gp (4 * u) - 1 ≠ g) → m1.1 121 g = -1 := g3
  have g4 : ∀ k, k < cn (isf sm) w → m1.1 118 k = nI (cn (fun u => decide (pno sm u = k)) w) ∧ m1.1 120 k = 1 := g4
  have g5 : ∀ u, u < w → isf sm u = true → m1.1 119 (cn (isf sm) u) = nI u := g5
  have C1 : CxG P N W D pr sp 0 (-1) (-1) m1 := CxG_fl h2 (fl2_tr (S := [117, 118, 119, 120, 121]) (F := [(116, 3)]) (fl2_tr (fl2_su c2 (by decide)) (fl2_I (inS_f (by simp)))) f1) (by decide) (by decide)
  have cw := cn_le (isf sm) w
  unfold f_Study_findParts_B25
  refine ok_le N w (fun q => ok_zl ?_) (fun q => ?_) (hx := C1.1.1.1.1)
  · have : w = N := by omega
    subst this
    have c36 := C1.1.2.2.1
    -- which parts are ends
    unfold f_Study_findParts_J141 f_Study_findParts_L143
    refine ok_for w (fun i (s : Int32 × zM) => s.1 = nI i ∧ fl2 [120] [] m1 s.2 ∧ ∀ k, k < cn (isf sm) w → ∃ b : Bool, s.2.1 120 k = b2i b ∧ (b = true ↔ ∀ u, u < i → pno sm u = k → ∀ c, c < 64 → nxw P 16 w W u c ≠ 0 → pno sm (nxw P 16 w W u c - 1) = k)) (k0 := 0) ⟨rfl, fl2_rf, fun k hk => ⟨true, (g4 k hk).2, fun _ u hu => absurd hu (Nat.not_lt_zero _), fun _ => rfl⟩⟩ (Nat.zero_le _) ?_
    rintro i ⟨x, m2⟩ - hi ⟨e, f2, a1⟩
    have e : x = nI i := e
    subst e
    have f2 : fl2 [120] [] m1 m2 := f2
    have C2 := CxG_fl C1 f2 (by decide) (by decide)
    unfold f_Study_findParts_B143
    refine ok_le w i (fun q1 => ok_mk ⟨?_, ?_, fun u hu => ?_, fun k hk => ⟨?_, ?_⟩, fun u hu hf => ?_⟩) (fun q1 => ?_) (hx := C2.1.1.1.1)
    · exact fl2_tr f3 (fl2_tr (fl2_su f1 (by decide)) (fl2_su f2 (by decide)))
    · rw [hsm, fl2_i f2 (by decide)]; exact g1
    · rw [hsm, fl2_i f2 (by simp [inS])]; exact (g2 u hu).1
    · rw [hsm] at hk ⊢
      rw [fl2_i f2 (by simp [inS])]; exact (g4 k hk).1
    · rw [hsm] at hk
      obtain ⟨b, b1, b2⟩ := a1 k hk
      have b1 : m2.1 120 k = b2i b := b1
      rw [b1]
      congr 1
      refine cBo_of (b2.trans ?_)
      unfold endQ
      rw [hsm, show i = w by omega]
    · rw [hsm] at hf ⊢
      rw [fl2_i f2 (by simp [inS])]; exact g5 u hu hf
    · have pi := pno_lt (n := w) E q1
      have c36' := C2.1.2.2.1
      refine ok_ix rfl (show i < 601 by omega) (by decide) ?_
      rw [c36' i (by omega)]
      have fr := frm_le P W (i + 1)
      have fe : frm P W (i + 1) = frm P W i + cn (psb P (W i)) 64 := rfl
      unfold f_Study_findParts_L164
      refine ok_for (cn (psb P (W i)) 64) (fun e (s : Int32 × zM) => s.1 = nI (frm P W i + e) ∧ fl2 [120] [] m1 s.2 ∧ (∀ k, k < cn (isf sm) w → k ≠ pno sm i → s.2.1 120 k = m2.1 120 k) ∧ ∃ b : Bool, s.2.1 120 (pno sm i) = b2i b ∧ (b = true ↔ (∀ u, u < i → pno sm u = pno sm i → ∀ c, c < 64 → nxw P 16 w W u c ≠ 0 → pno sm (nxw P 16 w W u c - 1) = pno sm i) ∧ ∀ e', e' < e → pno sm (nxw P 16 w W i (cea P (W i) e') - 1) = pno sm i)) (k0 := 0) ⟨rfl, f2, fun _ _ _ => rfl, ?_⟩ (Nat.zero_le _) ?_ (by omega)
      · obtain ⟨b, b1, b2⟩ := a1 _ pi
        exact ⟨b, b1, b2.trans ⟨fun z => ⟨z, fun e' he' => absurd he' (Nat.not_lt_zero _)⟩, fun z => z.1⟩⟩
      rintro e ⟨x, m3⟩ - he ⟨ex, f3', d1, b, d2, d3⟩
      have ex : x = nI (frm P W i + e) := ex
      subst ex
      have f3' : fl2 [120] [] m1 m3 := f3'
      have d1 : ∀ k, k < cn (isf sm) w → k ≠ pno sm i → m3.1 120 k = m2.1 120 k := d1
      have d2 : m3.1 120 (pno sm i) = b2i b := d2
      have C3 := CxG_fl C1 f3' (by decide) (by decide)
      unfold f_Study_findParts_B164 f_Study_findParts_J213
      rw [nI_1]
      refine ok_ix rfl (show i + 1 < 601 by omega) (by decide) ?_
      refine ok_le (frm P W (i + 1)) (frm P W i + e) (fun q2 => ok_zl ?_) (fun q2 => ?_) (hx := C3.1.2.2.1 _ (by omega))
      · unfold f_Study_findParts_J219
        refine ok_mk ⟨q1, nI_1 i, f3', fun k hk => ?_⟩
        by_cases u : k = pno sm i
        · refine ⟨b, by rw [u]; exact d2, d3.trans ⟨fun z u' hu' hp c hc hn => ?_, fun z => ⟨fun u' hu' hp c hc hn => ?_, fun e' he' => ?_⟩⟩⟩
          · rw [u] at hp ⊢
            by_cases y : u' = i
            · rw [y] at hn ⊢
              have ps := nxw_nz.mp hn
              obtain ⟨k1, k2⟩ := cea_cn hc ps.1
              have := z.2 (cn (psb P (W i)) c) (by omega)
              rwa [k2] at this
            · exact z.1 u' (by omega) hp c hc hn
          · have := z u' (by omega) (by rw [u]; exact hp) c hc hn
            rwa [u] at this
          · obtain ⟨k1, k2, k3⟩ := cea_sp (P := P) (x := W i) (e := e') (by omega)
            have := z i (by omega) u.symm _ k1 (nxw_nz.mpr ⟨k2, by omega⟩)
            rwa [u] at this
        · obtain ⟨b', b1, b2⟩ := a1 k hk
          refine ⟨b', ?_, b2.trans ⟨fun z u' hu' hp => ?_, fun z u' hu' => z u' (by omega)⟩⟩
          · show m3.1 120 k = _
            rw [d1 k hk u]; exact b1
          · by_cases y : u' = i
            · rw [y] at hp; exact absurd hp.symm u
            · exact z u' (by omega) hp
      · have qe : e < cn (psb P (W i)) 64 := by omega
        obtain ⟨b1, b2, b3, b4, _⟩ := movA hP hN hL C3.1 q1 qe
        have tl : nxw P 16 w W i (cea P (W i) e) - 1 < w := by omega
        have r117 : ∀ u, u < w → m3.1 117 u = nI (pno sm u) := fun u hu => by rw [fl2_i f3' (by simp [inS])]; exact (g2 u hu).1
        have pt := pno_lt (n := w) E tl
        refine ok_eb b4 (ok_ix rfl (show nxw P 16 w W i (cea P (W i) e) - 1 < 600 by omega) (by decide) (ok_ix rfl (show i < 600 by omega) (by decide) ?_))
        refine ok_ee (pno sm (nxw P 16 w W i (cea P (W i) e) - 1)) (pno sm i) (fun z => ?_) (fun z => ?_) (hx := r117 _ tl) (hy := r117 _ q1)
        · refine ok_mk ⟨qe, nI_1 _, f3', d1, b, d2, d3.trans ⟨fun y => ⟨y.1, fun e' he' => ?_⟩, fun y => ⟨y.1, fun e' he' => y.2 e' (by omega)⟩⟩⟩
          by_cases t : e' = e
          · rw [t]; exact z
          · exact y.2 e' (by omega)
        · refine ok_ix rfl (show i < 600 by omega) (by decide) ?_
          rw [r117 _ q1]
          refine ok_ix rfl (show pno sm i < 600 by omega) (by decide) (ok_lt (ok_mk ⟨qe, nI_1 _, fl2_tr f3' (fl2_I (inS_c (by simp))), fun k hk hk' => ?_, false, rd_I1 _ _ _ _, fun y => (by cases y), fun y => absurd (y.2 e (by omega)) z⟩))
          show (sI m3 120 (pno sm i) (b2i false)).1 120 k = _
          rw [rd_I0 (by omega)]; exact d1 k hk hk'
  · obtain ⟨gw1, gw2⟩ := gw w q
    have e4 : nI w * 4 = nI (4 * w) := by rw [show (4 : Int32) = nI 4 from rfl, pk_mul, Nat.mul_comm]
    have r130' : m1.1 130 (4 * w) = nI (gp (4 * w) - 1) := by rw [fl2_i f1 (by simp [inS])]; exact r130 w q
    have gi : gp (4 * w) - 1 < 600 := by omega
    have pw := pno_lt (n := w + 1) E (Nat.lt_succ_self w)
    have cw1 := cn_le (isf sm) (w + 1)
    rw [e4]
    refine ok_ix rfl (show 4 * w < 2400 by omega) (by decide) ?_
    rw [r130']
    refine ok_ix rfl gi (by decide) ?_
    -- the common end
    have fin : ∀ m2 : zM, fl2 [117, 118, 119, 120, 121] [(116, 3)] (sI p2 116 3 0) m2 → m2.1 116 3 = nI (cn (isf sm) (w + 1)) → (∀ u, u < w → m2.1 117 u = nI (pno sm u) ∧ m2.1 121 (gp (4 * u) - 1) = nI (pno sm u)) → m2.1 121 (gp (4 * w) - 1) = nI (pno sm w) → (∀ g, g < 600 → (∀ u, u < w + 1 → gp (4 * u) - 1 ≠ g) → m2.1 121 g = -1) → (∀ k, k < cn (isf sm) (w + 1) → m2.1 118 k = nI (cn (fun u => decide (pno sm u = k)) w) ∧ m2.1 120 k = 1) → (∀ u, u < w + 1 → isf sm u = true → m2.1 119 (cn (isf sm) u) = nI u) → ok (f_Study_findParts_J108 (nI w) (nI (gp (4 * w) - 1)) m2) (lp (fun p => PFr m p ∧ PXm P N W p) (fun s' : Int32 × zM => w < N ∧ s'.1 = nI (w + 1) ∧ fl2 [117, 118, 119, 120, 121] [(116, 3)] (sI p2 116 3 0) s'.2 ∧ s'.2.1 116 3 = nI (cn (isf sm) (w + 1)) ∧ (∀ u, u < w + 1 → s'.2.1 117 u = nI (pno sm u) ∧ s'.2.1 121 (gp (4 * u) - 1) = nI (pno sm u)) ∧ (∀ g, g < 600 → (∀ u, u < w + 1 → gp (4 * u) - 1 ≠ g) → s'.2.1 121 g = -1) ∧ (∀ k, k < cn (isf sm) (w + 1) → s'.2.1 118 k = nI (cn (fun u => decide (pno sm u = k)) (w + 1)) ∧ s'.2.1 120 k = 1) ∧ ∀ u, u < w + 1 → isf sm u = true → s'.2.1 119 (cn (isf sm) u) = nI u)) := by
      intro m2 f2 a1 a2 a3 a4 a5 a6
      unfold f_Study_findParts_J108
      refine ok_ix rfl gi (by decide) (ok_ix rfl (show w < 600 by omega) (by decide) (ok_lt (ok_ix rfl (show w < 600 by omega) (by decide) ?_)))
      rw [a3]
      have e117 : (sI m2 117 w (nI (pno sm w))).1 117 w = nI (pno sm w) := rd_I1 _ _ _ _
      rw [e117]
      refine ok_ix rfl (show pno sm w < 600 by omega) (by decide) (ok_ix rfl (show pno sm w < 600 by omega) (by decide) (ok_lt ?_))
      rw [show (sI m2 117 w (nI (pno sm w))).1 118 (pno sm w) = nI (cn (fun u => decide (pno sm u = pno sm w)) w) by rw [rd_I0 (by omega)]; exact (a5 _ pw).1, nI_1 (cn (fun u => decide (pno sm u = pno sm w)) w)]
      refine ok_mk ⟨q, nI_1 w, fl2_tr f2 (fl2_tr (fl2_I (inS_c (by simp))) (fl2_I (inS_c (by simp)))), ?_, fun u hu => ?_, fun g h3 h4 => ?_, fun k hk => ?_, fun u hu hf => ?_⟩
      · show (sI (sI m2 117 w (nI (pno sm w))) 118 (pno sm w) _).1 116 3 = _
        rw [rd_I0 (by omega), rd_I0 (by omega)]; exact a1
      · show (sI (sI m2 117 w (nI (pno sm w))) 118 (pno sm w) _).1 117 u = _ ∧ (sI (sI m2 117 w (nI (pno sm w))) 118 (pno sm w) _).1 121 _ = _
        by_cases z : u = w
        · rw [z]
          refine ⟨?_, ?_⟩
          · rw [rd_I0 (by omega), rd_I1]
          · rw [rd_I0 (by omega), rd_I0 (by omega)]; exact a3
        · refine ⟨?_, ?_⟩
          · rw [rd_I0 (by omega), rd_I0 (by omega)]; exact (a2 u (by omega)).1
          · rw [rd_I0 (by omega), rd_I0 (by omega)]; exact (a2 u (by omega)).2
      · show (sI (sI m2 117 w (nI (pno sm w))) 118 (pno sm w) _).1 121 g = _
        rw [rd_I0 (by omega), rd_I0 (by omega)]; exact a4 g h3 h4
      · show (sI (sI m2 117 w (nI (pno sm w))) 118 (pno sm w) (nI (cn (fun u => decide (pno sm u = pno sm w)) w + 1))).1 118 k = _ ∧ (sI (sI m2 117 w (nI (pno sm w))) 118 (pno sm w) _).1 120 k = _
        rw [rd_I0 (k := 120) (by omega), rd_I0 (k := 120) (by omega)]
        refine ⟨?_, (a5 k hk).2⟩
        by_cases z : k = pno sm w
        · rw [z, rd_I1, cn_s1 (p := fun u => decide (pno sm u = pno sm w)) (decide_eq_true rfl)]
        · rw [rd_I0 (by omega), rd_I0 (by omega), (a5 k hk).1, cn_s0 (p := fun u => decide (pno sm u = k)) (decide_eq_false (fun y => z y.symm))]
      · show (sI (sI m2 117 w (nI (pno sm w))) 118 (pno sm w) _).1 119 _ = _
        rw [rd_I0 (by omega), rd_I0 (by omega)]; exact a6 u hu hf
    by_cases ex : ∃ u, u < w ∧ gp (4 * u) = gp (4 * w)
    · obtain ⟨u, u1, u2⟩ := ex
      have sm1 := (gs u w (by omega) q).mp u2
      have p1 := pno_same E sm1
      have r121 : m1.1 121 (gp (4 * w) - 1) = nI (pno sm w) := by rw [← u2, (g2 u u1).2, p1]
      have nf : isf sm w = false := decide_eq_false (fun z => by
        have := (fwp_sp E u).1
        rw [fwp_same E sm1] at this
        omega)
      refine ok_in (by rw [r121]; exact nI_ne_m1 (by omega)) ?_
      refine fin m1 f1 (by rw [cn_s0 nf]; exact g1) g2 r121 (fun g h3 h4 => g3 g h3 (fun u hu => h4 u (by omega))) (by rw [cn_s0 nf]; exact g4) (fun u hu hf => ?_)
      by_cases z : u = w
      · rw [z, nf] at hf; cases hf
      · exact g5 u (by omega) hf
    · have ne : ∀ u, u < w → gp (4 * u) - 1 ≠ gp (4 * w) - 1 := fun u hu z => ex ⟨u, hu, by have := gw u (by omega); omega⟩
      have nsm : ∀ u, u < w → sm u w = false := fun u hu => by
        cases es : sm u w with
        | false => rfl
        | true => exact absurd ⟨u, hu, (gs u w (by omega) q).mpr es⟩ ex
      have fw : fwp sm w = w := fi_eq (by omega) (E.1 w) nsm
      have yf : isf sm w = true := decide_eq_true fw
      have pk : pno sm w = cn (isf sm) w := pno_f yf
      refine ok_ip (g3 _ gi ne) (ok_ix rfl gi (by decide) (ok_lt ?_))
      rw [g1]
      have kl : cn (isf sm) w < 600 := by omega
      refine ok_ix (show (sI m1 121 (gp (4 * w) - 1) (nI (cn (isf sm) w))).1 116 3 = nI (cn (isf sm) w) by rw [rd_I0 (by omega)]; exact g1) kl (by decide) (ok_lt ?_)
      refine ok_ix (show (sI (sI m1 121 (gp (4 * w) - 1) (nI (cn (isf sm) w))) 119 (cn (isf sm) w) (nI w)).1 116 3 = nI (cn (isf sm) w) by rw [rd_I0 (by omega), rd_I0 (by omega)]; exact g1) kl (by decide) (ok_lt ?_)
      refine ok_ix (show (sI (sI (sI m1 121 (gp (4 * w) - 1) (nI (cn (isf sm) w))) 119 (cn (isf sm) w) (nI w)) 118 (cn (isf sm) w) 0).1 116 3 = nI (cn (isf sm) w) by rw [rd_I0 (by omega), rd_I0 (by omega), rd_I0 (by omega)]; exact g1) kl (by decide) (ok_lt (ok_lt ?_))
      rw [show (sI (sI (sI (sI m1 121 (gp (4 * w) - 1) (nI (cn (isf sm) w))) 119 (cn (isf sm) w) (nI w)) 118 (cn (isf sm) w) 0) 120 (cn (isf sm) w) (b2i true)).1 116 3 = nI (cn (isf sm) w) by rw [rd_I0 (by omega), rd_I0 (by omega), rd_I0 (by omega), rd_I0 (by omega)]; exact g1, nI_1, ← cn_s1 yf]
      refine fin _ (fl2_tr f1 (fl2_tr (fl2_I (inS_c (by simp))) (fl2_tr (fl2_I (inS_c (by simp))) (fl2_tr (fl2_I (inS_c (by simp))) (fl2_tr (fl2_I (inS_c (by simp))) (fl2_I (inS_f (by simp)))))))) (rd_I1 _ _ _ _) (fun u hu => ?_) ?_ (fun g h3 h4 => ?_) (fun k hk => ?_) (fun u hu hf => ?_)
      · rw [rd_I0 (by omega), rd_I0 (by omega), rd_I0 (by omega), rd_I0 (by omega), rd_I0 (by omega), rd_I0 (by omega), rd_I0 (by omega), rd_I0 (by omega), rd_I0 (by omega), rd_I0 (fun z => ne u hu z.2)]
        exact g2 u hu
      · rw [rd_I0 (by omega), rd_I0 (by omega), rd_I0 (by omega), rd_I0 (by omega), rd_I1, pk]
      · rw [rd_I0 (by omega), rd_I0 (by omega), rd_I0 (by omega), rd_I0 (by omega), rd_I0 (fun z => h4 w (by omega) z.2.symm)]
        exact g3 g h3 (fun u hu => h4 u (by omega))
      · rw [rd_I0 (by omega), rd_I0 (by omega), rd_I0 (k := 120) (by omega)]
        by_cases z : k = cn (isf sm) w
        · rw [z, rd_I1, rd_I1]
          refine ⟨?_, rfl⟩
          rw [show cn (fun u => decide (pno sm u = cn (isf sm) w)) w = 0 from ?_]
          · rfl
          · rw [cn_cg (q := fun _ => false) (fun u hu => decide_eq_false (fun y => ?_)), cn_non]
            have := pno_lt (n := w) E hu
            omega
        · rw [cn_s1 yf] at hk
          rw [rd_I0 (by omega), rd_I0 (by omega), rd_I0 (by omega), rd_I0 (by omega), rd_I0 (by omega), rd_I0 (by omega), rd_I0 (by omega)]
          exact g4 k (by omega)
      · rw [rd_I0 (by omega), rd_I0 (by omega), rd_I0 (by omega)]
        by_cases z : u = w
        · rw [z, rd_I1]
        · have cu := cn_un (p := isf sm) hf yf
          rw [rd_I0 (fun y => z (cu y.2)), rd_I0 (by omega)]
          exact g5 u (by omega) hf
