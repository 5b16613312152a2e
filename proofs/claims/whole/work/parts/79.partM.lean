def RFr (m0 m : zM) : Prop := fl2 [34, 37, 38, 39, 40, 41, 42, 43, 47, 48, 49] [(0, 60), (0, 61), (0, 62), (0, 63)] m0 m
/-- the reference's parts -/
def PMm (P : Nat → Nat) (N : Nat) (W : Nat → Nat) (m : zM) : Prop := (∀ w, w < N → m.1 47 w = nI (pno (smw P N W) w)) ∧ ∀ u, u < N → isf (smw P N W) u = true → m.1 48 (cn (isf (smw P N W)) u) = nI u
theorem TEd_W {P : Nat → Nat} {N u t : Nat} {W : Nat → Nat} (hu : u < N) : TEd (fun _ => true = true) (fun _ => 64) (edO (fun _ => true) (nxw P 16 N W)) u t ↔ EWo P N W u t := by
  have e : ∀ c, edO (fun _ => true) (nxw P 16 N W) u c = nxw P 16 N W u c := fun c => by
    unfold edO
    by_cases q : nxw P 16 N W u c = 0
    · rw [if_neg (fun z => z.1 q), q]
    · rw [if_pos ⟨q, rfl⟩]
  constructor
  · rintro ⟨_, c, h1, h2⟩
    exact ⟨hu, c, h1, by rw [← e]; exact h2⟩
  · rintro ⟨_, c, h1, h2⟩
    exact ⟨rfl, c, h1, by rw [e]; exact h2⟩
theorem Rc_W {P : Nat → Nat} {N u v : Nat} {W D : Nat → Nat} (hL : Lst (Ed P 16) (wx0 P) N W D) (hu : u < N) : Rc (TEd (fun _ => true = true) (fun _ => 64) (edO (fun _ => true) (nxw P 16 N W))) u v ↔ Rc (EWo P N W) u v := by
  constructor
  · rintro ⟨d, h⟩
    have : ∀ d x, Rn (TEd (fun _ => true = true) (fun _ => 64) (edO (fun _ => true) (nxw P 16 N W))) u d x → x < N ∧ Rn (EWo P N W) u d x := by
      intro d
      induction d with
      | zero => intro x hx; have hx : x = u := hx; rw [hx]; exact ⟨hu, rfl⟩
      | succ d ih =>
        rintro x ⟨y, h1, h2⟩
        obtain ⟨y1, y2⟩ := ih y h1
        have e := (TEd_W y1).mp h2
        exact ⟨EW_lt hL e, y, y2, e⟩
    exact ⟨d, (this d v h).2⟩
  · rintro ⟨d, h⟩
    have : ∀ d x, Rn (EWo P N W) u d x → x < N ∧ Rn (TEd (fun _ => true = true) (fun _ => 64) (edO (fun _ => true) (nxw P 16 N W))) u d x := by
      intro d
      induction d with
      | zero => intro x hx; have hx : x = u := hx; rw [hx]; exact ⟨hu, rfl⟩
      | succ d ih =>
        rintro x ⟨y, h1, h2⟩
        obtain ⟨y1, y2⟩ := ih y h1
        exact ⟨EW_lt hL h2, y, y2, (TEd_W y1).mpr h2⟩
    exact ⟨d, (this d v h).2⟩
theorem partManyM {P : Nat → Nat} {N : Nat} {W D : Nat → Nat} {m : zM} (hP : tV P) (hL : LMx P 16 N W D m) : ok (f_MO_partMany m) (fun p => RFr m p.2 ∧ p.1 = nI (cn (isf (smw P N W)) N) ∧ PMm P N W p.2) := by
  obtain ⟨l1, l2, l3, l4, l5⟩ := id hL
  unfold f_MO_partMany f_MO_partMany_L2
  refine ok_for N (fun k (s : Int32 × zM) => s.1 = nI k ∧ fl2 [34] [] m s.2 ∧ ∀ i, i < k → s.2.1 34 i = b2i true) ⟨rfl, fl2_rf, fun i hi => absurd hi (Nat.not_lt_zero _)⟩ (Nat.zero_le _) ?_
  rintro k ⟨x, m1⟩ - hk ⟨e, f1, g1⟩
  have e : x = nI k := e
  subst e
  have f1 : fl2 [34] [] m m1 := f1
  have g1 : ∀ i, i < k → m1.1 34 i = b2i true := g1
  have c41 : m1.1 0 41 = nI N := by rw [fl2_i f1 (by decide)]; exact l4.1
  unfold f_MO_partMany_B2
  refine ok_le N k (fun q => ok_zl ?_) (fun q => ?_) (hx := c41)
  · have : k = N := by omega
    subst this
    unfold f_MO_partMany_J23
    rw [c41]
    refine ok_bi (joinsM (opb := fun _ => true) (rw' := nxw P 16 k W) (by omega) (Or.inl rfl) (show 64 * k ≤ zlen gM 30 from (show 64 * k ≤ 38912 by omega)) (by decide) (fun v hv e he => ⟨by rw [fl2_i f1 (by simp [inS])]; exact l5 v hv e he, nxw_le l3 hv he⟩) g1) (fun p3 ⟨h1, gp, G, h2, h3, h4, h5, h6⟩ => ?_)
    have E := smw_eqv (P := P) (N := k) (W := W)
    have gw : ∀ w, w < k → gp w ≠ 0 ∧ gp w ≤ G := fun w hw => by
      have a := h2.2.1 w hw rfl
      exact ⟨a, (h2.1 _ a).2.2⟩
    have gs : ∀ u v, u < k → v < k → (gp u = gp v ↔ smw P k W u v = true) := fun u v hu hv => by
      rw [smw_iff, JGr_iff h2 (gw u hu).1 (gw v hv).1]
      exact and_congr (Rc_W l3 hu) (Rc_W l3 hv)
    generalize hsm : smw P k W = sm at E gs
    have c41' : p3.1 0 41 = nI k := by rw [fl2_i h1 (by decide)]; exact c41
    have f3 : RFr m p3 := fl2_tr (fl2_su f1 (by decide)) (fl2_su h1 (by decide))
    unfold f_MO_partMany_L37
    refine ok_for G (fun g (s : Int32 × zM) => s.1 = nI g ∧ fl2 [49] [] p3 s.2 ∧ ∀ i, i < g → s.2.1 49 i = -1) ⟨rfl, fl2_rf, fun i hi => absurd hi (Nat.not_lt_zero _)⟩ (Nat.zero_le _) ?_
    rintro g ⟨x, m2⟩ - hg ⟨e, f2, a1⟩
    have e : x = nI g := e
    subst e
    have f2 : fl2 [49] [] p3 m2 := f2
    have a1 : ∀ i, i < g → m2.1 49 i = -1 := a1
    unfold f_MO_partMany_B37
    refine ok_le G g (fun q1 => ok_zl ?_) (fun q1 => ?_) (hx := show m2.1 0 63 = nI G by rw [fl2_i f2 (by decide)]; exact h5)
    · unfold f_MO_partMany_J58 f_MO_partMany_L62
      refine ok_for k (fun w (s : Int32 × Int32 × zM) => s.2.1 = nI w ∧ s.1 = nI (cn (isf sm) w) ∧ fl2 [47, 48, 49] [] p3 s.2.2 ∧ (∀ u, u < w → s.2.2.1 47 u = nI (pno sm u) ∧ s.2.2.1 49 (gp u - 1) = nI (pno sm u)) ∧ (∀ i, i < G → (∀ u, u < w → gp u - 1 ≠ i) → s.2.2.1 49 i = -1) ∧ ∀ u, u < w → isf sm u = true → s.2.2.1 48 (cn (isf sm) u) = nI u) (k0 := 0) ⟨rfl, rfl, fl2_su f2 (by decide), fun u hu => absurd hu (Nat.not_lt_zero _), fun i hi _ => a1 i (by omega), fun u hu => absurd hu (Nat.not_lt_zero _)⟩ (Nat.zero_le _) ?_
      rintro w ⟨y, x, m3⟩ - hw ⟨e1, e2, f3', g2, g3, g5⟩
      have e1 : x = nI w := e1
      have e2 : y = nI (cn (isf sm) w) := e2
      subst e1
      subst e2
      have f3' : fl2 [47, 48, 49] [] p3 m3 := f3'
      have g2 : ∀ u, u < w → m3.1 47 u = nI (pno sm u) ∧ m3.1 49 (gp u - 1) = nI (pno sm u) := g2
      have g3 : ∀ i, i < G → (∀ u, u < w → gp u - 1 ≠ i) → m3.1 49 i = -1 := g3
      have g5 : ∀ u, u < w → isf sm u = true → m3.1 48 (cn (isf sm) u) = nI u := g5
      have cw := cn_le (isf sm) w
      unfold f_MO_partMany_B62
      refine ok_le k w (fun q2 => ?_) (fun q2 => ?_) (hx := show m3.1 0 41 = nI k by rw [fl2_i f3' (by decide)]; exact c41')
      · have : w = k := by omega
        subst this
        refine ok_mk ⟨fl2_tr f3 (fl2_su f3' (by decide)), rfl, fun u hu => ?_, fun u hu hf => ?_⟩
        · rw [hsm]; exact (g2 u hu).1
        · rw [hsm] at hf ⊢; exact g5 u hu hf
      · obtain ⟨gw1, gw2⟩ := gw w q2
        have w2 : w < 2432 := by omega
        have r37 : ∀ S : zM, fl2 [47, 48, 49] [] p3 S → S.1 37 w = nI (gp w - 1) := fun S hS => by
          rw [fl2_i hS (by simp [inS]), h6 w q2]; exact nI_pr (by omega)
        have gi : gp w - 1 < 2432 := by omega
        have pw := pno_lt (n := w + 1) E (Nat.lt_succ_self w)
        have cw1 := cn_le (isf sm) (w + 1)
        refine ok_ix rfl w2 (by decide) ?_
        rw [r37 m3 f3']
        refine ok_ix rfl gi (by decide) ?_
        have fin : ∀ m4 : zM, fl2 [47, 48, 49] [] p3 m4 → (∀ u, u < w → m4.1 47 u = nI (pno sm u) ∧ m4.1 49 (gp u - 1) = nI (pno sm u)) → m4.1 49 (gp w - 1) = nI (pno sm w) → (∀ i, i < G → (∀ u, u < w + 1 → gp u - 1 ≠ i) → m4.1 49 i = -1) → (∀ u, u < w + 1 → isf sm u = true → m4.1 48 (cn (isf sm) u) = nI u) → ok (f_MO_partMany_J107 (nI (cn (isf sm) (w + 1))) (nI w) m4) (lp (fun p : Int32 × zM => RFr m p.2 ∧ p.1 = nI (cn (isf sm) k) ∧ PMm P k W p.2) (fun s' : Int32 × Int32 × zM => w < k ∧ s'.2.1 = nI (w + 1) ∧ s'.1 = nI (cn (isf sm) (w + 1)) ∧ fl2 [47, 48, 49] [] p3 s'.2.2 ∧ (∀ u, u < w + 1 → s'.2.2.1 47 u = nI (pno sm u) ∧ s'.2.2.1 49 (gp u - 1) = nI (pno sm u)) ∧ (∀ i, i < G → (∀ u, u < w + 1 → gp u - 1 ≠ i) → s'.2.2.1 49 i = -1) ∧ ∀ u, u < w + 1 → isf sm u = true → s'.2.2.1 48 (cn (isf sm) u) = nI u)) := by
          intro m4 f4 b1 b2 b3 b4
          unfold f_MO_partMany_J107
          refine ok_ix rfl w2 (by decide) ?_
          rw [r37 m4 f4]
          refine ok_ix rfl gi (by decide) (ok_ix rfl (show w < 608 by omega) (by decide) (ok_lt ?_))
          rw [b2]
          refine ok_mk ⟨q2, nI_1 w, rfl, fl2_tr f4 (fl2_I (inS_c (by simp))), fun u hu => ?_, fun i h7 h8 => ?_, fun u hu hf => ?_⟩
          · show (sI m4 47 w (nI (pno sm w))).1 47 u = _ ∧ (sI m4 47 w (nI (pno sm w))).1 49 _ = _
            rw [rd_I0 (k := 49) (by omega)]
            by_cases z : u = w
            · rw [z, rd_I1]; exact ⟨rfl, b2⟩
            · rw [rd_I0 (by omega)]; exact b1 u (by omega)
          · show (sI m4 47 w (nI (pno sm w))).1 49 i = _
            rw [rd_I0 (by omega)]; exact b3 i h7 h8
          · show (sI m4 47 w (nI (pno sm w))).1 48 _ = _
            rw [rd_I0 (by omega)]; exact b4 u hu hf
        by_cases ex : ∃ u, u < w ∧ gp u = gp w
        · obtain ⟨u, u1, u2⟩ := ex
          have sm1 := (gs u w (by omega) q2).mp u2
          have r49 : m3.1 49 (gp w - 1) = nI (pno sm w) := by rw [← u2, (g2 u u1).2, pno_same E sm1]
          have nf : isf sm w = false := decide_eq_false (fun z => by
            have := (fwp_sp E u).1
            rw [fwp_same E sm1] at this
            omega)
          refine ok_in (by rw [r49]; exact nI_ne_m1 (by omega)) ?_
          rw [← cn_s0 nf]
          refine fin m3 f3' g2 r49 (fun i h7 h8 => g3 i h7 (fun u hu => h8 u (by omega))) (fun u hu hf => ?_)
          by_cases z : u = w
          · rw [z, nf] at hf; cases hf
          · exact g5 u (by omega) hf
        · have ne : ∀ u, u < w → gp u - 1 ≠ gp w - 1 := fun u hu z => ex ⟨u, hu, by have := gw u (by omega); omega⟩
          have nsm : ∀ u, u < w → sm u w = false := fun u hu => by
            cases es : sm u w with
            | false => rfl
            | true => exact absurd ⟨u, hu, (gs u w (by omega) q2).mpr es⟩ ex
          have yf : isf sm w = true := decide_eq_true (fi_eq (by omega) (E.1 w) nsm)
          have pk : pno sm w = cn (isf sm) w := pno_f yf
          refine ok_ip (g3 _ (by omega) ne) (ok_ix rfl w2 (by decide) ?_)
          rw [r37 m3 f3']
          refine ok_ix rfl gi (by decide) (ok_lt (ok_ix rfl (show cn (isf sm) w < 608 by omega) (by decide) (ok_lt ?_)))
          rw [nI_1, ← cn_s1 yf]
          refine fin _ (fl2_tr f3' (fl2_tr (fl2_I (inS_c (by simp))) (fl2_I (inS_c (by simp))))) (fun u hu => ?_) ?_ (fun i h7 h8 => ?_) (fun u hu hf => ?_)
          · rw [rd_I0 (by omega), rd_I0 (by omega), rd_I0 (by omega), rd_I0 (fun z => ne u hu z.2)]; exact g2 u hu
          · rw [rd_I0 (by omega), rd_I1, pk]
          · rw [rd_I0 (by omega), rd_I0 (fun z => h8 w (by omega) z.2.symm)]; exact g3 i h7 (fun u hu => h8 u (by omega))
          · by_cases z : u = w
            · rw [z, rd_I1]
            · have cu := cn_un (p := isf sm) hf yf
              rw [rd_I0 (fun y => z (cu y.2)), rd_I0 (by omega)]; exact g5 u (by omega) hf
    · refine ok_ix rfl (show g < 2432 by omega) (by decide) (ok_lt (ok_mk ⟨q1, nI_1 g, fl2_tr f2 (fl2_I (inS_c (by simp))), fun i hi => ?_⟩))
      show (sI m2 49 g (-1)).1 49 i = -1
      by_cases z : i = g
      · rw [z, rd_I1]
      · rw [rd_I0 (by omega)]; exact a1 i (by omega)
  · refine ok_ix rfl (show k < 2432 by omega) (by decide) (ok_lt (ok_mk ⟨q, nI_1 k, fl2_tr f1 (fl2_I (inS_c (by simp))), fun i hi => ?_⟩))
    show (sI m1 34 k (b2i true)).1 34 i = b2i true
    by_cases z : i = k
    · rw [z, rd_I1]
    · rw [rd_I0 (by omega)]; exact g1 i (by omega)
theorem isEndM {P : Nat → Nat} {N k : Nat} {W D : Nat → Nat} {m : zM} (hL : LMx P 16 N W D m) (hp : PMm P N W m) (hk : k < 2 ^ 31) : f_MO_isEnd (nI k) m = some (cBo (endQ P N W k)) := by
  obtain ⟨l1, l2, l3, l4, l5⟩ := id hL
  refine ok_eq.mp (ok_mo (K := fun r => r = true ↔ endQ P N W k) ?_ (fun r hr => cBo_of hr))
  have e64 : (64 : Int32) * m.1 0 41 = nI (64 * N) := by rw [l4.1, show (64 : Int32) = nI 64 from rfl, pk_mul]
  have E := smw_eqv (P := P) (N := N) (W := W)
  have pb : ∀ w, w < N → pno (smw P N W) w < 2 ^ 31 := fun w hw => by
    have := pno_lt (n := N) E hw
    have := cn_le (isf (smw P N W)) N
    omega
  unfold f_MO_isEnd f_MO_isEnd_L2
  refine ok_for (64 * N) (fun i (s : Int32) => s = nI i ∧ ∀ w c, 64 * w + c < i → w < N → c < 64 → pno (smw P N W) w = k → nxw P 16 N W w c ≠ 0 → pno (smw P N W) (nxw P 16 N W w c - 1) = k) ⟨rfl, fun w c h => absurd h (Nat.not_lt_zero _)⟩ (Nat.zero_le _) ?_
  rintro i x - hi ⟨rfl, g⟩
  unfold f_MO_isEnd_B2 f_MO_isEnd_J53
  refine ok_le (64 * N) i (fun q => ok_mk ⟨fun _ w hw hp' c hc hn => g w c (by omega) hw hc hp' hn, fun _ => rfl⟩) (fun q => ?_) (hx := e64)
  have wl : i / 64 < N := by omega
  have nxt : (pno (smw P N W) (i / 64) = k → nxw P 16 N W (i / 64) (i % 64) ≠ 0 → pno (smw P N W) (nxw P 16 N W (i / 64) (i % 64) - 1) = k) → ok (some (Sum.inr (nI i + 1))) (lp (fun r : Bool => r = true ↔ endQ P N W k) (fun s' : Int32 => i < 64 * N ∧ s' = nI (i + 1) ∧ ∀ w c, 64 * w + c < i + 1 → w < N → c < 64 → pno (smw P N W) w = k → nxw P 16 N W w c ≠ 0 → pno (smw P N W) (nxw P 16 N W w c - 1) = k)) := fun hz => ok_mk ⟨q, nI_1 i, fun w c h1 h2 h3 => by
    by_cases y : 64 * w + c = i
    · rw [show w = i / 64 by omega, show c = i % 64 by omega]; exact hz
    · exact g w c (by omega) h2 h3⟩
  rw [show nI i / 64 = nI (i / 64) from pk_div (d := 64) (by omega) (by decide) (by decide)]
  refine ok_ix rfl (show i / 64 < 608 by omega) (by decide) ?_
  have pbw := pb _ wl
  have nl := nxw_le (w := 16) l3 wl (show i % 64 < 64 by omega)
  have e30 : m.1 30 i = nI (nxw P 16 N W (i / 64) (i % 64)) - 1 := by
    have := l5 (i / 64) wl (i % 64) (by omega)
    rwa [show 64 * (i / 64) + i % 64 = i by omega] at this
  refine ok_ee (pno (smw P N W) (i / 64)) k (fun y => ?_) (fun y => nxt (fun z => absurd z y)) (hx := hp.1 _ wl)
  refine ok_ix rfl (show i < 38912 by omega) (by decide) ?_
  refine ok_mm (nxw P 16 N W (i / 64) (i % 64)) (fun z => nxt (fun _ h => absurd z h)) (fun z => ?_) (hx := e30)
  have tl : nxw P 16 N W (i / 64) (i % 64) - 1 < N := by omega
  have pbt := pb _ tl
  refine ok_ix rfl (show i < 38912 by omega) (by decide) (ok_ix (show m.1 30 i = nI (nxw P 16 N W (i / 64) (i % 64) - 1) by rw [e30]; exact nI_pr z) (show nxw P 16 N W (i / 64) (i % 64) - 1 < 608 by omega) (by decide) ?_)
  refine ok_ee (pno (smw P N W) (nxw P 16 N W (i / 64) (i % 64) - 1)) k (fun t => nxt (fun _ _ => t)) (fun t => ok_mk ⟨fun s => (by cases s), fun s => absurd (s (i / 64) wl y (i % 64) (by omega) (by omega)) t⟩) (hx := hp.1 _ tl)
