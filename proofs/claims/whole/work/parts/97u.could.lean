/-- the sight on both sides, as one -/
def SgB (P : Nat → Nat) (N : Nat) (W : Nat → Nat) (r s : Nat) (st mn : Nat → Nat) (mx mm : zM) : Prop := (s ≤ 6 ∧ (r = 0 → s = 0)) ∧ sigX r s st mn mx ∧ sigM r s st mn mm ∧ (mx.1 48 8 = -1 ∨ ∃ f, f < N ∧ mx.1 48 8 = nI f ∧ couX P N W r s st mn f mx)
theorem SgB_i {P : Nat → Nat} {N : Nat} {W : Nat → Nat} {mx mm : zM} : SiR P N W mx mm ↔ ∃ r s st mn, SgB P N W r s st mn mx mm := by
  constructor
  · rintro ⟨r, s, st, mn, h1, h2, h3, h4, h5, h6, h7, h8, h9⟩
    exact ⟨r, s, st, mn, ⟨h2, h3⟩, ⟨h1, h4, h5, fun i hi => ⟨(h8 i hi).1, (h8 i hi).2.1, (h8 i hi).2.2.1, (h8 i hi).2.2.2.1⟩⟩, ⟨h1, h6, h7, fun i hi => ⟨(h8 i hi).1, (h8 i hi).2.1, (h8 i hi).2.2.2.2.1, (h8 i hi).2.2.2.2.2⟩⟩, h9⟩
  · rintro ⟨r, s, st, mn, ⟨h2, h3⟩, ⟨h1, h4, h5, h8⟩, ⟨_, h6, h7, h8'⟩, h9⟩
    exact ⟨r, s, st, mn, h1, h2, h3, h4, h5, h6, h7, fun i hi => ⟨(h8 i hi).1, (h8 i hi).2.1, (h8 i hi).2.2.1, (h8 i hi).2.2.2, (h8' i hi).2.2.1, (h8' i hi).2.2.2⟩, h9⟩
/-- the class has looked: where the walk is, which worlds could be -/
def Loo (P : Nat → Nat) (N : Nat) (W : Nat → Nat) (r s : Nat) (st mn : Nat → Nat) (f : Nat) (mx m : zM) : Prop := fl2 [51, 52, 53, 57, 58] [(48, 7), (48, 8)] mx m ∧ m.1 48 8 = nI f ∧ couX P N W r s st mn f m
theorem looX {P : Nat → Nat} {N r s : Nat} {W D pr sp st mn : Nat → Nat} {b : Nat} {mx mm : zM} {K : Int32 × zM → Prop} {F : zM → Option (Int32 × zM)} (ht : Told P N W D pr sp b mx mm) (hS : SgB P N W r s st mn mx mm) (c : ∀ (x f : Nat) (m : zM), rchd P N W x → mm.2.1 0 72 = lN (km (P 3) x) → f < N → W f = fo (P 3) x → Loo P N W r s st mn f mx m → ok (F m) K) : ok ((f_Atlas_number 55 mx).bind fun p1 => (f_Sight_look p1.1 p1.2).bind F) K := by
  obtain ⟨⟨h1, h2, h3, h4, h5, h6, h7⟩, r0, g1, g2, g3, g4, g5⟩ := ht.1
  obtain ⟨⟨x, rx, wx, wm⟩, _⟩ := ht.2.2.1
  refine ok_bi (numX h1 h4 h3 g3 rx wx (by decide) (by decide)) (fun p1 ⟨f1, k, k1, k2, k3⟩ => ?_)
  rw [k3]
  obtain ⟨⟨s6, sr⟩, sx, sm, s8⟩ := hS
  have s8' : p1.2.1 48 8 = -1 ∨ ∃ f, f < N ∧ p1.2.1 48 8 = nI f ∧ couX P N W r s st mn f p1.2 := by
    unfold couX
    rw [fl2_i f1 (by decide), fl2_i f1 (by decide), fl2_ic f1 (fun j => by simp [inS])]
    exact s8
  refine ok_bi (lookX h1 h3 h4 (AXm_fl g3 f1 (by decide)) (sigX_f sx f1 (by decide)) s6 k1 s8') (fun p2 ⟨f2, e2, c2⟩ => ?_)
  exact c x k p2 rx wm k1 k2 ⟨fl2_tr (fl2_su f1 (by decide)) (fl2_su f2 (by decide)), e2, c2⟩
/-- both have looked -/
theorem IvLo {P : Nat → Nat} {N r s f : Nat} {W D pr sp st mn : Nat → Nat} {b : Nat} {mx mm p mx' p' : zM} (hq : Qy P N W D pr sp b mx mm p) (hS : SgB P N W r s st mn mx mm) (hf : f < N) (hl : Loo P N W r s st mn f mx mx') (mx'' : zM) (fx : fl2 [54] [] mx' mx'') (fm : fl2 [25, 26, 54, 55] [(0, 36), (0, 38)] p p') : IvW mx'' p' := by
  obtain ⟨hc, ht, z2, z3, z4⟩ := id hq
  have f1 : fl2 [51, 52, 53, 54, 57, 58] [(48, 7), (48, 8)] mx mx'' := fl2_tr (fl2_su hl.1 (by decide)) (fl2_su fx (by decide))
  obtain ⟨h1, h2, h3, h4⟩ := ht
  refine ⟨CoR_x (CoR_m (Qy_c hq) fm (by decide)) f1 (by decide), Or.inr ⟨P, N, W, D, pr, sp, b, TdX_f h1 f1 (by decide) (by decide) (by decide) (by decide) (by decide), ⟨?_, tM_fl z3 fm (by decide), MaK_c (MaK_fl z4 fm (by decide) (by decide) (by decide) (by decide)) h1.1.2.2.2.2.1 h1.1.2.2.2.2.2.1⟩, WaR_m (WaR_x (Qy_t hq) f1 (by decide)) fm (by decide), SgB_i.mpr ⟨r, s, st, mn, hS.1, sigX_f hS.2.1 f1 (by decide), sigM_f (sigM_f hS.2.2.1 z2 (by decide)) fm (by decide), Or.inr ⟨f, hf, ?_, ?_⟩⟩⟩⟩
  · rw [fl2_i fm (by decide), fl2_i z2 (by decide)]; exact h2.1
  · rw [fl2_i fx (by decide)]; exact hl.2.1
  · unfold couX
    rw [fl2_i fx (by decide), fl2_ic fx (fun j => by simp [inS])]
    exact hl.2.2
theorem c_could {a1 : Int32} {mx mm : zM} (h : IvW mx mm) : Alk (f_PA_could a1 mx) (f_MO_could a1 mm) := by
  obtain ⟨hc, hn | ⟨P, N, W, D, pr, sp, b, ht⟩⟩ := id h
  · unfold f_PA_could f_MO_could
    rw [if_pos hn.1, ntA hn]
    exact ok_mk (ok_eb rfl (ok_in Bool.false_ne_true (ok_mk ⟨rfl, h⟩)))
  · obtain ⟨p, ep, z1, z2, z3, z4⟩ := askT ht
    obtain ⟨⟨h1, h2, h3, h4, h5, h6, h7⟩, r0, g1, g2, g3, g4, g5⟩ := ht.1
    have hq : Qy P N W D pr sp b mx mm p.2 := ⟨hc, ht, z2, z3, z4⟩
    obtain ⟨r, s, st, mn, hS⟩ := SgB_i.mp ht.2.2.2
    unfold f_PA_could f_MO_could
    rw [ep]
    refine ok_in (by rw [g1]; decide) (looX ht hS (fun x f m rx wm hf hfx hl => ?_))
    have cl := cn_le (cou P N W r s st mn f) N
    have lm : ok (f_MO_laysCould p.2) (fun q => fl2 [25, 26, 54, 55] [(0, 36), (0, 38)] p.2 q.2 ∧ q.1 = nI (cn (cou P N W r s st mn f) N) ∧ ∀ w, w < N → q.2.1 54 w = b2i (cou P N W r s st mn f w)) := laysM h1 z3 z4.2.1 (sigM_f hS.2.2.1 z2 (by decide)) hS.1.1 hS.1.2 rx.1 (by rw [fl2_j z2 (by decide)]; exact wm) hf hfx
    have iv0 : IvW m p.2 := IvLo hq hS hf hl m fl2_rf fl2_rf
    refine ok_it (fun q => ?_) (fun q => ok_it (fun q2 => ok_mk (ok_ip z1 (ok_in (fun y => ?_) (ok_mk ⟨rfl, iv0⟩)))) (fun q2 => ?_))
    · rw [q]
      refine ok_mk (ok_ip z1 (ok_ip (by decide) (ok_bi lm (fun q ⟨f1, e1, e2⟩ => ok_ip rfl (ok_mk ⟨hl.2.2.1.trans e1.symm, IvLo hq hS hf hl m fl2_rf f1⟩)))))
    · rw [Int32.le_iff_toInt_le] at y
      rw [Int32.lt_iff_toInt_lt] at q2
      have e0 : (0 : Int32).toInt = 0 := rfl
      have e1 : (-1 : Int32).toInt = -1 := rfl
      refine q (Int32.toInt_inj.mp ?_)
      omega
    · obtain ⟨j, hj, e⟩ := nI_of q2
      subst e
      have le : (-1 : Int32) ≤ nI j := by
        rw [Int32.le_iff_toInt_le, nI_toInt hj, show (-1 : Int32).toInt = -1 from rfl]
        omega
      have M : ∀ v : Int32, ((j < cn (cou P N W r s st mn f) N ∧ ∃ w, w < N ∧ cou P N W r s st mn f w = true ∧ cn (cou P N W r s st mn f) w = j ∧ v = nI w) ∨ (cn (cou P N W r s st mn f) N ≤ j ∧ v = -1)) → ok (if p.1 = true then if -1 ≤ nI j then (f_MO_laysCould p.2).bind fun p2 => if nI j = -1 then some (p2.1, p2.2) else f_MO_could_L31 (nI j) 0 0 p2.2 else some (-1, p.2) else some (-1, p.2)) (fun q => v = q.1 ∧ IvW m q.2) := by
        intro v hv
        refine ok_ip z1 (ok_ip le (ok_bi lm (fun q ⟨f1, e1, e2⟩ => ok_in (nI_ne_m1 hj) ?_)))
        have iv : IvW m q.2 := IvLo hq hS hf hl m fl2_rf f1
        have e41 : q.2.1 0 41 = nI N := (LMx_fl z4.2.1 f1 (by decide) (by decide)).2.2.2.1.1
        unfold f_MO_could_L31
        refine ok_for N (fun k (t : Int32 × Int32) => t.1 = nI (cn (cou P N W r s st mn f) k) ∧ t.2 = nI k ∧ cn (cou P N W r s st mn f) k ≤ j) (k0 := 0) ⟨rfl, rfl, Nat.zero_le _⟩ (Nat.zero_le _) ?_
        rintro k ⟨y1, y2⟩ - hk ⟨d1, d2, d3⟩
        have d1 : y1 = nI (cn (cou P N W r s st mn f) k) := d1
        have d2 : y2 = nI k := d2
        subst d1 d2
        have ck := cn_le (cou P N W r s st mn f) k
        unfold f_MO_could_B31 f_MO_could_J64
        refine ok_le N k (fun q1 => ok_mk ⟨?_, iv⟩) (fun q1 => ok_ix rfl (by omega : k < 608) (by decide) ?_) (hx := e41)
        · have ek : k = N := by omega
          rw [ek] at d3
          rcases hv with ⟨u1, _⟩ | ⟨_, u2⟩
          · omega
          · exact u2
        · show ok (if q.2.1 54 k = 0 then _ else _) _
          rw [e2 k q1]
          refine ok_it (fun u => ok_mk ⟨q1, ?_, nI_1 k, ?_⟩) (fun u => ok_ee (cn (cou P N W r s st mn f) k) j (fun u2 => ok_mk ⟨?_, iv⟩) (fun u2 => ok_mk ⟨q1, ?_, nI_1 k, ?_⟩))
          · rw [cn_s0 (b2i_f u)]
          · rw [cn_s0 (b2i_f u)]; exact d3
          · have ck1 := cn_ms (p := cou P N W r s st mn f) (show k + 1 ≤ N by omega)
            rw [cn_s1 (b2i_t u)] at ck1
            rcases hv with ⟨u3, w, w1, w2, w3, w4⟩ | ⟨u3, _⟩
            · rw [w4, cn_un w2 (b2i_t u) (w3.trans u2.symm)]
            · omega
          · rw [cn_s1 (b2i_t u)]; exact nI_1 _
          · rw [cn_s1 (b2i_t u)]; omega
      refine ok_le (cn (cou P N W r s st mn f) N) j (fun q3 => ok_mk (M (-1) (Or.inr ⟨q3, rfl⟩))) (fun q3 => ?_) (hx := hl.2.2.1)
      obtain ⟨w, w1, w2, w3⟩ := cn_at q3
      refine ok_ix rfl (by omega : j < 600) (by decide) (ok_mk (M _ (Or.inl ⟨q3, w, w1, w2, w3, ?_⟩)))
      show m.1 53 j = nI w
      rw [← w3]; exact hl.2.2.2 w w1 w2
