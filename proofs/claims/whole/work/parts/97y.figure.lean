theorem stuckX {P : Nat → Nat} {N i r : Nat} {W D pr sp : Nat → Nat} {m : zM} (hP : tV P) (hN : N ≤ 600) (hL : Lst (Ed P 16) (wx0 P) N W D) (hA : AXm P N W D pr sp m) (hi : i < N) (hr : r < 16) : ok (f_Study_isStuckWithout (nI i) (nI r) m) (fun q => q = cBo (stkR P r (W i))) := by
  have fb := frm_le P W (i + 1)
  have fb' : frm P W (i + 1) = frm P W i + cn (psb P (W i)) 64 := rfl
  unfold f_Study_isStuckWithout
  refine ok_ix rfl (by omega : i < 601) (by decide) ?_
  rw [hA.2.2.1 i (by omega)]
  unfold f_Study_isStuckWithout_L10
  refine ok_for (cn (psb P (W i)) 64) (fun e (s : Int32) => s = nI (frm P W i + e) ∧ ∀ e', e' < e → cea P (W i) e' / 4 = r) (k0 := 0) ⟨rfl, fun e' h => absurd h (Nat.not_lt_zero _)⟩ (Nat.zero_le _) ?_
  rintro e s - he ⟨es, h1⟩
  subst es
  unfold f_Study_isStuckWithout_B10
  refine ok_ix (nI_1 i) (by omega : i + 1 < 601) (by decide) (ok_le (frm P W (i + 1)) (frm P W i + e) (fun u => ok_mk ?_) (fun u => ?_) (hx := hA.2.2.1 (i + 1) (by omega)))
  · refine (cBo_t (fun c hc hp => ?_)).symm
    obtain ⟨k1, k2⟩ := cea_cn hc hp
    rw [← k2]; exact h1 _ (by omega)
  · have mv := movA (e := e) hP hN hL hA hi (by omega)
    obtain ⟨c1, c2, c3⟩ := cea_sp (P := P) (x := W i) (e := e) (by omega)
    refine ok_eb mv.2.2.2.2.1 (ok_ee (cea P (W i) e / 4) r (fun w => ok_mk ⟨by omega, nI_1 _, fun e' h => ?_⟩) (fun w => ok_mk ?_))
    · rcases Nat.lt_or_ge e' e with v | v
      · exact h1 e' v
      · rw [show e' = e by omega]; exact w
    · exact (cBo_f (fun h => w (h _ c1 c2))).symm
theorem hopelX {P : Nat → Nat} {b N i r : Nat} {W D pr sp : Nat → Nat} {mk : Nat → Bool} {m : zM} (hb : tbv b) (hT : m.2.2 2 = b) (hP : tV P) (ht : tX b P m) (hN : N ≤ 600) (hA : AXm P N W D pr sp m) (h6 : P 6 ≠ 0) (hm : ∀ v, v < 4 * N → m.1 124 v = b2i (mk v)) (hh : ∀ v, v < 4 * N → opF P W 0 v = true → (mk v = true ↔ hopeP P r N W v)) (hi : i < N) : f_Study_hopeless (nI i) m = some (nI (cn (fun a => stvB P r N W (4 * i + a)) (P 3))) := by
  have b6 : P 6 ≤ 6 := hP.1.2.2.2.2.2.2.2.2.1
  have n4 := hP.1.2.1
  refine ok_eq.mp ?_
  unfold f_Study_hopeless f_Study_hopeless_L4
  refine ok_for (P 3) (fun a (s : Int32 × Int32) => s.1 = nI (cn (fun a => stvB P r N W (4 * i + a)) a) ∧ s.2 = nI a) (k0 := 0) ⟨rfl, rfl⟩ (Nat.zero_le _) ?_
  rintro a ⟨x, y⟩ - ha ⟨e1, e2⟩
  have e1 : x = nI (cn (fun a => stvB P r N W (4 * i + a)) a) := e1
  have e2 : y = nI a := e2
  subst e1 e2
  unfold f_Study_hopeless_B4 f_Study_hopeless_J57 f_Study_hopeless_J58
  refine ok_le (P 3) a (fun q => ok_mk (show nI _ = _ by rw [show a = P 3 by omega])) (fun q => ok_eb (tb_ok hT hb) ?_) (hx := hA.1.1.2)
  rw [show m.1 b 10 = nI (P 6 - 1) by rw [ht.1.2.2.2.2.1]; exact nI_pr (by omega), show nI i * 4 + nI a = nI (4 * i + a) from nI_4]
  have vl : 4 * i + a < 4 * N := by omega
  have va : (4 * i + a) % 4 < P 3 := by omega
  refine ok_eb (agentInX hN hA n4 vl (by omega)) (ok_tf (fun z => ?_) (fun z => ok_mk ⟨q, ?_, nI_1 a⟩))
  rotate_left
  · rw [cn_s0 (p := fun a => stvB P r N W (4 * i + a)) (k := a) (show stvB P r N W (4 * i + a) = false from cBo_f (fun y => by rw [z] at y; cases y.2.1))]
    exact Int32.add_zero _
  obtain ⟨fl1, fl2', fl3⟩ := fln_n (W := W) n4 va
  have flb : fln P W (4 * i + a) < 4 * N := by
    have := nod_a fl3
    omega
  have ef : f_Study_firstLike (nI (4 * i + a)) m = some (nI (fln P W (4 * i + a))) := by
    unfold f_Study_firstLike
    rw [show ix 2400 (nI (4 * i + a)) = some (4 * i + a) from ix_nI (by omega) (by decide), Option.bind_some]
    rw [((hA.2.1 i hi).2.2 a q).2, show ir (nI (4 * i + a)) 4 = nI ((4 * i + a) % 4) from pk_rem (d := 4) (by omega) (by decide) (by decide), pk_sub (by omega), nI_add]
    unfold fln
    rw [show (4 * i + a) / 4 = i by omega, show (4 * i + a) % 4 = a by omega]
    congr 2
    omega
  refine ok_eb ef (ok_ix rfl (show fln P W (4 * i + a) < 2400 by omega) (by decide) ?_)
  rw [hm _ flb]
  have hq := hh _ flb (by rw [opF_0]; exact fl3)
  refine ok_it (fun y => ok_mk ⟨q, ?_, nI_1 a⟩) (fun y => ok_mk ⟨q, ?_, nI_1 a⟩)
  · rw [cn_s1 (p := fun a => stvB P r N W (4 * i + a)) (k := a) (show stvB P r N W (4 * i + a) = true from cBo_t ⟨h6, z, fun u => by rw [hq.mpr u] at y; cases y⟩)]
    exact nI_1 _
  · rw [cn_s0 (p := fun a => stvB P r N W (4 * i + a)) (k := a) (show stvB P r N W (4 * i + a) = false from cBo_f (fun u => u.2.2 (hq.mp (b2i_t y))))]
    exact Int32.add_zero _
def FgS : List Nat := [124, 125, 126, 127, 128, 130, 131, 132, 133, 134, 135, 136, 137]
def FgF : List (Nat × Nat) := [(129, 1), (129, 2), (129, 3), (129, 4), (129, 13), (129, 14), (129, 15)]
def SaS : List Nat := [124, 130, 131, 132, 133, 134, 135, 136, 137]
/-- the class's sums of what is without a rule -/
theorem figL {P : Nat → Nat} {b N r n : Nat} {W D pr sp ord : Nat → Nat} {v4 : Bool} {mk : Nat → Bool} {m : zM} (hb : tbv b) (hT : m.2.2 2 = b) (hP : tV P) (ht : tX b P m) (hN : N ≤ 600) (hL : Lst (Ed P 16) (wx0 P) N W D) (hA : AXm P N W D pr sp m) (hr : r < 16) (hQ : ∀ j, j < n → ord j < N ∧ m.1 126 j = nI (ord j)) (hn : n ≤ N) (h4 : v4 = true ↔ P 6 ≠ 0) (hm : v4 = true → (∀ v, v < 4 * N → m.1 124 v = b2i (mk v)) ∧ ∀ v, v < 4 * N → opF P W 0 v = true → (mk v = true ↔ hopeP P r N W v)) (hz : ∀ k, 1 ≤ k → k < 5 → m.1 128 (5 * r + k) = 0) : ok (f_Study_figure_J87 (nI r) (nI (5 * r)) (nI n) v4 m) (fun p => fl2 [128] [] m p ∧ (∀ k, 1 ≤ k → k < 5 → p.1 128 (5 * r + k) = sumI (fun j => fgI P r N W k (ord j)) n) ∧ ∀ x, x ≤ 5 * r ∨ 5 * r + 5 ≤ x → p.1 128 x = m.1 128 x) := by
  have r16 := hP.1.2.2.2.2.2.2.2.2.2.2.1
  unfold f_Study_figure_J87 f_Study_figure_L90
  refine ok_for n (fun j (s : Int32 × zM) => s.1 = nI j ∧ fl2 [128] [] m s.2 ∧ (∀ k, 1 ≤ k → k < 5 → s.2.1 128 (5 * r + k) = sumI (fun j => fgI P r N W k (ord j)) j) ∧ ∀ x, x ≤ 5 * r ∨ 5 * r + 5 ≤ x → s.2.1 128 x = m.1 128 x) (k0 := 0) ⟨rfl, fl2_rf, hz, fun x _ => rfl⟩ (Nat.zero_le _) ?_
  rintro j ⟨x, m1⟩ - hj ⟨e, f1, g1, g2⟩
  have e : x = nI j := e
  subst e
  have f1 : fl2 [128] [] m m1 := f1
  have g1 : ∀ k, 1 ≤ k → k < 5 → m1.1 128 (5 * r + k) = sumI (fun j => fgI P r N W k (ord j)) j := g1
  have g2 : ∀ x, x ≤ 5 * r ∨ 5 * r + 5 ≤ x → m1.1 128 x = m.1 128 x := g2
  unfold f_Study_figure_B90
  refine ok_le n j (fun q => ok_mk ⟨f1, fun k k1 k2 => by rw [show n = j by omega]; exact g1 k k1 k2, g2⟩) (fun q => ok_ix rfl (by omega : j < 600) (by decide) ?_)
  obtain ⟨o1, o2⟩ := hQ j q
  have e126 : m1.1 126 j = nI (ord j) := by rw [fl2_ic f1 (fun j => by simp [inS])]; exact o2
  have ek : ∀ k : Nat, nI (5 * r) + nI k = nI (5 * r + k) := fun k => nI_add _ _
  have A1 := AXm_fl hA f1 (by decide)
  have s32 := (A1.2.1 (ord j) o1).1
  have s33 := (A1.2.1 (ord j) o1).2.1
  refine ok_ix (ek 1) (by omega : 5 * r + 1 < 80) (by decide) (ok_ix e126 (by omega) (by decide) (ok_ix (ek 1) (by omega : 5 * r + 1 < 80) (by decide) (ok_lt ?_)))
  -- the four sums, one behind the other
  have fA : fl2 [128] [] m1 (sI m1 128 (5 * r + 1) (m1.1 128 (5 * r + 1) + m1.1 32 (ord j))) := fl2_I (inS_c (by simp))
  generalize hmA : sI m1 128 (5 * r + 1) (m1.1 128 (5 * r + 1) + m1.1 32 (ord j)) = mA at fA
  have aA : ∀ x, x ≠ 5 * r + 1 → mA.1 128 x = m1.1 128 x := fun x hx => by rw [← hmA, rd_I0 (fun z => hx z.2)]
  have aB : mA.1 128 (5 * r + 1) = m1.1 128 (5 * r + 1) + m1.1 32 (ord j) := by rw [← hmA, rd_I1]
  have AA := AXm_fl A1 fA (by decide)
  refine ok_ix (ek 2) (by omega : 5 * r + 2 < 80) (by decide) (ok_ix e126 (by omega) (by decide) ?_)
  have J234 : ∀ (mC : zM) (t3 : Int32), fl2 [128] [] m1 mC → (∀ x, x ≤ 5 * r ∨ 5 * r + 5 ≤ x → mC.1 128 x = m1.1 128 x) → mC.1 128 (5 * r + 4) = m1.1 128 (5 * r + 4) → (∀ k, 1 ≤ k → k < 4 → mC.1 128 (5 * r + k) = m1.1 128 (5 * r + k) + fgI P r N W k (ord j)) → t3 = fgI P r N W 4 (ord j) → ok (f_Study_figure_J234 (nI r) (nI (5 * r)) (nI n) v4 (nI j) 128 (nI (5 * r) + 4) (mC.1 128 (5 * r + 4)) t3 mC) (lp (fun p => fl2 [128] [] m p ∧ (∀ k, 1 ≤ k → k < 5 → p.1 128 (5 * r + k) = sumI (fun j => fgI P r N W k (ord j)) n) ∧ ∀ x, x ≤ 5 * r ∨ 5 * r + 5 ≤ x → p.1 128 x = m.1 128 x) (fun s : Int32 × zM => j < n ∧ s.1 = nI (j + 1) ∧ fl2 [128] [] m s.2 ∧ (∀ k, 1 ≤ k → k < 5 → s.2.1 128 (5 * r + k) = sumI (fun j => fgI P r N W k (ord j)) (j + 1)) ∧ ∀ x, x ≤ 5 * r ∨ 5 * r + 5 ≤ x → s.2.1 128 x = m.1 128 x)) := by
    intro mC t3 fC c1 c2 c3 et
    unfold f_Study_figure_J234
    refine ok_ix (ek 4) (show 5 * r + 4 < zlen gX 128 from (by have : zlen gX 128 = 80 := rfl; omega)) (by decide) (ok_lt (ok_mk ⟨q, nI_1 j, fl2_tr f1 (fl2_tr fC (fl2_I (inS_c (by simp)))), fun k k1 k2 => ?_, fun x hx => ?_⟩))
    · show (sI mC 128 (5 * r + 4) _).1 128 (5 * r + k) = sumI (fun j => fgI P r N W k (ord j)) j + fgI P r N W k (ord j)
      rcases Nat.lt_or_ge k 4 with z | z
      · rw [rd_I0 (by omega), c3 k k1 z, g1 k k1 k2]
      · have : k = 4 := by omega
        subst this
        rw [rd_I1, c2, et, g1 4 k1 k2]
    · show (sI mC 128 (5 * r + 4) _).1 128 x = _
      rw [rd_I0 (by omega), c1 x hx]; exact g2 x hx
  have J197 : ∀ (mB : zM) (t3 : Int32), fl2 [128] [] m1 mB → (∀ x, x ≤ 5 * r ∨ 5 * r + 5 ≤ x → mB.1 128 x = m1.1 128 x) → mB.1 128 (5 * r + 4) = m1.1 128 (5 * r + 4) → mB.1 128 (5 * r + 3) = m1.1 128 (5 * r + 3) → (∀ k, 1 ≤ k → k < 3 → mB.1 128 (5 * r + k) = m1.1 128 (5 * r + k) + fgI P r N W k (ord j)) → t3 = fgI P r N W 3 (ord j) → ok (f_Study_figure_J197 (nI r) (nI (5 * r)) (nI n) v4 (nI j) (nI (ord j)) 128 (nI (5 * r) + 3) (mB.1 128 (5 * r + 3)) t3 mB) (lp (fun p => fl2 [128] [] m p ∧ (∀ k, 1 ≤ k → k < 5 → p.1 128 (5 * r + k) = sumI (fun j => fgI P r N W k (ord j)) n) ∧ ∀ x, x ≤ 5 * r ∨ 5 * r + 5 ≤ x → p.1 128 x = m.1 128 x) (fun s : Int32 × zM => j < n ∧ s.1 = nI (j + 1) ∧ fl2 [128] [] m s.2 ∧ (∀ k, 1 ≤ k → k < 5 → s.2.1 128 (5 * r + k) = sumI (fun j => fgI P r N W k (ord j)) (j + 1)) ∧ ∀ x, x ≤ 5 * r ∨ 5 * r + 5 ≤ x → s.2.1 128 x = m.1 128 x)) := by
    intro mB t3 fB c1 c4 c2 c3 et
    unfold f_Study_figure_J197
    refine ok_ix (ek 3) (show 5 * r + 3 < zlen gX 128 from (by have : zlen gX 128 = 80 := rfl; omega)) (by decide) (ok_lt (ok_ix (ek 4) (by omega : 5 * r + 4 < 80) (by decide) ?_))
    have fC : fl2 [128] [] m1 (sI mB 128 (5 * r + 3) (mB.1 128 (5 * r + 3) + t3)) := fl2_tr fB (fl2_I (inS_c (by simp)))
    have cc : ∀ k, 1 ≤ k → k < 4 → (sI mB 128 (5 * r + 3) (mB.1 128 (5 * r + 3) + t3)).1 128 (5 * r + k) = m1.1 128 (5 * r + k) + fgI P r N W k (ord j) := by
      intro k k1 k2
      rcases Nat.lt_or_ge k 3 with z | z
      · rw [rd_I0 (by omega)]; exact c3 k k1 z
      · have : k = 3 := by omega
        subst this
        rw [rd_I1, c2, et]
    have c4' : (sI mB 128 (5 * r + 3) (mB.1 128 (5 * r + 3) + t3)).1 128 (5 * r + 4) = m1.1 128 (5 * r + 4) := by rw [rd_I0 (by omega)]; exact c4
    have c1' : ∀ x, x ≤ 5 * r ∨ 5 * r + 5 ≤ x → (sI mB 128 (5 * r + 3) (mB.1 128 (5 * r + 3) + t3)).1 128 x = m1.1 128 x := fun x hx => by rw [rd_I0 (by omega)]; exact c1 x hx
    refine ok_tf (fun z => ok_ix rfl (by omega : ord j < 600) (by decide) ?_) (fun z => J234 _ 0 fC c1' c4' cc ?_)
    · have fm : fl2 [128] [] m (sI mB 128 (5 * r + 3) (mB.1 128 (5 * r + 3) + t3)) := fl2_tr f1 fC
      have AC := AXm_fl hA fm (by decide)
      obtain ⟨hm1, hm2⟩ := hm z
      refine ok_eb (hopelX (mk := mk) hb (by rw [fm.2]; exact hT) hP (tX_fl hb ht fm (by decide) r16) hN AC (h4.mp z) (fun v hv => by rw [fl2_ic fm (fun j => by simp [inS])]; exact hm1 v hv) hm2 o1) (J234 _ _ fC c1' c4' cc ?_)
      rw [(AC.2.1 (ord j) o1).1]
      rfl
    · have h60 : ¬ P 6 ≠ 0 := fun y => by rw [h4.mpr y] at z; cases z
      show (0 : Int32) = timesOf P (W (ord j)) * nI (cn (fun a => stvB P r N W (4 * ord j + a)) (P 3))
      have c0 : cn (fun a => stvB P r N W (4 * ord j + a)) (P 3) = 0 := by
        have := cn_lo (p := fun a => stvB P r N W (4 * ord j + a)) (n := P 3) (k := 0) (fun a _ _ => cBo_f (fun y => h60 y.1))
        omega
      rw [c0]
      exact (Int32.mul_zero).symm
  have J162 : ∀ t3 : Int32, t3 = fgI P r N W 2 (ord j) → ok (f_Study_figure_J162 (nI r) (nI (5 * r)) (nI n) v4 (nI j) (nI (ord j)) 128 (nI (5 * r) + 2) (mA.1 128 (5 * r + 2)) t3 mA) (lp (fun p => fl2 [128] [] m p ∧ (∀ k, 1 ≤ k → k < 5 → p.1 128 (5 * r + k) = sumI (fun j => fgI P r N W k (ord j)) n) ∧ ∀ x, x ≤ 5 * r ∨ 5 * r + 5 ≤ x → p.1 128 x = m.1 128 x) (fun s : Int32 × zM => j < n ∧ s.1 = nI (j + 1) ∧ fl2 [128] [] m s.2 ∧ (∀ k, 1 ≤ k → k < 5 → s.2.1 128 (5 * r + k) = sumI (fun j => fgI P r N W k (ord j)) (j + 1)) ∧ ∀ x, x ≤ 5 * r ∨ 5 * r + 5 ≤ x → s.2.1 128 x = m.1 128 x)) := by
    intro t3 et
    unfold f_Study_figure_J162
    refine ok_ix (ek 2) (show 5 * r + 2 < zlen gX 128 from (by have : zlen gX 128 = 80 := rfl; omega)) (by decide) (ok_lt (ok_ix (ek 3) (by omega : 5 * r + 3 < 80) (by decide) ?_))
    have fB : fl2 [128] [] m1 (sI mA 128 (5 * r + 2) (mA.1 128 (5 * r + 2) + t3)) := fl2_tr fA (fl2_I (inS_c (by simp)))
    have AB := AXm_fl A1 fB (by decide)
    have cc : ∀ k, 1 ≤ k → k < 3 → (sI mA 128 (5 * r + 2) (mA.1 128 (5 * r + 2) + t3)).1 128 (5 * r + k) = m1.1 128 (5 * r + k) + fgI P r N W k (ord j) := by
      intro k k1 k2
      rcases (show k = 1 ∨ k = 2 by omega) with z | z <;> subst z
      · rw [rd_I0 (by omega), aB, s32]; rfl
      · rw [rd_I1, aA _ (by omega), et]
    have c3' : (sI mA 128 (5 * r + 2) (mA.1 128 (5 * r + 2) + t3)).1 128 (5 * r + 3) = m1.1 128 (5 * r + 3) := by rw [rd_I0 (by omega)]; exact aA _ (by omega)
    have c4' : (sI mA 128 (5 * r + 2) (mA.1 128 (5 * r + 2) + t3)).1 128 (5 * r + 4) = m1.1 128 (5 * r + 4) := by rw [rd_I0 (by omega)]; exact aA _ (by omega)
    have c1' : ∀ x, x ≤ 5 * r ∨ 5 * r + 5 ≤ x → (sI mA 128 (5 * r + 2) (mA.1 128 (5 * r + 2) + t3)).1 128 x = m1.1 128 x := fun x hx => by rw [rd_I0 (by omega)]; exact aA x (by omega)
    refine ok_bi (stuckX hP hN hL AB o1 hr) (fun s hs => ?_)
    refine ok_tf (fun z => ok_ix rfl (by omega : ord j < 600) (by decide) (J197 _ _ fB c1' c4' c3' cc ?_)) (fun z => J197 _ _ fB c1' c4' c3' cc ?_)
    · rw [(AB.2.1 (ord j) o1).1]
      show _ = (if cBo (stkR P r (W (ord j))) = true then timesOf P (W (ord j)) else 0)
      rw [if_pos (by rw [← hs]; exact z)]
    · show _ = (if cBo (stkR P r (W (ord j))) = true then timesOf P (W (ord j)) else 0)
      rw [if_neg (by rw [← hs, z]; decide)]
  have e33 : mA.1 33 (ord j) = b2i (bd P (W (ord j))) := (AA.2.1 (ord j) o1).2.1
  show ok (if mA.1 33 (ord j) = 0 then f_Study_figure_J162 (nI r) (nI (5 * r)) (nI n) v4 (nI j) (m1.1 126 j) 128 (nI (5 * r) + 2) (mA.1 128 (5 * r + 2)) 0 mA else _) _
  rw [e33, e126]
  refine ok_it (fun z => J162 0 ?_) (fun z => ok_ix rfl (by omega : ord j < 600) (by decide) (J162 _ ?_))
  · show (0 : Int32) = (if bd P (W (ord j)) = true then timesOf P (W (ord j)) else 0)
    rw [if_neg (by rw [b2i_f z]; decide)]
  · rw [(AA.2.1 (ord j) o1).1]
    show _ = (if bd P (W (ord j)) = true then timesOf P (W (ord j)) else 0)
    rw [if_pos (b2i_t z)]
