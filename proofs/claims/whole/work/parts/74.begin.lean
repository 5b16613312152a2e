noncomputable def stvB (P : Nat → Nat) (w N : Nat) (W : Nat → Nat) (v : Nat) : Bool := cBo (P 6 ≠ 0 ∧ instA P W v (P 6 - 1) = true ∧ ¬ hopeP P w N W (fln P W v))
noncomputable def lefB (P : Nat → Nat) (N : Nat) (W : Nat → Nat) (v : Nat) : Bool := cBo (P 6 ≠ 0 ∧ instA P W v (P 6 - 1) = true ∧ lefoP P N W (fln P W v))
/-- what the class has studied -/
def STm (P : Nat → Nat) (N : Nat) (W : Nat → Nat) (m : zM) : Prop := PXm P N W m ∧ ∀ v, v < 4 * N → m.1 122 v = b2i (stvB P 16 N W v) ∧ m.1 123 v = b2i (lefB P N W v)
theorem PXm_fl {P : Nat → Nat} {N : Nat} {W : Nat → Nat} {m m' : zM} {S : List Nat} {F : List (Nat × Nat)} (h : PXm P N W m) (hf : fl2 S F m m') (hk : kps [117, 118, 119, 120] [(116, 3)] S F = true) : PXm P N W m' := by
  have ci : ∀ c, c ∈ [117, 118, 119, 120] → m'.1 c = m.1 c := fun c hc => fl2_ic hf (kps_c hk hc)
  unfold PXm
  rw [fl2_i hf (kps_g hk (by simp)), ci 117 (by simp), ci 118 (by simp), ci 119 (by simp), ci 120 (by simp)]
  exact h
theorem STm_fl {P : Nat → Nat} {N : Nat} {W : Nat → Nat} {m m' : zM} {S : List Nat} {F : List (Nat × Nat)} (h : STm P N W m) (hf : fl2 S F m m') (hk : kps [117, 118, 119, 120] [(116, 3)] S F = true) (hk2 : kps [122, 123] [] S F = true) : STm P N W m' := by
  refine ⟨PXm_fl h.1 hf hk, ?_⟩
  rw [show m'.1 122 = m.1 122 from fl2_ic hf (kps_c hk2 (by simp)), show m'.1 123 = m.1 123 from fl2_ic hf (kps_c hk2 (by simp))]
  exact h.2
def BFr (m0 m : zM) : Prop := fl2 [117, 118, 119, 120, 121, 122, 123, 124, 127, 130, 131, 132, 133, 134, 135, 136, 137] [(116, 3), (129, 1), (129, 2), (129, 3), (129, 4), (129, 13), (129, 14), (129, 15)] m0 m
theorem cBo_f {p : Prop} (h : ¬ p) : cBo p = false := by
  cases e : cBo p with
  | false => rfl
  | true => exact absurd (cBo_iff.mp e) h
theorem cBo_t {p : Prop} (h : p) : cBo p = true := cBo_iff.mpr h
theorem beginS {P : Nat → Nat} {b N : Nat} {W D pr sp : Nat → Nat} {m : zM} (hb : tbv b) (hP : tV P) (ht : tX b P m) (hN : N ≤ 600) (hL : Lst (Ed P 16) (wx0 P) N W D) (hA : AXm P N W D pr sp m) : ok (f_Study_begin b m) (fun p => BFr (sT m 2 b) p ∧ STm P N W p ∧ ∀ i, i < 16 → p.1 127 i = 0) := by
  have r16 := hP.1.2.2.2.2.2.2.2.2.2.2.1
  have n4 := hP.1.2.1
  have b6 : P 6 ≤ 6 := hP.1.2.2.2.2.2.2.2.2.1
  have i67 := hP.1.2.2.2.2.2.2.2.2.2.2.2
  unfold f_Study_begin
  refine ok_lt ?_
  have hA0 : AXm P N W D pr sp (sT m 2 b) := hA
  have ht0 : tX b P (sT m 2 b) := ht
  have hT0 : (sT m 2 b).2.2 2 = b := by simp [sT]
  generalize sT m 2 b = m0 at hA0 ht0 hT0 ⊢
  refine ok_bi (partsX hP hN hL hA0) (fun p2 ⟨h1, h2⟩ => ?_)
  refine ok_bi (clearX (c := 122) (by decide)) (fun p3 ⟨c1, c2⟩ => ok_bi (clearX (c := 123) (by decide)) (fun p4 ⟨d1, d2⟩ => ?_))
  have f4 : BFr m0 p4 := fl2_tr (fl2_su h1 (by decide)) (fl2_tr (fl2_su c2 (by decide)) (fl2_su d2 (by decide)))
  have P4 : PXm P N W p4 := PXm_fl (PXm_fl h2 c2 (by decide)) d2 (by decide)
  have z122 : ∀ v, v < 4 * N → p4.1 122 v = 0 := fun v hv => by rw [fl2_i d2 (by simp [inS])]; exact c1 v (show v < 2400 by omega)
  have z123 : ∀ v, v < 4 * N → p4.1 123 v = 0 := fun v hv => d1 v (show v < 2400 by omega)
  have t4 := tX_fl hb ht0 f4 (by decide) r16
  have A4 := AXm_fl hA0 f4 (by decide)
  refine ok_eb (tb_ok (b := b) (by rw [f4.2]; exact hT0) hb) ?_
  have fin : ∀ m5 : zM, BFr m0 m5 → STm P N W m5 → ok (f_Study_begin_J61 m5) (fun p => BFr m0 p ∧ STm P N W p ∧ ∀ i, i < 16 → p.1 127 i = 0) := by
    intro m5 f5 s5
    unfold f_Study_begin_J61 f_Study_begin_L63
    refine ok_for 16 (fun k (s : Int32 × zM) => s.1 = nI k ∧ fl2 [127] [] m5 s.2 ∧ ∀ i, i < k → s.2.1 127 i = 0) ⟨rfl, fl2_rf, fun i hi => absurd hi (Nat.not_lt_zero _)⟩ (Nat.zero_le _) ?_
    rintro k ⟨x, m6⟩ - hk ⟨e, f6, g6⟩
    have e : x = nI k := e
    subst e
    have f6 : fl2 [127] [] m5 m6 := f6
    have g6 : ∀ i, i < k → m6.1 127 i = 0 := g6
    unfold f_Study_begin_B63
    refine ok_le 16 k (fun q => ok_mk ⟨fl2_tr f5 (fl2_su f6 (by decide)), STm_fl s5 f6 (by decide) (by decide), fun i hi => g6 i (by omega)⟩) (fun q => ?_)
    refine ok_ix rfl q (by decide) (ok_lt (ok_mk ⟨q, nI_1 k, fl2_tr f6 (fl2_I (inS_c (by simp))), fun i hi => ?_⟩))
    show (sI m6 127 k (b2i false)).1 127 i = 0
    by_cases u : i = k
    · rw [u, rd_I1]; rfl
    · rw [rd_I0 (by omega)]; exact g6 i (by omega)
  refine ok_mm (P 6) (fun q => fin p4 f4 ⟨P4, fun v hv => ?_⟩) (fun q => ?_) (hx := t4.1.2.2.2.2.1)
  · rw [z122 v hv, z123 v hv]
    unfold stvB lefB
    rw [cBo_f (fun z => z.1 q), cBo_f (fun z => z.1 q)]
    exact ⟨rfl, rfl⟩
  · have h7 : P 7 ≠ 0 := fun z => by have := i67.mpr z; omega
    refine ok_bi (markHX (w := 16) hb (by rw [f4.2]; exact hT0) hP t4 hN hL A4 (Or.inl ⟨rfl, rfl⟩) h7) (fun p6 ⟨e1, mq, e2, e3⟩ => ?_)
    have f6 : BFr m0 p6 := fl2_tr f4 (fl2_su e1 (by decide))
    have t6 := tX_fl hb ht0 f6 (by decide) r16
    have A6 := AXm_fl hA0 f6 (by decide)
    refine ok_bi (tellX hb (by rw [f6.2]; exact hT0) hP t6 hN A6 (by omega) (Or.inl rfl) e2 (fun v hv => by rw [fl2_i e1 (by simp [inS])]; exact z122 v hv)) (fun p7 ⟨g1, g2⟩ => ?_)
    have f7 : BFr m0 p7 := fl2_tr f6 (fl2_su g1 (by decide))
    have t7 := tX_fl hb ht0 f7 (by decide) r16
    have A7 := AXm_fl hA0 f7 (by decide)
    refine ok_bi (markRX hb (by rw [f7.2]; exact hT0) hP t7 hN hL A7 h7) (fun p8 ⟨k1, mq', k2, k3⟩ => ?_)
    have f8 : BFr m0 p8 := fl2_tr f7 (fl2_su k1 (by decide))
    have t8 := tX_fl hb ht0 f8 (by decide) r16
    have A8 := AXm_fl hA0 f8 (by decide)
    refine ok_bi (tellX hb (by rw [f8.2]; exact hT0) hP t8 hN A8 (by omega) (Or.inr rfl) k2 (fun v hv => by rw [fl2_i k1 (by simp [inS]), fl2_i g1 (by simp [inS]), fl2_i e1 (by simp [inS])]; exact z123 v hv)) (fun p9 ⟨l1, l2⟩ => ?_)
    refine fin p9 (fl2_tr f8 (fl2_su l1 (by decide))) ⟨PXm_fl (PXm_fl (PXm_fl (PXm_fl P4 e1 (by decide)) g1 (by decide)) k1 (by decide)) l1 (by decide), fun v hv => ⟨?_, ?_⟩⟩
    · rw [fl2_i l1 (by simp [inS]), fl2_i k1 (by simp [inS]), g2 v hv]
      congr 1
      refine cBo_of ?_
      rw [Bool.and_eq_true, decide_eq_true_iff]
      constructor
      · rintro ⟨y1, y2⟩
        have va := (instA_iff.mp y1).1
        obtain ⟨n1, n2, n3⟩ := fln_n (W := W) n4 va
        refine ⟨by omega, y1, fun z => ?_⟩
        have := (e3 (fln P W v) (by have := nod_a n3; omega) (by rw [opF_0]; exact n3)).mpr z
        rw [this] at y2
        exact absurd y2 (by decide)
      · rintro ⟨_, y1, y2⟩
        have va := (instA_iff.mp y1).1
        obtain ⟨n1, n2, n3⟩ := fln_n (W := W) n4 va
        refine ⟨y1, ?_⟩
        cases em : mq (fln P W v) with
        | false => rfl
        | true => exact absurd ((e3 (fln P W v) (by have := nod_a n3; omega) (by rw [opF_0]; exact n3)).mp em) y2
    · rw [l2 v hv]
      congr 1
      refine cBo_of ?_
      rw [Bool.and_eq_true, decide_eq_true_iff]
      constructor
      · rintro ⟨y1, y2⟩
        have va := (instA_iff.mp y1).1
        obtain ⟨n1, n2, n3⟩ := fln_n (W := W) n4 va
        refine ⟨by omega, y1, (k3 (fln P W v) (by have := nod_a n3; omega) n3).mp ?_⟩
        cases em : mq' (fln P W v) with
        | true => rfl
        | false => rw [em] at y2; exact absurd y2 (by decide)
      · rintro ⟨_, y1, y2⟩
        have va := (instA_iff.mp y1).1
        obtain ⟨n1, n2, n3⟩ := fln_n (W := W) n4 va
        refine ⟨y1, ?_⟩
        rw [(k3 (fln P W v) (by have := nod_a n3; omega) n3).mpr y2]
        rfl
