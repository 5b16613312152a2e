theorem recvX {w i v l c : Nat} {m : zM} (hi : i < 4) (hc : c < 2058) (hm : m.1 (w + 1) i = nI c) (hl : l ≤ 1) (hv : v < 7) : f_World_receive w (nI i) (nI v - 1) (nI l) m = some (match rc l c v with | some d => (true, sI m (w + 1) i (nI d)) | none => (false, m)) := by
  have h1 := o1_lt c
  have h2 := o2_lt c
  unfold f_World_receive f_World_receive_J64 f_World_receive_J67 rc
  simp only [ix_nI (n := 4) hi (by decide), Option.bind_some, hm, hd1 hc, hd2 hc, hd0 hc, hd3 hc, lt]
  by_cases q2 : o2 c = 0
  · rw [if_pos ((sd_m1 (by omega)).mpr q2), if_pos q2]
    by_cases q1 : o1 c = 0
    · rw [if_pos ((sd_m1 (by omega)).mpr q1), if_pos q1, cdO, q2]
    · rw [if_neg (fun z => q1 ((sd_m1 (by omega)).mp z)), if_neg q1]
      by_cases ql : l = 0
      · rw [if_pos ((nz_i (by omega)).mpr ql), if_pos (Or.inl ql), cdO]
      · rw [if_neg (fun z => ql ((nz_i (by omega)).mp z))]
        by_cases qv : o1 c ≤ v
        · rw [if_pos ((sd_le (by omega) (by omega)).mpr qv), if_pos (Or.inr qv), cdO]
        · rw [if_neg (fun z => qv ((sd_le (by omega) (by omega)).mp z)), if_neg (by omega), cdO]
  · rw [if_neg (fun z => q2 ((sd_m1 (by omega)).mp z)), if_neg q2]
/-- a world that lies at w -/
def wX (w n h : Nat) (a : Nat → Nat) (m : zM) : Prop := m.1 w 0 = nI h - 1 ∧ m.1 w 1 = nI n ∧ ∀ i, i < n → m.1 (w + 1) i = nI (a i)
def wV (n h : Nat) (a : Nat → Nat) : Prop := 0 < n ∧ n ≤ 4 ∧ h < 7 ∧ ∀ i, i < n → a i < 2058
def rX (r : Nat) (F : Nat → Nat) (m : zM) : Prop := ∀ k, k < 8 → m.1 r k = fI F k
theorem stepX {r w n h l i : Nat} {F a : Nat → Nat} {m : zM} (hr : rX r F m) (hF : fV F) (hw : wX w n h a m) (hv : wV n h a) (hi : i < n) (hl : l ≤ 1) (h1 : oS (a i) = F 1) : f_Row_step r w (nI i) (nI l) m = some (match stp l F (a i) with | some d => (true, sI m (w + 1) i (nI d)) | none => (false, m)) := by
  have hc := hv.2.2.2 i hi
  have i4 : i < 4 := by have := hv.2.1; omega
  have b1 := o1_lt (a i)
  have b2 := o2_lt (a i)
  have b3 := o3_lt (a i)
  obtain ⟨f0, f1, f2, f3, f4, f5, f6, f7⟩ := hF
  have e2 : m.1 r 2 = nI (F 2) - 1 := hr 2 (by decide)
  have e3 : m.1 r 3 = nI (F 3) := hr 3 (by decide)
  have e4 : m.1 r 4 = nI (F 4) - 1 := hr 4 (by decide)
  have key : ∀ d : Nat, o1 d < 7 → f_Row_step_J93 r w (nI i) (nI (o1 d) - 1) (nI (o2 d) - 1) (nI (o3 d) - 1) m = some (match (if F 4 = 0 ∨ o3 d = 0 then some (oC (F 3) (o1 d) (o2 d) (o3 d + F 4)) else none) with | some d => (true, sI m (w + 1) i (nI d)) | none => (false, m)) := by
    intro d _
    have b3 := o3_lt d
    unfold f_Row_step_J93 f_Row_step_J115
    simp only [ix_nI (n := 4) i4 (by decide), Option.bind_some, e3, e4, lt]
    by_cases q4 : F 4 = 0
    · rw [if_pos ((sd_m1 (by omega)).mpr q4), if_pos (Or.inl q4), cdO, q4]
      rfl
    · rw [if_neg (fun z => q4 ((sd_m1 (by omega)).mp z))]
      by_cases q3 : o3 d = 0
      · rw [if_pos ((sd_m1 (by omega)).mpr q3), if_pos (Or.inr q3), cdO, q3, Nat.zero_add]
      · rw [if_neg (fun z => q3 ((sd_m1 (by omega)).mp z)), if_neg (fun z => z.elim q4 q3)]
  unfold f_Row_step f_Row_step_J54 f_Row_step_J76 f_Row_step_J88 stp
  simp only [ix_nI (n := 4) i4 (by decide), Option.bind_some, hw.2.2 i hi, hd1 hc, hd2 hc, hd3 hc, e2]
  rw [if_pos h1]
  by_cases q2 : F 2 = 0
  · rw [if_pos ((sd_m1 (by omega)).mpr q2), if_pos q2, Option.bind_some]
    exact key (a i) b1
  · rw [if_neg (fun z => q2 ((sd_m1 (by omega)).mp z)), if_neg q2]
    unfold tk
    by_cases p1 : o1 (a i) = F 2
    · rw [if_pos ((sd_eq (by omega) (by omega)).mpr p1), if_pos p1, Option.bind_some]
      simp only [if_true]
      have := key (oC (oS (a i)) (o2 (a i)) 0 (o3 (a i))) (by rw [oC_1 b2 (by omega) b3]; exact b2)
      rw [oC_1 b2 (by omega) b3, oC_2 (by omega) b3, oC_3 b3, ← no_m1] at this
      rw [oC_1 b2 (by omega) b3, oC_2 (by omega) b3, oC_3 b3]
      exact this
    · rw [if_neg (fun z => p1 ((sd_eq (by omega) (by omega)).mp z)), if_neg p1]
      simp only [if_neg (show ¬ (false = true) by decide)]
      by_cases ql : l = 0
      · rw [if_pos ((nz_i (by omega)).mpr ql), if_neg (by omega)]
        rfl
      · rw [if_neg (fun z => ql ((nz_i (by omega)).mp z))]
        by_cases p2 : o2 (a i) = F 2
        · rw [if_pos ((sd_eq (by omega) (by omega)).mpr p2), if_pos ⟨ql, p2⟩, Option.bind_some]
          have := key (oC (oS (a i)) (o1 (a i)) 0 (o3 (a i))) (by rw [oC_1 b1 (by omega) b3]; exact b1)
          rw [oC_1 b1 (by omega) b3, oC_2 (by omega) b3, oC_3 b3, ← no_m1] at this
          rw [oC_1 b1 (by omega) b3, oC_2 (by omega) b3, oC_3 b3]
          exact this
        · rw [if_neg (fun z => p2 ((sd_eq (by omega) (by omega)).mp z)), if_neg (fun z => p2 z.2)]
          rfl
theorem hasX {w n h i s : Nat} {a : Nat → Nat} {m : zM} (hw : wX w n h a m) (hv : wV n h a) (hi : i < n) (hs : s < 6) : f_World_hasOther w (nI i) (nI s) m = some (oth n a i s) := by
  have n4 := hv.2.1
  refine ok_eq.mp ?_
  unfold f_World_hasOther f_World_hasOther_L2
  refine ok_loop (fun x : Int32 => ∃ k, k ≤ n ∧ x = nI k ∧ ∀ j, j < k → ¬ (j ≠ i ∧ oS (a j) = s)) (fun x => n - x.toNatClampNeg) ?_ _ ⟨0, by omega, rfl, fun j hj => absurd hj (Nat.not_lt_zero _)⟩ (by show n - _ < _; omega)
  rintro x ⟨k, hk, rfl, hj⟩
  have nxt : ∀ {K : Bool → Prop}, k < n → ¬ (k ≠ i ∧ oS (a k) = s) → ok (f_World_hasOther_J31 w (nI i) (nI s) (nI k) m) (lp K (fun x' : Int32 => (∃ k, k ≤ n ∧ x' = nI k ∧ ∀ j, j < k → ¬ (j ≠ i ∧ oS (a j) = s)) ∧ n - x'.toNatClampNeg < n - (nI k).toNatClampNeg)) := by
    intro K hkn q
    unfold f_World_hasOther_J31
    refine ok_mk ⟨⟨k + 1, by omega, nI_1 k, fun j hj' => ?_⟩, ?_⟩
    · by_cases e : j = k
      · rw [e]; exact q
      · exact hj j (by omega)
    · rw [nI_1, nI_clamp (by omega), nI_clamp (by omega)]
      omega
  unfold f_World_hasOther_B2
  rw [hw.2.1]
  refine ok_it (fun q => ?_) (fun q => ?_)
  · have := (nI_leI (a := n) (b := k) (by omega) (by omega)).mp q
    refine ok_mk ?_
    show false = oth n a i s
    unfold oth
    symm
    rw [List.any_eq_false]
    intro j hj'
    have := hj j (by have := List.mem_range.mp hj'; omega)
    simp only [ne_eq, decide_not, Bool.and_eq_true, Bool.not_eq_true', decide_eq_false_iff_not, decide_eq_true_eq]
    exact this
  · have hkn : k < n := by
      rcases Nat.lt_or_ge k n with z | z
      · exact z
      · exact absurd ((nI_leI (a := n) (b := k) (by omega) (by omega)).mpr z) q
    refine ok_it (fun p => ?_) (fun p => ?_)
    · have := (nI_eq (by omega) (by omega)).mp p
      exact nxt hkn (fun z => z.1 this)
    · have hki : k ≠ i := fun z => p (by rw [z])
      refine ok_ix rfl (by omega : k < 4) (by decide) ?_
      rw [hw.2.2 k hkn, hd0 (hv.2.2.2 k hkn)]
      have := oS_lt (hv.2.2.2 k hkn)
      refine ok_it (fun p => ?_) (fun p => ?_)
      · refine ok_mk ?_
        show true = oth n a i s
        unfold oth
        symm
        rw [List.any_eq_true]
        refine ⟨k, List.mem_range.mpr hkn, ?_⟩
        have := (nI_eq (by omega) (by omega)).mp p
        simp [hki, this]
      · exact nxt hkn (fun z => p (by rw [z.2]))
