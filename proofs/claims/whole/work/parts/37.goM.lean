def wM (n h : Nat) (a : Nat → Nat) (m : zM) : Prop := m.1 0 36 = nI h - 1 ∧ ∀ i, i < 4 → m.1 25 i = nI (if i < n then mOf (a i) else 0)
def wT (n h : Nat) (a : Nat → Nat) (m : zM) : Prop := m.1 0 38 = nI h - 1 ∧ ∀ i, i < 4 → m.1 26 i = nI (if i < n then mOf (a i) else 0)
def rM (r : Nat) (F : Nat → Nat) (m : zM) : Prop := ∀ k, k < 8 → m.1 23 (56 + 8 * r + k) = fI F k
theorem ruleM {r k : Nat} {F : Nat → Nat} {m : zM} (hr : rM r F m) (hr16 : r < 16) (hk : k < 8) : f_MO_ruleOf (nI r) (nI k) m = some (fI F k) := by
  unfold f_MO_ruleOf
  rw [show (56 : Int32) + 8 * nI r + nI k = nI (56 + 8 * r + k) by rw [show (56 : Int32) = nI 56 from rfl, show (8 : Int32) = nI 8 from rfl, pk_mul, nI_add, nI_add], ix_nI (by omega) (by decide), Option.bind_some, hr k hk]
theorem agM {n : Nat} {m : zM} (h : m.1 23 3 = nI n) : f_MO_agents m = some (nI n) := by
  unfold f_MO_agents
  rw [show ix 184 (3 : Int32) = some 3 from ix_nI (n := 184) (i := 3) (by decide) (by decide), Option.bind_some, h]
def mvM (l n : Nat) (F : Nat → Nat) (h : Nat) (a : Nat → Nat) (i : Nat) (m : zM) (p : Bool × zM) : Prop := fl2 [26] [(0, 38)] m p.2 ∧ (∀ q, mv l n F h a i = some q → p.1 = true ∧ wT n q.1 q.2 p.2) ∧ (mv l n F h a i = none → p.1 = false)
theorem mvM_no {l n h i : Nat} {F a : Nat → Nat} {m m' : zM} (hf : fl2 [26] [(0, 38)] m m') (e : mv l n F h a i = none) : mvM l n F h a i m (false, m') := ⟨hf, (fun q hq => by rw [e] at hq; cases hq), fun _ => rfl⟩
theorem fl26 {m m' : zM} (h : fl2 [26] [(0, 38)] m m') : m'.1 23 = m.1 23 ∧ m'.1 25 = m.1 25 ∧ m'.1 0 36 = m.1 0 36 := ⟨fl2_ic h (fun j => by simp [inS]), fl2_ic h (fun j => by simp [inS]), fl2_i h (by decide)⟩
theorem onM {r n h l i : Nat} {F a : Nat → Nat} {m0 m : zM} (hr16 : r < 16) (hr : rM r F m) (hF : fV F) (hl : m.1 23 4 = nI l) (hl1 : l ≤ 1) (hw : wM n h a m) (ht : wT n h a m) (hv : wV n h a) (hi : i < n) (h0 : F 0 = 0) (hf : fl2 [26] [(0, 38)] m0 m) : ok (f_MO_isMovedOn (nI r) (nI i) m) (mvM l n F h a i m0) := by
  have n4 := hv.2.1
  have hF' := hF
  obtain ⟨f0, f1, f2, f3, f4, f5, f6, f7⟩ := hF
  have hc := hv.2.2.2 i hi
  have b0 := oS_lt hc
  have ei : m.1 25 i = nI (mOf (a i)) := by rw [hw.2 i (by omega), if_pos hi]
  have em := mv_on (l := l) (n := n) (h := h) (i := i) (F := F) (a := a) h0
  have key : ∀ d : Nat, d < 2058 → stp l F (a i) = (if F 4 = 0 ∨ o3 d = 0 then some (oC (F 3) (o1 d) (o2 d) (o3 d + F 4)) else none) → ok (f_MO_isMovedOn_J46 (nI r) (nI i) (nI (mOf d)) m) (mvM l n F h a i m0) := by
    intro d hd es
    have ml := mOf_lt hd
    have b3 := o3_lt d
    have last : F 4 = 0 ∨ o3 d = 0 → ok (f_MO_isMovedOn_J69 (nI r) (nI i) (nI (mOf d)) m) (mvM l n F h a i m0) := by
      intro q
      rw [if_pos q] at es
      rw [es] at em
      unfold f_MO_isMovedOn_J69
      refine ok_eb (ruleM (k := 3) hr hr16 (by decide)) (ok_eb (ruleM (k := 4) hr hr16 (by decide)) (ok_ix rfl (by omega : i < 4) (by decide) (ok_lt (ok_mk ⟨fl2_tr hf (fl2_I (inS_c (by simp))), fun x hx => ?_, fun z => by rw [em] at z; cases z⟩))))
      rw [em] at hx
      cases hx
      have e1 : (nI (mOf d) &&& 511 ||| shl (fI F 3) 9 ||| (fI F 4 + 1)) = nI (mOf (oC (F 3) (o1 d) (o2 d) (o3 d + F 4))) := by
        rw [show fI F 3 = nI (F 3) from rfl, show fI F 4 = nI (F 4) - 1 from rfl, Int32.sub_add_cancel, ms_d d hd _ f3]
        have := ms_e (oC (F 3) (o1 d) (o2 d) (o3 d)) (oC_lt f3 (o1_lt _) (o2_lt _) b3) (F 4) f4 (by rw [oC_3 b3]; exact q)
        rw [oC_S (o1_lt _) (o2_lt _) b3, oC_1 (o1_lt _) (o2_lt _) b3, oC_2 (o2_lt _) b3, oC_3 b3] at this
        exact this
      refine ⟨rfl, ?_, fun j hj => ?_⟩
      · show (sI m 26 i _).1 0 38 = _
        rw [rd_I0 (by omega)]; exact ht.1
      · show (sI m 26 i _).1 26 j = nI (if j < n then mOf (if j = i then _ else a j) else 0)
        by_cases e : j = i
        · rw [e, rd_I1, if_pos hi, if_pos rfl]; exact e1
        · rw [rd_I0 (by omega), if_neg e]; exact ht.2 j hj
    unfold f_MO_isMovedOn_J46
    refine ok_in (nI_pos (by omega)) (ok_eb (ruleM (k := 4) hr hr16 (by decide)) ?_)
    rw [show fI F 4 = nI (F 4) - 1 from rfl, (ms_S d hd).2.2.2.1]
    refine ok_it (fun q => last (Or.inl ((sd_m1 (by omega)).mp q))) (fun q => ?_)
    refine ok_it (fun p => last (Or.inr ((nz_i (by omega)).mp p))) (fun p => ?_)
    refine ok_mk (mvM_no hf ?_)
    rw [em, es, if_neg (fun z => z.elim (fun y => q ((sd_m1 (by omega)).mpr y)) (fun y => p ((nz_i (by omega)).mpr y)))]
    rfl
  unfold f_MO_isMovedOn
  refine ok_ix rfl (by omega : i < 4) (by decide) (ok_eb (ruleM (k := 1) hr hr16 (by decide)) ?_)
  rw [ei, (ms_S _ hc).1, show fI F 1 = nI (F 1) from rfl]
  refine ok_it (fun q => ?_) (fun q => ?_)
  · have q1 := (nI_eq (by omega) (by omega)).mp q
    refine ok_eb (ruleM (k := 2) hr hr16 (by decide)) ?_
    rw [show fI F 2 = nI (F 2) - 1 from rfl]
    refine ok_it (fun p => ?_) (fun p => ?_)
    · have p2 := (sd_m1 (by omega)).mp p
      refine key (a i) hc ?_
      unfold stp
      rw [if_pos q1, if_pos p2]
      rfl
    · have p2 : F 2 ≠ 0 := fun z => p ((sd_m1 (by omega)).mpr z)
      refine ok_eb (ruleM (k := 2) hr hr16 (by decide)) ?_
      rw [show fI F 2 + 1 = nI (F 2) from Int32.sub_add_cancel _ _]
      refine ok_eb (without0 hl hl1 hc f2) ?_
      have es : stp l F (a i) = (tk l (a i) (F 2)).bind fun d => if F 4 = 0 ∨ o3 d = 0 then some (oC (F 3) (o1 d) (o2 d) (o3 d + F 4)) else none := by
        unfold stp
        rw [if_pos q1, if_neg p2]
      cases ht : tk l (a i) (F 2) with
      | none =>
        rw [ht] at es
        unfold f_MO_isMovedOn_J46
        refine ok_ip (show (-1 : Int32) < 0 by decide) (ok_mk (mvM_no hf ?_))
        rw [em, es]
        rfl
      | some d =>
        rw [ht] at es
        exact key d (tk_lt hc ht) es
  · refine ok_mk (mvM_no hf ?_)
    rw [em]
    unfold stp
    rw [if_neg (fun z => q (by rw [z]))]
    rfl
