theorem nxw_leW {P : Nat → Nat} {w N : Nat} {W D : Nat → Nat} {i c : Nat} (hL : Lst (Ed P w) (wx0 P) N W D) (hi : i < N) (hc : c < 64) : nxw P w N W i c ≤ N := by
  by_cases q : c / 4 = w
  · rw [nxw_0 (Or.inl q)]; omega
  · cases e : sP P (W i) c with
    | none => rw [nxw_0 (Or.inr e)]; omega
    | some y =>
      obtain ⟨t, t1, t2, t3⟩ := nxw_e hL hi hc q e
      omega
theorem nde_spW {P : Nat → Nat} {w N v c : Nat} {W D : Nat → Nat} (hP : tV P) (hL : Lst (Ed P w) (wx0 P) N W D) (hv : v < 4 * N) (ha : v % 4 < P 3) (hc : c < 64) (h : nde P w N W v c ≠ 0) : nde P w N W v c - 1 < 4 * N ∧ nod P W (nde P w N W v c - 1) = true := by
  have n4 := hP.1.2.1
  unfold nde at h ⊢
  by_cases q : nxw P w N W (v / 4) c = 0
  · rw [if_pos q] at h; exact absurd rfl h
  · rw [if_neg q]
    have t1 := nxw_leW hL (show v / 4 < N by omega) hc
    have r := rk_lt (a := da (P 3) ((sP P (W (v / 4)) c).getD 0)) ha
    have l := lkf_le (da (P 3) (W (nxw P w N W (v / 4) c - 1))) (rk (P 3) (da (P 3) ((sP P (W (v / 4)) c).getD 0)) (v % 4))
    have li := (lkf_id (da (P 3) (W (nxw P w N W (v / 4) c - 1))) (rk (P 3) (da (P 3) ((sP P (W (v / 4)) c).getD 0)) (v % 4))).2
    generalize lkf (da (P 3) (W (nxw P w N W (v / 4) c - 1))) (rk (P 3) (da (P 3) ((sP P (W (v / 4)) c).getD 0)) (v % 4)) = k at *
    refine ⟨by omega, ?_⟩
    unfold nod
    rw [show 4 * (nxw P w N W (v / 4) c - 1) + k + 1 - 1 = 4 * (nxw P w N W (v / 4) c - 1) + k by omega, show (4 * (nxw P w N W (v / 4) c - 1) + k) % 4 = k by omega, show (4 * (nxw P w N W (v / 4) c - 1) + k) / 4 = nxw P w N W (v / 4) c - 1 by omega, decide_eq_true li, decide_eq_true (show k < P 3 by omega)]
    rfl
theorem lkf_mi {a : Nat → Nat} {j : Nat} (hm : ∀ i, i < j → a i ≤ a (i + 1)) : ∀ k, k < lkf a j → a k ≠ a j := by
  induction j with
  | zero => intro k hk; exact absurd hk (Nat.not_lt_zero _)
  | succ j ih =>
    intro k hk
    have hk : k < (if a (j + 1) = a j then lkf a j else j + 1) := hk
    by_cases q : a (j + 1) = a j
    · rw [if_pos q] at hk
      rw [q]
      exact ih (fun i hi => hm i (by omega)) k hk
    · rw [if_neg q] at hk
      have mo : ∀ d, k + d ≤ j → a k ≤ a (k + d) := by
        intro d
        induction d with
        | zero => intro _; exact Nat.le_refl _
        | succ d ih => intro h; exact Nat.le_trans (ih (by omega)) (hm (k + d) (by omega))
      have := mo (j - k) (by omega)
      rw [show k + (j - k) = j by omega] at this
      have := hm j (by omega)
      omega
theorem Ior_mo {n : Nat} {a b : Nat → Nat} (h : Ior n a b) : ∀ i, i + 1 < n → b i ≤ b (i + 1) := by
  intro i hi
  rcases Nat.lt_or_ge (b (i + 1)) (b i) with q | q
  · have h1 := (h i (by omega)).1
    have h2 := (h (i + 1) hi).2
    have : cn (fun j => decide (a j ≤ b (i + 1))) n ≤ cn (fun j => decide (a j < b i)) n := cn_mo (fun j _ e => decide_eq_true (by have := of_decide_eq_true e; omega))
    omega
  · exact q
theorem fo_mo {n x : Nat} (h : kv n x) : ∀ i, i + 1 < n → da n (fo n x) i ≤ da n (fo n x) (i + 1) := by
  intro i hi
  rw [(fo_d h).2 i (by omega), (fo_d h).2 (i + 1) hi]
  exact Ior_mo (srt_Ior h.2.1) i hi
theorem likeM {c n j : Nat} {a : Nat → Nat} {m : zM} (hc : c = 25 ∨ c = 26) (hn : n ≤ 4) (hj : j < n) (ha : ∀ i, i < n → a i < 2058) (hm : ∀ i, i < n → m.1 c i = nI (mOf (a i))) (ho : ∀ i, i + 1 < n → a i ≤ a (i + 1)) : f_MO_firstLike c (nI (mOf (a j))) m = some (nI (lkf a j)) := by
  have hz : zlen gM c = 4 := by rcases hc with e | e <;> rw [e] <;> rfl
  have ll := lkf_le a j
  have lm := lkf_mi (a := a) (j := j) (fun i hi => ho i (by omega))
  have le := (lkf_id a j).1
  refine ok_eq.mp ?_
  unfold f_MO_firstLike f_MO_firstLike_L2
  refine ok_for (lkf a j) (fun k (s : Int32) => s = nI k) rfl (Nat.zero_le _) ?_
  rintro k x - hk rfl
  unfold f_MO_firstLike_B2
  rw [hz]
  refine ok_ix rfl (show k < 4 by omega) (by decide) ?_
  have b1 := mOf_lt (ha k (by omega))
  have b2 := mOf_lt (ha j hj)
  refine ok_ee (mOf (a k)) (mOf (a j)) (fun q => ok_mk ?_) (fun q => ok_mk ⟨?_, nI_1 k⟩) (hx := hm k (by omega))
  · show nI k = nI (lkf a j)
    have := (mOf_o _ _).2.mpr q
    rcases Nat.lt_or_ge k (lkf a j) with z | z
    · exact absurd this (lm k z)
    · rw [show k = lkf a j by omega]
  · rcases Nat.lt_or_ge k (lkf a j) with z | z
    · exact z
    · have : k = lkf a j := by omega
      rw [this, le] at q
      exact absurd rfl q
/-- what is looked at of a node -/
def lkd (P W : Nat → Nat) (v : Nat) : Nat := if nod P W v = true then oS (da (P 3) (W (v / 4)) (v % 4)) + 1 else 0
def ndn (P : Nat → Nat) (w N : Nat) (W : Nat → Nat) (v c : Nat) : Nat := if nod P W v = true then nde P w N W v c else 0
def KFr (m0 m : zM) : Prop := fl2 [25, 26, 31, 32] [(0, 36), (0, 38)] m0 m
theorem looksFromM {P : Nat → Nat} {w N v : Nat} {W D : Nat → Nat} {m : zM} (hP : tV P) (ht : tM 23 P m) (hL : LMx P w N W D m) (hv : v < 4 * N) : ok (f_MO_looksFrom (nI (v / 4)) (nI (v % 4)) m) (fun p => KFr m p ∧ (∀ u, u ≠ v → p.1 32 u = m.1 32 u) ∧ p.1 32 v = nI (lkd P W v) - 1 ∧ (∀ j, (j < 64 * v ∨ 64 * v + 64 ≤ j) → p.1 31 j = m.1 31 j) ∧ ∀ c, c < 64 → p.1 31 (64 * v + c) = nI (ndn P w N W v c) - 1) := by
  obtain ⟨l1, l2, l3, l4, l5⟩ := hL
  have n4 := hP.1.2.1
  have r16 := hP.1.2.2.2.2.2.2.2.2.2.2.1
  have vi : v / 4 < N := by omega
  obtain ⟨kw, fw⟩ := Rn_kv hP (l3.1 _ vi).1
  have e4 : (4 : Int32) * nI (v / 4) + nI (v % 4) = nI v := by rw [show (4 : Int32) = nI 4 from rfl, pk_mul, nI_add, show 4 * (v / 4) + v % 4 = v by omega]
  have mo : ∀ i, i + 1 < P 3 → da (P 3) (W (v / 4)) i ≤ da (P 3) (W (v / 4)) (i + 1) := by
    have := fo_mo kw
    rwa [fw] at this
  unfold f_MO_looksFrom
  refine ok_ix rfl (show v / 4 < 608 by omega) (by decide) ?_
  rw [(l4.2.1 _ vi).1]
  refine ok_bi (opensK kw) (fun p2 ⟨o1, o2⟩ => ?_)
  have t2 := tM_fl ht o1 (by decide)
  have r25 : ∀ i, i < P 3 → p2.1 25 i = nI (mOf (da (P 3) (W (v / 4)) i)) := fun i hi => wM_a o2 hi n4
  rw [e4]
  have fin : ∀ t2 : Int32, t2 = nI (lkd P W v) - 1 → ok (f_MO_looksFrom_J59 (nI (v / 4)) (nI (v % 4)) (nI v) 32 (nI v) t2 p2) (fun p => KFr m p ∧ (∀ u, u ≠ v → p.1 32 u = m.1 32 u) ∧ p.1 32 v = nI (lkd P W v) - 1 ∧ (∀ j, (j < 64 * v ∨ 64 * v + 64 ≤ j) → p.1 31 j = m.1 31 j) ∧ ∀ c, c < 64 → p.1 31 (64 * v + c) = nI (ndn P w N W v c) - 1) := by
    intro tt htt
    unfold f_MO_looksFrom_J59
    refine ok_ix rfl (show v < zlen gM 32 from (show v < 2432 by omega)) (by decide) (ok_lt ?_)
    unfold f_MO_looksFrom_L63
    refine ok_for 64 (fun c (s : Int32 × zM) => s.1 = nI c ∧ fl2 [26, 31] [(0, 38)] (sI p2 32 v tt) s.2 ∧ (∀ j, (j < 64 * v ∨ 64 * v + c ≤ j) → s.2.1 31 j = m.1 31 j) ∧ ∀ c', c' < c → s.2.1 31 (64 * v + c') = nI (ndn P w N W v c') - 1) ⟨rfl, fl2_rf, fun j _ => ?_, fun c' hc => absurd hc (Nat.not_lt_zero _)⟩ (Nat.zero_le _) ?_
    · show (sI p2 32 v tt).1 31 j = _
      rw [rd_I0 (by omega)]; exact fl2_i o1 (by simp [inS])
    rintro c ⟨x, m3⟩ - hc ⟨e, f3, g1, g2⟩
    have e : x = nI c := e
    subst e
    have f3 : fl2 [26, 31] [(0, 38)] (sI p2 32 v tt) m3 := f3
    have g1 : ∀ j, (j < 64 * v ∨ 64 * v + c ≤ j) → m3.1 31 j = m.1 31 j := g1
    have g2 : ∀ c', c' < c → m3.1 31 (64 * v + c') = nI (ndn P w N W v c') - 1 := g2
    unfold f_MO_looksFrom_B63
    refine ok_le 64 c (fun q => ok_mk ⟨?_, fun u hu => ?_, ?_, fun j hj => g1 j (by omega), fun c' hc' => g2 c' (by omega)⟩) (fun q => ?_)
    · exact fl2_tr (fl2_su o1 (by decide)) (fl2_tr (fl2_I (inS_c (by simp))) (fl2_su f3 (by decide)))
    · rw [fl2_i f3 (by simp [inS]), rd_I0 (by omega)]; exact fl2_i o1 (by simp [inS])
    · rw [fl2_i f3 (by simp [inS]), rd_I1]; exact htt
    · have ex : ∀ k, (64 : Int32) * nI k + nI c = nI (64 * k + c) := fun k => by rw [show (64 : Int32) = nI 64 from rfl, pk_mul, nI_add]
      have e4 : nI c / 4 = nI (c / 4) := pk_div (d := 4) (by omega) (by decide) (by decide)
      have e5 : ir (nI c) 4 = nI (c % 4) := pk_rem (d := 4) (by omega) (by decide) (by decide)
      rw [ex, ex]
      refine ok_ix rfl (show 64 * v + c < 155648 by omega) (by decide) (ok_lt (ok_ix rfl (show v < 2432 by omega) (by decide) ?_))
      have f10 : fl2 [26, 31] [(0, 38)] (sI p2 32 v tt) (sI m3 31 (64 * v + c) (-1)) := fl2_tr f3 (fl2_I (inS_c (by simp)))
      have e32 : (sI m3 31 (64 * v + c) (-1)).1 32 v = nI (lkd P W v) - 1 := by rw [rd_I0 (by omega), fl2_i f3 (by simp [inS]), rd_I1]; exact htt
      have nxt : ∀ m4, fl2 [26, 31] [(0, 38)] (sI p2 32 v tt) m4 → (∀ j, j ≠ 64 * v + c → m4.1 31 j = m3.1 31 j) → m4.1 31 (64 * v + c) = nI (ndn P w N W v c) - 1 → ok (f_MO_looksFrom_J173 (nI (v / 4)) (nI (v % 4)) (nI v) (nI c) m4) (lp (fun p => KFr m p ∧ (∀ u, u ≠ v → p.1 32 u = m.1 32 u) ∧ p.1 32 v = nI (lkd P W v) - 1 ∧ (∀ j, (j < 64 * v ∨ 64 * v + 64 ≤ j) → p.1 31 j = m.1 31 j) ∧ ∀ c, c < 64 → p.1 31 (64 * v + c) = nI (ndn P w N W v c) - 1) (fun s' : Int32 × zM => c < 64 ∧ s'.1 = nI (c + 1) ∧ fl2 [26, 31] [(0, 38)] (sI p2 32 v tt) s'.2 ∧ (∀ j, (j < 64 * v ∨ 64 * v + (c + 1) ≤ j) → s'.2.1 31 j = m.1 31 j) ∧ ∀ c', c' < c + 1 → s'.2.1 31 (64 * v + c') = nI (ndn P w N W v c') - 1)) := by
        intro m4 a1 a2 a3
        refine ok_mk ⟨q, nI_1 c, a1, fun j hj => ?_, fun c' hc' => ?_⟩
        · show m4.1 31 j = _
          rw [a2 j (by omega)]; exact g1 j (by omega)
        · show m4.1 31 (64 * v + c') = _
          by_cases u : c' = c
          · rw [u]; exact a3
          · rw [a2 _ (by omega)]; exact g2 c' (by omega)
      have none' : ndn P w N W v c = 0 → ok (f_MO_looksFrom_J173 (nI (v / 4)) (nI (v % 4)) (nI v) (nI c) (sI m3 31 (64 * v + c) (-1))) (lp (fun p => KFr m p ∧ (∀ u, u ≠ v → p.1 32 u = m.1 32 u) ∧ p.1 32 v = nI (lkd P W v) - 1 ∧ (∀ j, (j < 64 * v ∨ 64 * v + 64 ≤ j) → p.1 31 j = m.1 31 j) ∧ ∀ c, c < 64 → p.1 31 (64 * v + c) = nI (ndn P w N W v c) - 1) (fun s' : Int32 × zM => c < 64 ∧ s'.1 = nI (c + 1) ∧ fl2 [26, 31] [(0, 38)] (sI p2 32 v tt) s'.2 ∧ (∀ j, (j < 64 * v ∨ 64 * v + (c + 1) ≤ j) → s'.2.1 31 j = m.1 31 j) ∧ ∀ c', c' < c + 1 → s'.2.1 31 (64 * v + c') = nI (ndn P w N W v c') - 1)) := fun z => nxt _ f10 (fun j hj => rd_I0 (by omega)) (by rw [rd_I1, z]; decide)
      have lb : lkd P W v < 2 ^ 31 := by
        unfold lkd
        have := oS_lt (da_lt (P 3) (W (v / 4)) (v % 4))
        split <;> omega
      refine ok_mm (lkd P W v) (fun z => none' ?_) (fun z => ?_) (hx := e32)
      · unfold lkd at z
        unfold ndn
        by_cases y : nod P W v = true
        · rw [if_pos y] at z; omega
        · rw [if_neg y]
      · have yn : nod P W v = true := by
          by_cases y : nod P W v = true
          · exact y
          · unfold lkd at z; rw [if_neg y] at z; omega
        have va := nod_a yn
        have e30 : (sI m3 31 (64 * v + c) (-1)).1 30 (64 * (v / 4) + c) = nI (nxw P w N W (v / 4) c) - 1 := by
          rw [rd_I0 (by omega), fl2_i f3 (by simp [inS]), rd_I0 (by omega), fl2_i o1 (by simp [inS])]
          exact l5 _ vi c q
        have nl := nxw_leW l3 vi q
        refine ok_ix rfl (show 64 * (v / 4) + c < 38912 by omega) (by decide) ?_
        refine ok_mm (nxw P w N W (v / 4) c) (fun y => none' ?_) (fun y => ?_) (hx := e30)
        · unfold ndn nde
          rw [if_pos yn, if_pos y]
        · obtain ⟨ps, cw⟩ := nxw_nz.mp (show nxw P w N W (v / 4) c ≠ 0 by omega)
          obtain ⟨pr1, pr2⟩ := psb_r ps
          obtain ⟨y', y1, y2⟩ := psb_s ps
          obtain ⟨t, t1, t2', t3⟩ := nxw_e l3 vi q cw y1
          have t10 : tM 23 P (sI m3 31 (64 * v + c) (-1)) := tM_fl t2 (fl2_tr (S := [26, 31, 32]) (F := [(0, 38)]) (fl2_I (inS_c (by simp))) (fl2_su f10 (by decide))) (by decide)
          have o10 : wM (P 3) (dh (P 3) (W (v / 4))) (da (P 3) (W (v / 4))) (sI m3 31 (64 * v + c) (-1)) := wM_fl o2 (fl2_tr (S := [26, 31, 32]) (F := [(0, 38)]) (fl2_I (inS_c (by simp))) (fl2_su f10 (by decide))) (by decide)
          rw [e4, e5]
          refine ok_bi (movedK hP t10 kw o10 pr1 pr2) (fun p13 ⟨m1', m2', _⟩ => ?_)
          rw [show 4 * (c / 4) + c % 4 = c by omega] at m2'
          obtain ⟨_, ky, w13⟩ := m2' y' y1
          refine ok_ix rfl (show v % 4 < 4 by omega) (by decide) ?_
          have e26 : p13.2.1 26 (v % 4) = nI (mOf (da (P 3) y' (v % 4))) := by rw [w13.2 _ (by omega), if_pos va]
          rw [e26]
          have f13 : fl2 [26, 31] [(0, 38)] (sI p2 32 v tt) p13.2 := fl2_tr f10 (fl2_su m1' (by decide))
          have t13 : tM 23 P p13.2 := tM_fl t10 m1' (by decide)
          refine ok_bi (foldsK (tM_n t13 (by decide) (by decide)) w13 ky) (fun p15 ⟨n1, n2⟩ => ?_)
          have f15 : fl2 [26, 31] [(0, 38)] (sI p2 32 v tt) p15 := fl2_tr f13 (fl2_su n1 (by decide))
          refine ok_ix rfl (show 64 * (v / 4) + c < 38912 by omega) (by decide) ?_
          have rl := rk_lt (a := da (P 3) y') va
          have lk := likeM (c := 26) (n := P 3) (j := rk (P 3) (da (P 3) y') (v % 4)) (a := da (P 3) (fo (P 3) y')) (m := p15) (Or.inr rfl) n4 rl (fun i _ => da_lt _ _ _) (fun i hi => by rw [n2.2 i (by omega), if_pos hi]) (fo_mo ky)
          rw [fo_rk ky va] at lk
          refine ok_eb lk (ok_ix rfl (show 64 * v + c < 155648 by omega) (by decide) (ok_lt ?_))
          have e30' : p15.1 30 (64 * (v / 4) + c) = nI (nxw P w N W (v / 4) c) - 1 := by
            rw [fl2_i f15 (by simp [inS]), rd_I0 (by omega), fl2_i o1 (by simp [inS])]
            exact l5 _ vi c q
          refine nxt _ (fl2_tr f15 (fl2_I (inS_c (by simp)))) (fun j hj => ?_) ?_
          · rw [rd_I0 (by omega), fl2_i n1 (by simp [inS]), fl2_i m1' (by simp [inS]), rd_I0 (by omega)]
          · rw [rd_I1, e30', t3, nI_pred, show (4 : Int32) = nI 4 from rfl, pk_mul, nI_add]
            unfold ndn nde
            rw [if_pos yn, t3, if_neg (by omega), Nat.add_sub_cancel, y2, t2', nI_pred]
  unfold f_MO_looksFrom_J58
  refine ok_eb (agM (tM_n t2 (by decide) (by decide))) ?_
  have no : nod P W v = false → (-1 : Int32) = nI (lkd P W v) - 1 := fun z => by unfold lkd; rw [if_neg (by rw [z]; decide)]; decide
  refine ok_le (P 3) (v % 4) (fun q => fin _ (no ?_)) (fun q => ?_)
  · unfold nod; rw [decide_eq_false (show ¬ v % 4 < P 3 by omega)]; rfl
  · refine ok_ix rfl (show v % 4 < 4 by omega) (by decide) ?_
    rw [r25 _ q]
    have lk := likeM (c := 25) (n := P 3) (j := v % 4) (a := da (P 3) (W (v / 4))) (m := p2) (Or.inl rfl) n4 q (fun i _ => da_lt _ _ _) r25 mo
    refine ok_eb lk ?_
    have ll := lkf_le (da (P 3) (W (v / 4))) (v % 4)
    refine ok_ee (lkf (da (P 3) (W (v / 4))) (v % 4)) (v % 4) (fun z => ?_) (fun z => fin _ (no ?_))
    · refine ok_ix rfl (show v % 4 < 4 by omega) (by decide) ?_
      rw [r25 _ q, (ms_S _ (da_lt _ _ _)).1]
      refine fin _ ?_
      unfold lkd
      rw [if_pos (show nod P W v = true by unfold nod; rw [decide_eq_true q, decide_eq_true z]; rfl), nI_pred]
    · unfold nod; rw [decide_eq_false z, Bool.and_false]
theorem lookManyM {N : Nat} {m : zM} (h : m.1 0 41 = nI N) : f_MO_lookMany m = nI (4 * N) := by
  unfold f_MO_lookMany
  rw [h, show (4 : Int32) = nI 4 from rfl, pk_mul]
/-- the reference's fixed point: what can come to what is so -/
theorem leadsIM {P : Nat → Nat} {w N v c : Nat} {W D : Nat → Nat} {so : Nat → Bool} {m : zM} (hP : tV P) (hL : Lst (Ed P w) (wx0 P) N W D) (hN : N ≤ 600) (hc : c = 35 ∨ c = 36) (h31 : ∀ v, v < 4 * N → ∀ k, k < 64 → m.1 31 (64 * v + k) = nI (ndn P w N W v k) - 1) (hs : ∀ v, v < 4 * N → m.1 c v = b2i (so v)) (hv : v < 4 * N) : ok (f_MO_leadsInto (nI v) c m) (fun r => r = true ↔ ∃ k u, k < 64 ∧ ndn P w N W v k = u + 1 ∧ so u = true) := by
  have hz : zlen gM c = 2432 := by rcases hc with e | e <;> rw [e] <;> rfl
  have e64 : (64 : Int32) * nI v = nI (64 * v) := by rw [show (64 : Int32) = nI 64 from rfl, pk_mul]
  have bnd : ∀ k, k < 64 → ∀ u, ndn P w N W v k = u + 1 → u < 4 * N := by
    intro k hk u hu
    unfold ndn at hu
    by_cases y : nod P W v = true
    · rw [if_pos y] at hu
      have := (nde_spW hP hL hv (nod_a y) hk (by omega)).1
      omega
    · rw [if_neg y] at hu; omega
  unfold f_MO_leadsInto f_MO_leadsInto_L5
  rw [e64]
  refine ok_for 64 (fun k (s : Int32) => s = nI (64 * v + k) ∧ ∀ k', k' < k → ∀ u, ndn P w N W v k' = u + 1 → so u = false) (k0 := 0) ⟨rfl, fun k' hk => absurd hk (Nat.not_lt_zero _)⟩ (Nat.zero_le _) ?_
  rintro k x - hk ⟨rfl, g⟩
  unfold f_MO_leadsInto_B5 f_MO_leadsInto_J39
  rw [e64, show (64 : Int32) = nI 64 from rfl, nI_add]
  refine ok_le (64 * v + 64) (64 * v + k) (fun q => ok_mk ⟨fun z => (by cases z), fun ⟨k', u, h1, h2, h3⟩ => ?_⟩) (fun q => ?_)
  · rw [g k' (by omega) u h2] at h3; cases h3
  · have qk : k < 64 := by omega
    have nb : ndn P w N W v k < 2 ^ 31 := by
      rcases Nat.eq_zero_or_pos (ndn P w N W v k) with z | z
      · omega
      · have := bnd k qk (ndn P w N W v k - 1) (by omega)
        omega
    have nxt : (∀ u, ndn P w N W v k = u + 1 → so u = false) → ok (some (Sum.inr (nI (64 * v + k) + 1))) (lp (fun r : Bool => r = true ↔ ∃ k u, k < 64 ∧ ndn P w N W v k = u + 1 ∧ so u = true) (fun s' : Int32 => k < 64 ∧ s' = nI (64 * v + (k + 1)) ∧ ∀ k', k' < k + 1 → ∀ u, ndn P w N W v k' = u + 1 → so u = false)) := fun hz => ok_mk ⟨qk, nI_1 _, fun k' hk' u hu => by
      by_cases y : k' = k
      · rw [y] at hu; exact hz u hu
      · exact g k' (by omega) u hu⟩
    refine ok_ix rfl (show 64 * v + k < 155648 by omega) (by decide) ?_
    refine ok_mm (ndn P w N W v k) (fun z => nxt (fun u hu => by omega)) (fun z => ?_) (hx := h31 v hv k qk)
    obtain ⟨u, eu⟩ : ∃ u, ndn P w N W v k = u + 1 := ⟨ndn P w N W v k - 1, by omega⟩
    have ub := bnd k qk u eu
    refine ok_ix rfl (show 64 * v + k < 155648 by omega) (by decide) ?_
    rw [h31 v hv k qk, eu, nI_pred, hz]
    refine ok_ix rfl (show u < 2432 by omega) (by decide) ?_
    rw [hs u ub]
    refine ok_it (fun y => nxt (fun u' hu' => ?_)) (fun y => ok_mk ⟨fun _ => ⟨k, u, qk, eu, ?_⟩, fun _ => rfl⟩)
    · rw [← show u = u' by omega]; exact b2i_0.mp y
    · cases es : so u with
      | true => rfl
      | false => exact absurd (b2i_0.mpr es) y
theorem spreadsM {P : Nat → Nat} {w N c av : Nat} {W D : Nat → Nat} {so : Nat → Bool} {m : zM} (hP : tV P) (hL : Lst (Ed P w) (wx0 P) N W D) (hN : N ≤ 600) (hc : c = 35 ∨ c = 36) (h41 : m.1 0 41 = nI N) (h31 : ∀ v, v < 4 * N → ∀ k, k < 64 → m.1 31 (64 * v + k) = nI (ndn P w N W v k) - 1) (h34 : ∀ v, v < 4 * N → m.1 34 v = b2i (opF P W av v)) (hs : ∀ v, v < 4 * N → m.1 c v = b2i (so v)) (hso : ∀ v, so v = true → v < 4 * N ∧ opF P W av v = true) : ok (f_MO_spreads c m) (fun p => fl2 [c] [] m p ∧ ∃ so' : Nat → Bool, (∀ v, v < 4 * N → p.1 c v = b2i (so' v)) ∧ ∀ v, v < 4 * N → (so' v = true ↔ opF P W av v = true ∧ ∃ u, Rc (EFo P w N W av) v u ∧ so u = true)) := by
  have hz : zlen gM c = 2432 := by rcases hc with e | e <;> rw [e] <;> rfl
  have hce : ∀ (S : zM), fl2 [c] [] m S → S.1 0 41 = nI N ∧ (∀ v, v < 4 * N → ∀ k, k < 64 → S.1 31 (64 * v + k) = nI (ndn P w N W v k) - 1) ∧ ∀ v, v < 4 * N → S.1 34 v = b2i (opF P W av v) := by
    intro S hS
    refine ⟨?_, fun v hv k hk => ?_, fun v hv => ?_⟩
    · rw [fl2_i hS (by rcases hc with e | e <;> rw [e] <;> decide)]; exact h41
    · rw [fl2_i hS (by rcases hc with e | e <;> rw [e] <;> simp [inS])]; exact h31 v hv k hk
    · rw [fl2_i hS (by rcases hc with e | e <;> rw [e] <;> simp [inS])]; exact h34 v hv
  -- an edge
  have edg : ∀ v u k, opF P W av v = true → k < 64 → ndn P w N W v k = u + 1 → opF P W av u = true → EFo P w N W av v u := by
    intro v u k h1 h2 h3 h4
    refine ⟨h1, k, h2, ?_⟩
    unfold ndn at h3
    rw [if_pos (opF_n h1).1] at h3
    unfold nda
    rw [h3, Nat.add_sub_cancel, if_neg (fun z => by
      rcases z with z | z
      · omega
      · rw [(opF_n h4).2] at z; cases z)]
  have gde : ∀ v u, EFo P w N W av v u → ∃ k, k < 64 ∧ ndn P w N W v k = u + 1 := by
    rintro v u ⟨h1, k, h2, h3⟩
    refine ⟨k, h2, ?_⟩
    unfold nda at h3
    unfold ndn
    rw [if_pos (opF_n h1).1]
    split at h3
    · omega
    · exact h3
  unfold f_MO_spreads f_MO_spreads_L2
  refine ok_lop (ι := Nat) (fun μ (s : Bool × zM) => fl2 [c] [] m s.2 ∧ ∃ so1 : Nat → Bool, (∀ v, v < 4 * N → s.2.1 c v = b2i (so1 v)) ∧ (∀ v, so v = true → so1 v = true) ∧ (∀ v, so1 v = true → v < 4 * N ∧ opF P W av v = true ∧ ∃ u, Rc (EFo P w N W av) v u ∧ so u = true) ∧ (s.1 = false → ∀ v, v < 4 * N → opF P W av v = true → so1 v = false → ∀ k u, k < 64 → ndn P w N W v k = u + 1 → so1 u = false) ∧ μ = 2 * (4 * N - cn so1 (4 * N)) + (if s.1 = true then 1 else 0)) (fun μ => μ) ?_ (2 * (4 * N - cn so (4 * N)) + 1) _ ⟨fl2_rf, so, hs, fun _ h => h, fun v h => ⟨(hso v h).1, (hso v h).2, v, Rc_rf, h⟩, fun z => (by cases z), rfl⟩ (by omega)
  rintro μ ⟨more, m1⟩ ⟨f1, so1, a1, a2, a3, a4, a5⟩
  have f1 : fl2 [c] [] m m1 := f1
  have a1 : ∀ v, v < 4 * N → m1.1 c v = b2i (so1 v) := a1
  have a4 : more = false → ∀ v, v < 4 * N → opF P W av v = true → so1 v = false → ∀ k u, k < 64 → ndn P w N W v k = u + 1 → so1 u = false := a4
  have a5 : μ = 2 * (4 * N - cn so1 (4 * N)) + (if more = true then 1 else 0) := a5
  unfold f_MO_spreads_B2
  refine ok_tf (fun z => ?_) (fun z => ok_mk ⟨f1, so1, a1, fun v hv => ⟨fun y => (a3 v y).2, fun ⟨y1, u, y2, y3⟩ => ?_⟩⟩)
  · have z : more = true := z
    obtain ⟨c41, _, _⟩ := hce m1 f1
    rw [lookManyM c41]
    unfold f_MO_spreads_L15
    refine ok_lop (ι := Nat) (fun i (s : Bool × Int32 × zM) => i ≤ 4 * N ∧ s.2.1 = nI i - 1 ∧ fl2 [c] [] m s.2.2 ∧ ∃ so2 : Nat → Bool, (∀ v, v < 4 * N → s.2.2.1 c v = b2i (so2 v)) ∧ (∀ v, so1 v = true → so2 v = true) ∧ (∀ v, so2 v = true → v < 4 * N ∧ opF P W av v = true ∧ ∃ u, Rc (EFo P w N W av) v u ∧ so u = true) ∧ ((s.1 = true ∧ cn so1 (4 * N) < cn so2 (4 * N)) ∨ (s.1 = false ∧ so2 = so1 ∧ ∀ v, i ≤ v → v < 4 * N → opF P W av v = true → so1 v = false → ∀ k u, k < 64 → ndn P w N W v k = u + 1 → so1 u = false))) (fun i => i) ?_ (4 * N) _ ⟨Nat.le_refl _, rfl, f1, so1, a1, fun _ h => h, a3, Or.inr ⟨rfl, rfl, fun v h1 h2 => by omega⟩⟩ (by omega)
    rintro i ⟨b, x, m2⟩ ⟨hi, e, f2, so2, b1, b2, b3, b4⟩
    have e : x = nI i - 1 := e
    subst e
    have f2 : fl2 [c] [] m m2 := f2
    have b1 : ∀ v, v < 4 * N → m2.1 c v = b2i (so2 v) := b1
    have b4 : (b = true ∧ cn so1 (4 * N) < cn so2 (4 * N)) ∨ (b = false ∧ so2 = so1 ∧ ∀ v, i ≤ v → v < 4 * N → opF P W av v = true → so1 v = false → ∀ k u, k < 64 → ndn P w N W v k = u + 1 → so1 u = false) := b4
    obtain ⟨c41, c31, c34⟩ := hce m2 f2
    unfold f_MO_spreads_B15 f_MO_spreads_J55 f_MO_spreads_J49
    rcases Nat.eq_zero_or_pos i with i0 | i0
    · subst i0
      refine ok_ip (show nI 0 - 1 < 0 by decide) (ok_zl (ok_mk ⟨2 * (4 * N - cn so2 (4 * N)) + (if b = true then 1 else 0), ?_, f2, so2, b1, fun v h => b2 v (a2 v h), b3, fun y v h1 h2 h3 => ?_, rfl⟩))
      · have := cn_le so2 (4 * N)
        rw [a5, if_pos z]
        rcases b4 with ⟨d1, d2⟩ | ⟨d1, d2, _⟩
        · rw [d1, if_pos rfl]; omega
        · rw [d1, d2, if_neg (by decide)]; omega
      · have y : b = false := y
        rcases b4 with ⟨d1, _⟩ | ⟨_, d2, d3⟩
        · rw [d1] at y; cases y
        · rw [d2] at h3 ⊢; exact d3 v (Nat.zero_le _) h1 h2 h3
    · have iv : i - 1 < 4 * N := by omega
      rw [nI_pr i0]
      have nx : nI (i - 1) + (-1) = nI (i - 1) - 1 := (Int32.sub_eq_add_neg _ _).symm
      refine ok_in (nI_pos (by omega)) ?_
      rw [hz]
      refine ok_ix rfl (show i - 1 < 2432 by omega) (by decide) ?_
      rw [b1 _ iv]
      have same : (so1 (i - 1) = false → opF P W av (i - 1) = true → so2 = so1 → ∀ k u, k < 64 → ndn P w N W (i - 1) k = u + 1 → so1 u = false) → ok (some (Sum.inr (b, nI (i - 1) + (-1), m2))) (lp (lp (fun p => fl2 [c] [] m p ∧ ∃ so' : Nat → Bool, (∀ v, v < 4 * N → p.1 c v = b2i (so' v)) ∧ ∀ v, v < 4 * N → (so' v = true ↔ opF P W av v = true ∧ ∃ u, Rc (EFo P w N W av) v u ∧ so u = true)) (fun s' : Bool × zM => ∃ i', i' < μ ∧ fl2 [c] [] m s'.2 ∧ ∃ so1 : Nat → Bool, (∀ v, v < 4 * N → s'.2.1 c v = b2i (so1 v)) ∧ (∀ v, so v = true → so1 v = true) ∧ (∀ v, so1 v = true → v < 4 * N ∧ opF P W av v = true ∧ ∃ u, Rc (EFo P w N W av) v u ∧ so u = true) ∧ (s'.1 = false → ∀ v, v < 4 * N → opF P W av v = true → so1 v = false → ∀ k u, k < 64 → ndn P w N W v k = u + 1 → so1 u = false) ∧ i' = 2 * (4 * N - cn so1 (4 * N)) + (if s'.1 = true then 1 else 0))) (fun s' : Bool × Int32 × zM => ∃ i', i' < i ∧ i' ≤ 4 * N ∧ s'.2.1 = nI i' - 1 ∧ fl2 [c] [] m s'.2.2 ∧ ∃ so2 : Nat → Bool, (∀ v, v < 4 * N → s'.2.2.1 c v = b2i (so2 v)) ∧ (∀ v, so1 v = true → so2 v = true) ∧ (∀ v, so2 v = true → v < 4 * N ∧ opF P W av v = true ∧ ∃ u, Rc (EFo P w N W av) v u ∧ so u = true) ∧ ((s'.1 = true ∧ cn so1 (4 * N) < cn so2 (4 * N)) ∨ (s'.1 = false ∧ so2 = so1 ∧ ∀ v, i' ≤ v → v < 4 * N → opF P W av v = true → so1 v = false → ∀ k u, k < 64 → ndn P w N W v k = u + 1 → so1 u = false)))) := by
        intro hq
        refine ok_mk ⟨i - 1, by omega, by omega, nx, f2, so2, b1, b2, b3, ?_⟩
        rcases b4 with d | ⟨d1, d2, d3⟩
        · exact Or.inl d
        · refine Or.inr ⟨d1, d2, fun v h1 h2 h3 h4 => ?_⟩
          by_cases y : v = i - 1
          · rw [y] at h3 h4 ⊢; exact hq h4 h3 d2
          · exact d3 v (by omega) h2 h3 h4
      refine ok_it (fun y => ?_) (fun y => same (fun h1 _ h3 => ?_))
      · have y := b2i_0.mp y
        refine ok_ix rfl (show i - 1 < 2432 by omega) (by decide) ?_
        rw [c34 _ iv]
        refine ok_it (fun t => same (fun _ h2 => ?_)) (fun t => ?_)
        · rw [b2i_0.mp t] at h2; cases h2
        · have op : opF P W av (i - 1) = true := by
            cases eo : opF P W av (i - 1) with
            | true => rfl
            | false => exact absurd (b2i_0.mpr eo) t
          refine ok_bi (leadsIM hP hL hN hc c31 b1 iv) (fun r hr => ?_)
          refine ok_tf (fun g => ?_) (fun g => same (fun _ _ h3 k u h4 h5 => ?_))
          · obtain ⟨k, u, k1, k2, k3⟩ := hr.mp g
            obtain ⟨u1, u2, x', u3, u4⟩ := b3 u k3
            have ed := edg (i - 1) u k op k1 k2 u2
            refine ok_ix rfl (show i - 1 < 2432 by omega) (by decide) (ok_lt (ok_mk ⟨i - 1, by omega, by omega, nx, fl2_tr f2 (fl2_I (inS_c (by simp))), fun v => if v = i - 1 then true else so2 v, fun v hv => ?_, fun v h => ?_, fun v h => ?_, Or.inl ⟨rfl, ?_⟩⟩))
            · show (sI m2 c (i - 1) (b2i true)).1 c v = b2i (if v = i - 1 then true else so2 v)
              by_cases s : v = i - 1
              · rw [s, rd_I1, if_pos rfl]
              · rw [rd_I0 (by omega), if_neg s]; exact b1 v hv
            · show (if v = i - 1 then true else so2 v) = true
              by_cases s : v = i - 1
              · rw [if_pos s]
              · rw [if_neg s]; exact b2 v h
            · have h : (if v = i - 1 then true else so2 v) = true := h
              by_cases s : v = i - 1
              · rw [s]; exact ⟨iv, op, x', Rc_tr (Rc_ed ed) u3, u4⟩
              · rw [if_neg s] at h; exact b3 v h
            · have : cn so2 (4 * N) < cn (fun v => if v = i - 1 then true else so2 v) (4 * N) := cn_st iv (fun j _ h => by show (if j = i - 1 then true else so2 j) = true; split; rfl; exact h) y (by show (if i - 1 = i - 1 then true else _) = true; rw [if_pos rfl])
              have l := cn_mo (p := so1) (q := so2) (n := 4 * N) (fun j _ h => b2 j h)
              omega
          · cases es : so1 u with
            | false => rfl
            | true =>
              have := hr.mpr ⟨k, u, h4, h5, b2 u es⟩
              rw [g] at this; cases this
      · rw [h3, h1] at y
        exact absurd rfl y
  · have z : more = false := z
    have a4 := a4 z
    by_cases y : so1 v = true
    · exact y
    · have y : so1 v = false := by simpa using y
      have np := Rc_in (p := fun x => x < 4 * N ∧ so1 x = false) y2 ⟨hv, y⟩ (fun x t hx ht => by
        obtain ⟨k, k1, k2⟩ := gde x t ht
        refine ⟨?_, a4 x hx.1 ht.1 hx.2 k t k1 k2⟩
        unfold ndn at k2
        rw [if_pos (opF_n ht.1).1] at k2
        have := (nde_spW hP hL hx.1 (nod_a (opF_n ht.1).1) k1 (by omega)).1
        omega)
      rw [a2 u y3] at np
      cases np.2
