theorem fl2_C {S : List Nat} {F : List (Nat × Nat)} {m : zM} {a b sp dp n : Nat} (hb : b ∈ S) : fl2 S F m (cI m a b sp dp n) := ⟨fun k j hk => ⟨if_neg (fun z => by rw [z, inS_c hb] at hk; cases hk), rfl⟩, rfl⟩
theorem copyX {w v n h : Nat} {a : Nat → Nat} {m : zM} (hv : wX v n h a m) (hn : n ≤ 4) (h1 : v ≠ w) (h2 : v + 1 ≠ w) (h3 : v ≠ w + 1) : ok (f_World_copy w v m) (fun p => fl2 [w, w + 1] [] m p ∧ wX w n h a p) := by
  unfold f_World_copy
  refine ok_lt (ok_lt (ok_eb (show zcpy 4 4 0 0 4 = some (0, 0, 4) by decide) (ok_lt (ok_mk ⟨fl2_tr (fl2_I (inS_c (by simp))) (fl2_tr (fl2_I (inS_c (by simp))) (fl2_C (by simp))), ?_, ?_, fun i hi => ?_⟩))))
  · show (if w = w + 1 then _ else (sI (sI m w 0 (m.1 v 0)) w 1 _).1 w 0) = _
    rw [if_neg (by omega), rd_I0 (by omega), rd_I1]
    exact hv.1
  · show (if w = w + 1 then _ else (sI (sI m w 0 (m.1 v 0)) w 1 _).1 w 1) = _
    rw [if_neg (by omega), rd_I1, rd_I0 (by omega)]
    exact hv.2.1
  · show (if w + 1 = w + 1 then va_cpy ((sI (sI m w 0 (m.1 v 0)) w 1 _).1 (v + 1)) _ 0 0 4 i else _) = _
    rw [if_pos rfl, pk_cpy_in (by omega) (by omega), rd_I0 (by omega), rd_I0 (by omega), show 0 + (i - 0) = i by omega]
    exact hv.2.2 i hi
theorem rX_fl {r w : Nat} {F : Nat → Nat} {m m' : zM} (hr : rX r F m) (h : fl2 [w, w + 1] [] m m') (h1 : r ≠ w) (h2 : r ≠ w + 1) : rX r F m' := fun k hk => by rw [fl2_i h (inS2 h1 h2)]; exact hr k hk
theorem mv_on {l n h i : Nat} {F a : Nat → Nat} (h0 : F 0 = 0) : mv l n F h a i = (stp l F (a i)).map (fun d => (h, fun j => if j = i then d else a j)) := by unfold mv; rw [if_pos h0]
def srvC (l n : Nat) (F : Nat → Nat) (h : Nat) (a : Nat → Nat) (i : Nat) : Prop := h = F 1 + 1 ∧ o3 (a i) = F 2 ∧ (F 6 = 0 ∨ oth n a i (F 6 - 1) = decide (F 7 = 1)) ∧ srvA l n F a i
theorem mv_at {l n h i : Nat} {F a : Nat → Nat} (h0 : F 0 ≠ 0) (hc : srvC l n F h a i) : mv l n F h a i = some (F 3 + 1, fun j => (srv l F a i j).getD 0) := by unfold mv; rw [if_neg h0]; exact if_pos hc
theorem mv_an {l n h i : Nat} {F a : Nat → Nat} (h0 : F 0 ≠ 0) (hc : ¬ srvC l n F h a i) : mv l n F h a i = none := by unfold mv; rw [if_neg h0]; exact if_neg hc
def mvP (w l n : Nat) (F : Nat → Nat) (h : Nat) (a : Nat → Nat) (i : Nat) (m : zM) (p : Bool × zM) : Prop := fl2 [w, w + 1] [] m p.2 ∧ (∀ q, mv l n F h a i = some q → p.1 = true ∧ wX w n q.1 q.2 p.2) ∧ (mv l n F h a i = none → p.1 = false)
theorem mvP_no {w l n h i : Nat} {F a : Nat → Nat} {m m' : zM} (hf : fl2 [w, w + 1] [] m m') (e : mv l n F h a i = none) : mvP w l n F h a i m (false, m') := ⟨hf, (fun q hq => by rw [e] at hq; cases hq), fun _ => rfl⟩
theorem goX {tb r v w n h l i : Nat} {F a : Nat → Nat} {m : zM} (hr16 : r < 16) (hr : rX (tb + 7 + r) F m) (hF : fV F) (hL : m.1 tb 3 = nI l) (hl : l ≤ 1) (hw : wX v n h a m) (hv : wV n h a) (hi : i < n) (h1 : v ≠ w) (h2 : v + 1 ≠ w) (h3 : v ≠ w + 1) (h4 : tb ≠ w) (h5 : tb ≠ w + 1) (h6 : tb + 7 + r ≠ w) (h7 : tb + 7 + r ≠ w + 1) : ok (f_Table_go tb v (nI r) (nI i) w m) (mvP w l n F h a i m) := by
  have n4 := hv.2.1
  have h6b := hv.2.2.1
  have hF' := hF
  obtain ⟨f0, f1, f2, f3, f4, f5, f6, f7⟩ := hF
  have hc := hv.2.2.2 i hi
  have b0 := oS_lt hc
  have b3 := o3_lt (a i)
  have e0 : m.1 (tb + 7 + r) 0 = nI (F 0) := hr 0 (by decide)
  have e1 : m.1 (tb + 7 + r) 1 = nI (F 1) := hr 1 (by decide)
  have e2 : m.1 (tb + 7 + r) 2 = nI (F 2) - 1 := hr 2 (by decide)
  have isf : f_Row_isFor (tb + 7 + r) v (nI i) m = some (if F 0 = 0 then decide (oS (a i) = F 1) else decide (h = F 1 + 1 ∧ o3 (a i) = F 2)) := by
    unfold f_Row_isFor f_Row_isFor_J41
    simp only [ix_nI (n := 4) (show i < 4 by omega) (by decide), Option.bind_some, hw.2.2 i hi, hd0 hc, hd3 hc, e0, e1, e2, hw.1]
    by_cases q0 : F 0 = 0
    · rw [if_pos ((nz_i (by omega)).mpr q0), if_pos q0]
      by_cases q1 : oS (a i) = F 1
      · rw [if_pos (by rw [q1]), decide_eq_true q1]
      · rw [if_neg (fun z => q1 ((nI_eq (by omega) (by omega)).mp z)), decide_eq_false q1]
    · rw [if_neg (fun z => q0 ((nz_i (by omega)).mp z)), if_neg q0, show nI (F 1) = nI (F 1 + 1) - 1 from (nI_pred _).symm]
      by_cases q1 : h = F 1 + 1
      · rw [if_pos (by rw [q1])]
        by_cases q3 : o3 (a i) = F 2
        · rw [if_pos (by rw [q3]), decide_eq_true ⟨q1, q3⟩]
        · rw [if_neg (fun z => q3 ((sd_eq (by omega) (by omega)).mp z)), decide_eq_false (fun z => q3 z.2)]
      · rw [if_neg (fun z => q1 ((sd_eq (by omega) (by omega)).mp z)), decide_eq_false (fun z => q1 z.1)]
  unfold f_Table_go
  refine ok_ix rfl hr16 (by decide) (ok_eb isf ?_)
  refine ok_it (fun q => ?_) (fun q => ?_)
  · refine ok_bi (copyX hw n4 h1 h2 h3) (fun p ⟨pf, pw⟩ => ?_)
    have pL : p.1 tb 3 = nI l := by rw [fl2_i pf (inS2 h4 h5)]; exact hL
    have pr : rX (tb + 7 + r) F p := rX_fl hr pf h6 h7
    refine ok_ix rfl hr16 (by decide) ?_
    rw [pL]
    refine ok_bi (G := mvP w l n F h a i m) ?_ (fun x hx => ok_mk hx)
    unfold f_Row_go
    rw [show p.1 (tb + 7 + r) 0 = nI (F 0) from pr 0 (by decide)]
    by_cases q0 : F 0 = 0
    · rw [if_pos q0] at q
      have q1 : oS (a i) = F 1 := of_decide_eq_true q
      refine ok_ip ((nz_i (by omega)).mpr q0) (ok_eb (stepX pr hF' pw hv hi hl q1) (ok_mk ?_))
      have em := mv_on (l := l) (n := n) (h := h) (i := i) (F := F) (a := a) q0
      cases hs : stp l F (a i) with
      | none =>
        rw [hs] at em
        exact mvP_no pf em
      | some d =>
        rw [hs] at em
        refine ⟨fl2_tr pf (fl2_I (inS_c (by simp))), fun x hx => ?_, fun z => by rw [em] at z; cases z⟩
        rw [em] at hx
        cases hx
        refine ⟨rfl, ?_, ?_, fun j hj => ?_⟩
        · show (sI p (w + 1) i _).1 w 0 = _
          rw [rd_I0 (by omega)]; exact pw.1
        · show (sI p (w + 1) i _).1 w 1 = _
          rw [rd_I0 (by omega)]; exact pw.2.1
        · show (sI p (w + 1) i _).1 (w + 1) j = nI (if j = i then d else a j)
          by_cases e : j = i
          · rw [e, rd_I1, if_pos rfl]
          · rw [rd_I0 (by omega), if_neg e]; exact pw.2.2 j hj
    · rw [if_neg q0] at q
      have q1 : h = F 1 + 1 ∧ o3 (a i) = F 2 := of_decide_eq_true q
      refine ok_in (fun z => q0 ((nz_i (by omega)).mp z)) ?_
      refine ok_bi (G := mvP w l n F h a i m) ?_ (fun x hx => ok_mk hx)
      have fin : (F 6 = 0 ∨ oth n a i (F 6 - 1) = decide (F 7 = 1)) → ∀ x, srvP w l n F a i p x → mvP w l n F h a i m x := by
        rintro q6 ⟨b, m'⟩ ⟨xf, xt, xn⟩
        cases b with
        | false => exact mvP_no (fl2_tr pf xf) (mv_an q0 (fun z => xn rfl z.2.2.2))
        | true =>
          have xt := xt rfl
          have em := mv_at q0 (⟨q1.1, q1.2, q6, xt.1⟩ : srvC l n F h a i)
          refine ⟨fl2_tr pf xf, fun y hy => ?_, fun z => by rw [em] at z; cases z⟩
          rw [em] at hy
          cases hy
          exact ⟨rfl, xt.2⟩
      unfold f_Row_serve
      refine ok_ix rfl (by omega : i < 4) (by decide) ?_
      rw [show p.1 (tb + 7 + r) 6 = nI (F 6) - 1 from pr 6 (by decide), show p.1 (tb + 7 + r) 7 = nI (F 7) from pr 7 (by decide), pw.2.2 i hi]
      refine ok_it (fun z6 => ?_) (fun z6 => ?_)
      · exact ok_mo (serve1 pr hF' pw hv hi hl h6 h7) (fin (Or.inl ((sd_m1 (by omega)).mp z6)))
      · have q6 : F 6 ≠ 0 := fun z => z6 ((sd_m1 (by omega)).mpr z)
        rw [show nI (F 6) - 1 = nI (F 6 - 1) by rw [show F 6 = F 6 - 1 + 1 by omega, nI_pred, Nat.add_sub_cancel]]
        refine ok_eb (hasX pw hv hi (by omega)) ?_
        have eb : ∀ b : Bool, b2i b = nI (F 7) ↔ b = decide (F 7 = 1) := by
          intro b
          rcases (show F 7 = 0 ∨ F 7 = 1 by omega) with z | z <;> rw [z] <;> cases b <;> decide
        refine ok_it (fun z7 => ?_) (fun z7 => ?_)
        · exact ok_mo (serve1 pr hF' pw hv hi hl h6 h7) (fin (Or.inr ((eb _).mp z7)))
        · refine ok_mk (mvP_no pf (mv_an q0 (fun z => ?_)))
          rcases z.2.2.1 with y | y
          · exact q6 y
          · exact z7 ((eb _).mpr y)
  · refine ok_mk (mvP_no fl2_rf ?_)
    by_cases q0 : F 0 = 0
    · rw [if_pos q0] at q
      rw [mv_on q0]
      unfold stp
      rw [if_neg (fun z => q (decide_eq_true z))]
      rfl
    · rw [if_neg q0] at q
      exact mv_an q0 (fun z => q (decide_eq_true ⟨z.1, z.2.1⟩))
