theorem nnmsN {k : Nat} {m : zM} (h : ¬ m.1 0 5 = 0) : f_MO_newNames (nI k) m = some m := by
  refine ok_eq.mp ?_
  unfold f_MO_newNames f_MO_newNames_L2
  refine ok_for 0 (fun k (s : Int32 × zM) => s = (0, m)) (k0 := 0) rfl (Nat.zero_le _) ?_
  rintro k s - hk e
  subst e
  unfold f_MO_newNames_B2 f_MO_newNames_J36 f_MO_newNames_J87
  refine ok_in h ?_
  rw [nameN h]
  exact ok_eb rfl (ok_in h (ok_in h (ok_mk rfl)))
/-- what the reference's reading changes -/
def MrH : List (Nat × Nat) := [(0, 1), (0, 2), (0, 3), (0, 4), (0, 5), (0, 6), (0, 29), (0, 34), (0, 35)]
def RFh (m0 m : zM) : Prop := fl2 [22] MrH m0 m
theorem RFh_g {m m' : zM} (h : RFg m m') : RFh m m' := fl2_su h (by decide)
theorem RFh_m {m m' : zM} (h : RFm m m') : RFh m m' := fl2_su h (by decide)
/-- what the reference has read -/
def RdM (n : Nat) (R : PRs) (m0 m : zM) : Prop := RFh m0 m ∧ m.1 0 3 = nI n ∧ m.1 0 1 = 0 ∧ ((∃ s P, R = .inr (s, P) ∧ 0 < s ∧ s ≤ 60 ∧ m.1 0 34 = nI s ∧ m.1 0 5 = 0 ∧ m.1 0 6 = -1 ∧ tM 22 P m ∧ dV P ∧ 2 ≤ P 3 ∧ 0 < P 0) ∨ (∃ c q, R = .inl (c, q) ∧ FlM c q m))
theorem FlM_I {c q a i : Nat} {v : Int32} {m : zM} (l : FlM c q m) (h5 : ¬ (0 = a ∧ 5 = i)) (h6 : ¬ (0 = a ∧ 6 = i)) : FlM c q (sI m a i v) := ⟨by rw [rd_I0 h5]; exact l.1, by rw [rd_I0 h6]; exact l.2.1, l.2.2⟩
/-- the statements after the first -/
theorem restM {n : Nat} {g : Nat → Nat} {R : PRs} {m0 m : zM} {K : Int32 × zM → Prop} (h3 : m.1 0 3 = nI n) (h1 : m.1 0 1 = 0) (f0 : RFh m0 m) (hI : (∃ P t, MTt n g t P m ∧ m.1 0 34 = nI 1 ∧ dV P ∧ 2 ≤ P 3 ∧ 0 < P 0 ∧ rdR n g 60 1 t P = R) ∨ (∃ c q, R = .inl (c, q) ∧ FlM c q m)) (hK : ∀ m', RdM n R m0 m' → ok (f_MO_table_J142 m') K) : ok (f_MO_table_L120 m) K := by
  unfold f_MO_table_L120
  refine ok_for 61 (fun k (s : zM) => RFh m0 s ∧ s.1 0 3 = nI n ∧ s.1 0 1 = 0 ∧ ((∃ P t, k ≤ 60 ∧ MTt n g t P s ∧ s.1 0 34 = nI k ∧ dV P ∧ 2 ≤ P 3 ∧ 0 < P 0 ∧ rdR n g (61 - k) k t P = R) ∨ (∃ c q, R = .inl (c, q) ∧ FlM c q s))) (k0 := 1) ⟨f0, h3, h1, ?_⟩ (by omega) ?_
  · rcases hI with ⟨P, t, a, b, c, d, e, f⟩ | h
    · exact Or.inl ⟨P, t, by omega, a, b, c, d, e, f⟩
    · exact Or.inr h
  rintro k s k1 k61 ⟨fs, s3, s1, hs⟩
  unfold f_MO_table_B120
  rcases hs with ⟨P, t, k60, hT, h34, hd, p3, p0, er⟩ | ⟨c, q, e, l⟩
  rotate_left
  · exact ok_in (FlM_n l) (ok_zl (hK s ⟨fs, s3, s1, Or.inr ⟨c, q, e, l⟩⟩))
  obtain ⟨⟨⟨p, R0⟩, h5, tm⟩, h35⟩ := hT
  rw [show 61 - k = (60 - k) + 1 by omega] at er
  unfold rdR at er
  refine ok_ip h5 (ok_bi (lookM R0) (fun r ⟨e1, f1, R1⟩ => ?_))
  have z5 : r.2.1 0 5 = 0 := by rw [fl2_i f1 (by decide)]; exact h5
  have z3 : r.2.1 0 3 = nI n := by rw [fl2_i f1 (by decide)]; exact s3
  have z1 : r.2.1 0 1 = 0 := by rw [fl2_i f1 (by decide)]; exact s1
  have z34 : r.2.1 0 34 = nI k := by rw [fl2_i f1 (by decide)]; exact h34
  have z35 : r.2.1 0 35 = nI (mkN P) := by rw [fl2_i f1 (by decide)]; exact h35
  have tm1 := tM_fl tm f1 (by decide)
  have fr : RFh m0 r.2 := fl2_tr fs (fl2_su f1 (by decide))
  rw [e1]
  unfold byA
  by_cases z : tst n g t < n
  rotate_left
  · rw [if_neg z] at er ⊢
    rw [if_neg (show ¬ k = 0 by omega)] at er
    exact ok_ip rfl (ok_zl (hK _ ⟨fr, z3, z1, Or.inl ⟨k, P, er.symm, by omega, k60, z34, z5, R1.2.2.2.2.2.2.1.2, tm1, hd, p3, p0⟩⟩))
  have := (R1.2.2.2.2.2.1 _ z).2
  rw [if_pos z] at er ⊢
  refine ok_in (nI_ne_m1 (by omega)) ?_
  by_cases y : k = 60
  · rw [if_pos y] at er
    unfold f_MO_statementTold
    rw [z34, R1.1, y]
    obtain ⟨f2, l2⟩ := failM (m := r.2) (c := 5) (x := 5) (y := nI (tst n g t)) z5 rfl rfl (by decide) (by decide)
    refine ok_eb (if_pos rfl) (ok_mk ⟨by omega, fl2_tr fr (fl2_su f2 (by decide)), ?_, ?_, Or.inr ⟨5, _, er.symm, l2⟩⟩)
    · rw [fl2_i f2 (by decide)]; exact z3
    · rw [fl2_i f2 (by decide)]; exact z1
  rw [if_neg y, if_neg (show ¬ k = 0 by omega)] at er
  refine ok_bi (stmtM hd ⟨⟨⟨_, R1⟩, z5, tm1⟩, z35⟩ R1.1 z34 (by omega)) (fun m2 ⟨f2, h2⟩ => ok_mk ⟨by omega, fl2_tr fr (RFh_g f2), ?_, ?_, ?_⟩)
  · rw [fl2_i f2 (by decide)]; exact z3
  · rw [fl2_i f2 (by decide)]; exact z1
  rcases h2 with ⟨t', P', e, h2⟩ | ⟨c, q, e, l⟩
  · rw [e] at er
    have er : (if cBo (iSg n g t' 59) = true then rdR n g (60 - k) (k + 1) (t' + 1) P' else .inl (1, tst n g t')) = R := er
    obtain ⟨d1, d2, d3⟩ := stR_k hd e
    rcases h2 with ⟨is, T, q34⟩ | ⟨is, l⟩
    · rw [if_pos (cBo_t is)] at er
      exact Or.inl ⟨P', t' + 1, by omega, T, q34, d1, by omega, by omega, by rw [show 61 - (k + 1) = 60 - k by omega]; exact er⟩
    · rw [if_neg (by rw [cBo_f is]; decide)] at er
      exact Or.inr ⟨1, _, er.symm, l⟩
  · rw [e] at er
    exact Or.inr ⟨c, q, er.symm, l⟩
/-- the first statement -/
theorem opnM {n : Nat} {g : Nat → Nat} {m0 m : zM} {K : Int32 × zM → Prop} (hz : ∀ i, i < 184 → m.1 22 i = 0) (hR : RsM n g 0 0 m) (h5 : m.1 0 5 = 0) (h35 : m.1 0 35 = 0) (h1 : m.1 0 1 = 0) (f0 : RFh m0 m) (hK : ∀ m', RdM n (rdR n g 61 0 0 P00) m0 m' → ok (f_MO_table_J142 m') K) : ok (f_MO_table_J60 m) K := by
  generalize eR : rdR n g 61 0 0 P00 = R at hK
  have h3 := hR.2.2.2.1
  unfold f_MO_table_J60
  refine ok_ix (i := 6) rfl (by decide) (by decide) (ok_lt (ok_ix (i := 7) rfl (by decide) (by decide) (ok_lt ?_)))
  have S0 : MSt n g 0 P00 (sI (sI m 22 6 (-1)) 22 7 (-1)) := by
    refine ⟨⟨0, RsM_d (RsM_d hR)⟩, by rw [rd_I0 (by omega), rd_I0 (by omega)]; exact h5, fun k hk => ?_⟩
    have hk : k < 56 := hk
    by_cases y7 : k = 7
    · subst y7; rw [rd_I1]; rfl
    · rw [rd_I0 (fun u => y7 u.2)]
      by_cases y6 : k = 6
      · subst y6; rw [rd_I1]; rfl
      · rw [rd_I0 (fun u => y6 u.2), hz k (by omega)]
        unfold tpI
        rw [tpN_l hk y6 y7]; rfl
  have f1 : RFh m0 (sI (sI m 22 6 (-1)) 22 7 (-1)) := fl2_tr f0 (fl2_tr (RFh_m RFm_I) (RFh_m RFm_I))
  have a3 : (sI (sI m 22 6 (-1)) 22 7 (-1)).1 0 3 = nI n := by rw [rd_I0 (by omega), rd_I0 (by omega)]; exact h3
  have a1 : (sI (sI m 22 6 (-1)) 22 7 (-1)).1 0 1 = 0 := by rw [rd_I0 (by omega), rd_I0 (by omega)]; exact h1
  have a35 : (sI (sI m 22 6 (-1)) 22 7 (-1)).1 0 35 = 0 := by rw [rd_I0 (by omega), rd_I0 (by omega)]; exact h35
  generalize sI (sI m 22 6 (-1)) 22 7 (-1) = m1 at S0 f1 a3 a1 a35
  -- whatever failed, the rest stands still
  have fin : ∀ (c q : Nat) (m' : zM), RFm m1 m' → FlM c q m' → R = .inl (c, q) → ok ((f_MO_asksSign 59 m').bind fun p20 => lt (sI p20 0 34 1) fun m21 => f_MO_table_L120 m21) K := by
    intro c q m' fm l e
    rw [asgnN (FlM_n l)]
    refine ok_eb rfl (ok_lt (restM (n := n) (g := g) (R := R) (m0 := m0) ?_ ?_ (fl2_tr f1 (fl2_tr (RFh_m fm) (fl2_I (inS_f (by decide))))) (Or.inr ⟨c, q, e, FlM_I l (by omega) (by omega)⟩) hK))
    · rw [rd_I0 (by omega), fl2_i fm (by decide)]; exact a3
    · rw [rd_I0 (by omega), fl2_i fm (by decide)]; exact a1
  have fin2 : ∀ (c q : Nat) (m' : zM), RFm m1 m' → FlM c q m' → R = .inl (c, q) → ok ((f_MO_asks 4 m').bind fun p18 => (f_MO_newNames 0 p18).bind fun p19 => (f_MO_asksSign 59 p19).bind fun p20 => lt (sI p20 0 34 1) fun m21 => f_MO_table_L120 m21) K := by
    intro c q m' fm l e
    rw [asksN (FlM_n l)]
    exact ok_eb rfl (ok_eb (nnmsN (k := 0) (FlM_n l)) (fin c q m' fm l e))
  have eR : (if tst n g 0 < n then (if 0 = 60 then .inl (5, tst n g 0) else match (if 0 = 0 then opR n g 0 P00 else stmR n g 0 P00) with
    | .inl e => .inl e
    | .inr (t', P') => if cBo (iSg n g t' 59) = true then rdR n g 60 (0 + 1) (t' + 1) P' else .inl (1, tst n g t')) else (if 0 = 0 then .inl (1, tst n g 0) else .inr (0, P00)) : PRs) = R := eR
  rw [if_neg (show ¬ (0 = 60) by omega), if_pos (show 0 = 0 from rfl), if_pos (show 0 = 0 from rfl)] at eR
  refine asS (w := 0) S0 fl2_rf (by decide) (fun m2 i2 f2 _ S2 => ?_) (fun m2 i2 f2 l2 => ?_)
  rotate_left
  · have e : R = .inl (1, tst n g 0) := by
      rw [← eR]
      by_cases z : tst n g 0 < n
      · rw [if_pos z]; unfold opR; rw [if_neg (iWb_n i2)]
      · rw [if_neg z]
    rw [numbN (FlM_n l2)]
    refine ok_eb rfl (ok_ix (i := 3) rfl (by decide) (by decide) (ok_lt (fin2 1 (tst n g 0) _ (fl2_tr f2 RFm_I) (FlM_I l2 (by omega) (by omega)) e)))
  rw [if_pos i2.1.1] at eR
  have eo : opR n g 0 P00 = (match nuR n g (0 + 1) 2 4 with
    | .inl e => .inl e
    | .inr v => if iWb n g (0 + 2) 1 = true then nmsR n g 0 6 (0 + 3) (upn P00 3 v) else .inl (1, tst n g (0 + 2)) : PRs) := by unfold opR; rw [if_pos (iWb_t i2)]; rfl
  obtain ⟨⟨p2, R2⟩, z52, tm2⟩ := S2
  refine ok_bi (numbM (lo := 2) (hi := 4) R2 z52 (by decide) (by decide)) (fun r ⟨fr, hr⟩ => ok_ix (i := 3) rfl (by decide) (by decide) (ok_lt ?_))
  rcases hr with ⟨v, ev, e1, z53, p3, R3⟩ | ⟨c, q, ev, l⟩
  rotate_left
  · rw [ev] at eo
    rw [eo] at eR
    exact fin2 c q _ (fl2_tr f2 (fl2_tr (RFm_l fr (by decide)) RFm_I)) (FlM_I l (by omega) (by omega)) eR.symm
  rw [ev] at eo
  have eo : opR n g 0 P00 = (if iWb n g (0 + 2) 1 = true then nmsR n g 0 6 (0 + 3) (upn P00 3 v) else .inl (1, tst n g (0 + 2)) : PRs) := eo
  have S3 : MSt n g 2 (upn P00 3 v) (sI r.2 22 3 r.1) := ⟨⟨p3, RsM_d R3⟩, by rw [rd_I0 (by omega)]; exact z53, tM_u (tM_fl tm2 fr (by decide)) (by omega) (by rw [e1, tpI_n (by decide)])⟩
  have f3 : RFm m1 (sI r.2 22 3 r.1) := fl2_tr f2 (fl2_tr (RFm_l fr (by decide)) RFm_I)
  refine asS (w := 1) S3 f3 (by decide) (fun m4 i4 f4 _ S4 => ?_) (fun m4 i4 f4 l4 => ?_)
  rotate_left
  · refine ok_eb (nnmsN (k := 0) (FlM_n l4)) (fin 1 (tst n g 2) m4 f4 l4 ?_)
    rw [if_neg (iWb_n i4)] at eo
    rw [← eR, eo]
  have er : R = (match nmsR n g 0 6 3 (upn P00 3 v) with
    | .inl e => .inl e
    | .inr (t', P') => if cBo (iSg n g t' 59) = true then rdR n g 60 1 (t' + 1) P' else .inl (1, tst n g t')) := by
    rw [if_pos (iWb_t i4)] at eo
    rw [← eR, eo]
  have v24 := nuR_l ev
  have hd : dV (upn P00 3 v) := dV_p dV_0 (fun i hi => upn_o (by omega)) (by
    rw [upn_e, upn_o (by omega), upn_o (by omega), upn_o (by omega)]
    exact ⟨by omega, dV_0.2.1.2.1, dV_0.2.1.2.2.2.1, dV_0.2.1.2.2.2.2.1, dV_0.2.1.2.2.2.2.2.2⟩)
  refine ok_bi (nnmM (k := 0) (by decide) hd rfl S4) (fun m5 ⟨f5, h5'⟩ => ?_)
  have F5 : RFm m1 m5 := fl2_tr f4 f5
  rcases h5' with ⟨t', P', e, S5⟩ | ⟨c, q, e, l⟩
  rotate_left
  · exact fin c q m5 F5 l (by rw [er, e])
  rw [e] at er
  have er : R = (if cBo (iSg n g t' 59) = true then rdR n g 60 1 (t' + 1) P' else .inl (1, tst n g t')) := er
  obtain ⟨k1, k2, k3⟩ := nmsR_k (k := 0) (by decide) 6 _ _ t' P' hd rfl nmR_l e
  have q3 : P' 3 = v := by rw [k3 3 (by omega) (by omega), upn_e]
  obtain ⟨⟨p5, R5⟩, z55, tm5⟩ := S5
  refine ok_bi (asgnM (c := 59) R5 z55 (by decide) (by decide) (by decide)) (fun m6 ⟨f6, h6⟩ => ok_lt ?_)
  have F6 : RFm m1 m6 := fl2_tr F5 (RFm_l f6 (by decide))
  have f7 : fl2 [] [(0, 34)] m6 (sI m6 0 34 1) := fl2_I (inS_f (by simp))
  refine restM (n := n) (g := g) (R := R) (m0 := m0) ?_ ?_ (fl2_tr f1 (fl2_tr (RFh_m F6) (fl2_I (inS_f (by decide))))) ?_ hK
  · rw [rd_I0 (by omega), fl2_i F6 (by decide)]; exact a3
  · rw [rd_I0 (by omega), fl2_i F6 (by decide)]; exact a1
  rcases h6 with ⟨is, z56, p6, R6⟩ | ⟨is, l⟩
  · rw [if_pos (cBo_t is)] at er
    refine Or.inl ⟨P', t' + 1, ⟨⟨⟨p6, RsM_f R6 f7 (by decide) (by decide)⟩, by rw [rd_I0 (by omega)]; exact z56, tM_fl (tM_fl tm5 f6 (by decide)) f7 (by decide)⟩, ?_⟩, by rw [rd_I1]; rfl, k1, by omega, by have : (upn P00 3 v) 0 = 0 := rfl; omega, er.symm⟩
    rw [rd_I0 (by omega), fl2_i F6 (by decide), a35]
    unfold mkN
    rw [k3 1 (by omega) (by omega), k3 2 (by omega) (by omega), k3 6 (by omega) (by omega), upn_o (by omega), upn_o (by omega), upn_o (by omega)]
    rfl
  · rw [if_neg (by rw [cBo_f is]; decide)] at er
    exact Or.inr ⟨1, _, er, FlM_I l (by omega) (by omega)⟩
/-- the reference has read the tape -/
theorem tabRM {n : Nat} {g : Nat → Nat} {m : zM} {K : Int32 × zM → Prop} (hn : n ≤ 1600) (h1 : m.1 0 1 = nI n) (hb : ∀ j, j < n → m.1 1 j = nI (g j) ∧ g j < 256) (hW : WdM m) (hK : ∀ m', RdM n (rdR n g 61 0 0 P00) m m' → ok (f_MO_table_J142 m') K) : ok (f_MO_table m) K := by
  unfold f_MO_table f_MO_table_L40
  refine ok_lt (ok_lt (ok_lt (ok_lt (ok_lt (ok_lt (ok_lt ?_))))))
  have F : ∀ a i v m', (a, i) ∈ MrH → RFh m' (sI m' a i v) := fun a i v m' h => fl2_I (inS_f h)
  refine ok_for 184 (fun k (s : Int32 × zM) => s.1 = nI k ∧ RFh m s.2 ∧ (∀ i, i < k → s.2.1 22 i = 0) ∧ RsM n g 0 0 s.2 ∧ s.2.1 0 5 = 0 ∧ s.2.1 0 35 = 0 ∧ s.2.1 0 1 = 0) (k0 := 0) ⟨rfl, ?_, fun i hi => absurd hi (Nat.not_lt_zero _), ?_, ?_, ?_, ?_⟩ (Nat.zero_le _) ?_
  · exact fl2_tr (fl2_tr (fl2_tr (fl2_tr (fl2_tr (fl2_tr (F _ _ _ _ (by decide)) (F _ _ _ _ (by decide))) (F _ _ _ _ (by decide))) (F _ _ _ _ (by decide))) (F _ _ _ _ (by decide))) (F _ _ _ _ (by decide))) (F _ _ _ _ (by decide))
  · refine ⟨?_, Nat.zero_le _, rfl, ?_, ?_, ?_, ⟨?_, ?_⟩, hn⟩
    · repeat (first | (rw [rd_I1]; rfl) | rw [rd_I0 (by omega)])
    · rw [rd_I0 (by omega), rd_I0 (by omega), rd_I0 (by omega), rd_I0 (by omega), rd_I0 (by omega), rd_I0 (by omega), rd_I1]; exact h1
    · repeat (first | (rw [rd_I1]; rfl) | rw [rd_I0 (by omega)])
    · rw [rd_Ic (by omega), rd_Ic (by omega), rd_Ic (by omega), rd_Ic (by omega), rd_Ic (by omega), rd_Ic (by omega), rd_Ic (by omega)]; exact hb
    · exact WdM_f (S := []) (F := MrH) hW (fl2_tr (fl2_tr (fl2_tr (fl2_tr (fl2_tr (fl2_tr (fl2_I (inS_f (by decide))) (fl2_I (inS_f (by decide)))) (fl2_I (inS_f (by decide)))) (fl2_I (inS_f (by decide)))) (fl2_I (inS_f (by decide)))) (fl2_I (inS_f (by decide)))) (fl2_I (inS_f (by decide)))) (by decide)
    · rw [rd_I0 (by omega), rd_I1]
  · rw [rd_I0 (by omega), rd_I0 (by omega), rd_I1]
  · rw [rd_I1]
  · rw [rd_I0 (by omega), rd_I0 (by omega), rd_I0 (by omega), rd_I0 (by omega), rd_I0 (by omega), rd_I1]
  rintro k ⟨x, s⟩ - hk ⟨ex, fs, hz, hR, h5, h35, h1'⟩
  have ex : x = nI k := ex
  subst ex
  unfold f_MO_table_B40
  refine ok_le 184 k (fun z => ok_zl (opnM (fun i hi => hz i (by omega)) hR h5 h35 h1' fs hK)) (fun z => ok_ix rfl z (by decide) (ok_lt (ok_mk ⟨z, nI_1 k, fl2_tr fs (RFh_m RFm_I), fun i hi => ?_, RsM_d hR, ?_, ?_, ?_⟩)))
  · by_cases y : i = k
    · rw [y, rd_I1]
    · rw [rd_I0 (fun u => y u.2)]; exact hz i (by omega)
  · rw [rd_I0 (by omega)]; exact h5
  · rw [rd_I0 (by omega)]; exact h35
  · rw [rd_I0 (by omega)]; exact h1'
