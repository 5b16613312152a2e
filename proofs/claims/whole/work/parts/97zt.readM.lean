/-- which statements that may be told once have been told -/
def mkN (P : Nat → Nat) : Nat := (if P 1 = 0 then 0 else 1) + (if P 2 = 0 then 0 else 2) + (if P 6 = 0 then 0 else 4)
theorem mkN_a : ∀ x, x < 2 → ∀ y, y < 2 → ∀ z, z < 2 → (nI (x + 2 * y + 4 * z) &&& 1 = nI x) ∧ (nI (x + 2 * y + 4 * z) &&& 2 = nI (2 * y)) ∧ (nI (x + 2 * y + 4 * z) &&& 4 = nI (4 * z)) ∧ (nI (x + 2 * y + 4 * z) ||| 1 = nI (1 + 2 * y + 4 * z)) ∧ (nI (x + 2 * y + 4 * z) ||| 2 = nI (x + 2 + 4 * z)) ∧ (nI (x + 2 * y + 4 * z) ||| 4 = nI (x + 2 * y + 4)) := by decide
theorem mkN_e (P : Nat → Nat) : ∃ x y z, x < 2 ∧ y < 2 ∧ z < 2 ∧ mkN P = x + 2 * y + 4 * z ∧ (x = 0 ↔ P 1 = 0) ∧ (y = 0 ↔ P 2 = 0) ∧ (z = 0 ↔ P 6 = 0) := by
  refine ⟨if P 1 = 0 then 0 else 1, if P 2 = 0 then 0 else 1, if P 6 = 0 then 0 else 1, ?_, ?_, ?_, ?_, ?_, ?_, ?_⟩
  · split <;> omega
  · split <;> omega
  · split <;> omega
  · unfold mkN; split <;> split <;> split <;> omega
  · split <;> omega
  · split <;> omega
  · split <;> omega
/-- the whole state of the reference's reader -/
def MTt (n : Nat) (g : Nat → Nat) (t : Nat) (P : Nat → Nat) (m : zM) : Prop := MSt n g t P m ∧ m.1 0 35 = nI (mkN P)
def MrG : List (Nat × Nat) := [(0, 2), (0, 4), (0, 5), (0, 6), (0, 29), (0, 34), (0, 35)]
def RFg (m0 m : zM) : Prop := fl2 [22] MrG m0 m
theorem RFg_m {m m' : zM} (h : RFm m m') : RFg m m' := fl2_su h (by decide)
/-- what follows a statement: the sign, and one more -/
def MSo (n : Nat) (g : Nat → Nat) (R : PRs) (s : Nat) (m0 m : zM) : Prop := RFg m0 m ∧ ((∃ t' P', R = .inr (t', P') ∧ ((iSg n g t' 59 ∧ MTt n g (t' + 1) P' m ∧ m.1 0 34 = nI (s + 1)) ∨ (¬ iSg n g t' 59 ∧ FlM 1 (tst n g t') m))) ∨ (∃ c q, R = .inl (c, q) ∧ FlM c q m))
theorem J279_r {n t' s : Nat} {g P' : Nat → Nat} {R : PRs} {m0 m : zM} (e : R = .inr (t', P')) (hS : MTt n g t' P' m) (f0 : RFg m0 m) (h34 : m.1 0 34 = nI s) : ok (f_MO_statementTold_J279 m) (MSo n g R s m0) := by
  obtain ⟨⟨⟨p, R0⟩, h5, tm⟩, h35⟩ := hS
  unfold f_MO_statementTold_J279
  refine ok_bi (asgnM (c := 59) R0 h5 (by decide) (by decide) (by decide)) (fun r ⟨f1, hr⟩ => ok_lt (ok_mk ⟨?_, Or.inl ⟨t', P', e, ?_⟩⟩))
  · exact fl2_tr f0 (fl2_tr (RFg_m (RFm_l f1 (by decide))) (fl2_I (inS_f (by decide))))
  · have f2 : fl2 [] [(0, 34)] r (sI r 0 34 (r.1 0 34 + 1)) := fl2_I (inS_f (by simp))
    rcases hr with ⟨is, z5, p', R'⟩ | ⟨is, l⟩
    · refine Or.inl ⟨is, ⟨⟨⟨p', RsM_f R' f2 (by decide) (by decide)⟩, by rw [rd_I0 (by omega)]; exact z5, tM_fl (tM_fl tm f1 (by decide)) f2 (by decide)⟩, ?_⟩, ?_⟩
      · rw [rd_I0 (by omega), fl2_i f1 (by decide)]; exact h35
      · rw [rd_I1, fl2_i f1 (by decide), h34, nI_1]
    · exact Or.inr ⟨is, by rw [rd_I0 (by omega)]; exact l.1, by rw [rd_I0 (by omega)]; exact l.2.1, l.2.2⟩
theorem J279_i {n c q s : Nat} {g : Nat → Nat} {R : PRs} {m0 m : zM} (e : R = .inl (c, q)) (l : FlM c q m) (f0 : RFg m0 m) : ok (f_MO_statementTold_J279 m) (MSo n g R s m0) := by
  unfold f_MO_statementTold_J279
  rw [asgnN (FlM_n l)]
  exact ok_eb rfl (ok_lt (ok_mk ⟨fl2_tr f0 (fl2_I (inS_f (by decide))), Or.inr ⟨c, q, e, by rw [rd_I0 (by omega)]; exact l.1, by rw [rd_I0 (by omega)]; exact l.2.1, l.2.2⟩⟩))
/-- out of what was read to the end of the statement -/
theorem J279_o {n s : Nat} {g P : Nat → Nat} {R : PRs} {m0 m1 m : zM} (h : MOu n g R m1 m) (f0 : RFg m0 m1) (h34 : m1.1 0 34 = nI s) (hk : ∀ t' P', R = .inr (t', P') → m1.1 0 35 = nI (mkN P')) : ok (f_MO_statementTold_J279 m) (MSo n g R s m0) := by
  obtain ⟨fm, h⟩ := h
  have e34 : m.1 0 34 = nI s := by rw [fl2_i fm (by decide)]; exact h34
  rcases h with ⟨t', P', e, S⟩ | ⟨c, q, e, l⟩
  · exact J279_r e ⟨S, by rw [fl2_i fm (by decide)]; exact hk t' P' e⟩ (fl2_tr f0 (RFg_m fm)) e34
  · exact J279_i e l (fl2_tr f0 (RFg_m fm))
/-- a statement that may be told once -/
theorem onceM {n t w bit q s : Nat} {g P : Nat → Nat} {m0 m : zM} {v : Int32} {α : Type} {f : Bool × zM → Option α} {K : α → Prop} (hS : MSt n g t P m) (f0 : RFg m0 m) (hw : w < 19) (hv : v = nI q) (hb : bit < 8) (hy : ∀ m', iWw n g t w → RFg m0 m' → MSt n g (t + 1) P m' → m'.1 0 34 = m.1 0 34 → m.1 0 35 &&& nI bit = 0 → m'.1 0 35 = m.1 0 35 ||| nI bit → ok (f (true, m')) K) (ho : ∀ m', iWw n g t w → RFg m0 m' → ¬ m.1 0 35 &&& nI bit = 0 → FlM 5 q m' → ok (f (true, m')) K) (hn : ∀ m', ¬ iWw n g t w → RFg m0 m' → fl2 [] [(0, 2), (0, 4)] m m' → MSt n g t P m' → m'.1 0 2 = nI (tst n g t) → ok (f (false, m')) K) : ok ((f_MO_isOnce (3 + w) (nI bit) v m).bind f) K := by
  unfold f_MO_isOnce f_MO_isOnce_J25
  obtain ⟨⟨p, R⟩, h5, tm⟩ := hS
  have key : ok (f_MO_isOnce (3 + w) (nI bit) v m) (fun r => ok (f r) K) := by
    unfold f_MO_isOnce f_MO_isOnce_J25
    refine ok_bi (takesM R h5 hw) (fun r ⟨f1, hr⟩ => ?_)
    obtain ⟨rv, rm⟩ := r
    have f1 : fl2 [] [(0, 2), (0, 4)] m rm := f1
    have z5 : rm.1 0 5 = 0 := by rw [fl2_i f1 (by decide)]; exact h5
    have tm' := tM_fl tm f1 (by decide)
    have fr : RFg m0 rm := fl2_tr f0 (fl2_su f1 (by decide))
    have e35 : rm.1 0 35 = m.1 0 35 := fl2_i f1 (by decide)
    rcases hr with ⟨i, e1, p', R'⟩ | ⟨i, e1, R'⟩
    · have e1 : rv = true := e1
      subst e1
      refine ok_ip rfl ?_
      show ok (if rm.1 0 35 &&& nI bit = 0 then _ else _) _
      rw [e35]
      refine ok_it (fun z => ok_lt (ok_mk (hy _ i (fl2_tr fr (fl2_I (inS_f (by decide)))) ⟨⟨p', RsM_f (S := []) (F := [(0, 35)]) R' (fl2_I (inS_f (by simp))) (by decide) (by decide)⟩, by rw [rd_I0 (by omega)]; exact z5, tM_fl (S := []) (F := [(0, 35)]) tm' (fl2_I (inS_f (by simp))) (by decide)⟩ ?_ z ?_))) (fun z => ok_lt (ok_lt (ok_mk ?_)))
      · rw [rd_I0 (by omega)]; exact fl2_i f1 (by decide)
      · rw [rd_I1]
      · obtain ⟨f2, l2⟩ := failM (m := rm) (c := 5) (x := 5) (y := v) z5 rfl hv (by decide) (by decide)
        refine ho _ i (fl2_tr fr (fl2_tr (fl2_su f2 (by decide)) (fl2_I (inS_f (by decide))))) z ⟨?_, ?_, l2.2.2⟩
        · rw [rd_I0 (by omega)]; exact l2.1
        · rw [rd_I0 (by omega)]; exact l2.2.1
    · have e1 : rv = false := e1
      subst e1
      exact ok_in Bool.false_ne_true (ok_mk (hn rm i fr f1 ⟨⟨_, R'⟩, z5, tm'⟩ R'.1))
  obtain ⟨r, er, hr⟩ := key
  unfold f_MO_isOnce f_MO_isOnce_J25 at er
  exact ok_eb er hr
theorem stmtM {n t s : Nat} {g P : Nat → Nat} {m : zM} (hd : dV P) (hS : MTt n g t P m) (h2 : m.1 0 2 = nI (tst n g t)) (h34 : m.1 0 34 = nI s) (hs : s < 60) : ok (f_MO_statementTold m) (MSo n g (stmR n g t P) s m) := by
  have p8 := hd.2.1.2.2.2.2.2.1
  have p5 := hd.2.1.2.2.1
  have p6 := hd.2.1.2.2.2.1
  have p0 := (hd.1 0 (by decide)).1
  obtain ⟨x, y, z, x2, y2, z2, em, ex, ey, ez⟩ := mkN_e P
  obtain ⟨b1, b2, b4, c1, c2, c4⟩ := mkN_a x x2 y y2 z z2
  obtain ⟨S0, e35⟩ := hS
  rw [em] at e35
  have mk' : ∀ P' : Nat → Nat, ∀ x' y' z', x' < 2 → y' < 2 → z' < 2 → (x' = 0 ↔ P' 1 = 0) → (y' = 0 ↔ P' 2 = 0) → (z' = 0 ↔ P' 6 = 0) → mkN P' = x' + 2 * y' + 4 * z' := by
    intro P' x' y' z' h1 h2 h3 h4 h5 h6
    unfold mkN
    split <;> split <;> split <;> omega
  unfold f_MO_statementTold
  refine ok_in (by rw [h34]; exact fun q => by have := (nI_eq (b := 60) (by omega) (by decide)).mp q; omega) ?_
  rw [h2]
  -- home
  refine onceM (w := 2) (bit := 1) (q := tst n g t) (s := s) S0 fl2_rf (by decide) rfl (by decide) (fun m1 i1 f1 S1 k34 kb k35 => ok_ip rfl ?_) (fun m1 i1 f1 kb l1 => ok_ip rfl ?_) (fun m1 i1 f1 g1 S1 q1 => ok_in Bool.false_ne_true ?_)
  · have z1 : P 1 = 0 := by
      rw [e35, show (nI 1 : Int32) = 1 from rfl, b1] at kb
      exact ex.mp ((nI_eq (b := 0) (by omega) (by decide)).mp kb)
    have rq : stmR n g t P = nmsR n g 1 6 (t + 1) P := by unfold stmR; rw [if_pos (iWb_t i1), if_pos z1]
    refine ok_bi (nnmM (k := 1) (by decide) hd z1 S1) (fun m2 h2' => ?_)
    rw [rq]
    refine J279_o (P := P) h2' f1 (by rw [k34]; exact h34) (fun t' P' e => ?_)
    obtain ⟨_, k1, k2⟩ := nmsR_k (k := 1) (by decide) 6 _ _ t' P' hd (by omega) nmR_l e
    rw [k35, e35, show (nI 1 : Int32) = 1 from rfl, c1, mk' P' 1 y z (by omega) y2 z2 (by omega) (by rw [k2 2 (by omega) (by omega)]; exact ey) (by rw [k2 6 (by omega) (by omega)]; exact ez)]
  · have z1 : ¬ P 1 = 0 := fun w => kb (by rw [e35, show (nI 1 : Int32) = 1 from rfl, b1, ex.mpr w]; rfl)
    have rq : stmR n g t P = .inl (5, tst n g t) := by unfold stmR; rw [if_pos (iWb_t i1), if_neg z1]
    have nn : f_MO_newNames 1 m1 = some m1 := by
      refine ok_eq.mp ?_
      unfold f_MO_newNames f_MO_newNames_L2
      refine ok_for 0 (fun k (s : Int32 × zM) => s = (0, m1)) (k0 := 0) rfl (Nat.zero_le _) ?_
      rintro k s - hk e
      subst e
      unfold f_MO_newNames_B2 f_MO_newNames_J36 f_MO_newNames_J87
      refine ok_in (FlM_n l1) ?_
      rw [nameN (FlM_n l1)]
      exact ok_eb rfl (ok_in (FlM_n l1) (ok_in (FlM_n l1) (ok_mk rfl)))
    exact ok_eb nn (J279_i rq l1 f1)
  have e351 : m1.1 0 35 = nI (x + 2 * y + 4 * z) := by rw [fl2_i g1 (by decide)]; exact e35
  have e341 : m1.1 0 34 = nI s := by rw [fl2_i g1 (by decide)]; exact h34
  -- messages
  refine onceM (w := 3) (bit := 2) (q := tst n g t) (s := s) S1 f1 (by decide) rfl (by decide) (fun m2 i2 f2 S2 k34 kb k35 => ok_ip rfl ?_) (fun m2 i2 f2 kb l2 => ok_ip rfl ?_) (fun m2 i2 f2 g2 S2 q2 => ok_in Bool.false_ne_true ?_)
  · have z1 : P 2 = 0 := by
      rw [e351, show (nI 2 : Int32) = 2 from rfl, b2] at kb
      have := (nI_eq (b := 0) (by omega) (by decide)).mp kb
      exact ey.mp (by omega)
    have rq : stmR n g t P = nmsR n g 2 6 (t + 1) P := by unfold stmR; rw [if_neg (iWb_n i1), if_pos (iWb_t i2), if_pos z1]
    refine ok_bi (nnmM (k := 2) (by decide) hd z1 S2) (fun m3 h3' => ?_)
    rw [rq]
    refine J279_o (P := P) h3' f2 (by rw [k34]; exact e341) (fun t' P' e => ?_)
    obtain ⟨_, k1, k2⟩ := nmsR_k (k := 2) (by decide) 6 _ _ t' P' hd (by omega) nmR_l e
    rw [k35, e351, show (nI 2 : Int32) = 2 from rfl, c2, mk' P' x 1 z x2 (by omega) z2 (by rw [k2 1 (by omega) (by omega)]; exact ex) (by omega) (by rw [k2 6 (by omega) (by omega)]; exact ez)]
  · have z1 : ¬ P 2 = 0 := fun w => kb (by rw [e351, show (nI 2 : Int32) = 2 from rfl, b2, ey.mpr w]; rfl)
    have rq : stmR n g t P = .inl (5, tst n g t) := by unfold stmR; rw [if_neg (iWb_n i1), if_pos (iWb_t i2), if_neg z1]
    have nn : f_MO_newNames 2 m2 = some m2 := by
      refine ok_eq.mp ?_
      unfold f_MO_newNames f_MO_newNames_L2
      refine ok_for 0 (fun k (s : Int32 × zM) => s = (0, m2)) (k0 := 0) rfl (Nat.zero_le _) ?_
      rintro k s - hk e
      subst e
      unfold f_MO_newNames_B2 f_MO_newNames_J36 f_MO_newNames_J87
      refine ok_in (FlM_n l2) ?_
      rw [nameN (FlM_n l2)]
      exact ok_eb rfl (ok_in (FlM_n l2) (ok_in (FlM_n l2) (ok_mk rfl)))
    exact ok_eb nn (J279_i rq l2 f2)
  have e352 : m2.1 0 35 = nI (x + 2 * y + 4 * z) := by rw [fl2_i g2 (by decide)]; exact e351
  have e342 : m2.1 0 34 = nI s := by rw [fl2_i g2 (by decide)]; exact e341
  -- wants
  refine onceM (w := 9) (bit := 4) (q := tst n g t) (s := s) S2 f2 (by decide) rfl (by decide) (fun m3 i3 f3 S3 k34 kb k35 => ok_ip rfl ?_) (fun m3 i3 f3 kb l3 => ok_ip rfl ?_) (fun m3 i3 f3 g3 S3 q3 => ok_in Bool.false_ne_true ?_)
  · have z1 : P 6 = 0 := by
      rw [e352, show (nI 4 : Int32) = 4 from rfl, b4] at kb
      have := (nI_eq (b := 0) (by omega) (by decide)).mp kb
      exact ez.mp (by omega)
    have n4 : ¬ iWw n g t 4 := fun w => by have := iWw_u (by decide) (by decide) i3 w; omega
    have n7 : ¬ iWw n g t 7 := fun w => by have := iWw_u (by decide) (by decide) i3 w; omega
    have rq : stmR n g t P = wnR n g (t + 1) P := by unfold stmR; rw [if_neg (iWb_n i1), if_neg (iWb_n i2), if_neg (iWb_n n4), if_neg (iWb_n n7), if_pos (iWb_t i3), if_pos z1]
    have k34' : m3.1 0 34 = nI s := by rw [k34]; exact e342
    -- whatever comes of it, two names, two places
    have fl : ∀ (m' : zM) (c q : Nat), FlM c q m' → RFg m m' → stmR n g t P = .inl (c, q) → ok ((f_MO_named 0 m').bind fun p15 => (ix 184 7).bind fun i16 => lt (sI p15.2 22 i16 p15.1) fun m17 => f_MO_statementTold_J279 m17) (MSo n g (stmR n g t P) s m) := by
      intro m' c q l fm e
      rw [namedN (FlM_n l)]
      exact ok_eb rfl (ok_ix (i := 7) rfl (by decide) (by decide) (ok_lt (J279_i e ⟨by rw [rd_I0 (by omega)]; exact l.1, by rw [rd_I0 (by omega)]; exact l.2.1, l.2.2⟩ (fl2_tr fm (RFg_m RFm_I)))))
    refine ndS (P := P) (k := 0) hd.1 (fun _ _ => rfl) S3 fl2_rf (by decide) (fun a m4 r4 a4 f4 _ S4 => ok_ix (i := 6) rfl (by decide) (by decide) (ok_lt ?_)) (fun c q v m4 r4 f4 l4 => ok_ix (i := 6) rfl (by decide) (by decide) (ok_lt (fl _ c q ⟨by rw [rd_I0 (by omega)]; exact l4.1, by rw [rd_I0 (by omega)]; exact l4.2.1, l4.2.2⟩ (fl2_tr f3 (fl2_tr (RFg_m f4) (RFg_m RFm_I))) (by rw [rq]; unfold wnR; rw [r4]))))
    obtain ⟨⟨p4, R4⟩, z5, tm4⟩ := S4
    have tm5 : tM 22 (upn P 6 (a + 1)) (sI m4 22 6 (nI a)) := tM_u tm4 (by omega) (by rw [tpI_o (by decide), nI_pred])
    have S5 : MSt n g (t + 2) (upn P 6 (a + 1)) (sI m4 22 6 (nI a)) := ⟨⟨p4, RsM_d R4⟩, by rw [rd_I0 (by omega)]; exact z5, tm5⟩
    refine ndS (P := P) (Q := upn P 6 (a + 1)) (k := 0) hd.1 (fun i hi => upn_o (by omega)) S5 fl2_rf (by decide) (fun c m6 r6 c6 f6 _ S6 => ok_ix (i := 7) rfl (by decide) (by decide) (ok_lt ?_)) (fun c q v m6 r6 f6 l6 => ok_ix (i := 7) rfl (by decide) (by decide) (ok_lt (J279_i (c := c) (q := q) (by rw [rq]; unfold wnR; simp only [r4, r6]) ⟨by rw [rd_I0 (by omega)]; exact l6.1, by rw [rd_I0 (by omega)]; exact l6.2.1, l6.2.2⟩ (fl2_tr f3 (fl2_tr (RFg_m f4) (fl2_tr (RFg_m RFm_I) (fl2_tr (RFg_m f6) (RFg_m RFm_I))))))))
    obtain ⟨⟨p6', R6⟩, w5, tm6⟩ := S6
    have rw' : wnR n g (t + 1) P = .inr (t + 3, upn (upn P 6 (a + 1)) 7 (c + 1)) := by unfold wnR; simp only [r4, r6]
    have fa : RFm m3 (sI m6 22 7 (nI c)) := fl2_tr f4 (fl2_tr RFm_I (fl2_tr f6 RFm_I))
    refine J279_r (rq.trans rw') ⟨⟨⟨p6', RsM_d R6⟩, by rw [rd_I0 (by omega)]; exact w5, tM_u tm6 (by omega) (by rw [tpI_o (by decide), nI_pred])⟩, ?_⟩ (fl2_tr f3 (RFg_m fa)) (by rw [fl2_i fa (by decide)]; exact k34')
    rw [fl2_i fa (by decide), k35, e352, show (nI 4 : Int32) = 4 from rfl, c4, mk' (upn (upn P 6 (a + 1)) 7 (c + 1)) x y 1 x2 y2 (by omega) (by rw [upn_o (by omega), upn_o (by omega)]; exact ex) (by rw [upn_o (by omega), upn_o (by omega)]; exact ey) (by rw [upn_o (by omega), upn_e]; omega)]
  · have z1 : ¬ P 6 = 0 := fun w => kb (by rw [e352, show (nI 4 : Int32) = 4 from rfl, b4, ez.mpr w]; rfl)
    have n4 : ¬ iWw n g t 4 := fun w => by have := iWw_u (by decide) (by decide) i3 w; omega
    have n7 : ¬ iWw n g t 7 := fun w => by have := iWw_u (by decide) (by decide) i3 w; omega
    have rq : stmR n g t P = .inl (5, tst n g t) := by unfold stmR; rw [if_neg (iWb_n i1), if_neg (iWb_n i2), if_neg (iWb_n n4), if_neg (iWb_n n7), if_pos (iWb_t i3), if_neg z1]
    rw [namedN (FlM_n l3)]
    refine ok_eb rfl (ok_ix (i := 6) rfl (by decide) (by decide) (ok_lt ?_))
    have l4 : FlM 5 (tst n g t) (sI m3 22 6 0) := ⟨by rw [rd_I0 (by omega)]; exact l3.1, by rw [rd_I0 (by omega)]; exact l3.2.1, l3.2.2⟩
    show ok ((f_MO_named 0 (sI m3 22 6 0)).bind _) _
    rw [namedN (FlM_n l4)]
    exact ok_eb rfl (ok_ix (i := 7) rfl (by decide) (by decide) (ok_lt (J279_i rq ⟨by rw [rd_I0 (by omega)]; exact l4.1, by rw [rd_I0 (by omega)]; exact l4.2.1, l4.2.2⟩ (fl2_tr f3 (fl2_tr (RFg_m RFm_I) (RFg_m RFm_I))))))
  have e353 : m3.1 0 35 = nI (mkN P) := by rw [fl2_i g3 (by decide), em]; exact e352
  have e343 : m3.1 0 34 = nI s := by rw [fl2_i g3 (by decide)]; exact e342
  -- order
  refine tkS (w := 4) S3 fl2_rf (by decide) (fun m4 i4 f4 _ S4 => ok_ip rfl ?_) (fun m4 i4 f4 g4 S4 q4 => ok_in Bool.false_ne_true ?_)
  · have rq : stmR n g t P = if iWb n g (t + 1) 6 = true then .inr (t + 2, upn P 4 1) else if iWb n g (t + 1) 5 = true then .inr (t + 2, upn P 4 0) else .inl (1, tst n g (t + 1)) := by unfold stmR; rw [if_neg (iWb_n i1), if_neg (iWb_n i2), if_pos (iWb_t i4)]
    have mk4 : ∀ v, mkN (upn P 4 v) = mkN P := fun v => by unfold mkN; rw [upn_o (by omega), upn_o (by omega), upn_o (by omega)]
    have z22 : zlen gM 22 = 184 := rfl
    refine tkS (w := 6) S4 f4 (by decide) (fun m5 i5 f5 _ S5 => ok_ip rfl ?_) (fun m5 i5 f5 _ S5 _ => ok_in Bool.false_ne_true ?_)
    · obtain ⟨⟨p5', R5⟩, z5, tm5⟩ := S5
      unfold f_MO_statementTold_J135
      refine ok_ix (i := 4) rfl (by rw [z22]; decide) (by decide) (ok_lt (ok_ix (i := 4) rfl (by decide) (by decide) (ok_in (by rw [rd_I1]; decide) ?_)))
      have fa : RFm m3 (sI m5 22 4 (b2i true)) := fl2_tr f5 RFm_I
      refine J279_r (by rw [rq, if_pos (iWb_t i5)]) ⟨⟨⟨p5', RsM_d R5⟩, by rw [rd_I0 (by omega)]; exact z5, tM_u tm5 (by omega) (by rw [tpI_n (by decide)]; rfl)⟩, ?_⟩ (fl2_tr f3 (RFg_m fa)) (by rw [fl2_i fa (by decide)]; exact e343)
      rw [fl2_i fa (by decide), mk4]; exact e353
    · rw [if_neg (iWb_n i5)] at rq
      obtain ⟨⟨p5', R5⟩, z5, tm5⟩ := S5
      unfold f_MO_statementTold_J135
      refine ok_ix (i := 4) rfl (by rw [z22]; decide) (by decide) (ok_lt (ok_ix (i := 4) rfl (by decide) (by decide) (ok_ip (by rw [rd_I1]; rfl) ?_)))
      have fa : RFm m3 (sI m5 22 4 (b2i false)) := fl2_tr f5 RFm_I
      have S6 : MSt n g (t + 1) (upn P 4 0) (sI m5 22 4 (b2i false)) := ⟨⟨p5', RsM_d R5⟩, by rw [rd_I0 (by omega)]; exact z5, tM_u tm5 (by omega) (by rw [tpI_n (by decide)]; rfl)⟩
      refine asS (w := 5) S6 fa (by decide) (fun m6 i6 f6 _ S6' => ?_) (fun m6 i6 f6 l6 => J279_i (by rw [rq, if_neg (iWb_n i6)]) l6 (fl2_tr f3 (RFg_m f6)))
      refine J279_r (by rw [rq, if_pos (iWb_t i6)]) ⟨S6', ?_⟩ (fl2_tr f3 (RFg_m f6)) (by rw [fl2_i f6 (by decide)]; exact e343)
      rw [fl2_i f6 (by decide), mk4]; exact e353
  have e354 : m4.1 0 35 = nI (mkN P) := by rw [fl2_i g4 (by decide)]; exact e353
  have e344 : m4.1 0 34 = nI s := by rw [fl2_i g4 (by decide)]; exact e343
  have f4' : RFg m m4 := fl2_tr f3 (RFg_m f4)
  -- never
  refine tkS (w := 7) S4 fl2_rf (by decide) (fun m5 i5 f5 g5 S5 => ok_ip rfl ?_) (fun m5 i5 f5 g5 S5 q5 => ok_in Bool.false_ne_true ?_)
  · have rq : stmR n g t P = if 4 ≤ P 5 then .inl (5, tst n g t) else nvR n g 3 (t + 1) P 0 := by unfold stmR; rw [if_neg (iWb_n i1), if_neg (iWb_n i2), if_neg (iWb_n i4), if_pos (iWb_t i5)]
    have e355 : m5.1 0 35 = nI (mkN P) := by rw [fl2_i g5 (by decide)]; exact e354
    have e345 : m5.1 0 34 = nI s := by rw [fl2_i g5 (by decide)]; exact e344
    have f5' : RFg m m5 := fl2_tr f4' (RFg_m f5)
    unfold f_MO_statementTold_J183
    refine ok_ix (i := 5) rfl (by decide) (by decide) (ok_ee (P 5) 4 (fun w => ok_lt ?_) (fun w => ok_ip S5.2.1 ?_) (hx := tM_n S5.2.2 (by decide) (by decide)))
    · obtain ⟨f6, l6⟩ := failM (m := m5) (c := 5) (x := 5) (y := nI (tst n g t)) S5.2.1 rfl rfl (by decide) (by decide)
      exact ok_in (FlM_n l6) (J279_i (by rw [rq, if_pos (by omega)]) l6 (fl2_tr f5' (fl2_su f6 (by decide))))
    · rw [if_neg (by omega)] at rq
      refine ok_bi (nvtM hd (by omega) S5) (fun m6 h6 => ?_)
      rw [rq]
      refine J279_o (P := P) h6 f5' e345 (fun t' P' e => ?_)
      obtain ⟨_, k2⟩ := nvR_k 3 _ P 0 t' P' hd (by omega) (by omega) (fun c' hc' => absurd hc' (Nat.not_lt_zero _)) e
      rw [e355]
      unfold mkN
      rw [k2 1 (by omega) (by omega), k2 2 (by omega) (by omega), k2 6 (by omega) (by omega)]
  have e355 : m5.1 0 35 = nI (mkN P) := by rw [fl2_i g5 (by decide)]; exact e354
  have e345 : m5.1 0 34 = nI s := by rw [fl2_i g5 (by decide)]; exact e344
  have f5' : RFg m m5 := fl2_tr f4' (RFg_m f5)
  obtain ⟨⟨p5', R5⟩, z5, tm5⟩ := S5
  -- a rule
  have rule : ∀ m6, fl2 [] [(0, 2)] m5 m6 → RsM n g t (tst n g t) m6 → (iWw n g t 10 ∨ (¬ iWw n g t 10 ∧ iWw n g t 14)) → ok (f_MO_statementTold_J219 (nI (tst n g t)) m6) (MSo n g (stmR n g t P) s m) := by
    intro m6 f6 R6 hw
    have rq : stmR n g t P = if 16 ≤ P 8 then .inl (5, tst n g t) else (if iWb n g t 10 = true then agR n g (t + 1) P else hmR n g (t + 1) P) := by
      rcases hw with w | ⟨w, w'⟩
      · have n9 : ¬ iWw n g t 9 := i3
        unfold stmR
        rw [if_neg (iWb_n i1), if_neg (iWb_n i2), if_neg (iWb_n i4), if_neg (iWb_n i5), if_neg (iWb_n n9), if_pos (iWb_t w), if_pos (iWb_t w)]
      · unfold stmR
        rw [if_neg (iWb_n i1), if_neg (iWb_n i2), if_neg (iWb_n i4), if_neg (iWb_n i5), if_neg (iWb_n i3), if_neg (iWb_n w), if_pos (iWb_t w'), if_neg (iWb_n w)]
    have S6 : MSt n g t P m6 := ⟨⟨_, R6⟩, by rw [fl2_i f6 (by decide)]; exact z5, tM_fl tm5 f6 (by decide)⟩
    have f6' : RFg m m6 := fl2_tr f5' (fl2_su f6 (by decide))
    unfold f_MO_statementTold_J219 f_MO_statementTold_J237
    refine ok_ix (i := 8) rfl (by decide) (by decide) (ok_ee (P 8) 16 (fun w => ok_lt ?_) (fun w => ?_) (hx := tM_n S6.2.2 (by decide) (by decide)))
    · obtain ⟨f7, l7⟩ := failM (m := m6) (c := 5) (x := 5) (y := nI (tst n g t)) S6.2.1 rfl rfl (by decide) (by decide)
      rw [takesN (FlM_n l7)]
      refine ok_eb rfl (ok_in Bool.false_ne_true ?_)
      show ok ((f_MO_takes 17 _).bind _) _
      rw [takesN (FlM_n l7)]
      exact ok_eb rfl (ok_in Bool.false_ne_true (J279_i (by rw [rq, if_pos (by omega)]) l7 (fl2_tr f6' (fl2_su f7 (by decide)))))
    · rw [if_neg (by omega)] at rq
      refine tkS (w := 10) S6 fl2_rf (by decide) (fun m7 i7 f7 g7 S7 => ok_ip rfl ?_) (fun m7 i7 f7 g7 S7 _ => ok_in Bool.false_ne_true ?_)
      · rw [if_pos (iWb_t i7)] at rq
        refine ok_bi (onM_ hd (by omega) S7) (fun m8 h8 => ?_)
        rw [rq]
        refine J279_o (P := P) h8 (fl2_tr f6' (RFg_m f7)) (by rw [fl2_i g7 (by decide), fl2_i f6 (by decide)]; exact e345) (fun t' P' e => ?_)
        obtain ⟨_, k2⟩ := agR_k hd (by omega) e
        rw [fl2_i g7 (by decide), fl2_i f6 (by decide), e355]
        unfold mkN
        rw [k2 1 (by omega) (by omega), k2 2 (by omega) (by omega), k2 6 (by omega) (by omega)]
      · rw [if_neg (iWb_n i7)] at rq
        have w14 : iWw n g t 14 := by
          rcases hw with w' | w'
          · exact absurd w' i7
          · exact w'.2
        refine tkS (w := 14) S7 f7 (by decide) (fun m8 i8 f8 g8 S8 => ok_ip rfl ?_) (fun m8 i8 => absurd w14 i8)
        refine ok_bi (atM_ hd (by omega) S8) (fun m9 h9 => ?_)
        rw [rq]
        refine J279_o (P := P) h9 (fl2_tr f6' (RFg_m f8)) (by rw [fl2_i g8 (by decide), fl2_i g7 (by decide), fl2_i f6 (by decide)]; exact e345) (fun t' P' e => ?_)
        obtain ⟨_, k2⟩ := hmR_k hd (by omega) e
        rw [fl2_i g8 (by decide), fl2_i g7 (by decide), fl2_i f6 (by decide), e355]
        unfold mkN
        rw [k2 1 (by omega) (by omega), k2 2 (by omega) (by omega), k2 6 (by omega) (by omega)]
  refine hereS (w := 10) R5 z5 (by decide) (fun i6 m6 f6 R6 => ok_ip rfl (rule m6 f6 R6 (Or.inl i6))) (fun i6 m6 f6 R6 => ok_in Bool.false_ne_true ?_)
  refine hereS (w := 14) R6 (by rw [fl2_i f6 (by decide)]; exact z5) (by decide) (fun i7 m7 f7 R7 => ok_ip rfl (rule m7 (fl2_tr f6 f7) R7 (Or.inr ⟨i6, i7⟩))) (fun i7 m7 f7 R7 => ok_in Bool.false_ne_true (ok_lt ?_))
  obtain ⟨f8, l8⟩ := failM (m := m7) (c := 1) (x := 1) (y := nI (tst n g t)) (by rw [fl2_i f7 (by decide), fl2_i f6 (by decide)]; exact z5) rfl rfl (by decide) (by decide)
  refine J279_i ?_ l8 (fl2_tr f5' (fl2_tr (fl2_su f6 (by decide)) (fl2_tr (fl2_su f7 (by decide)) (fl2_su f8 (by decide)))))
  unfold stmR
  rw [if_neg (iWb_n i1), if_neg (iWb_n i2), if_neg (iWb_n i4), if_neg (iWb_n i5), if_neg (iWb_n i3), if_neg (iWb_n i6), if_neg (iWb_n i7)]
