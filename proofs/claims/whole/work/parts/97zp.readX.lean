/-- the table that is none yet -/
def P00 : Nat → Nat := fun _ => 0
theorem dV_0 : dV P00 := by
  refine ⟨fun k hk => ⟨by show 0 ≤ 6; omega, fun j hj => absurd hj (Nat.not_lt_zero _)⟩, ⟨by show 0 ≤ 4; omega, by show 0 ≤ 1; omega, by show 0 ≤ 4; omega, by show 0 ≤ 6; omega, by show 0 ≤ 6; omega, by show 0 ≤ 16; omega, Iff.rfl⟩, fun r hr => absurd hr (Nat.not_lt_zero _), fun k hk => absurd hk (Nat.not_lt_zero _), fun k j hk hj hl => rfl⟩
/-- what the class has read -/
def RdX (b n : Nat) (g : Nat → Nat) (R : PRs) (m0 : zM) (p : Int32 × zM) : Prop := fl2 (dsL b ++ [89, 90, 91, 92]) RdF m0 p.2 ∧ ((∃ s P, R = .inr (s, P) ∧ 0 < s ∧ s ≤ 60 ∧ p.1 = nI s ∧ tX b P p.2 ∧ p.2.1 65 7 = 0 ∧ p.2.1 65 8 = -1) ∨ (∃ c q, R = .inl (c, q) ∧ p.1 = -1 ∧ FlX c q p.2))
theorem fl_a {S S' : List Nat} {F : List (Nat × Nat)} {m m' : zM} (h : fl2 S F m m') : fl2 (S ++ S') F m m' := by
  refine ⟨fun k j hk => h.1 k j ?_, h.2⟩
  unfold inS at hk ⊢
  rw [Bool.or_eq_false_iff] at hk ⊢
  refine ⟨?_, hk.2⟩
  have := hk.1
  rw [Bool.eq_false_iff] at this ⊢
  intro z
  exact this (List.contains_iff_mem.mpr (List.mem_append.mpr (Or.inl (List.contains_iff_mem.mp z))))
theorem fl_b {S S' : List Nat} {F : List (Nat × Nat)} {m m' : zM} (h : fl2 S [] m m') : fl2 (S' ++ S) F m m' := by
  refine ⟨fun k j hk => h.1 k j ?_, h.2⟩
  unfold inS at hk ⊢
  rw [Bool.or_eq_false_iff] at hk ⊢
  refine ⟨?_, rfl⟩
  have := hk.1
  rw [Bool.eq_false_iff] at this ⊢
  intro z
  exact this (List.contains_iff_mem.mpr (List.mem_append.mpr (Or.inr (List.contains_iff_mem.mp z))))
/-- where no fault is told, none is put down -/
theorem readX {b n : Nat} {g : Nat → Nat} {m : zM} (hb : tbv b) (hB : m.2.2 1 = b) (hT : TpX n g m) (hn : n ≤ 1600) : ok (f_Reader_read 1 m) (RdX b n g (rdR n g 61 0 0 P00) m) := by
  have hb' : b = 66 ∨ b = 93 := hb
  generalize hR : rdR n g 61 0 0 P00 = R
  have g8 := fun j hj => (hT.2 j hj).2
  unfold f_Reader_read
  refine ok_eb (tb_ok hB hb) ?_
  refine ok_bi (G := fun p => RFx b m p ∧ tX b P00 p) ?_ (fun p2 ⟨f2, t2⟩ => ?_)
  · unfold f_Table_clear
    have zl : zlen gX (b + 1) = 3 := by rcases hb' with z | z <;> subst z <;> rfl
    refine ok_lt (ok_bi (fillX (c := b + 1) (x := 0) (by rw [zl]; decide)) (fun p ⟨h1, h2⟩ => ok_lt (ok_lt (ok_lt (ok_lt (ok_lt (ok_mk ⟨?_, ?_⟩)))))))
    · have w0 : RFx b m (sI m b 0 0) := RFx_I (k := 0) (by decide)
      refine RFx_t (RFx_t (RFx_t (RFx_t (RFx_t (RFx_t w0 ?_) (RFx_I (k := 0) (by decide))) (RFx_I (k := 0) (by decide))) (RFx_I (k := 0) (by decide))) (RFx_I (k := 0) (by decide))) (RFx_I (k := 0) (by decide))
      refine ⟨fun k j hk => h2.1 k j ?_, h2.2⟩
      unfold inS at hk ⊢
      rw [Bool.or_eq_false_iff] at hk ⊢
      refine ⟨?_, rfl⟩
      have := hk.1
      rw [Bool.eq_false_iff] at this ⊢
      intro z
      refine this (List.contains_iff_mem.mpr ?_)
      have z := List.contains_iff_mem.mp z
      simp at z
      rw [z]
      simp [dsL]
    · refine ⟨⟨?_, ?_, ?_, ?_, ?_, ?_⟩, fun k hk => ?_, fun r hr => absurd hr (Nat.not_lt_zero _), fun k hk => absurd hk (Nat.not_lt_zero _), fun k j hk hj => absurd hj (Nat.not_lt_zero _)⟩
      · rw [rd_I0 (by omega), rd_I0 (by omega), rd_I0 (by omega), rd_I0 (by omega), rd_I0 (by omega), fl2_i h2 (by simp [inS]), rd_I1]; rfl
      · rw [rd_I0 (by omega), rd_I0 (by omega), rd_I0 (by omega), rd_I0 (by omega), rd_I1]; rfl
      · rw [rd_I0 (by omega), rd_I0 (by omega), rd_I0 (by omega), rd_I1]; rfl
      · rw [rd_I0 (by omega), rd_I0 (by omega), rd_I1]; rfl
      · rw [rd_I0 (by omega), rd_I1]; decide
      · rw [rd_I1]; decide
      · rw [rd_I0 (by omega), rd_I0 (by omega), rd_I0 (by omega), rd_I0 (by omega), rd_I0 (by omega)]
        exact h1 k (by rw [zl]; exact hk)
  refine ok_lt (ok_lt (ok_lt ?_))
  have f3 : fl2 [] RdF p2 (sI (sI (sI p2 65 7 0) 65 8 (-1)) 65 5 0) := fl2_tr (fl2_tr (fl2_I (inS_f (by decide))) (fl2_I (inS_f (by decide)))) (fl2_I (inS_f (by decide)))
  have x7 : (sI (sI (sI p2 65 7 0) 65 8 (-1)) 65 5 0).1 65 7 = 0 ∧ (sI (sI (sI p2 65 7 0) 65 8 (-1)) 65 5 0).1 65 8 = -1 ∧ (sI (sI (sI p2 65 7 0) 65 8 (-1)) 65 5 0).1 65 5 = nI 0 := ⟨by rw [rd_I0 (by omega), rd_I0 (by omega), rd_I1], by rw [rd_I0 (by omega), rd_I1], rd_I1 _ _ _ _⟩
  generalize sI (sI (sI p2 65 7 0) 65 8 (-1)) 65 5 0 = m5 at f3 x7 ⊢
  have F5 : RFx b m m5 := RFx_t f2 (RFx_l f3 (by decide))
  have t5 := tX_fl hb t2 f3 (by decide) (show P00 8 ≤ 16 from by show 0 ≤ 16; omega)
  have o5 : ∀ k j, k = 1 ∨ k = 2 → m5.1 k j = m.1 k j := fun k j hk => fl2_i F5 (by
    unfold inS
    rw [Bool.or_eq_false_iff]
    refine ⟨?_, ?_⟩
    · rw [Bool.eq_false_iff]
      intro z
      have z := List.contains_iff_mem.mp z
      simp [dsL] at z
      omega
    · rw [Bool.eq_false_iff]
      intro z
      have z := List.contains_iff_mem.mp z
      simp [RdF] at z
      omega)
  have T5 : TpX n g m5 := ⟨by rw [o5 1 1 (Or.inl rfl)]; exact hT.1, fun j hj => by rw [o5 2 j (Or.inr rfl)]; exact hT.2 j hj⟩
  refine ok_bi (scanX T5 hn) (fun p6 ⟨f6, T, K6⟩ => ?_)
  have F6 : fl2 (dsL b ++ [89, 90, 91, 92]) RdF m p6 := fl2_tr (fl_a F5) (fl_b f6)
  have S6 : XSt b n g T 0 P00 p6 := ⟨⟨K6, by rw [fl2_i f6 (by decide)]; exact x7.2.2, Nat.zero_le _, hn, by rw [fl2_i f6 (by decide)]; exact x7.1, by rw [fl2_i f6 (by decide)]; exact x7.2.1⟩, by rw [f6.2, F5.2]; exact hB, tX_fl hb t5 f6 (by decide) (show P00 8 ≤ 16 from by show 0 ≤ 16; omega), g8⟩
  unfold f_Reader_read_L31
  refine ok_for 60 (fun s (z : Int32 × Int32 × zM) => ∃ t P, z.1 = nI s ∧ z.2.1 = nI s ∧ dV P ∧ (s = 0 → P = P00) ∧ RFx b p6 z.2.2 ∧ XSt b n g T t P z.2.2 ∧ rdR n g (61 - s) s t P = R) (k0 := 0) ⟨0, P00, rfl, rfl, dV_0, fun _ => rfl, fl2_rf, S6, hR⟩ (Nat.zero_le _) ?_
  rintro s ⟨x, y, m1⟩ - hs ⟨t, P, e1, e2, hd, h0, f1, S1, rr⟩
  have e1 : x = nI s := e1
  have e2 : y = nI s := e2
  subst e1 e2
  have f1 : RFx b p6 m1 := f1
  have S1 : XSt b n g T t P m1 := S1
  have C1 := S1.1
  have T16 := C1.1.1
  have tl := C1.2.2.1
  have fa : ∀ m', RFx b p6 m' → fl2 (dsL b ++ [89, 90, 91, 92]) RdF m m' := fun m' h => fl2_tr F6 (fl_a h)
  rw [show 61 - s = (60 - s) + 1 by omega] at rr
  unfold rdR at rr
  unfold f_Reader_read_B31
  refine ok_ll 60 s (fun z => absurd z (by omega)) (fun _ => ok_ix C1.2.1 (by omega : t < 1601) (by decide) ?_)
  rcases Nat.lt_or_ge t T with u | u
  rotate_left
  · have et : t = T := by omega
    have tn : ¬ tst n g t < n := by rw [et, C1.1.2.1]; omega
    rw [if_neg tn] at rr
    refine ok_ip (by rw [et]; exact C1.1.2.2.2.1) (ok_zl ?_)
    unfold f_Reader_read_J113
    refine ok_ee s 0 (fun z => ?_) (fun z => ok_mk ⟨fa m1 f1, Or.inl ⟨s, P, ?_, by omega, by omega, rfl, S1.2.2.1, C1.2.2.2.2.1, C1.2.2.2.2.2⟩⟩)
    · rw [if_pos z] at rr
      refine ok_bi (unexX C1) (fun p ⟨e3, f3, h3⟩ => ok_mk ⟨fa p.2 (RFx_t f1 (RFx_l f3 (by decide))), Or.inr ⟨1, tst n g t, rr.symm, rfl, h3⟩⟩)
    · rw [if_neg z] at rr; exact rr.symm
  obtain ⟨a1, a2, a3, a4, a5⟩ := C1.1.2.2.1 t u
  have kl := kdT_le n g t
  have k0 : 0 < kdT n g t := by
    have := (kd0_le n g (tst n g t)).2
    unfold kdT; split <;> (try split) <;> omega
  rw [if_pos a1] at rr
  refine ok_in (by rw [a4]; exact fun z => by have := (nI_eq (b := 0) (by omega) (by decide)).mp z; omega) ?_
  refine ok_ee s 60 (fun z => ok_zl ?_) (fun z => ?_)
  · unfold f_Reader_read_J55
    rw [if_pos z] at rr
    refine ok_ix C1.2.1 (by omega : t < 1601) (by decide) (ok_lt ?_)
    obtain ⟨e3, f3, h3⟩ := refuX (m := m1) (c := 5) (x := 5) rfl (CsX_p C1)
    exact ok_mk ⟨fa _ (RFx_t f1 (RFx_l f3 (by decide))), Or.inr ⟨5, tst n g t, rr.symm, rfl, h3⟩⟩
  rw [if_neg z] at rr
  -- one statement, and the sign behind it
  have step : ∀ (Q : PRs) (f : zM → Option (Bool × zM)), (∀ t' P', Q = .inr (t', P') → dV P') → (match Q with | .inl e => .inl e | .inr (t', P') => if cBo (iSg n g t' 59) = true then rdR n g (60 - s) (s + 1) (t' + 1) P' else .inl (1, tst n g t')) = R → ok (f m1) (XO b n g T Q m1) → ok ((f m1).bind fun p => if p.1 = true then f_Reader_read_J93 (nI s) (nI s) p.2 else some (.inl (-1, p.2))) (lp (RdX b n g R m) (fun z : Int32 × Int32 × zM => s < 60 ∧ ∃ t P, z.1 = nI (s + 1) ∧ z.2.1 = nI (s + 1) ∧ dV P ∧ (s + 1 = 0 → P = P00) ∧ RFx b p6 z.2.2 ∧ XSt b n g T t P z.2.2 ∧ rdR n g (61 - (s + 1)) (s + 1) t P = R)) := by
    intro Q f hQ rq hf
    refine ok_bi hf (fun p hp => ?_)
    obtain ⟨pb, pm⟩ := p
    obtain ⟨fp, hp⟩ := hp
    have fp : RFx b m1 pm := fp
    rcases hp with ⟨t', P', q1, q2, q3⟩ | ⟨c, q, q1, q2, q3⟩
    · have q2 : pb = true := q2
      subst q2
      have q3 : XSt b n g T t' P' pm := q3
      have d' := hQ t' P' q1
      rw [q1] at rq
      have rq : (if cBo (iSg n g t' 59) = true then rdR n g (60 - s) (s + 1) (t' + 1) P' else .inl (1, tst n g t')) = R := rq
      refine ok_ip rfl ?_
      unfold f_Reader_read_J93
      refine ok_bi (signX (c := 59) q3.1 (by decide) (by decide) (by decide) g8) (fun p13 h13 => ?_)
      obtain ⟨pc, pn⟩ := p13
      rcases h13 with ⟨i1, e3, f3, C3⟩ | ⟨i1, e3, f3, l3⟩
      · have e3 : pc = true := e3
        subst e3
        have f3 : fl2 [] [(65, 5)] pm pn := f3
        rw [if_pos (cBo_t i1)] at rq
        refine ok_ip rfl (ok_mk ⟨by omega, t' + 1, P', nI_1 s, nI_1 s, d', fun y => by omega, RFx_t f1 (RFx_t fp (RFx_l f3 (by decide))), XSt_l hb d'.2.1.2.2.2.2.2.1 q3 f3 (by decide) C3, ?_⟩)
        · rw [show 61 - (s + 1) = 60 - s by omega]; exact rq
      · have e3 : pc = false := e3
        subst e3
        rw [if_neg (by rw [cBo_f i1]; decide)] at rq
        exact ok_in Bool.false_ne_true (ok_mk ⟨fa _ (RFx_t f1 (RFx_t fp (RFx_l f3 (by decide)))), Or.inr ⟨1, _, rq.symm, rfl, l3⟩⟩)
    · have q2 : pb = false := q2
      subst q2
      rw [q1] at rq
      exact ok_in Bool.false_ne_true (ok_mk ⟨fa _ (RFx_t f1 fp), Or.inr ⟨c, q, rq.symm, rfl, q3⟩⟩)
  refine ok_ee s 0 (fun y => ?_) (fun y => ?_)
  · rw [if_pos y] at rr
    exact step _ _ (fun t' P' e => (opR_k hd (by rw [h0 y]; rfl) e).1) rr (openX hb hd (by rw [h0 y]; rfl) S1)
  · rw [if_neg y] at rr
    exact step _ _ (fun t' P' e => (stR_k hd e).1) rr (stmtX hb hd S1)
