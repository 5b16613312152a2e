theorem EWr_T {P : Nat → Nat} {r N i j : Nat} {W : Nat → Nat} (hi : i < N) : EWr P r N W i j ↔ ∃ e, e < cn (psb P (W i)) 64 ∧ cea P (W i) e / 4 ≠ r ∧ trg P N W i e = j := by
  constructor
  · rintro ⟨_, c, hc, e⟩
    have p := nxw_nz.mp (by rw [e]; omega : nxw P r N W i c ≠ 0)
    obtain ⟨k1, k2⟩ := cea_cn hc p.1
    rw [nxw_w p.2 (by omega)] at e
    refine ⟨_, k1, by rw [k2]; exact p.2, ?_⟩
    unfold trg
    rw [k2, e]; rfl
  · rintro ⟨e, he, hr, et⟩
    obtain ⟨c1, c2, c3⟩ := cea_sp he
    have nz : nxw P r N W i (cea P (W i) e) ≠ 0 := nxw_nz.mpr ⟨c2, hr⟩
    refine ⟨hi, _, c1, ?_⟩
    unfold trg at et
    rw [nxw_w hr (by omega)] at nz ⊢
    omega
/-- worlds come to, in the order in which they were come to -/
def RQm (P : Nat → Nat) (r N : Nat) (W : Nat → Nat) (n : Nat) (ord : Nat → Nat) (m : zM) : Prop := 0 < n ∧ n ≤ N ∧ ord 0 = 0 ∧ (∀ j, j < n → ord j < N ∧ m.1 126 j = nI (ord j) ∧ Rc (EWr P r N W) 0 (ord j)) ∧ (∀ i j, i < n → j < n → ord i = ord j → i = j) ∧ ∀ i, i < N → m.1 125 i = b2i (imN ord n i)
theorem imN_u {ord : Nat → Nat} {n t i : Nat} : imN (upn ord n t) (n + 1) i = (imN ord n i || decide (i = t)) := by
  refine (cBo_of ?_).symm
  rw [Bool.or_eq_true, decide_eq_true_iff]
  unfold imN
  rw [cBo_iff]
  constructor
  · rintro (⟨j, h1, h2⟩ | h)
    · exact ⟨j, by omega, by unfold upn; rw [if_neg (by omega)]; exact h2⟩
    · exact ⟨n, by omega, by unfold upn; rw [if_pos rfl, h]⟩
  · rintro ⟨j, h1, h2⟩
    unfold upn at h2
    by_cases e : j = n
    · rw [if_pos e] at h2; exact Or.inr h2.symm
    · rw [if_neg e] at h2; exact Or.inl ⟨j, by omega, h2⟩
theorem RQm_a {P : Nat → Nat} {r N n t : Nat} {W ord : Nat → Nat} {m : zM} (h : RQm P r N W n ord m) (ht : t < N) (hn : imN ord n t = false) (hr : Rc (EWr P r N W) 0 t) : RQm P r N W (n + 1) (upn ord n t) (sI (sI m 125 t (b2i true)) 126 n (nI t)) := by
  obtain ⟨h1, h2, h3, h4, h5, h6⟩ := h
  have nj : ∀ j, j < n → ord j ≠ t := fun j hj e => by
    rw [show imN ord n t = true from cBo_t ⟨j, hj, e⟩] at hn
    cases hn
  have u0 : ∀ j, j < n → upn ord n t j = ord j := fun j hj => if_neg (by omega)
  have u1 : upn ord n t n = t := if_pos rfl
  have ul : ∀ j, j < n + 1 → upn ord n t j < N := by
    intro j hj
    rcases Nat.lt_or_ge j n with z | z
    · rw [u0 j z]; exact (h4 j z).1
    · rw [show j = n by omega, u1]; exact ht
  have ui : ∀ i j, i < n + 1 → j < n + 1 → upn ord n t i = upn ord n t j → i = j := by
    intro i j hi hj e
    rcases Nat.lt_or_ge i n with z | z
    · rcases Nat.lt_or_ge j n with y | y
      · rw [u0 i z, u0 j y] at e; exact h5 i j z y e
      · rw [u0 i z, show j = n by omega, u1] at e; exact absurd e (nj i z)
    · rcases Nat.lt_or_ge j n with y | y
      · rw [u0 j y, show i = n by omega, u1] at e; exact absurd e.symm (nj j y)
      · omega
  refine ⟨by omega, ?_, by rw [u0 0 h1]; exact h3, fun j hj => ⟨ul j hj, ?_, ?_⟩, ui, fun i hi => ?_⟩
  · have := cn_im (n + 1) ul ui
    have := cn_le (imN (upn ord n t) (n + 1)) N
    omega
  · rw [rd_I]
    rcases Nat.lt_or_ge j n with z | z
    · rw [if_neg (by omega), rd_I0 (by omega), u0 j z]; exact (h4 j z).2.1
    · rw [if_pos ⟨rfl, by omega⟩, show j = n by omega, u1]
  · rcases Nat.lt_or_ge j n with z | z
    · rw [u0 j z]; exact (h4 j z).2.2
    · rw [show j = n by omega, u1]; exact hr
  · rw [rd_I0 (by omega), rd_I, imN_u]
    by_cases e : i = t
    · rw [if_pos ⟨rfl, e⟩, decide_eq_true e, Bool.or_true]
    · rw [if_neg (fun z => e z.2), decide_eq_false e, Bool.or_false]; exact h6 i hi
theorem reachX {P : Nat → Nat} {r N : Nat} {W D pr sp : Nat → Nat} {m : zM} (hP : tV P) (hN : N ≤ 600) (h0 : 0 < N) (hL : Lst (Ed P 16) (wx0 P) N W D) (hA : AXm P N W D pr sp m) (hr : r < P 8) : ok (f_Study_reach (nI r) m) (fun p => fl2 [125, 126] [] m p.2 ∧ ∃ (n : Nat) (ord : Nat → Nat), p.1 = nI n ∧ RQm P r N W n ord p.2 ∧ ∀ i, i < N → ((∃ j, j < n ∧ ord j = i) ↔ Rc (EWr P r N W) 0 i)) := by
  have r16 := hP.1.2.2.2.2.2.2.2.2.2.2.1
  unfold f_Study_reach
  refine ok_bi (clearX (c := 125) (by decide)) (fun p1 ⟨c1, c2⟩ => ok_ix rfl (by decide : 0 < 600) (by decide) (ok_lt (ok_ix rfl (by decide : 0 < 600) (by decide) (ok_lt ?_))))
  have f0 : fl2 [125, 126] [] m (sI (sI p1 126 0 0) 125 0 (b2i true)) := fl2_tr (fl2_su c2 (by decide)) (fl2_tr (fl2_I (inS_c (by simp))) (fl2_I (inS_c (by simp))))
  have q0 : RQm P r N W 1 (fun _ => 0) (sI (sI p1 126 0 0) 125 0 (b2i true)) := by
    refine ⟨by omega, by omega, rfl, fun j hj => ⟨h0, ?_, 0, rfl⟩, fun i j hi hj _ => by omega, fun i hi => ?_⟩
    · rw [show j = 0 by omega, rd_I0 (by omega), rd_I1]; rfl
    · by_cases e : i = 0
      · rw [e, rd_I1, show imN (fun _ => 0) 1 0 = true from cBo_t ⟨0, by omega, rfl⟩]
      · rw [rd_I0 (fun z => e z.2), rd_I0 (by omega), c1 i (Nat.lt_of_lt_of_le hi (show N ≤ zlen gX 125 from hN)), show imN (fun _ => 0) 1 i = false from cBo_f (fun ⟨j, _, z⟩ => e z.symm)]
        rfl
  unfold f_Study_reach_L25
  refine ok_for N (fun q (s : Int32 × Int32 × zM) => ∃ (n : Nat) (ord : Nat → Nat), s.1 = nI n ∧ s.2.1 = nI q ∧ q ≤ n ∧ fl2 [125, 126] [] m s.2.2 ∧ RQm P r N W n ord s.2.2 ∧ ∀ j, j < q → ∀ i, EWr P r N W (ord j) i → imN ord n i = true) (k0 := 0) ⟨1, fun _ => 0, rfl, rfl, by omega, f0, q0, fun j hj => absurd hj (Nat.not_lt_zero _)⟩ (Nat.zero_le _) ?_
  rintro q ⟨x, y, m1⟩ - hq ⟨n, ord, e1, e2, qn, f1, Q1, cl⟩
  have e1 : x = nI n := e1
  have e2 : y = nI q := e2
  subst e1 e2
  have f1 : fl2 [125, 126] [] m m1 := f1
  have Q1 : RQm P r N W n ord m1 := Q1
  have nN := Q1.2.1
  unfold f_Study_reach_B25
  refine ok_le n q (fun z => ok_mk ⟨f1, n, ord, rfl, Q1, fun i hi => ⟨fun ⟨j, h1, h2⟩ => ?_, fun ⟨d, hd⟩ => ?_⟩⟩) (fun z => ?_)
  · rw [← h2]; exact (Q1.2.2.2.1 j h1).2.2
  · have key : ∀ d i, Rn (EWr P r N W) 0 d i → imN ord n i = true := by
      intro d
      induction d with
      | zero =>
        intro i h
        have h : i = 0 := h
        exact cBo_t ⟨0, Q1.1, by rw [Q1.2.2.1, h]⟩
      | succ d ih =>
        rintro i ⟨u, h1, h2⟩
        obtain ⟨j, j1, j2⟩ := cBo_iff.mp (ih u h1)
        rw [← j2] at h2
        exact cl j (by omega) i h2
    exact cBo_iff.mp (key d i hd)
  · refine ok_le 600 q (fun y => absurd y (by omega)) (fun y => ok_ix rfl y (by decide) ?_)
    obtain ⟨x1, x2, x3⟩ := Q1.2.2.2.1 q z
    refine ok_ix (i := ord q) x2 (by omega) (by decide) ?_
    show ok (f_Study_reach_L57 (nI r) (nI n) (nI q) (m1.1 126 q) (m1.1 36 (ord q)) m1) _
    have A1 := AXm_fl hA f1 (by decide)
    rw [x2, A1.2.2.1 (ord q) (by omega)]
    have fb := frm_le P W (ord q + 1)
    have fb' : frm P W (ord q + 1) = frm P W (ord q) + cn (psb P (W (ord q))) 64 := rfl
    unfold f_Study_reach_L57
    refine ok_for (cn (psb P (W (ord q))) 64) (fun e (s : Int32 × Int32 × zM) => ∃ (n' : Nat) (ord' : Nat → Nat), s.1 = nI n' ∧ s.2.1 = nI (frm P W (ord q) + e) ∧ q < n' ∧ ord' q = ord q ∧ fl2 [125, 126] [] m s.2.2 ∧ RQm P r N W n' ord' s.2.2 ∧ (∀ j, j < q → ∀ i, EWr P r N W (ord' j) i → imN ord' n' i = true) ∧ ∀ e', e' < e → cea P (W (ord q)) e' / 4 ≠ r → imN ord' n' (trg P N W (ord q) e') = true) (k0 := 0) ⟨n, ord, rfl, rfl, z, rfl, f1, Q1, cl, fun e' h => absurd h (Nat.not_lt_zero _)⟩ (Nat.zero_le _) ?_
    rintro e ⟨x', y', m2⟩ - he ⟨n', ord', d1, d2, qn', oq, f2, Q2, cl2, ce2⟩
    have d1 : x' = nI n' := d1
    have d2 : y' = nI (frm P W (ord q) + e) := d2
    subst d1 d2
    have f2 : fl2 [125, 126] [] m m2 := f2
    have Q2 : RQm P r N W n' ord' m2 := Q2
    have nN' := Q2.2.1
    have A2 := AXm_fl hA f2 (by decide)
    unfold f_Study_reach_B57 f_Study_reach_J127
    refine ok_ix (nI_1 (ord q)) (by omega : ord q + 1 < 601) (by decide) (ok_le (frm P W (ord q + 1)) (frm P W (ord q) + e) (fun u => ok_zl ?_) (fun u => ?_) (hx := A2.2.2.1 (ord q + 1) (by omega)))
    · unfold f_Study_reach_J133
      refine ok_mk ⟨by omega, n', ord', rfl, nI_1 q, qn', f2, Q2, fun j hj i hE => ?_⟩
      rcases Nat.lt_or_ge j q with w | w
      · exact cl2 j w i hE
      · rw [show j = q by omega, oq] at hE
        obtain ⟨e', v1, v2, v3⟩ := (EWr_T x1).mp hE
        rw [← v3]; exact ce2 e' (by omega) v2
    · have mv := movA (e := e) hP hN hL A2 x1 (by omega)
      have tl : trg P N W (ord q) e < N := by
        have h1 := mv.2.1
        have h2 := mv.2.2.1
        unfold trg
        omega
      have cl64 := (cea_sp (P := P) (x := W (ord q)) (e := e) (by omega)).1
      refine ok_eb mv.2.2.2.1 (ok_eb mv.2.2.2.2.1 (ok_ee (cea P (W (ord q)) e / 4) r (fun w => ok_mk ⟨by omega, n', ord', rfl, nI_1 _, qn', oq, f2, Q2, cl2, fun e' h1 h2 => ?_⟩) (fun w => ok_ix (i := trg P N W (ord q) e) rfl (by omega) (by decide) ?_)))
      · rcases Nat.lt_or_ge e' e with v | v
        · exact ce2 e' v h2
        · rw [show e' = e by omega] at h2; exact absurd w h2
      · show ok (if m2.1 125 (trg P N W (ord q) e) = 0 then _ else _) _
        rw [Q2.2.2.2.2.2 _ tl]
        refine ok_it (fun v => ok_ix (i := trg P N W (ord q) e) rfl (by omega) (by decide) (ok_lt ?_)) (fun v => ok_mk ⟨by omega, n', ord', rfl, nI_1 _, qn', oq, f2, Q2, cl2, fun e' h1 h2 => ?_⟩)
        · have hr2 : Rc (EWr P r N W) 0 (trg P N W (ord q) e) := by
            obtain ⟨d, hd⟩ := x3
            exact ⟨d + 1, ord q, hd, (EWr_T x1).mpr ⟨e, by omega, w, rfl⟩⟩
          have Q3 := RQm_a Q2 tl (b2i_f v) hr2
          have n3 := Q3.2.1
          refine ok_ix rfl (by omega : n' < 600) (by decide) (ok_lt (ok_mk ⟨by omega, n' + 1, upn ord' n' (trg P N W (ord q) e), nI_1 _, nI_1 _, by omega, by unfold upn; rw [if_neg (by omega)]; exact oq, fl2_tr f2 (fl2_tr (fl2_I (inS_c (by simp))) (fl2_I (inS_c (by simp)))), Q3, fun j hj i hE => ?_, fun e' h1 h2 => ?_⟩))
          · unfold upn at hE
            rw [if_neg (by omega)] at hE
            rw [imN_u, cl2 j hj i hE, Bool.true_or]
          · rw [imN_u]
            rcases Nat.lt_or_ge e' e with v' | v'
            · rw [ce2 e' v' h2, Bool.true_or]
            · rw [show e' = e by omega, decide_eq_true rfl, Bool.or_true]
        · rcases Nat.lt_or_ge e' e with v' | v'
          · exact ce2 e' v' h2
          · rw [show e' = e by omega]; exact b2i_t v
