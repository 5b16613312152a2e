/-- the followed graph, by codes -/
def EFo (P : Nat → Nat) (w N : Nat) (W : Nat → Nat) (av u v : Nat) : Prop := opF P W av u = true ∧ ∃ c, c < 64 ∧ nda P w N W av u c = v + 1
theorem nda_ps {P : Nat → Nat} {w N av u c : Nat} {W : Nat → Nat} (h : nda P w N W av u c ≠ 0) : psb P (W (u / 4)) c = true ∧ c / 4 ≠ w := by
  have h1 : nde P w N W u c ≠ 0 := by
    intro z
    unfold nda at h
    rw [if_pos (Or.inl z)] at h
    exact h rfl
  have h2 : nxw P w N W (u / 4) c ≠ 0 := by
    intro z
    unfold nde at h1
    rw [if_pos z] at h1
    exact h1 rfl
  refine ⟨?_, fun z => h2 (nxw_0 (Or.inl z))⟩
  unfold psb
  cases e : sP P (W (u / 4)) c with
  | none => exact absurd (nxw_0 (Or.inr e)) h2
  | some y => rfl
theorem TEd_F {P : Nat → Nat} {w N av u v : Nat} {W : Nat → Nat} : TEd (fun v => opF P W av v = true) (dgx P W) (xdF P w N W av) u v ↔ EFo P w N W av u v := by
  constructor
  · rintro ⟨h1, e, h2, h3⟩
    exact ⟨h1, _, (cea_sp h2).1, h3⟩
  · rintro ⟨h1, c, h2, h3⟩
    obtain ⟨k1, _⟩ := nda_ps (P := P) (w := w) (N := N) (W := W) (av := av) (u := u) (c := c) (by omega)
    obtain ⟨k2, k3⟩ := cea_cn h2 k1
    refine ⟨h1, _, k2, ?_⟩
    unfold xdF
    rw [k3]
    exact h3
theorem Rn_mo {E E' : Nat → Nat → Prop} {s d x : Nat} (h : ∀ u v, E u v → E' u v) (hr : Rn E s d x) : Rn E' s d x := by
  induction d generalizing x with
  | zero => exact hr
  | succ d ih =>
    obtain ⟨y, h1, h2⟩ := hr
    exact ⟨y, ih h1, h y x h2⟩
theorem Rc_eq {E E' : Nat → Nat → Prop} (h : ∀ u v, E u v ↔ E' u v) {u v : Nat} : Rc E u v ↔ Rc E' u v := ⟨fun ⟨d, hd⟩ => ⟨d, Rn_mo (fun u v => (h u v).mp) hd⟩, fun ⟨d, hd⟩ => ⟨d, Rn_mo (fun u v => (h u v).mpr) hd⟩⟩
/-- a way that leaves a group leaves it somewhere -/
theorem gr_out {E : Nat → Nat → Prop} {gp : Nat → Nat} {g v u : Nat} (hv : gp v = g) (hu : gp u ≠ g) (h : Rc E v u) : ∃ x t, gp x = g ∧ E x t ∧ gp t ≠ g ∧ Rc E t u := by
  obtain ⟨d, h⟩ := h
  induction d generalizing u with
  | zero =>
    have h : u = v := h
    rw [h] at hu
    exact absurd hv hu
  | succ d ih =>
    obtain ⟨y, h1, h2⟩ := h
    by_cases q : gp y = g
    · exact ⟨y, u, q, h2, hu, Rc_rf⟩
    · obtain ⟨x, t, a1, a2, a3, a4⟩ := ih q h1
      exact ⟨x, t, a1, a2, a3, Rc_st a4 h2⟩
theorem gr_hit {M : Nat} {op : Nat → Prop} {dg : Nat → Nat} {ed : Nat → Nat → Nat} {gp : Nat → Nat} {G g v : Nat} {mk mk' : Nat → Bool} (hJ : JGr op dg ed M gp G) (hv : gp v = g + 1) (h1 : ∀ x, gp x ≠ 0 → gp x ≤ g → (mk' x = true ↔ ∃ u, Rc (TEd op dg ed) x u ∧ mk u = true)) (h2 : ∀ x, gp x = g + 1 → mk' x = mk x) : (∃ x, gp x = g + 1 ∧ (mk' x = true ∨ ∃ t, TEd op dg ed x t ∧ mk' t = true)) ↔ ∃ u, Rc (TEd op dg ed) v u ∧ mk u = true := by
  have gs : ∀ x t, gp x = g + 1 → TEd op dg ed x t → gp t ≠ 0 ∧ gp t ≤ g + 1 := by
    rintro x t hx ⟨_, e, he, ht⟩
    have := hJ.2.2.1 x (by omega) e he t ht
    exact ⟨this.1, by omega⟩
  constructor
  · rintro ⟨x, hx, h⟩
    have r := hJ.2.2.2 v x (by omega) (by omega)
    rcases h with h | ⟨t, h3, h4⟩
    · exact ⟨x, r, by rw [← h2 x hx]; exact h⟩
    · obtain ⟨t1, t2⟩ := gs x t hx h3
      by_cases q : gp t = g + 1
      · exact ⟨t, Rc_st r h3, by rw [← h2 t q]; exact h4⟩
      · obtain ⟨u, u1, u2⟩ := (h1 t t1 (by omega)).mp h4
        exact ⟨u, Rc_tr (Rc_st r h3) u1, u2⟩
  · rintro ⟨u, u1, u2⟩
    by_cases q : gp u = g + 1
    · exact ⟨u, q, Or.inl (by rw [h2 u q]; exact u2)⟩
    · obtain ⟨x, t, a1, a2, a3, a4⟩ := gr_out hv q u1
      obtain ⟨t1, t2⟩ := gs x t a1 a2
      exact ⟨x, a1, Or.inr ⟨t, a2, (h1 t t1 (by omega)).mpr ⟨u, a4, u2⟩⟩⟩
theorem nar_or : ∀ a b : Bool, vp_nar .boolean (b2i a ||| b2i b) = b2i (a || b) := by decide
theorem b2i_0 {b : Bool} : b2i b = 0 ↔ b = false := by cases b <;> decide
theorem leadsMX {P : Nat → Nat} {N v w av : Nat} {W D pr sp : Nat → Nat} {sk : Int32} {mk : Nat → Bool} {m : zM} (hP : tV P) (hN : N ≤ 600) (hL : Lst (Ed P 16) (wx0 P) N W D) (hw : wvl w sk) (hC : CxG P N W D pr sp 1 sk (nI av - 1) m) (hav : av ≤ 6) (hv : v < 4 * N) (ho : opF P W av v = true) (hm : ∀ v, v < 4 * N → m.1 124 v = b2i (mk v)) : ok (f_Joined_leadsToMarked (nI v) 124 m) (fun r => r = true ↔ ∃ t, TEd (fun v => opF P W av v = true) (dgx P W) (xdF P w N W av) v t ∧ mk t = true) := by
  have ha := nod_a (opF_n ho).1
  have e4 : nI v / 4 = nI (v / 4) := pk_div (d := 4) (by omega) (by decide) (by decide)
  have c36 := hC.1.2.2.1
  have fe : frm P W (v / 4 + 1) = frm P W (v / 4) + dgx P W v := rfl
  have fr := frm_le P W (v / 4 + 1)
  unfold f_Joined_leadsToMarked
  rw [e4]
  refine ok_ix rfl (show v / 4 < 601 by omega) (by decide) ?_
  rw [c36 (v / 4) (by omega)]
  unfold f_Joined_leadsToMarked_L15
  refine ok_for (dgx P W v) (fun e (s : Int32) => s = nI (frm P W (v / 4) + e) ∧ ∀ e', e' < e → ∀ t, xdF P w N W av v e' = t + 1 → mk t = false) (k0 := 0) ⟨rfl, fun e' he => absurd he (Nat.not_lt_zero _)⟩ (Nat.zero_le _) ?_ (by omega)
  rintro e x - he ⟨rfl, g⟩
  unfold f_Joined_leadsToMarked_B15 f_Joined_leadsToMarked_J55
  rw [nI_1]
  refine ok_ix rfl (show v / 4 + 1 < 601 by omega) (by decide) ?_
  refine ok_le (frm P W (v / 4 + 1)) (frm P W (v / 4) + e) (fun q => ok_mk ⟨fun z => (by cases z), fun ⟨t, ⟨_, e', h1, h2⟩, h3⟩ => ?_⟩) (fun q => ?_) (hx := c36 _ (by omega))
  · rw [g e' (by omega) t h2] at h3; cases h3
  · have qe : e < dgx P W v := by omega
    refine ok_eb (nextF hP hN hL hw hC hav hv ha qe) ?_
    have nxt : (∀ t, xdF P w N W av v e = t + 1 → mk t = false) → ok (some (Sum.inr (nI (frm P W (v / 4) + e) + 1))) (lp (fun r : Bool => r = true ↔ ∃ t, TEd (fun v => opF P W av v = true) (dgx P W) (xdF P w N W av) v t ∧ mk t = true) (fun s' : Int32 => e < dgx P W v ∧ s' = nI (frm P W (v / 4) + (e + 1)) ∧ ∀ e', e' < e + 1 → ∀ t, xdF P w N W av v e' = t + 1 → mk t = false)) := by
      intro hz
      refine ok_mk ⟨qe, nI_1 _, fun e' he' t ht => ?_⟩
      by_cases u : e' = e
      · rw [u] at ht; exact hz t ht
      · exact g e' (by omega) t ht
    have bnd : ∀ t, nda P w N W av v (cea P (W (v / 4)) e) = t + 1 → t < 4 * N := fun t ht => (nda_sp hP hL hv ha (cea_sp qe).1 ht).1
    have xb : nda P w N W av v (cea P (W (v / 4)) e) < 2 ^ 31 := by
      rcases Nat.eq_zero_or_pos (nda P w N W av v (cea P (W (v / 4)) e)) with z | z
      · omega
      · have := bnd (nda P w N W av v (cea P (W (v / 4)) e) - 1) (by omega)
        omega
    refine ok_mm (nda P w N W av v (cea P (W (v / 4)) e)) (fun z => nxt (fun t ht => ?_)) (fun z => ?_)
    · unfold xdF at ht; omega
    · obtain ⟨t, et⟩ : ∃ t, nda P w N W av v (cea P (W (v / 4)) e) = t + 1 := ⟨nda P w N W av v (cea P (W (v / 4)) e) - 1, by omega⟩
      have tb := bnd t et
      rw [et, nI_pred]
      refine ok_ix rfl (show t < zlen gX 124 from (show t < 2400 by omega)) (by decide) ?_
      rw [hm t tb]
      refine ok_it (fun y => nxt (fun t' ht' => ?_)) (fun y => ok_mk ⟨fun _ => ⟨t, ⟨ho, e, qe, et⟩, ?_⟩, fun _ => rfl⟩)
      · unfold xdF at ht'
        rw [← show t = t' by omega]
        exact b2i_0.mp y
      · cases eb : mk t with
        | true => rfl
        | false => exact absurd (b2i_0.mpr eb) y
theorem spreadX {P : Nat → Nat} {N w av G : Nat} {W D pr sp gp sta mem : Nat → Nat} {sk : Int32} {mk : Nat → Bool} {m : zM} (hP : tV P) (hN : N ≤ 600) (hL : Lst (Ed P 16) (wx0 P) N W D) (hw : wvl w sk) (hC : CxG P N W D pr sp 1 sk (nI av - 1) m) (hav : av ≤ 6) (hJ : JXm P N W (opF P W av) (xdF P w N W av) gp sta mem G m) (hm : ∀ v, v < 4 * N → m.1 124 v = b2i (mk v)) : ok (f_Joined_spread 124 m) (fun p => fl2 [124] [] m p ∧ ∃ mk' : Nat → Bool, (∀ v, v < 4 * N → p.1 124 v = b2i (mk' v)) ∧ (∀ v, gp v = 0 → mk' v = mk v) ∧ ∀ v, v < 4 * N → opF P W av v = true → (mk' v = true ↔ ∃ u, Rc (EFo P w N W av) v u ∧ mk u = true)) := by
  obtain ⟨j1, j2, j3, j4, j5, j6, j7, j8, j9⟩ := hJ
  obtain ⟨s0, s1, s2, s3, s4⟩ := id j4
  have smo : ∀ d g, g + d ≤ G → sta g ≤ sta (g + d) := by
    intro d
    induction d with
    | zero => intro g _; exact Nat.le_refl _
    | succ d ih => intro g hg; exact Nat.le_trans (ih g (by omega)) (s1 (g + d) (by omega))
  unfold f_Joined_spread f_Joined_spread_L2
  refine ok_for G (fun g (s : Int32 × zM) => s.1 = nI g ∧ fl2 [124] [] m s.2 ∧ ∃ mk' : Nat → Bool, (∀ v, v < 4 * N → s.2.1 124 v = b2i (mk' v)) ∧ (∀ v, gp v ≠ 0 → gp v ≤ g → (mk' v = true ↔ ∃ u, Rc (TEd (fun v => opF P W av v = true) (dgx P W) (xdF P w N W av)) v u ∧ mk u = true)) ∧ ∀ v, (g < gp v ∨ gp v = 0) → mk' v = mk v) (k0 := 0) ⟨rfl, fl2_rf, mk, hm, fun v h1 h2 => absurd (Nat.le_zero.mp h2) h1, fun v _ => rfl⟩ (Nat.zero_le _) ?_
  rintro g ⟨x, m1⟩ - hg ⟨e, f1, mk1, a1, a2, a3⟩
  have e : x = nI g := e
  subst e
  have f1 : fl2 [124] [] m m1 := f1
  have a1 : ∀ v, v < 4 * N → m1.1 124 v = b2i (mk1 v) := a1
  have r131 : ∀ k, k ≤ G → m1.1 131 k = nI (sta k) := fun k hk => by rw [fl2_i f1 (by simp [inS])]; exact j8 k hk
  have r132 : ∀ i, i < sta G → m1.1 132 i = nI (mem i) := fun i hi => by rw [fl2_i f1 (by simp [inS])]; exact j9 i hi
  unfold f_Joined_spread_B2
  refine ok_le G g (fun q => ok_mk ⟨f1, mk1, a1, fun v hv => a3 v (Or.inr hv), fun v hv ho => ?_⟩) (fun q => ?_) (hx := show m1.1 129 4 = nI G by rw [fl2_i f1 (by decide)]; exact j6)
  · have g0 := j1.2.1 v hv ho
    rw [a2 v g0 (by have := (j1.1 v g0).2.2; omega)]
    exact ⟨fun ⟨u, h1, h2⟩ => ⟨u, (Rc_eq (fun _ _ => TEd_F)).mp h1, h2⟩, fun ⟨u, h1, h2⟩ => ⟨u, (Rc_eq (fun _ _ => TEd_F)).mpr h1, h2⟩⟩
  · have sg := s1 g q
    have sG := smo (G - (g + 1)) (g + 1) (by omega)
    rw [show g + 1 + (G - (g + 1)) = G by omega] at sG
    have mlt : ∀ i, i < sta (g + 1) → mem i < 4 * N ∧ opF P W av (mem i) = true := fun i hi => by
      have := j1.1 _ (mbs_nz j4 (show i < sta G by omega))
      exact ⟨this.1, this.2.1⟩
    have mgp : ∀ i, sta g ≤ i → i < sta (g + 1) → gp (mem i) = g + 1 := fun i h1 h2 => s2 g q i h1 h2
    have C1 := CxG_fl hC f1 (by decide) (by decide)
    refine ok_ix rfl (show g < 2401 by omega) (by decide) ?_
    rw [r131 g (by omega)]
    -- what the group reaches
    have hit : ∀ rb : Bool, (rb = true ↔ ∃ j, sta g ≤ j ∧ j < sta (g + 1) ∧ (mk1 (mem j) = true ∨ ∃ t, TEd (fun v => opF P W av v = true) (dgx P W) (xdF P w N W av) (mem j) t ∧ mk1 t = true)) → ∀ v, gp v = g + 1 → (rb = true ↔ ∃ u, Rc (TEd (fun v => opF P W av v = true) (dgx P W) (xdF P w N W av)) v u ∧ mk u = true) := by
      intro rb hrb v hv
      rw [hrb, ← gr_hit j1 hv a2 (fun x hx => a3 x (by omega))]
      constructor
      · rintro ⟨j, h1, h2, h3⟩
        exact ⟨mem j, mgp j h1 h2, h3⟩
      · rintro ⟨x, h1, h2⟩
        obtain ⟨i, i1, i2, i3⟩ := s3 x (by omega)
        rw [h1, Nat.add_sub_cancel] at i1
        rw [h1] at i2
        exact ⟨i, i1, i2, by rw [i3]; exact h2⟩
    have fin : ∀ rb : Bool, (rb = true ↔ ∃ j, sta g ≤ j ∧ j < sta (g + 1) ∧ (mk1 (mem j) = true ∨ ∃ t, TEd (fun v => opF P W av v = true) (dgx P W) (xdF P w N W av) (mem j) t ∧ mk1 t = true)) → ok (f_Joined_spread_J76 124 (nI g) rb m1) (lp (fun p => fl2 [124] [] m p ∧ ∃ mk' : Nat → Bool, (∀ v, v < 4 * N → p.1 124 v = b2i (mk' v)) ∧ (∀ v, gp v = 0 → mk' v = mk v) ∧ ∀ v, v < 4 * N → opF P W av v = true → (mk' v = true ↔ ∃ u, Rc (EFo P w N W av) v u ∧ mk u = true)) (fun s' : Int32 × zM => g < G ∧ s'.1 = nI (g + 1) ∧ fl2 [124] [] m s'.2 ∧ ∃ mk' : Nat → Bool, (∀ v, v < 4 * N → s'.2.1 124 v = b2i (mk' v)) ∧ (∀ v, gp v ≠ 0 → gp v ≤ g + 1 → (mk' v = true ↔ ∃ u, Rc (TEd (fun v => opF P W av v = true) (dgx P W) (xdF P w N W av)) v u ∧ mk u = true)) ∧ ∀ v, (g + 1 < gp v ∨ gp v = 0) → mk' v = mk v)) := by
      intro rb hrb
      have hh := hit rb hrb
      unfold f_Joined_spread_J76
      refine ok_ix rfl (show g < 2401 by omega) (by decide) ?_
      rw [r131 g (by omega)]
      unfold f_Joined_spread_L84
      refine ok_for (sta (g + 1)) (fun i (s : Int32 × zM) => s.1 = nI i ∧ fl2 [124] [] m1 s.2 ∧ ∃ mk2 : Nat → Bool, (∀ v, v < 4 * N → s.2.1 124 v = b2i (mk2 v)) ∧ (∀ j, sta g ≤ j → j < i → mk2 (mem j) = (mk1 (mem j) || rb)) ∧ ∀ v, (∀ j, sta g ≤ j → j < i → mem j ≠ v) → mk2 v = mk1 v) (k0 := sta g) ⟨rfl, fl2_rf, mk1, a1, fun j h1 h2 => by omega, fun _ _ => rfl⟩ sg ?_ (by omega)
      rintro i ⟨x, m2⟩ hi0 hi ⟨e, f2, mk2, c1, c2, c3⟩
      have e : x = nI i := e
      subst e
      have f2 : fl2 [124] [] m1 m2 := f2
      have c1 : ∀ v, v < 4 * N → m2.1 124 v = b2i (mk2 v) := c1
      unfold f_Joined_spread_B84
      rw [nI_1]
      refine ok_ix rfl (show g + 1 < 2401 by omega) (by decide) ?_
      refine ok_le (sta (g + 1)) i (fun q1 => ok_zl ?_) (fun q1 => ?_) (hx := show m2.1 131 (g + 1) = nI (sta (g + 1)) by rw [fl2_i f2 (by simp [inS])]; exact r131 (g + 1) (by omega))
      · unfold f_Joined_spread_J116
        refine ok_mk ⟨q, nI_1 g, fl2_tr f1 f2, mk2, c1, fun v hv1 hv2 => ?_, fun v hv => ?_⟩
        · by_cases u : gp v = g + 1
          · obtain ⟨j, i1, i2, i3⟩ := s3 v hv1
            rw [u, Nat.add_sub_cancel] at i1
            rw [u] at i2
            have := c2 j i1 (by omega)
            rw [i3] at this
            rw [this, ← hh v u]
            constructor
            · intro z
              rw [Bool.or_eq_true] at z
              rcases z with z | z
              · exact hrb.mpr ⟨j, i1, i2, Or.inl (by rw [i3]; exact z)⟩
              · exact z
            · intro z
              rw [z, Bool.or_true]
          · rw [c3 v (fun j h1 h2 z => u (by rw [← z]; exact mgp j h1 (by omega)))]
            exact a2 v hv1 (by omega)
        · rw [c3 v (fun j h1 h2 z => by have := mgp j h1 (by omega); rw [z] at this; omega)]
          exact a3 v (by omega)
      · obtain ⟨mi, mo⟩ := mlt i q1
        refine ok_ix rfl (show i < 2400 by omega) (by decide) ?_
        rw [show m2.1 132 i = nI (mem i) by rw [fl2_i f2 (by simp [inS])]; exact r132 i (by omega)]
        refine ok_ix rfl (show mem i < zlen gX 124 from (show mem i < 2400 by omega)) (by decide) (ok_ix rfl (show mem i < zlen gX 124 from (show mem i < 2400 by omega)) (by decide) (ok_lt ?_))
        rw [c1 _ mi, nar_or]
        refine ok_mk ⟨q1, nI_1 i, fl2_tr f2 (fl2_I (inS_c (by simp))), fun v => if v = mem i then (mk1 (mem i) || rb) else mk2 v, fun v hv => ?_, fun j h1 h2 => ?_, fun v hv => ?_⟩
        · show (sI m2 124 (mem i) (b2i (mk2 (mem i) || rb))).1 124 v = _
          have : mk2 (mem i) = mk1 (mem i) := c3 _ (fun j h1 h2 z => by have := s4 j i (by omega) (by omega) z; omega)
          show _ = b2i (if v = mem i then (mk1 (mem i) || rb) else mk2 v)
          by_cases u : v = mem i
          · rw [u, rd_I1, this, if_pos rfl]
          · rw [rd_I0 (by omega), c1 v hv, if_neg u]
        · show (if mem j = mem i then _ else _) = _
          by_cases u : j = i
          · rw [u, if_pos rfl]
          · rw [if_neg (fun z => u (s4 j i (by omega) (by omega) z))]; exact c2 j h1 (by omega)
        · show (if v = mem i then _ else _) = _
          rw [if_neg (fun z => hv i hi0 (by omega) z.symm)]
          exact c3 v (fun j h1 h2 => hv j h1 (by omega))
    unfold f_Joined_spread_L20
    refine ok_for (sta (g + 1)) (fun i (s : Bool × Int32) => s.2 = nI i ∧ (s.1 = true ↔ ∃ j, sta g ≤ j ∧ j < i ∧ (mk1 (mem j) = true ∨ ∃ t, TEd (fun v => opF P W av v = true) (dgx P W) (xdF P w N W av) (mem j) t ∧ mk1 t = true))) (k0 := sta g) ⟨rfl, fun z => (by cases z), fun ⟨j, h1, h2, _⟩ => by omega⟩ sg ?_ (by omega)
    rintro i ⟨rb, x⟩ hi0 hi ⟨e, hrb⟩
    have e : x = nI i := e
    subst e
    have hrb : rb = true ↔ ∃ j, sta g ≤ j ∧ j < i ∧ (mk1 (mem j) = true ∨ ∃ t, TEd (fun v => opF P W av v = true) (dgx P W) (xdF P w N W av) (mem j) t ∧ mk1 t = true) := hrb
    unfold f_Joined_spread_B20 f_Joined_spread_J64 f_Joined_spread_J69
    rw [nI_1]
    refine ok_ix rfl (show g + 1 < 2401 by omega) (by decide) ?_
    refine ok_le (sta (g + 1)) i (fun q1 => ok_zl ?_) (fun q1 => ?_) (hx := r131 (g + 1) (by omega))
    · refine ok_mo (fin rb ?_) (fun _ z => z)
      rw [hrb]
      exact ⟨fun ⟨j, h1, h2, h3⟩ => ⟨j, h1, by omega, h3⟩, fun ⟨j, h1, h2, h3⟩ => ⟨j, h1, by omega, h3⟩⟩
    · obtain ⟨mi, mo⟩ := mlt i q1
      refine ok_tf (fun z => ok_zl (ok_mo (fin rb ?_) (fun _ z => z))) (fun z => ?_)
      · have z : rb = true := z
        obtain ⟨j, h1, h2, h3⟩ := hrb.mp z
        exact ⟨fun _ => ⟨j, h1, by omega, h3⟩, fun _ => z⟩
      · have z : rb = false := z
        have no : ∀ j, sta g ≤ j → j < i → ¬ (mk1 (mem j) = true ∨ ∃ t, TEd (fun v => opF P W av v = true) (dgx P W) (xdF P w N W av) (mem j) t ∧ mk1 t = true) := fun j h1 h2 h3 => by
          have := hrb.mpr ⟨j, h1, h2, h3⟩
          rw [z] at this; cases this
        have nx : ∀ b : Bool, (b = true ↔ (mk1 (mem i) = true ∨ ∃ t, TEd (fun v => opF P W av v = true) (dgx P W) (xdF P w N W av) (mem i) t ∧ mk1 t = true)) → (b = true ↔ ∃ j, sta g ≤ j ∧ j < i + 1 ∧ (mk1 (mem j) = true ∨ ∃ t, TEd (fun v => opF P W av v = true) (dgx P W) (xdF P w N W av) (mem j) t ∧ mk1 t = true)) := by
          intro b hb
          rw [hb]
          constructor
          · intro y; exact ⟨i, hi0, by omega, y⟩
          · rintro ⟨j, h1, h2, h3⟩
            by_cases u : j = i
            · rw [u] at h3; exact h3
            · exact absurd h3 (no j h1 (by omega))
        refine ok_ix rfl (show i < 2400 by omega) (by decide) ?_
        rw [r132 i (by omega)]
        refine ok_ix rfl (show mem i < zlen gX 124 from (show mem i < 2400 by omega)) (by decide) ?_
        rw [a1 _ mi]
        refine ok_it (fun y => ?_) (fun y => ?_)
        · have y := b2i_0.mp y
          refine ok_ix rfl (show i < 2400 by omega) (by decide) ?_
          rw [r132 i (by omega)]
          refine ok_bi (leadsMX hP hN hL hw C1 hav mi mo a1) (fun r hr => ?_)
          refine ok_tf (fun t => ok_mk ⟨q1, nI_1 i, nx true ⟨fun _ => Or.inr (hr.mp t), fun _ => rfl⟩⟩) (fun t => ok_mk ⟨q1, nI_1 i, nx false ⟨fun s => (by cases s), fun s => ?_⟩⟩)
          rcases s with s | s
          · rw [y] at s; cases s
          · have := hr.mpr s
            rw [t] at this; cases this
        · refine ok_mk ⟨q1, nI_1 i, nx true ⟨fun _ => Or.inl ?_, fun _ => rfl⟩⟩
          cases eb : mk1 (mem i) with
          | true => rfl
          | false => exact absurd (b2i_0.mpr eb) y
