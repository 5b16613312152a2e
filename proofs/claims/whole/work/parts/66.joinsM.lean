/-- each number from 1 to n is one of f's -/
def inh (f : Nat → Nat) (n : Nat) : Prop := ∀ t, 0 < t → t ≤ n → ∃ v, f v = t
theorem inh_le {f : Nat → Nat} {n M : Nat} (h : inh f n) (hM : ∀ v, f v ≠ 0 → v < M) : n ≤ M := by
  have ex : ∀ t, ∃ v, t < n → f v = t + 1 := by
    intro t
    by_cases q : t < n
    · obtain ⟨v, e⟩ := h (t + 1) (by omega) (by omega)
      exact ⟨v, fun _ => e⟩
    · exact ⟨0, fun z => absurd z q⟩
  have g := fun t => Classical.choose_spec (ex t)
  refine pigeon (fun t => Classical.choose (ex t)) (fun t ht => hM _ (by have := g t ht; omega)) (fun t t' h1 h2 e => ?_)
  have a := g t h1
  have b := g t' h2
  have e : Classical.choose (ex t) = Classical.choose (ex t') := e
  rw [e, b] at a
  omega
theorem TJ_bd {M : Nat} {op : Nat → Prop} {dg : Nat → Nat} {ed : Nat → Nat → Nat} {od lw gp nx wt pt : Nat → Nat} {wn pn G T : Nat} (h : TJ M op dg ed od lw gp nx wt pt wn pn G T) : wn ≤ M ∧ pn ≤ M := by
  obtain ⟨hA, hB, hC, hD, hL, hF, hN, hK⟩ := h
  constructor
  · refine pigeon wt (fun i hi => (hA.1 _ (hB.1 i hi).1).1) (fun i j hi hj e => ?_)
    rcases Nat.lt_trichotomy i j with q | q | q
    · have := hB.2.1 i j q hj; rw [e] at this; omega
    · exact q
    · have := hB.2.1 j i q hi; rw [e] at this; omega
  · refine pigeon pt (fun i hi => (hA.1 _ (hC.1 i hi).1).1) (fun i j hi hj e => ?_)
    rcases Nat.lt_trichotomy i j with q | q | q
    · have := (hC.2 i j q hj).1; rw [e] at this; omega
    · exact q
    · have := (hC.2 j i q hi).1; rw [e] at this; omega
theorem TJ_G {M : Nat} {op : Nat → Prop} {dg : Nat → Nat} {ed : Nat → Nat → Nat} {od lw gp nx wt pt : Nat → Nat} {wn pn G T : Nat} (h : TJ M op dg ed od lw gp nx wt pt wn pn G T) (hi : inh gp G) (ht : inh od T) : G ≤ M ∧ T ≤ M := ⟨inh_le hi (fun v hv => (h.1.1 v (h.2.2.2.2.2.2.2 v hv).1).1), inh_le ht (fun v hv => (h.1.1 v hv).1)⟩
theorem inh_up {f : Nat → Nat} {n u : Nat} (h : inh f n) (hu : f u = 0) : inh (upn f u (n + 1)) (n + 1) := by
  intro t h1 h2
  by_cases e : t = n + 1
  · exact ⟨u, by rw [upn_s, e]⟩
  · obtain ⟨v, hv⟩ := h t h1 (by omega)
    exact ⟨v, by rw [upn_n (fun z => by rw [z, hu] at hv; omega)]; exact hv⟩
/-- the groups when v's is closed -/
def gcl (od gp : Nat → Nat) (v G y : Nat) : Nat := if od y ≠ 0 ∧ gp y = 0 ∧ od v ≤ od y then G + 1 else gp y
theorem gcl_i {od gp : Nat → Nat} {v G : Nat} (h : inh gp G) (h1 : od v ≠ 0) (h2 : gp v = 0) : inh (gcl od gp v G) (G + 1) := by
  intro t h3 h4
  by_cases e : t = G + 1
  · exact ⟨v, by unfold gcl; rw [if_pos ⟨h1, h2, Nat.le_refl _⟩, e]⟩
  · obtain ⟨y, hy⟩ := h t h3 (by omega)
    exact ⟨y, by unfold gcl; rw [if_neg (fun z => by omega)]; exact hy⟩
def edO (opb : Nat → Bool) (rw' : Nat → Nat → Nat) (v e : Nat) : Nat := if rw' v e ≠ 0 ∧ opb (rw' v e - 1) = true then rw' v e else 0
def stb (od gp : Nat → Nat) (v : Nat) : Bool := decide (od v ≠ 0 ∧ gp v = 0)
def TMm (Mn : Nat) (od lw gp nx wt pt : Nat → Nat) (wn pn G T : Nat) (m : zM) : Prop := (∀ v, v < Mn → m.1 38 v = nI (od v) ∧ m.1 37 v = nI (gp v) - 1 ∧ m.1 43 v = b2i (stb od gp v) ∧ (od v ≠ 0 → m.1 39 v = nI (lw v) ∧ m.1 41 v = nI (nx v))) ∧ (∀ i, i < wn → m.1 42 i = nI (wt i)) ∧ (∀ j, j < pn → m.1 40 j = nI (pt j)) ∧ m.1 0 60 = nI pn ∧ m.1 0 61 = nI wn ∧ m.1 0 62 = nI T ∧ m.1 0 63 = nI G
def JFr (m0 m : zM) : Prop := fl2 [37, 38, 39, 40, 41, 42, 43] [(0, 60), (0, 61), (0, 62), (0, 63)] m0 m
theorem enters0M {Mn u wn pn G T : Nat} {od lw gp nx wt pt : Nat → Nat} {m : zM} (hM : Mn ≤ 2400) (h : TMm Mn od lw gp nx wt pt wn pn G T m) (hu : u < Mn) (ho : od u = 0) (hg : gp u = 0) (hwt : ∀ i, i < wn → od (wt i) ≠ 0) (hw : wn < 2432) (hp : pn < 2432) : ok (f_MO_enters0 (nI u) m) (fun p => JFr m p ∧ TMm Mn (upn od u (T + 1)) (upn lw u (T + 1)) gp (upn nx u 0) (upn wt wn u) (upn pt pn u) (wn + 1) (pn + 1) G (T + 1) p) := by
  obtain ⟨h1, h2, h3, h4, h5, h6, h7⟩ := h
  have u2 : u < 2432 := by omega
  unfold f_MO_enters0
  refine ok_lt (ok_ix rfl u2 (by decide) (ok_lt (ok_ix rfl u2 (by decide) (ok_lt (ok_ix rfl u2 (by decide) (ok_lt ?_))))))
  refine ok_ix (i := pn) (by rw [rd_I0 (by omega), rd_I0 (by omega), rd_I0 (by omega), rd_I0 (by omega)]; exact h4) hp (by decide) (ok_lt (ok_lt ?_))
  refine ok_ix (i := wn) (by rw [rd_I0 (by omega), rd_I0 (by omega), rd_I0 (by omega), rd_I0 (by omega), rd_I0 (by omega), rd_I0 (by omega)]; exact h5) hw (by decide) (ok_lt (ok_lt (ok_ix rfl u2 (by decide) (ok_lt (ok_mk ⟨?_, ?_⟩)))))
  · exact fl2_tr (fl2_I (inS_f (by simp))) (fl2_tr (fl2_I (inS_c (by simp))) (fl2_tr (fl2_I (inS_c (by simp))) (fl2_tr (fl2_I (inS_c (by simp))) (fl2_tr (fl2_I (inS_c (by simp))) (fl2_tr (fl2_I (inS_f (by simp))) (fl2_tr (fl2_I (inS_c (by simp))) (fl2_tr (fl2_I (inS_f (by simp))) (fl2_I (inS_c (by simp))))))))))
  · refine ⟨fun v hv => ?_, fun i hi => ?_, fun j hj => ?_, ?_, ?_, ?_, ?_⟩
    · obtain ⟨a1, a2, a3, a4⟩ := h1 v hv
      by_cases e : v = u
      · subst e
        refine ⟨?_, ?_, ?_, fun _ => ⟨?_, ?_⟩⟩
        · simp [rd_I, upn, h6, nI_1]
        · simp [rd_I]; exact a2
        · simp [rd_I, stb, upn, hg]
        · simp [rd_I, upn, h6, nI_1]
        · simp [rd_I, upn, nI_0]
      · refine ⟨?_, ?_, ?_, fun z => ?_⟩
        · simp [rd_I, upn, e]; exact a1
        · simp [rd_I]; exact a2
        · simp [rd_I, stb, upn, e]; simp [stb] at a3; exact a3
        · rw [upn_n e] at z
          simp [rd_I, upn, e]; exact a4 z
    · by_cases e : i = wn
      · subst e
        simp [rd_I, upn]
      · simp [rd_I, upn, e]; exact h2 i (by omega)
    · by_cases e : j = pn
      · subst e
        simp [rd_I, upn]
      · simp [rd_I, upn, e]; exact h3 j (by omega)
    · simp [rd_I, h4, nI_1]
    · simp [rd_I, h5, nI_1]
    · simp [rd_I, h6, nI_1]
    · simp [rd_I]; exact h7
/-- the heap is emptied down to k -/
theorem leavesM {Mn wn pn G T k : Nat} {od lw gp nx wt pt : Nat → Nat} {m : zM} (hM : Mn ≤ 2400) (h : TMm Mn od lw gp nx wt pt wn pn G T m) (hw : ∀ i, i < wn → wt i < Mn) (hi : ∀ i j, i < wn → j < wn → wt i = wt j → i = j) (hk : k < wn) (hwn : wn ≤ 2400) : ok (f_MO_leaves (nI (wt k)) m) (fun p => JFr m p ∧ (∀ t, k ≤ t → t < wn → p.1 37 (wt t) = nI G ∧ p.1 43 (wt t) = 0) ∧ (∀ y, (∀ t, k ≤ t → t < wn → wt t ≠ y) → p.1 37 y = m.1 37 y ∧ p.1 43 y = m.1 43 y) ∧ p.1 38 = m.1 38 ∧ p.1 39 = m.1 39 ∧ p.1 40 = m.1 40 ∧ p.1 41 = m.1 41 ∧ p.1 42 = m.1 42 ∧ p.1 0 60 = m.1 0 60 ∧ p.1 0 61 = nI k ∧ p.1 0 62 = m.1 0 62 ∧ p.1 0 63 = nI (G + 1)) := by
  obtain ⟨h1, h2, h3, h4, h5, h6, h7⟩ := h
  unfold f_MO_leaves f_MO_leaves_L2
  refine ok_lop (ι := Nat) (fun i (s : Int32 × zM) => k ≤ i ∧ i ≤ wn ∧ ((i = wn ∧ s.1 = -1) ∨ (i < wn ∧ s.1 = nI (wt i))) ∧ fl2 [37, 43] [(0, 61)] m s.2 ∧ (∀ t, i ≤ t → t < wn → s.2.1 37 (wt t) = nI G ∧ s.2.1 43 (wt t) = 0) ∧ (∀ y, (∀ t, i ≤ t → t < wn → wt t ≠ y) → s.2.1 37 y = m.1 37 y ∧ s.2.1 43 y = m.1 43 y) ∧ s.2.1 0 61 = nI i) (fun i => i) ?_ wn _ ⟨by omega, Nat.le_refl _, Or.inl ⟨rfl, rfl⟩, fl2_rf, fun t a b => by omega, fun y _ => ⟨rfl, rfl⟩, h5⟩ (by omega)
  rintro i ⟨x, m1⟩ ⟨a1, a2, a3, f1, g1, g2, g3⟩
  have f1 : fl2 [37, 43] [(0, 61)] m m1 := f1
  have g1 : ∀ t, i ≤ t → t < wn → m1.1 37 (wt t) = nI G ∧ m1.1 43 (wt t) = 0 := g1
  have g2 : ∀ y, (∀ t, i ≤ t → t < wn → wt t ≠ y) → m1.1 37 y = m.1 37 y ∧ m1.1 43 y = m.1 43 y := g2
  have g3 : m1.1 0 61 = nI i := g3
  have wk := hw k hk
  unfold f_MO_leaves_B2
  by_cases e : i = k
  · have e2 : x = nI (wt k) := by
      rcases a3 with ⟨b1, b2⟩ | ⟨b1, b2⟩
      · omega
      · rw [← e]; exact b2
    refine ok_ip (by show x = nI (wt k); exact e2) (ok_zl ?_)
    unfold f_MO_leaves_J47
    have e63 : m1.1 0 63 = nI G := by rw [fl2_i f1 (by decide)]; exact h7
    have cc : ∀ c, c ≠ 0 → c ≠ 37 → c ≠ 43 → (sI m1 0 63 (m1.1 0 63 + 1)).1 c = m.1 c := fun c c0 c1 c2 => by
      rw [rd_Ic c0]; exact fl2_ic f1 (fun j => by simp [inS, c0, c1, c2])
    refine ok_lt (ok_mk ⟨fl2_tr (fl2_su f1 (by decide)) (fl2_I (inS_f (by simp))), fun t t1 t2 => ?_, fun y hy => ?_, cc 38 (by decide) (by decide) (by decide), cc 39 (by decide) (by decide) (by decide), cc 40 (by decide) (by decide) (by decide), cc 41 (by decide) (by decide) (by decide), cc 42 (by decide) (by decide) (by decide), ?_, ?_, ?_, ?_⟩)
    · rw [rd_I0 (by omega), rd_I0 (by omega)]; exact g1 t (by omega) t2
    · rw [rd_I0 (by omega), rd_I0 (by omega)]; exact g2 y (fun t t1 t2 => hy t (by omega) t2)
    · rw [rd_I0 (by omega)]; exact fl2_i f1 (by decide)
    · rw [rd_I0 (by omega), g3, e]
    · rw [rd_I0 (by omega)]; exact fl2_i f1 (by decide)
    · rw [rd_I1, e63, nI_1]
  · have i0 : 0 < i := by omega
    have wi := hw (i - 1) (by omega)
    refine ok_in (fun z => ?_) ?_
    · have z : x = nI (wt k) := z
      rcases a3 with ⟨_, b2⟩ | ⟨b1, b2⟩
      · have b2 : x = -1 := b2
        rw [b2] at z; exact nI_ne_m1 (by omega) z.symm
      · have b2 : x = nI (wt i) := b2
        rw [b2] at z
        have := hw i b1
        exact e (hi i k b1 hk ((nI_eq (by omega) (by omega)).mp z))
    · show ok (lt (sI m1 0 61 (m1.1 0 61 - 1)) _) _
      have e42 : (sI m1 0 61 (m1.1 0 61 - 1)).1 42 (i - 1) = nI (wt (i - 1)) := by rw [rd_I0 (by omega), fl2_i f1 (by simp [inS])]; exact h2 (i - 1) (by omega)
      refine ok_lt (ok_ix (i := i - 1) (by rw [rd_I1, g3]; exact nI_pr i0) (show i - 1 < 2432 by omega) (by decide) ?_)
      rw [e42]
      refine ok_ix rfl (show wt (i - 1) < 2432 by omega) (by decide) (ok_lt (ok_ix rfl (show wt (i - 1) < 2432 by omega) (by decide) (ok_lt (ok_mk ⟨i - 1, by omega, by omega, by omega, Or.inr ⟨by omega, rfl⟩, ?_, fun t t1 t2 => ?_, fun y hy => ?_, ?_⟩))))
      · exact fl2_tr f1 (fl2_tr (fl2_I (inS_f (by simp))) (fl2_tr (fl2_I (inS_c (by simp))) (fl2_I (inS_c (by simp)))))
      · have e63 : (sI (sI m1 0 61 (m1.1 0 61 - 1)) 43 (wt (i - 1)) (b2i false)).1 0 63 = nI G := by rw [rd_I0 (by omega), rd_I0 (by omega), fl2_i f1 (by decide)]; exact h7
        by_cases q : t = i - 1
        · rw [q]
          refine ⟨?_, ?_⟩
          · show (sI (sI (sI m1 0 61 (m1.1 0 61 - 1)) 43 (wt (i - 1)) (b2i false)) 37 (wt (i - 1)) _).1 37 (wt (i - 1)) = _
            rw [rd_I1]; exact e63
          · show (sI (sI (sI m1 0 61 (m1.1 0 61 - 1)) 43 (wt (i - 1)) (b2i false)) 37 (wt (i - 1)) _).1 43 (wt (i - 1)) = _
            rw [rd_I0 (by omega), rd_I1]; rfl
        · have nw : wt t ≠ wt (i - 1) := fun z => q (hi t (i - 1) t2 (by omega) z)
          show (sI (sI (sI m1 0 61 (m1.1 0 61 - 1)) 43 (wt (i - 1)) (b2i false)) 37 (wt (i - 1)) _).1 37 (wt t) = _ ∧ (sI (sI (sI m1 0 61 (m1.1 0 61 - 1)) 43 (wt (i - 1)) (b2i false)) 37 (wt (i - 1)) _).1 43 (wt t) = _
          rw [rd_I0 (by omega), rd_I0 (by omega), rd_I0 (by omega), rd_I0 (by omega), rd_I0 (by omega), rd_I0 (by omega)]
          exact g1 t (by omega) t2
      · have nw : y ≠ wt (i - 1) := fun z => hy (i - 1) (by omega) (by omega) z.symm
        show (sI (sI (sI m1 0 61 (m1.1 0 61 - 1)) 43 (wt (i - 1)) (b2i false)) 37 (wt (i - 1)) _).1 37 y = _ ∧ (sI (sI (sI m1 0 61 (m1.1 0 61 - 1)) 43 (wt (i - 1)) (b2i false)) 37 (wt (i - 1)) _).1 43 y = _
        rw [rd_I0 (by omega), rd_I0 (by omega), rd_I0 (by omega), rd_I0 (by omega), rd_I0 (by omega), rd_I0 (by omega)]
        exact g2 y (fun t t1 t2 => hy t (by omega) t2)
      · show (sI (sI (sI m1 0 61 (m1.1 0 61 - 1)) 43 (wt (i - 1)) (b2i false)) 37 (wt (i - 1)) _).1 0 61 = _
        rw [rd_I0 (by omega), rd_I0 (by omega), rd_I1, g3]; exact nI_pr i0
/-- the reference's search for groups under way -/
def TSM (Mn : Nat) (opb : Nat → Bool) (rw' : Nat → Nat → Nat) (V : Nat) (m0 m : zM) (pn μ : Nat) : Prop := JFr m0 m ∧ ∃ (od lw gp nx wt pt : Nat → Nat) (wn G T : Nat), TJ Mn (fun v => opb v = true) (fun _ => 64) (edO opb rw') od lw gp nx wt pt wn pn G T ∧ inh gp G ∧ inh od T ∧ TMm Mn od lw gp nx wt pt wn pn G T m ∧ (∀ v, v < V → opb v = true → od v ≠ 0) ∧ tjm (fun _ => 64) od nx pn Mn = μ
theorem downM {Mn V c : Nat} {opb : Nat → Bool} {rw' : Nat → Nat → Nat} {m0 m : zM} {pn μ : Nat} (hM : Mn ≤ 2400) (hc : c = 30 ∨ c = 31) (hz : 64 * Mn ≤ zlen gM c) (hz2 : zlen gM c ≤ 2000000) (hr : ∀ v, v < Mn → ∀ e, e < 64 → m0.1 c (64 * v + e) = nI (rw' v e) - 1 ∧ rw' v e ≤ Mn) (ho : ∀ v, v < Mn → m0.1 34 v = b2i (opb v)) (h : TSM Mn opb rw' V m0 m pn μ) (hμ : μ < 1000000000) : ok (f_MO_goesDown_L10 c m) (fun p => ∃ μ', TSM Mn opb rw' V m0 p 0 μ') := by
  unfold f_MO_goesDown_L10
  refine ok_lop (ι := Nat × Nat) (fun i (s : zM) => TSM Mn opb rw' V m0 s i.1 i.2) (fun i => i.2) ?_ (pn, μ) m h hμ
  rintro ⟨pn, μ⟩ m1 ⟨f1, od, lw, gp, nx, wt, pt, wn, G, T, tj, i1, i2, tm, vis, em⟩
  have f1 : JFr m0 m1 := f1
  have em : tjm (fun _ => 64) od nx pn Mn = μ := em
  have tj : TJ Mn (fun v => opb v = true) (fun _ => 64) (edO opb rw') od lw gp nx wt pt wn pn G T := tj
  have tm : TMm Mn od lw gp nx wt pt wn pn G T m1 := tm
  have tm' := tm
  obtain ⟨h1, h2, h3, h4, h5, h6, h7⟩ := tm
  obtain ⟨b1, b2⟩ := TJ_bd tj
  obtain ⟨b3, b4⟩ := TJ_G tj i1 i2
  have tj' := tj
  obtain ⟨hA, hB, hC, hD, hL, hF, hN, hK⟩ := tj
  unfold f_MO_goesDown_B10
  refine ok_le pn 0 (fun q => ?_) (fun q => ?_) (hx := h4)
  · have : pn = 0 := by omega
    subst this
    exact ok_mk ⟨μ, f1, od, lw, gp, nx, wt, pt, wn, G, T, tj', i1, i2, tm', vis, em⟩
  · have o := hC.1 (pn - 1) (by omega)
    obtain ⟨vM, vo, vT⟩ := hA.1 _ o.1
    obtain ⟨m38, m37, m43, m39⟩ := h1 _ vM
    obtain ⟨m39, m41⟩ := m39 o.1
    have nle : nx (pt (pn - 1)) ≤ 64 := (hN _ o.1).1
    have lle := (hL (pn - 1) (by omega)).1
    have v2 : pt (pn - 1) < 2432 := by omega
    rw [h4, nI_pr q]
    refine ok_ix rfl (show pn - 1 < 2432 by omega) (by decide) ?_
    rw [h3 (pn - 1) (by omega)]
    refine ok_ix rfl v2 (by decide) ?_
    refine ok_le 64 (nx (pt (pn - 1))) (fun q2 => ?_) (fun q2 => ?_) (hy := m41)
    · -- it is left
      have nd : nx (pt (pn - 1)) = 64 := by omega
      refine ok_lt ?_
      have e60 : (sI m1 0 60 (nI (pn - 1))).1 0 60 = nI (pn - 1) := rd_I1 _ _ _ _
      have cI : ∀ c, c ≠ 0 → (sI m1 0 60 (nI (pn - 1))).1 c = m1.1 c := fun c hc => rd_Ic hc
      -- the end, once low is set
      have fin : ∀ (lw1 : Nat → Nat) (m2 : zM), JFr m0 m2 → TMm Mn od lw1 gp nx wt pt wn (pn - 1) G T m2 → lw1 (pt (pn - 1)) = lw (pt (pn - 1)) → (lw (pt (pn - 1)) ≠ od (pt (pn - 1)) → TJ Mn (fun v => opb v = true) (fun _ => 64) (edO opb rw') od lw1 gp nx wt pt wn (pn - 1) G T) → (lw (pt (pn - 1)) = od (pt (pn - 1)) → ∀ j, j < pn - 1 → lw1 (pt j) = lw (pt j)) → ok (f_MO_goesDown_J209 c (nI (pt (pn - 1))) m2) (lp (fun p => ∃ μ', TSM Mn opb rw' V m0 p 0 μ') (fun s' : zM => ∃ i' : Nat × Nat, i'.2 < μ ∧ TSM Mn opb rw' V m0 s' i'.1 i'.2)) := by
        intro lw1 m2 f2 tm2 el tl1 tl2
        have mu : tjm (fun _ => 64) od nx (pn - 1) Mn < μ := by
          have := tjm_pn (dg := fun _ => 64) (od := od) (nx := nx) (pn := pn - 1) (d := 1) (k := Mn)
          rw [show pn - 1 + 1 = pn by omega] at this
          omega
        obtain ⟨g1, g2, g3, g4, g5, g6, g7⟩ := tm2
        have w1 := (g1 _ vM).1
        have w2 := ((g1 _ vM).2.2.2 o.1).1
        rw [el] at w2
        unfold f_MO_goesDown_J209 f_MO_goesDown_J229
        refine ok_ix rfl v2 (by decide) (ok_ix rfl v2 (by decide) ?_)
        refine ok_ee (lw (pt (pn - 1))) (od (pt (pn - 1))) (fun z => ?_) (fun z => ?_) (hx := w2) (hy := w1)
        · obtain ⟨k, hk, ek⟩ := hB.2.2 _ o.1 o.2
          have wl : ∀ i, i < wn → wt i < Mn := fun i hi => (hA.1 _ (hB.1 i hi).1).1
          have wj : ∀ i j, i < wn → j < wn → wt i = wt j → i = j := fun i j hi hj e => by
            rcases Nat.lt_trichotomy i j with q | q | q
            · have := hB.2.1 i j q hj; rw [e] at this; omega
            · exact q
            · have := hB.2.1 j i q hi; rw [e] at this; omega
          rw [← ek]
          refine ok_bi (leavesM hM ⟨g1, g2, g3, g4, g5, g6, g7⟩ wl wj hk (by omega)) (fun p ⟨c1, c2, c3, c38, c39, c40, c41, c42, c60, c61, c62, c63⟩ => ok_mk ⟨(pn - 1, tjm (fun _ => 64) od nx (pn - 1) Mn), mu, fl2_tr f2 c1, od, lw1, gcl od gp (pt (pn - 1)) G, nx, wt, pt, k, G + 1, T, ?_, gcl_i i1 o.1 o.2, i2, ⟨fun y hy => ?_, fun i hi => ?_, fun j hj => ?_, ?_, c61, ?_, c63⟩, vis, rfl⟩)
          · exact TJ_lv2 tj' (by omega) nd z (tl2 z) hk ek (fun y y1 y2 y3 => if_pos ⟨y1, y2, y3⟩) (fun y hy => if_neg hy)
          · rw [c38, c39, c41]
            obtain ⟨d1, d2, d3, d4⟩ := g1 y hy
            refine ⟨d1, ?_, ?_, d4⟩
            · by_cases s : od y ≠ 0 ∧ gp y = 0 ∧ od (pt (pn - 1)) ≤ od y
              · obtain ⟨t, ht, et⟩ := hB.2.2 y s.1 s.2.1
                have kt : k ≤ t := by
                  rcases Nat.lt_or_ge t k with q | q
                  · have := hB.2.1 t k q hk; rw [et, ek] at this; omega
                  · exact q
                unfold gcl
                rw [if_pos s, ← et, (c2 t kt ht).1, nI_pred]
              · unfold gcl
                rw [if_neg s, (c3 y (fun t t1 t2 et => s ?_)).1]
                · exact d2
                · have a := hB.1 t t2
                  rw [et] at a
                  refine ⟨a.1, a.2, ?_⟩
                  rcases Nat.eq_or_lt_of_le t1 with q | q
                  · rw [← et, ← q, ek]; exact Nat.le_refl _
                  · have := hB.2.1 k t q t2; rw [ek, et] at this; omega
            · by_cases s : od y ≠ 0 ∧ gp y = 0 ∧ od (pt (pn - 1)) ≤ od y
              · obtain ⟨t, ht, et⟩ := hB.2.2 y s.1 s.2.1
                have kt : k ≤ t := by
                  rcases Nat.lt_or_ge t k with q | q
                  · have := hB.2.1 t k q hk; rw [et, ek] at this; omega
                  · exact q
                have : stb od (gcl od gp (pt (pn - 1)) G) y = false := by
                  unfold stb gcl
                  rw [if_pos s]
                  exact decide_eq_false (fun z => by omega)
                rw [this, ← et, (c2 t kt ht).2]
                rfl
              · have : stb od (gcl od gp (pt (pn - 1)) G) y = stb od gp y := by
                  unfold stb gcl
                  rw [if_neg s]
                rw [this, (c3 y (fun t t1 t2 et => s ?_)).2]
                · exact d3
                · have a := hB.1 t t2
                  rw [et] at a
                  refine ⟨a.1, a.2, ?_⟩
                  rcases Nat.eq_or_lt_of_le t1 with q | q
                  · rw [← et, ← q, ek]; exact Nat.le_refl _
                  · have := hB.2.1 k t q t2; rw [ek, et] at this; omega
          · rw [c42]; exact g2 i (by omega)
          · rw [c40]; exact g3 j hj
          · rw [c60]; exact g4
          · rw [c62]; exact g6
        · exact ok_mk ⟨(pn - 1, tjm (fun _ => 64) od nx (pn - 1) Mn), mu, f2, od, lw1, gp, nx, wt, pt, wn, G, T, tl1 z, i1, i2, ⟨g1, g2, g3, g4, g5, g6, g7⟩, vis, rfl⟩
      have f5 : JFr m0 (sI m1 0 60 (nI (pn - 1))) := fl2_tr f1 (fl2_I (inS_f (by simp)))
      have t5 : TMm Mn od lw gp nx wt pt wn (pn - 1) G T (sI m1 0 60 (nI (pn - 1))) := by
        refine ⟨?_, ?_, ?_, e60, ?_, ?_, ?_⟩
        · rw [cI 38 (by decide), cI 37 (by decide), cI 43 (by decide), cI 39 (by decide), cI 41 (by decide)]; exact h1
        · rw [cI 42 (by decide)]; exact h2
        · rw [cI 40 (by decide)]; exact fun j hj => h3 j (by omega)
        · rw [rd_I0 (by omega)]; exact h5
        · rw [rd_I0 (by omega)]; exact h6
        · rw [rd_I0 (by omega)]; exact h7
      refine ok_le (pn - 1) 0 (fun q3 => ?_) (fun q3 => ?_) (hx := e60)
      · refine fin lw _ f5 t5 rfl (fun z => ?_) (fun _ _ _ => rfl)
        obtain ⟨j, hj, _⟩ := TJ_dn tj' (by omega) z
        omega
      · have op' := hC.1 (pn - 2) (by omega)
        obtain ⟨pM, _, pT⟩ := hA.1 _ op'.1
        have p2 : pt (pn - 2) < 2432 := by omega
        have lp' := (hL (pn - 2) (by omega)).1
        have opv := (hC.2 (pn - 2) (pn - 1) (by omega) (by omega)).1
        have ne : pt (pn - 2) ≠ pt (pn - 1) := fun z => by rw [z] at opv; omega
        have r39 : ∀ v, v < Mn → od v ≠ 0 → (sI m1 0 60 (nI (pn - 1))).1 39 v = nI (lw v) := fun v hv hv' => ((t5.1 v hv).2.2.2 hv').1
        rw [e60, nI_pr q3, show pn - 1 - 1 = pn - 2 by omega]
        refine ok_ix rfl v2 (by decide) (ok_ix rfl (show pn - 2 < 2432 by omega) (by decide) ?_)
        rw [t5.2.2.1 (pn - 2) (by omega)]
        refine ok_ix rfl p2 (by decide) ?_
        refine ok_le (lw (pt (pn - 2))) (lw (pt (pn - 1))) (fun z => ?_) (fun z => ?_) (hx := r39 _ pM op'.1) (hy := r39 _ vM o.1)
        · refine fin lw _ f5 t5 rfl (fun y => ?_) (fun _ _ _ => rfl)
          have k := TJ_lv1 tj' (by omega) nd y
          rw [Nat.min_eq_left z] at k
          have : upn lw (pt (pn - 2)) (lw (pt (pn - 2))) = lw := by funext v; unfold upn; split <;> rename_i w; rw [w]; rfl
          rwa [this] at k
        · refine ok_ix rfl (show pn - 2 < 2432 by omega) (by decide) (ok_ix rfl v2 (by decide) ?_)
          rw [t5.2.2.1 (pn - 2) (by omega), r39 _ vM o.1]
          refine ok_ix rfl p2 (by decide) (ok_lt (fin (upn lw (pt (pn - 2)) (lw (pt (pn - 1)))) _ (fl2_tr f5 (fl2_I (inS_c (by simp)))) ?_ (upn_n (Ne.symm ne)) (fun y => ?_) (fun y j hj => ?_)))
          · obtain ⟨g1, g2, g3, g4, g5, g6, g7⟩ := t5
            refine ⟨fun v hv => ?_, ?_, ?_, ?_, ?_, ?_, ?_⟩
            · obtain ⟨d1, d2, d3, d4⟩ := g1 v hv
              rw [rd_I0 (by omega), rd_I0 (by omega), rd_I0 (by omega), rd_I0 (k := 41) (by omega)]
              refine ⟨d1, d2, d3, fun w => ⟨?_, (d4 w).2⟩⟩
              by_cases u : v = pt (pn - 2)
              · rw [u, rd_I1, upn_s]
              · rw [rd_I0 (by omega), upn_n u]; exact (d4 w).1
            · intro i hi; rw [rd_I0 (by omega)]; exact g2 i hi
            · intro i hi; rw [rd_I0 (by omega)]; exact g3 i hi
            · rw [rd_I0 (by omega)]; exact g4
            · rw [rd_I0 (by omega)]; exact g5
            · rw [rd_I0 (by omega)]; exact g6
            · rw [rd_I0 (by omega)]; exact g7
          · have k := TJ_lv1 tj' (by omega) nd y
            rwa [Nat.min_eq_right (by omega)] at k
          · omega
    · -- along an edge
      have e64 : (64 : Int32) * nI (pt (pn - 1)) + nI (nx (pt (pn - 1))) = nI (64 * pt (pn - 1) + nx (pt (pn - 1))) := by rw [show (64 : Int32) = nI 64 from rfl, pk_mul, nI_add]
      have cr : m1.1 c = m0.1 c := fl2_ic f1 (fun j => by rcases hc with z | z <;> rw [z] <;> simp [inS])
      obtain ⟨r1, r2⟩ := hr _ vM _ q2
      have ce : m1.1 c (64 * pt (pn - 1) + nx (pt (pn - 1))) = nI (rw' (pt (pn - 1)) (nx (pt (pn - 1)))) - 1 := by rw [cr]; exact r1
      refine ok_ix rfl v2 (by decide) ?_
      rw [m41, e64]
      refine ok_ix rfl (show 64 * pt (pn - 1) + nx (pt (pn - 1)) < zlen gM c by omega) hz2 (ok_ix rfl v2 (by decide) (ok_ix rfl v2 (by decide) (ok_lt ?_)))
      rw [m41, nI_1]
      have f17 : JFr m0 (sI m1 41 (pt (pn - 1)) (nI (nx (pt (pn - 1)) + 1))) := fl2_tr f1 (fl2_I (inS_c (by simp)))
      have t17 : TMm Mn od lw gp (upn nx (pt (pn - 1)) (nx (pt (pn - 1)) + 1)) wt pt wn pn G T (sI m1 41 (pt (pn - 1)) (nI (nx (pt (pn - 1)) + 1))) := by
        refine ⟨fun v hv => ?_, ?_, ?_, ?_, ?_, ?_, ?_⟩
        · obtain ⟨d1, d2, d3, d4⟩ := h1 v hv
          rw [rd_I0 (by omega), rd_I0 (by omega), rd_I0 (by omega), rd_I0 (k := 39) (by omega)]
          refine ⟨d1, d2, d3, fun w => ⟨(d4 w).1, ?_⟩⟩
          by_cases u : v = pt (pn - 1)
          · rw [u, rd_I1, upn_s]
          · rw [rd_I0 (by omega), upn_n u]; exact (d4 w).2
        · intro i hi; rw [rd_I0 (by omega)]; exact h2 i hi
        · intro i hi; rw [rd_I0 (by omega)]; exact h3 i hi
        · rw [rd_I0 (by omega)]; exact h4
        · rw [rd_I0 (by omega)]; exact h5
        · rw [rd_I0 (by omega)]; exact h6
        · rw [rd_I0 (by omega)]; exact h7
      have mu : tjm (fun _ => 64) od (upn nx (pt (pn - 1)) (nx (pt (pn - 1)) + 1)) pn Mn + 1 = μ := by
        rw [← em]
        refine tjm_ch vM (fun u hu => ⟨rfl, upn_n hu⟩) ?_
        rw [if_neg o.1, if_neg o.1, upn_s]
        omega
      have go : ∀ (lw1 : Nat → Nat) (m2 : zM), JFr m0 m2 → TMm Mn od lw1 gp (upn nx (pt (pn - 1)) (nx (pt (pn - 1)) + 1)) wt pt wn pn G T m2 → TJ Mn (fun v => opb v = true) (fun _ => 64) (edO opb rw') od lw1 gp (upn nx (pt (pn - 1)) (nx (pt (pn - 1)) + 1)) wt pt wn pn G T → ok (some (Sum.inr m2)) (lp (fun p => ∃ μ', TSM Mn opb rw' V m0 p 0 μ') (fun s' : zM => ∃ i' : Nat × Nat, i'.2 < μ ∧ TSM Mn opb rw' V m0 s' i'.1 i'.2)) := fun lw1 m2 a b c => ok_mk ⟨(pn, tjm (fun _ => 64) od (upn nx (pt (pn - 1)) (nx (pt (pn - 1)) + 1)) pn Mn), by show tjm _ _ _ _ _ < μ; omega, a, od, lw1, gp, _, wt, pt, wn, G, T, c, i1, i2, b, vis, rfl⟩
      refine ok_mm (rw' (pt (pn - 1)) (nx (pt (pn - 1)))) (fun z => ?_) (fun z => ?_) (hx := ce)
      · refine go lw _ f17 t17 (TJ_nx tj' (by omega) q2 (fun u hu => ?_))
        unfold edO at hu
        rw [if_neg (fun y => y.1 z)] at hu
        omega
      · have uM : rw' (pt (pn - 1)) (nx (pt (pn - 1))) - 1 < Mn := by omega
        obtain ⟨u, eu⟩ : ∃ u, u = rw' (pt (pn - 1)) (nx (pt (pn - 1))) - 1 := ⟨_, rfl⟩
        rw [← eu] at uM
        have er : rw' (pt (pn - 1)) (nx (pt (pn - 1))) = u + 1 := by omega
        rw [er, nI_pred] at ce
        rw [ce]
        have u2 : u < 2432 := by omega
        obtain ⟨d1, d2, d3, d4⟩ := t17.1 u uM
        refine ok_ix rfl u2 (by decide) ?_
        have e34 : (sI m1 41 (pt (pn - 1)) (nI (nx (pt (pn - 1)) + 1))).1 34 u = b2i (opb u) := by rw [rd_I0 (by omega), fl2_i f1 (by simp [inS])]; exact ho u uM
        rw [e34]
        cases eo : opb u with
        | false =>
          refine ok_ip (show b2i false = 0 from rfl) (go lw _ f17 t17 (TJ_nx tj' (by omega) q2 (fun t ht => ?_)))
          unfold edO at ht
          rw [er, Nat.add_sub_cancel, eo, if_neg (fun y => by cases y.2)] at ht
          omega
        | true =>
          have ee : edO opb rw' (pt (pn - 1)) (nx (pt (pn - 1))) = u + 1 := by
            unfold edO
            rw [er, Nat.add_sub_cancel, if_pos ⟨by omega, eo⟩]
          refine ok_in (show ¬ b2i true = 0 by decide) (ok_ix rfl u2 (by decide) ?_)
          have uT : od u ≤ T := by
            by_cases w : od u = 0
            · omega
            · exact (hA.1 u w).2.2
          refine ok_ee (od u) 0 (fun w => ?_) (fun w => ?_) (hx := d1)
          · have gu : gp u = 0 := by
              by_cases y : gp u = 0
              · exact y
              · exact absurd w (hK u y).1
            have nw := TJ_chi tj' (by omega) q2 ee w uM eo
            obtain ⟨n1, n2⟩ := TJ_bd nw
            refine ok_bi (enters0M hM t17 uM w gu (fun i hi => (hB.1 i hi).1) (by omega) (by omega)) (fun p ⟨c1, c2⟩ => ok_mk ⟨(pn + 1, tjm (fun _ => 64) (upn od u (T + 1)) (upn (upn nx (pt (pn - 1)) (nx (pt (pn - 1)) + 1)) u 0) (pn + 1) Mn), ?_, fl2_tr f17 c1, _, _, gp, _, _, _, wn + 1, G, T + 1, nw, i1, inh_up i2 w, c2, fun v hv hv' => ?_, rfl⟩)
            · show tjm _ _ _ _ _ < μ
              have k := tjm_pn (dg := fun _ => 64) (od := upn od u (T + 1)) (nx := upn (upn nx (pt (pn - 1)) (nx (pt (pn - 1)) + 1)) u 0) (pn := pn) (d := 1) (k := Mn)
              have k2 : tjm (fun _ => 64) (upn od u (T + 1)) (upn (upn nx (pt (pn - 1)) (nx (pt (pn - 1)) + 1)) u 0) pn Mn + 1 = tjm (fun _ => 64) od (upn nx (pt (pn - 1)) (nx (pt (pn - 1)) + 1)) pn Mn := by
                refine tjm_ch uM (fun y hy => ⟨upn_n hy, upn_n hy⟩) ?_
                rw [upn_s, upn_s, if_neg (by omega), if_pos w]
              omega
            · by_cases y : v = u
              · rw [y, upn_s]; omega
              · rw [upn_n y]; exact vis v hv hv'
          · refine ok_ix rfl u2 (by decide) ?_
            rw [d3]
            by_cases gu : gp u = 0
            · have sb : stb od gp u = true := decide_eq_true ⟨w, gu⟩
              rw [sb]
              refine ok_in (show ¬ b2i true = 0 by decide) (ok_ix rfl u2 (by decide) (ok_ix rfl v2 (by decide) ?_))
              have k := TJ_low tj' (by omega) q2 ee w gu
              have e39 := ((t17.1 _ vM).2.2.2 o.1).1
              refine ok_le (lw (pt (pn - 1))) (od u) (fun y => ?_) (fun y => ?_) (hx := e39) (hy := d1)
              · rw [Nat.min_eq_left y] at k
                have : upn lw (pt (pn - 1)) (lw (pt (pn - 1))) = lw := by funext v; unfold upn; split <;> rename_i w; rw [w]; rfl
                rw [this] at k
                exact go lw _ f17 t17 k
              · rw [Nat.min_eq_right (by omega)] at k
                refine ok_ix rfl u2 (by decide) (ok_ix rfl v2 (by decide) (ok_lt ?_))
                rw [d1]
                refine go _ _ (fl2_tr f17 (fl2_I (inS_c (by simp)))) ?_ k
                obtain ⟨g1, g2, g3, g4, g5, g6, g7⟩ := t17
                refine ⟨fun v hv => ?_, ?_, ?_, ?_, ?_, ?_, ?_⟩
                · obtain ⟨d1, d2, d3, d4⟩ := g1 v hv
                  rw [rd_I0 (by omega), rd_I0 (by omega), rd_I0 (by omega), rd_I0 (k := 41) (by omega)]
                  refine ⟨d1, d2, d3, fun w => ⟨?_, (d4 w).2⟩⟩
                  by_cases u' : v = pt (pn - 1)
                  · rw [u', rd_I1, upn_s]
                  · rw [rd_I0 (by omega), upn_n u']; exact (d4 w).1
                · intro i hi; rw [rd_I0 (by omega)]; exact g2 i hi
                · intro i hi; rw [rd_I0 (by omega)]; exact g3 i hi
                · rw [rd_I0 (by omega)]; exact g4
                · rw [rd_I0 (by omega)]; exact g5
                · rw [rd_I0 (by omega)]; exact g6
                · rw [rd_I0 (by omega)]; exact g7
            · have sb : stb od gp u = false := decide_eq_false (fun y => gu y.2)
              rw [sb]
              refine ok_ip (show b2i false = 0 from rfl) (go lw _ f17 t17 (TJ_nx tj' (by omega) q2 (fun t ht => ?_)))
              rw [ee] at ht
              rw [← show u = t by omega]; exact gu
theorem joinsM {Mn c : Nat} {opb : Nat → Bool} {rw' : Nat → Nat → Nat} {m : zM} (hM : Mn ≤ 2400) (hc : c = 30 ∨ c = 31) (hz : 64 * Mn ≤ zlen gM c) (hz2 : zlen gM c ≤ 2000000) (hr : ∀ v, v < Mn → ∀ e, e < 64 → m.1 c (64 * v + e) = nI (rw' v e) - 1 ∧ rw' v e ≤ Mn) (ho : ∀ v, v < Mn → m.1 34 v = b2i (opb v)) : ok (f_MO_joins c (nI Mn) m) (fun p => JFr m p ∧ ∃ gp G, JGr (fun v => opb v = true) (fun _ => 64) (edO opb rw') Mn gp G ∧ inh gp G ∧ G ≤ Mn ∧ p.1 0 63 = nI G ∧ ∀ v, v < Mn → p.1 37 v = nI (gp v) - 1) := by
  unfold f_MO_joins f_MO_joins_L17
  refine ok_lt (ok_lt (ok_lt (ok_for Mn (fun k (s : Int32 × zM) => s.1 = nI k ∧ JFr m s.2 ∧ (s.2.1 0 61 = 0 ∧ s.2.1 0 62 = 0 ∧ s.2.1 0 63 = 0) ∧ ∀ v, v < k → s.2.1 38 v = 0 ∧ s.2.1 37 v = -1 ∧ s.2.1 43 v = 0) ⟨rfl, fl2_tr (fl2_I (inS_f (by simp))) (fl2_tr (fl2_I (inS_f (by simp))) (fl2_I (inS_f (by simp)))), ⟨rd_I1 _ _ _ _, by simp [rd_I], by simp [rd_I]⟩, fun v hv => absurd hv (Nat.not_lt_zero _)⟩ (Nat.zero_le _) ?_)))
  rintro k ⟨x, m1⟩ - hk ⟨e, f1, ⟨g1, g2, g3⟩, g4⟩
  have e : x = nI k := e
  subst e
  have f1 : JFr m m1 := f1
  have g4 : ∀ v, v < k → m1.1 38 v = 0 ∧ m1.1 37 v = -1 ∧ m1.1 43 v = 0 := g4
  unfold f_MO_joins_B17
  refine ok_le Mn k (fun q => ok_zl ?_) (fun q => ?_)
  · have : k = Mn := by omega
    subst this
    have cr : m1.1 c = m.1 c := fl2_ic f1 (fun j => by rcases hc with z | z <;> rw [z] <;> simp [inS])
    have co : m1.1 34 = m.1 34 := fl2_ic f1 (fun j => by simp [inS])
    unfold f_MO_joins_J49 f_MO_joins_L51
    have hr1 : ∀ v, v < k → ∀ e, e < 64 → m1.1 c (64 * v + e) = nI (rw' v e) - 1 ∧ rw' v e ≤ k := by rw [cr]; exact hr
    have ho1 : ∀ v, v < k → m1.1 34 v = b2i (opb v) := by rw [co]; exact ho
    refine ok_for k (fun V (s : Int32 × zM) => s.1 = nI V ∧ JFr m1 s.2 ∧ ∃ (od lw gp nx wt pt : Nat → Nat) (wn G T : Nat), TJ k (fun v => opb v = true) (fun _ => 64) (edO opb rw') od lw gp nx wt pt wn 0 G T ∧ inh gp G ∧ inh od T ∧ (∀ pn, TMm k od lw gp nx wt pt wn 0 G T (sI s.2 0 60 pn) ∨ pn ≠ 0) ∧ (∀ v, v < V → opb v = true → od v ≠ 0)) ⟨rfl, fl2_rf, fun _ => 0, fun _ => 0, fun _ => 0, fun _ => 0, fun _ => 0, fun _ => 0, 0, 0, 0, TJ_0 (fun _ => rfl) (fun _ => rfl), fun t h1 h2 => by omega, fun t h1 h2 => by omega, fun pn => ?_, fun v hv => absurd hv (Nat.not_lt_zero _)⟩ (Nat.zero_le _) ?_
    · by_cases z : pn = 0
      · left
        subst z
        refine ⟨fun v hv => ?_, fun i hi => absurd hi (Nat.not_lt_zero _), fun i hi => absurd hi (Nat.not_lt_zero _), rd_I1 _ _ _ _, ?_, ?_, ?_⟩
        · obtain ⟨a1, a2, a3⟩ := g4 v hv
          rw [rd_I0 (by omega), rd_I0 (by omega), rd_I0 (by omega)]
          exact ⟨a1, a2.trans no_m1, a3, fun z => absurd rfl z⟩
        · rw [rd_I0 (by omega)]; exact g1
        · rw [rd_I0 (by omega)]; exact g2
        · rw [rd_I0 (by omega)]; exact g3
      · exact Or.inr z
    · rintro V ⟨x, m2⟩ - hV ⟨e, f2, od, lw, gp, nx, wt, pt, wn, G, T, tj, i1, i2, tm, vis⟩
      have e : x = nI V := e
      subst e
      have f2 : JFr m1 m2 := f2
      have tm : TMm k od lw gp nx wt pt wn 0 G T (sI m2 0 60 0) := by
        rcases tm 0 with z | z
        · exact z
        · exact absurd rfl z
      obtain ⟨h1, h2, h3, h4, h5, h6, h7⟩ := id tm
      obtain ⟨b3, b4⟩ := TJ_G tj i1 i2
      unfold f_MO_joins_B51 f_MO_joins_J80
      refine ok_le k V (fun q1 => ok_mk ⟨fl2_tr f1 f2, gp, G, JGr_of tj (fun v hv hv' => vis v (by omega) hv'), i1, b3, ?_, fun v hv => ?_⟩) (fun q1 => ?_)
      · have : (sI m2 0 60 0).1 0 63 = m2.1 0 63 := rd_I0 (by omega)
        rw [← this]; exact h7
      · have : (sI m2 0 60 0).1 37 v = m2.1 37 v := rd_I0 (by omega)
        rw [← this]; exact (h1 v hv).2.1
      · have V2 : V < 2432 := by omega
        have e34 : m2.1 34 V = b2i (opb V) := by rw [fl2_i f2 (by simp [inS])]; exact ho1 V q1
        have e38 : m2.1 38 V = nI (od V) := by
          have : (sI m2 0 60 0).1 38 V = m2.1 38 V := rd_I0 (by omega)
          rw [← this]; exact (h1 V q1).1
        refine ok_ix rfl V2 (by decide) ?_
        rw [e34]
        have same : (opb V = true → od V ≠ 0) → ok (some (Sum.inr (nI V + 1, m2))) (lp (fun p => JFr m p ∧ ∃ gp G, JGr (fun v => opb v = true) (fun _ => 64) (edO opb rw') k gp G ∧ inh gp G ∧ G ≤ k ∧ p.1 0 63 = nI G ∧ ∀ v, v < k → p.1 37 v = nI (gp v) - 1) (fun s' : Int32 × zM => V < k ∧ s'.1 = nI (V + 1) ∧ JFr m1 s'.2 ∧ ∃ (od lw gp nx wt pt : Nat → Nat) (wn G T : Nat), TJ k (fun v => opb v = true) (fun _ => 64) (edO opb rw') od lw gp nx wt pt wn 0 G T ∧ inh gp G ∧ inh od T ∧ (∀ pn, TMm k od lw gp nx wt pt wn 0 G T (sI s'.2 0 60 pn) ∨ pn ≠ 0) ∧ (∀ v, v < V + 1 → opb v = true → od v ≠ 0))) := by
          intro hs
          refine ok_mk ⟨q1, nI_1 V, f2, od, lw, gp, nx, wt, pt, wn, G, T, tj, i1, i2, fun pn => ?_, fun v hv hv' => ?_⟩
          · by_cases z : pn = 0
            · rw [z]; exact Or.inl tm
            · exact Or.inr z
          · by_cases z : v = V
            · rw [z] at hv' ⊢; exact hs hv'
            · exact vis v (by omega) hv'
        cases eo : opb V with
        | false => exact ok_ip (show b2i false = 0 from rfl) (same (fun z => by rw [eo] at z; cases z))
        | true =>
          refine ok_in (show ¬ b2i true = 0 by decide) (ok_ix rfl V2 (by decide) ?_)
          have oT : od V ≤ T := by
            by_cases w : od V = 0
            · omega
            · exact (tj.1.1 V w).2.2
          refine ok_ee (od V) 0 (fun w => ?_) (fun w => same (fun _ => w)) (hx := e38)
          have gu : gp V = 0 := by
            by_cases y : gp V = 0
            · exact y
            · exact absurd w (tj.2.2.2.2.2.2.2 V y).1
          have nw := TJ_root tj w q1 eo
          obtain ⟨n1, n2⟩ := TJ_bd nw
          unfold f_MO_goesDown
          refine ok_bi (G := fun p => ∃ μ', TSM k opb rw' (V + 1) m1 p 0 μ') (ok_lt (ok_bi (enters0M hM tm q1 w gu (fun i hi => (tj.2.1.1 i hi).1) (by omega) (by omega)) (fun p ⟨c1, c2⟩ => ?_))) (fun p ⟨μ', a1, od', lw', gp', nx', wt', pt', wn', G', T', a2, a3, a4, a5, a6, _⟩ => ?_)
          · refine downM (V := V + 1) hM hc hz hz2 hr1 ho1 ⟨fl2_tr f2 (fl2_tr (fl2_I (inS_f (by simp))) c1), _, _, gp, _, _, _, wn + 1, G, T + 1, nw, i1, inh_up i2 w, c2, fun v hv hv' => ?_, rfl⟩ ?_
            · by_cases z : v = V
              · rw [z, upn_s]; omega
              · rw [upn_n z]; exact vis v (by omega) hv'
            · have := tjm_le (dg := fun _ => 64) (od := upn od V (T + 1)) (nx := upn nx V 0) (pn := 1) (k := k) (B := 64) (fun _ _ => Nat.le_refl _)
              have : tjm (fun _ => 64) (upn od V (T + 1)) (upn nx V 0) (0 + 1) k ≤ 1 + k * 65 := this
              have : k * 65 ≤ 2400 * 65 := Nat.mul_le_mul_right _ hM
              omega
          · refine ok_mk ⟨q1, nI_1 V, a1, od', lw', gp', nx', wt', pt', wn', G', T', a2, a3, a4, fun pn => ?_, a6⟩
            by_cases z : pn = 0
            · left
              subst z
              obtain ⟨d1, d2, d3, d4, d5, d6, d7⟩ := a5
              refine ⟨fun v hv => ?_, ?_, ?_, rd_I1 _ _ _ _, ?_, ?_, ?_⟩
              · show (sI p 0 60 0).1 38 v = _ ∧ (sI p 0 60 0).1 37 v = _ ∧ (sI p 0 60 0).1 43 v = _ ∧ (_ → (sI p 0 60 0).1 39 v = _ ∧ (sI p 0 60 0).1 41 v = _)
                rw [rd_I0 (by omega), rd_I0 (by omega), rd_I0 (by omega), rd_I0 (by omega), rd_I0 (by omega)]; exact d1 v hv
              · intro i hi
                show (sI p 0 60 0).1 42 i = _
                rw [rd_I0 (by omega)]; exact d2 i hi
              · intro i hi
                show (sI p 0 60 0).1 40 i = _
                rw [rd_I0 (by omega)]; exact d3 i hi
              · show (sI p 0 60 0).1 0 61 = _
                rw [rd_I0 (by omega)]; exact d5
              · show (sI p 0 60 0).1 0 62 = _
                rw [rd_I0 (by omega)]; exact d6
              · show (sI p 0 60 0).1 0 63 = _
                rw [rd_I0 (by omega)]; exact d7
            · exact Or.inr z
  · refine ok_ix rfl (show k < 2432 by omega) (by decide) (ok_lt (ok_ix rfl (show k < 2432 by omega) (by decide) (ok_lt (ok_ix rfl (show k < 2432 by omega) (by decide) (ok_lt (ok_mk ⟨q, nI_1 k, fl2_tr f1 (fl2_tr (fl2_I (inS_c (by simp))) (fl2_tr (fl2_I (inS_c (by simp))) (fl2_I (inS_c (by simp))))), ⟨?_, ?_, ?_⟩, fun v hv => ?_⟩))))))
    · simp [rd_I]; exact g1
    · simp [rd_I]; exact g2
    · simp [rd_I]; exact g3
    · show (sI (sI (sI m1 38 k 0) 37 k (-1)) 43 k (b2i false)).1 38 v = _ ∧ (sI (sI (sI m1 38 k 0) 37 k (-1)) 43 k (b2i false)).1 37 v = _ ∧ (sI (sI (sI m1 38 k 0) 37 k (-1)) 43 k (b2i false)).1 43 v = _
      by_cases z : v = k
      · rw [z, rd_I0 (by omega), rd_I0 (by omega), rd_I1, rd_I0 (by omega), rd_I1, rd_I1]
        exact ⟨rfl, rfl, rfl⟩
      · rw [rd_I0 (by omega), rd_I0 (by omega), rd_I0 (by omega), rd_I0 (by omega), rd_I0 (by omega), rd_I0 (by omega), rd_I0 (by omega), rd_I0 (by omega), rd_I0 (by omega)]
        exact g4 v (by omega)
