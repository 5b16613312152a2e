theorem inS2 {w r j : Nat} (h : r ≠ w) (h' : r ≠ w + 1) : inS [w, w + 1] [] r j = false := by simp [inS, h, h']
def srvA (l n : Nat) (F a : Nat → Nat) (i : Nat) : Prop := ∀ j, j < n → (srv l F a i j).isSome = true
def srvP (w l n : Nat) (F a : Nat → Nat) (i : Nat) (m : zM) (p : Bool × zM) : Prop := fl2 [w, w + 1] [] m p.2 ∧ (p.1 = true → srvA l n F a i ∧ wX w n (F 3 + 1) (fun j => (srv l F a i j).getD 0) p.2) ∧ (p.1 = false → ¬ srvA l n F a i)
theorem srv_lt {l n i j h : Nat} {F a : Nat → Nat} (hF : fV F) (hv : wV n h a) (hj : j < n) : (srv l F a i j).getD 0 < 2058 := by
  have hc := hv.2.2.2 j hj
  obtain ⟨f0, f1, f2, f3, f4, f5, f6, f7⟩ := hF
  have key : ∀ x : Option Nat, (∀ d, x = some d → d < 2058) → x.getD 0 < 2058 := by
    intro x hx
    cases x with
    | none => decide
    | some d => exact hx d rfl
  have c0 : oC (oS (a j)) (o1 (a j)) (o2 (a j)) 0 < 2058 := oC_lt (oS_lt hc) (o1_lt _) (o2_lt _) (by omega)
  refine key _ (fun d hd => ?_)
  unfold srv at hd
  split at hd
  · split at hd
    · cases hd; exact c0
    · exact rc_lt c0 (by omega) hd
  · split at hd
    · cases hd; exact hc
    · exact rc_lt hc (by omega) hd
theorem serveL {r w n h l i : Nat} {F a : Nat → Nat} {m m5 : zM} (hr : rX r F m) (hF : fV F) (hv : wV n h a) (hi : i < n) (hl : l ≤ 1) (hrw : r ≠ w) (hrw' : r ≠ w + 1) (k0 : m5.1 w 0 = nI (F 3)) (k1 : m5.1 w 1 = nI n) (kf : fl2 [w, w + 1] [] m m5) (ki : (srv l F a i i).isSome = true ∧ m5.1 (w + 1) i = nI ((srv l F a i i).getD 0)) (kn : ∀ j, j < n → j ≠ i → m5.1 (w + 1) j = nI (a j)) : ok (f_Row_serve_J93 r w (nI i) (nI l) m5) (srvP w l n F a i m) := by
  have n4 := hv.2.1
  have hF' := hF
  obtain ⟨f0, f1, f2, f3, f4, f5, f6, f7⟩ := hF
  unfold f_Row_serve_J93 f_Row_serve_L96
  refine ok_loop (fun s : Int32 × zM => ∃ k, k ≤ n ∧ s.1 = nI k ∧ s.2.1 w 0 = nI (F 3) ∧ s.2.1 w 1 = nI n ∧ fl2 [w, w + 1] [] m s.2 ∧ (∀ j, j < n → (j < k ∨ j = i) → (srv l F a i j).isSome = true ∧ s.2.1 (w + 1) j = nI ((srv l F a i j).getD 0)) ∧ (∀ j, j < n → k ≤ j → j ≠ i → s.2.1 (w + 1) j = nI (a j))) (fun s => n - s.1.toNatClampNeg) ?_ _ ⟨0, by omega, rfl, k0, k1, kf, fun j hj hz => ?_, fun j hj _ hz => kn j hj hz⟩ (by show n - _ < _; omega)
  rotate_left
  · rcases hz with z | z
    · omega
    · rw [z]; exact ki
  rintro ⟨x, m1⟩ ⟨k, hk, e, g0, g1, gf, gd, gn⟩
  have e : x = nI k := e
  subst e
  have g1 : m1.1 w 1 = nI n := g1
  have g5 : m1.1 r 5 = nI (F 5) - 1 := by rw [fl2_i gf (inS2 hrw hrw')]; exact hr 5 (by decide)
  have fin : k = n ∨ F 5 = 0 → srvP w l n F a i m (true, m1) := by
    intro hz
    have all : ∀ j, j < n → (srv l F a i j).isSome = true ∧ m1.1 (w + 1) j = nI ((srv l F a i j).getD 0) := by
      intro j hj
      by_cases q : j < k ∨ j = i
      · exact gd j hj q
      · have q1 : ¬ j < k := fun z => q (Or.inl z)
        have q2 : j ≠ i := fun z => q (Or.inr z)
        have z5 : F 5 = 0 := by
          rcases hz with z | z
          · omega
          · exact z
        have : srv l F a i j = some (a j) := by unfold srv; rw [if_neg q2, if_pos z5]
        rw [this]
        exact ⟨rfl, gn j hj (by omega) q2⟩
    refine ⟨gf, fun _ => ⟨fun j hj => (all j hj).1, ?_, g1, fun j hj => (all j hj).2⟩, fun z => by cases z⟩
    show m1.1 w 0 = _
    rw [nI_pred]; exact g0
  unfold f_Row_serve_B96
  rw [g5, g1]
  refine ok_it (fun q => ?_) (fun q => ?_)
  · exact ok_mk (fin (Or.inr ((sd_m1 (by omega)).mp q)))
  · have q5 : F 5 ≠ 0 := fun z => q ((sd_m1 (by omega)).mpr z)
    refine ok_it (fun p => ?_) (fun p => ?_)
    · have := (nI_leI (a := n) (b := k) (by omega) (by omega)).mp p
      exact ok_mk (fin (Or.inl (by omega)))
    · have hkn : k < n := by
        rcases Nat.lt_or_ge k n with z | z
        · exact z
        · exact absurd ((nI_leI (a := n) (b := k) (by omega) (by omega)).mpr z) p
      have mu : n - (nI k + 1).toNatClampNeg < n - (nI k).toNatClampNeg := by
        rw [nI_1, nI_clamp (by omega), nI_clamp (by omega)]; omega
      unfold f_Row_serve_J135
      refine ok_it (fun t => ?_) (fun t => ?_)
      · have hki := (nI_eq (by omega) (by omega)).mp t
        refine ok_mk ⟨⟨k + 1, by omega, nI_1 k, g0, g1, gf, fun j hj hz => ?_, fun j hj hz => gn j hj (by omega)⟩, mu⟩
        by_cases e : j = k
        · exact gd j hj (Or.inr (e.trans hki))
        · exact gd j hj (by omega)
      · have hki : k ≠ i := fun z => t (by rw [z])
        have hc := hv.2.2.2 k hkn
        have hm := gn k hkn (Nat.le_refl _) hki
        refine ok_eb (recvX (w := w) (m := m1) (by omega) hc hm hl (by omega)) ?_
        have es : srv l F a i k = rc l (a k) (F 5) := by unfold srv; rw [if_neg hki, if_neg q5]
        cases hrc : rc l (a k) (F 5) with
        | none =>
          refine ok_in (show ¬ (false = true) by decide) (ok_mk ⟨gf, (fun z => by cases z), fun _ z => ?_⟩)
          have := z k hkn
          rw [es, hrc] at this
          cases this
        | some d =>
          refine ok_ip (show true = true from rfl) (ok_mk ⟨⟨k + 1, by omega, nI_1 k, ?_, ?_, fl2_tr gf (fl2_I (inS_c (by simp))), fun j hj hz => ?_, fun j hj hz hji => ?_⟩, mu⟩)
          · show (sI m1 (w + 1) k _).1 w 0 = _
            rw [rd_I0 (by omega)]; exact g0
          · show (sI m1 (w + 1) k _).1 w 1 = _
            rw [rd_I0 (by omega)]; exact g1
          · show _ ∧ (sI m1 (w + 1) k _).1 (w + 1) j = _
            by_cases e : j = k
            · rw [e, es, hrc, rd_I1]
              exact ⟨rfl, rfl⟩
            · rw [rd_I0 (by omega)]
              exact gd j hj (by omega)
          · show (sI m1 (w + 1) k _).1 (w + 1) j = _
            rw [rd_I0 (by omega)]
            exact gn j hj (by omega) hji
theorem serve1 {r w n h l i : Nat} {F a : Nat → Nat} {m : zM} (hr : rX r F m) (hF : fV F) (hw : wX w n h a m) (hv : wV n h a) (hi : i < n) (hl : l ≤ 1) (hrw : r ≠ w) (hrw' : r ≠ w + 1) : ok (f_Row_serve_J34 r w (nI i) (nI l) (nI (a i)) m) (srvP w l n F a i m) := by
  have n4 := hv.2.1
  have hF' := hF
  obtain ⟨f0, f1, f2, f3, f4, f5, f6, f7⟩ := hF
  have hc := hv.2.2.2 i hi
  unfold f_Row_serve_J34
  rw [hd0 hc, hd1 hc, hd2 hc, show (-1 : Int32) = nI 0 - 1 from no_m1, cdO]
  refine ok_lt ?_
  refine ok_ix rfl (by omega : i < 4) (by decide) (ok_lt ?_)
  have e3 : m.1 r 3 = nI (F 3) := hr 3 (by decide)
  rw [e3]
  have e4 : (sI (sI m w 0 (nI (F 3))) (w + 1) i (nI (oC (oS (a i)) (o1 (a i)) (o2 (a i)) 0))).1 r 4 = nI (F 4) - 1 := by
    rw [rd_I0 (by omega), rd_I0 (by omega)]; exact hr 4 (by decide)
  rw [e4]
  have fl : fl2 [w, w + 1] [] m (sI (sI m w 0 (nI (F 3))) (w + 1) i (nI (oC (oS (a i)) (o1 (a i)) (o2 (a i)) 0))) := fl2_tr (fl2_I (inS_c (by simp))) (fl2_I (inS_c (by simp)))
  have c0 : oC (oS (a i)) (o1 (a i)) (o2 (a i)) 0 < 2058 := oC_lt (oS_lt hc) (o1_lt _) (o2_lt _) (by omega)
  refine ok_it (fun q => ?_) (fun q => ?_)
  · have q4 := (sd_m1 (by omega)).mp q
    have es : srv l F a i i = some (oC (oS (a i)) (o1 (a i)) (o2 (a i)) 0) := by unfold srv; rw [if_pos rfl, if_pos q4]
    refine serveL hr hF' hv hi hl hrw hrw' ?_ ?_ fl ?_ (fun j hj hji => ?_)
    · rw [rd_I0 (by omega), rd_I1]
    · rw [rd_I0 (by omega), rd_I0 (by omega)]; exact hw.2.1
    · rw [es, rd_I1]; exact ⟨rfl, rfl⟩
    · rw [rd_I0 (by omega), rd_I0 (by omega)]; exact hw.2.2 j hj
  · have q4 : F 4 ≠ 0 := fun z => q ((sd_m1 (by omega)).mpr z)
    refine ok_eb (recvX (w := w) (by omega) c0 (rd_I1 _ _ _ _) hl (by omega)) ?_
    have es : srv l F a i i = rc l (oC (oS (a i)) (o1 (a i)) (o2 (a i)) 0) (F 4) := by unfold srv; rw [if_pos rfl, if_neg q4]
    cases hrc : rc l (oC (oS (a i)) (o1 (a i)) (o2 (a i)) 0) (F 4) with
    | none =>
      refine ok_in (show ¬ (false = true) by decide) (ok_mk ⟨fl, (fun z => by cases z), fun _ z => ?_⟩)
      have := z i hi
      rw [es, hrc] at this
      cases this
    | some d =>
      refine ok_ip (show true = true from rfl) ?_
      refine serveL hr hF' hv hi hl hrw hrw' ?_ ?_ (fl2_tr fl (fl2_I (inS_c (by simp)))) ?_ (fun j hj hji => ?_)
      · show (sI _ (w + 1) i _).1 w 0 = _
        rw [rd_I0 (by omega), rd_I0 (by omega), rd_I1]
      · show (sI _ (w + 1) i _).1 w 1 = _
        rw [rd_I0 (by omega), rd_I0 (by omega), rd_I0 (by omega)]; exact hw.2.1
      · show _ ∧ (sI _ (w + 1) i _).1 (w + 1) i = _
        rw [es, hrc, rd_I1]; exact ⟨rfl, rfl⟩
      · show (sI _ (w + 1) i _).1 (w + 1) j = _
        rw [rd_I0 (by omega), rd_I0 (by omega), rd_I0 (by omega)]; exact hw.2.2 j hj
