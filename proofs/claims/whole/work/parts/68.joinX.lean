theorem mbs_bd {M : Nat} {op : Nat → Prop} {dg : Nat → Nat} {ed : Nat → Nat → Nat} {od lw gp nx wt pt sta mem : Nat → Nat} {wn pn G T : Nat} (tj : TJ M op dg ed od lw gp nx wt pt wn pn G T) (h : mbs gp sta mem G) : sta G + wn ≤ M := by
  obtain ⟨hA, hB, hC, hD, hL, hF, hN, hK⟩ := tj
  refine pigeon (fun i => if i < sta G then mem i else wt (i - sta G)) (fun i hi => ?_) (fun i j hi hj e => ?_)
  · show (if i < sta G then mem i else wt (i - sta G)) < M
    by_cases q : i < sta G
    · rw [if_pos q]; exact (hA.1 _ (hK _ (mbs_nz h q)).1).1
    · rw [if_neg q]; exact (hA.1 _ (hB.1 (i - sta G) (by omega)).1).1
  · have e : (if i < sta G then mem i else wt (i - sta G)) = (if j < sta G then mem j else wt (j - sta G)) := e
    have wj : ∀ i j, i < wn → j < wn → wt i = wt j → i = j := fun i j hi hj e => by
      rcases Nat.lt_trichotomy i j with q | q | q
      · have := hB.2.1 i j q hj; rw [e] at this; omega
      · exact q
      · have := hB.2.1 j i q hi; rw [e] at this; omega
    by_cases a : i < sta G <;> by_cases b : j < sta G
    · rw [if_pos a, if_pos b] at e; exact h.2.2.2.2 i j a b e
    · rw [if_pos a, if_neg b] at e
      have := mbs_nz h a
      rw [e] at this
      exact absurd (hB.1 _ (show j - sta G < wn by omega)).2 this
    · rw [if_neg a, if_pos b] at e
      have := mbs_nz h b
      rw [← e] at this
      exact absurd (hB.1 _ (show i - sta G < wn by omega)).2 this
    · rw [if_neg a, if_neg b] at e
      have := wj _ _ (by omega) (by omega) e
      omega
/-- what Joined reads while it works -/
def CxG (P : Nat → Nat) (N : Nat) (W D pr sp : Nat → Nat) (fol sk av : Int32) (m : zM) : Prop := AXm P N W D pr sp m ∧ m.1 129 1 = fol ∧ m.1 129 2 = sk ∧ m.1 129 3 = av
theorem CxG_fl {P : Nat → Nat} {N : Nat} {W D pr sp : Nat → Nat} {fol sk av : Int32} {m m' : zM} {S : List Nat} {F : List (Nat × Nat)} (h : CxG P N W D pr sp fol sk av m) (hf : fl2 S F m m') (hk : kps [26, 27, 28, 29, 30, 31, 32, 33, 34, 35, 36, 37] [(24, 0), (24, 1)] S F = true) (hk2 : kps [] [(129, 1), (129, 2), (129, 3)] S F = true) : CxG P N W D pr sp fol sk av m' := by
  obtain ⟨h1, h2, h3, h4⟩ := h
  exact ⟨AXm_fl h1 hf hk, by rw [fl2_i hf (kps_g hk2 (by simp))]; exact h2, by rw [fl2_i hf (kps_g hk2 (by simp))]; exact h3, by rw [fl2_i hf (kps_g hk2 (by simp))]; exact h4⟩
def TSX (P : Nat → Nat) (N : Nat) (W : Nat → Nat) (opb : Nat → Bool) (xd : Nat → Nat → Nat) (V : Nat) (m0 m : zM) (pn μ : Nat) : Prop := XFr m0 m ∧ ∃ (od lw gp nx wt pt sta mem : Nat → Nat) (wn G T : Nat), TJ (4 * N) (fun v => opb v = true) (dgx P W) xd od lw gp nx wt pt wn pn G T ∧ inh gp G ∧ inh od T ∧ mbs gp sta mem G ∧ TXm P W (4 * N) od lw gp nx wt pt sta mem wn pn G T m ∧ (∀ v, v < V → opb v = true → od v ≠ 0) ∧ tjm (dgx P W) od nx pn (4 * N) = μ
theorem throughX {P : Nat → Nat} {N V : Nat} {W D pr sp : Nat → Nat} {fol sk av : Int32} {opb : Nat → Bool} {xd : Nat → Nat → Nat} {m0 m : zM} {pn μ : Nat} (hN : N ≤ 600) (hC0 : CxG P N W D pr sp fol sk av m0) (hNx : ∀ m', CxG P N W D pr sp fol sk av m' → ∀ v, v < 4 * N → opb v = true → ∀ e, e < dgx P W v → f_Joined_next (nI v) (nI (frm P W (v / 4) + e)) m' = some (nI (xd v e) - 1)) (hXo : ∀ v, v < 4 * N → opb v = true → ∀ e, e < dgx P W v → ∀ u, xd v e = u + 1 → u < 4 * N ∧ opb u = true) (h : TSX P N W opb xd V m0 m pn μ) (hμ : μ ≤ 200000) : ok (f_Joined_goThrough_L7 0 m) (fun p => ∃ μ', TSX P N W opb xd V m0 p 0 μ') := by
  unfold f_Joined_goThrough_L7
  refine ok_lop (ι := Nat × Nat × Nat) (fun i (s : Int32 × zM) => s.1 = nI i.2.2 ∧ i.2.2 + i.2.1 ≤ 200000 ∧ TSX P N W opb xd V m0 s.2 i.1 i.2.1) (fun i => i.2.1) ?_ (pn, μ, 0) _ ⟨rfl, by show 0 + μ ≤ 200000; omega, h⟩ (by show μ < 1000000000; omega)
  rintro ⟨pn, μ, st⟩ ⟨x, m1⟩ ⟨e, hst, f1, od, lw, gp, nx, wt, pt, sta, mem, wn, G, T, tj, i1, i2, mb, tm, vis, em⟩
  have e : x = nI st := e
  subst e
  have hst : st + μ ≤ 200000 := hst
  have f1 : XFr m0 m1 := f1
  have em : tjm (dgx P W) od nx pn (4 * N) = μ := em
  have tj : TJ (4 * N) (fun v => opb v = true) (dgx P W) xd od lw gp nx wt pt wn pn G T := tj
  have tm : TXm P W (4 * N) od lw gp nx wt pt sta mem wn pn G T m1 := tm
  have tm' := tm
  obtain ⟨h1, h2, h3, ⟨h4, h5, h6, h7⟩, h8, h9⟩ := tm
  obtain ⟨b1, b2⟩ := TJ_bd tj
  obtain ⟨b3, b4⟩ := TJ_G tj i1 i2
  have tj' := tj
  obtain ⟨hA, hB, hC, hD, hL, hF, hNN, hK⟩ := tj
  have C1 := CxG_fl hC0 f1 (by decide) (by decide)
  have c36 := C1.1.2.2.1
  unfold f_Joined_goThrough_B7 f_Joined_goThrough_J88
  refine ok_le 1000000 st (fun q => by omega) (fun _ => ?_)
  refine ok_le pn 0 (fun q => ?_) (fun q => ?_) (hx := h4)
  · have : pn = 0 := by omega
    subst this
    exact ok_mk ⟨μ, f1, od, lw, gp, nx, wt, pt, sta, mem, wn, G, T, tj', i1, i2, mb, tm', vis, em⟩
  · have o := hC.1 (pn - 1) (by omega)
    obtain ⟨vM, vo, vT⟩ := hA.1 _ o.1
    have vo : opb (pt (pn - 1)) = true := vo
    obtain ⟨m133, m130, m134⟩ := h1 _ vM
    obtain ⟨m134, m135⟩ := m134 o.1
    have nle := (hNN _ o.1).1
    have lle := (hL (pn - 1) (by omega)).1
    have v2 : pt (pn - 1) < 2400 := by omega
    have v4 : pt (pn - 1) / 4 + 1 ≤ N := by omega
    have fr := frm_le P W (pt (pn - 1) / 4 + 1)
    have fe : frm P W (pt (pn - 1) / 4 + 1) = frm P W (pt (pn - 1) / 4) + dgx P W (pt (pn - 1)) := rfl
    have e4 : nI (pt (pn - 1)) / 4 + 1 = nI (pt (pn - 1) / 4 + 1) := by rw [show nI (pt (pn - 1)) / 4 = nI (pt (pn - 1) / 4) from pk_div (d := 4) (by omega) (by decide) (by decide), nI_1]
    rw [h4, nI_pr q]
    refine ok_ix rfl (show pn - 1 < 2400 by omega) (by decide) ?_
    rw [h3 (pn - 1) (by omega)]
    refine ok_ix rfl v2 (by decide) ?_
    rw [e4]
    refine ok_ix rfl (show pt (pn - 1) / 4 + 1 < 601 by omega) (by decide) ?_
    refine ok_le (frm P W (pt (pn - 1) / 4 + 1)) (frm P W (pt (pn - 1) / 4) + nx (pt (pn - 1))) (fun q2 => ?_) (fun q2 => ?_) (hx := c36 _ v4) (hy := m135)
    · have nd : nx (pt (pn - 1)) = dgx P W (pt (pn - 1)) := by omega
      have fin : ∀ (lw1 : Nat → Nat) (m2 : zM), XFr m0 m2 → TXm P W (4 * N) od lw1 gp nx wt pt sta mem wn (pn - 1) G T m2 → lw1 (pt (pn - 1)) = lw (pt (pn - 1)) → (lw (pt (pn - 1)) ≠ od (pt (pn - 1)) → TJ (4 * N) (fun v => opb v = true) (dgx P W) xd od lw1 gp nx wt pt wn (pn - 1) G T) → (lw (pt (pn - 1)) = od (pt (pn - 1)) → ∀ j, j < pn - 1 → lw1 (pt j) = lw (pt j)) → ok (f_Joined_leave_J50 (nI (pt (pn - 1))) m2) (fun p => ∃ μ', μ' < μ ∧ TSX P N W opb xd V m0 p (pn - 1) μ') := by
        intro lw1 m2 f2 tm2 el tl1 tl2
        have mu : tjm (dgx P W) od nx (pn - 1) (4 * N) < μ := by
          have := tjm_pn (dg := dgx P W) (od := od) (nx := nx) (pn := pn - 1) (d := 1) (k := 4 * N)
          rw [show pn - 1 + 1 = pn by omega] at this
          omega
        have tm2' := tm2
        obtain ⟨g1, g2, g3, ⟨g4, g5, g6, g7⟩, g8, g9⟩ := tm2
        have w1 := (g1 _ vM).1
        have w2 := ((g1 _ vM).2.2 o.1).1
        rw [el] at w2
        unfold f_Joined_leave_J50
        refine ok_ix rfl v2 (by decide) (ok_ix rfl v2 (by decide) ?_)
        rw [w1, w2]
        refine ok_it (fun z => ?_) (fun z => ?_)
        · have z := (sd_eq (by omega) (by omega)).mp z
          obtain ⟨k, hk, ek⟩ := hB.2.2 _ o.1 o.2
          have wl : ∀ i, i < wn → wt i < 4 * N := fun i hi => (hA.1 _ (hB.1 i hi).1).1
          have wj : ∀ i j, i < wn → j < wn → wt i = wt j → i = j := fun i j hi hj e => by
            rcases Nat.lt_trichotomy i j with q | q | q
            · have := hB.2.1 i j q hj; rw [e] at this; omega
            · exact q
            · have := hB.2.1 j i q hi; rw [e] at this; omega
          have nw : TJ (4 * N) (fun v => opb v = true) (dgx P W) xd od lw1 (gcl od gp (pt (pn - 1)) G) nx wt pt k (pn - 1) (G + 1) T := TJ_lv2 tj' (by omega) nd z (tl2 z) hk ek (fun y y1 y2 y3 => if_pos ⟨y1, y2, y3⟩) (fun y hy => if_neg hy)
          have ni := gcl_i (v := pt (pn - 1)) i1 o.1 o.2
          have nG := (TJ_G nw ni i2).1
          have nb := mbs_bd tj' mb
          rw [← ek]
          refine ok_bi (closeX hN tm2' wl wj hk (by omega) (by omega)) (fun p ⟨c1, c2, c3, c4, c5, c6, c7⟩ => ok_mk ⟨tjm (dgx P W) od nx (pn - 1) (4 * N), mu, fl2_tr f2 (fl2_su c1 (by decide)), od, lw1, gcl od gp (pt (pn - 1)) G, nx, wt, pt, _, _, k, G + 1, T, nw, ni, i2, mbs_cl tj' mb hk ek, ⟨fun y hy => ?_, fun i hi => ?_, fun j hj => ?_, ⟨?_, c6, ?_, c7⟩, fun g hg => c4 g hg, fun i hi => ?_⟩, vis, rfl⟩)
          · obtain ⟨d1, d2, d3⟩ := g1 y hy
            rw [show p.1 133 y = m2.1 133 y from fl2_i c1 (by simp [inS]), show p.1 134 y = m2.1 134 y from fl2_i c1 (by simp [inS]), show p.1 135 y = m2.1 135 y from fl2_i c1 (by simp [inS])]
            refine ⟨d1, ?_, d3⟩
            by_cases s : od y ≠ 0 ∧ gp y = 0 ∧ od (pt (pn - 1)) ≤ od y
            · obtain ⟨t, ht, et⟩ := hB.2.2 y s.1 s.2.1
              have kt : k ≤ t := by
                rcases Nat.lt_or_ge t k with q | q
                · have := hB.2.1 t k q hk; rw [et, ek] at this; omega
                · exact q
              unfold gcl
              rw [if_pos s, ← et, c2 t kt ht, nI_pred]
            · unfold gcl
              rw [if_neg s, c3 y (fun t t1 t2 et => s ?_)]
              · exact d2
              · have a := hB.1 t t2
                rw [et] at a
                refine ⟨a.1, a.2, ?_⟩
                rcases Nat.eq_or_lt_of_le t1 with q | q
                · rw [← et, ← q, ek]; exact Nat.le_refl _
                · have := hB.2.1 k t q t2; rw [ek, et] at this; omega
          · rw [fl2_i c1 (by simp [inS])]; exact g2 i (by omega)
          · rw [fl2_i c1 (by simp [inS])]; exact g3 j hj
          · rw [fl2_i c1 (by decide)]; exact g4
          · rw [fl2_i c1 (by decide)]; exact g6
          · rw [upn_s] at hi
            exact c5 i hi
        · have z : lw (pt (pn - 1)) ≠ od (pt (pn - 1)) := fun y => z (by rw [y])
          exact ok_mk ⟨tjm (dgx P W) od nx (pn - 1) (4 * N), mu, f2, od, lw1, gp, nx, wt, pt, sta, mem, wn, G, T, tl1 z, i1, i2, mb, tm2', vis, rfl⟩
      unfold f_Joined_leave
      refine ok_bi (G := fun p => ∃ μ', μ' < μ ∧ TSX P N W opb xd V m0 p (pn - 1) μ') ?_ (fun p ⟨μ', c1, c2⟩ => ok_mk ⟨(pn - 1, μ', st + 1), c1, nI_1 st, by show st + 1 + μ' ≤ 200000; omega, c2⟩)
      rw [h4, nI_pr q]
      refine ok_lt ?_
      have e15 : (sI m1 129 15 (nI (pn - 1))).1 129 15 = nI (pn - 1) := rd_I1 _ _ _ _
      have f5 : XFr m0 (sI m1 129 15 (nI (pn - 1))) := fl2_tr f1 (fl2_I (inS_f (by simp)))
      have t5 : TXm P W (4 * N) od lw gp nx wt pt sta mem wn (pn - 1) G T (sI m1 129 15 (nI (pn - 1))) := by
        refine ⟨fun v hv => ?_, fun i hi => ?_, fun j hj => ?_, ⟨e15, ?_, ?_, ?_⟩, fun g hg => ?_, fun i hi => ?_⟩
        · rw [rd_I0 (by omega), rd_I0 (by omega), rd_I0 (by omega), rd_I0 (by omega)]; exact h1 v hv
        · rw [rd_I0 (by omega)]; exact h2 i hi
        · rw [rd_I0 (by omega)]; exact h3 j (by omega)
        · rw [rd_I0 (by omega)]; exact h5
        · rw [rd_I0 (by omega)]; exact h6
        · rw [rd_I0 (by omega)]; exact h7
        · rw [rd_I0 (by omega)]; exact h8 g hg
        · rw [rd_I0 (by omega)]; exact h9 i hi
      refine ok_le (pn - 1) 0 (fun q3 => ?_) (fun q3 => ?_) (hx := e15)
      · refine fin lw _ f5 t5 rfl (fun z => ?_) (fun _ _ _ => rfl)
        obtain ⟨j, hj, _⟩ := TJ_dn tj' (by omega) z
        omega
      · have op' := hC.1 (pn - 2) (by omega)
        obtain ⟨pM, _, pT⟩ := hA.1 _ op'.1
        have p2 : pt (pn - 2) < 2400 := by omega
        have lp' := (hL (pn - 2) (by omega)).1
        have opv := (hC.2 (pn - 2) (pn - 1) (by omega) (by omega)).1
        have ne : pt (pn - 2) ≠ pt (pn - 1) := fun z => by rw [z] at opv; omega
        rw [e15, nI_pr q3, show pn - 1 - 1 = pn - 2 by omega]
        refine ok_ix rfl (show pn - 2 < 2400 by omega) (by decide) ?_
        rw [t5.2.2.1 (pn - 2) (by omega)]
        refine ok_ix rfl p2 (by decide) (ok_ix rfl v2 (by decide) (ok_ix rfl p2 (by decide) (ok_lt ?_)))
        rw [minX ((t5.1 _ pM).2.2 op'.1).1 ((t5.1 _ vM).2.2 o.1).1 (by omega) (by omega)]
        refine fin (upn lw (pt (pn - 2)) (min (lw (pt (pn - 2))) (lw (pt (pn - 1))))) _ (fl2_tr f5 (fl2_I (inS_c (by simp)))) ?_ (upn_n (Ne.symm ne)) (fun y => TJ_lv1 tj' (by omega) nd y) (fun y j hj => ?_)
        · obtain ⟨g1, g2, g3, ⟨g4, g5, g6, g7⟩, g8, g9⟩ := t5
          refine ⟨fun v hv => ?_, fun i hi => ?_, fun j hj => ?_, ⟨?_, ?_, ?_, ?_⟩, fun g hg => ?_, fun i hi => ?_⟩
          · obtain ⟨d1, d2, d3⟩ := g1 v hv
            rw [rd_I0 (by omega), rd_I0 (by omega), rd_I0 (k := 135) (by omega)]
            refine ⟨d1, d2, fun w => ⟨?_, (d3 w).2⟩⟩
            by_cases u : v = pt (pn - 2)
            · rw [u, rd_I1, upn_s]
            · rw [rd_I0 (by omega), upn_n u]; exact (d3 w).1
          · rw [rd_I0 (by omega)]; exact g2 i hi
          · rw [rd_I0 (by omega)]; exact g3 j hj
          · rw [rd_I0 (by omega)]; exact g4
          · rw [rd_I0 (by omega)]; exact g5
          · rw [rd_I0 (by omega)]; exact g6
          · rw [rd_I0 (by omega)]; exact g7
          · rw [rd_I0 (by omega)]; exact g8 g hg
          · rw [rd_I0 (by omega)]; exact g9 i hi
        · by_cases z : pt j = pt (pn - 2)
          · rw [z, upn_s, Nat.min_eq_left (by omega)]
          · rw [upn_n z]
    · have q2 : nx (pt (pn - 1)) < dgx P W (pt (pn - 1)) := by omega
      refine ok_ix rfl v2 (by decide) ?_
      rw [m135, nI_1]
      refine ok_lt ?_
      have f7 : XFr m0 (sI m1 135 (pt (pn - 1)) (nI (frm P W (pt (pn - 1) / 4) + nx (pt (pn - 1)) + 1))) := fl2_tr f1 (fl2_I (inS_c (by simp)))
      have t7 : TXm P W (4 * N) od lw gp (upn nx (pt (pn - 1)) (nx (pt (pn - 1)) + 1)) wt pt sta mem wn pn G T (sI m1 135 (pt (pn - 1)) (nI (frm P W (pt (pn - 1) / 4) + nx (pt (pn - 1)) + 1))) := by
        refine ⟨fun v hv => ?_, fun i hi => ?_, fun j hj => ?_, ⟨?_, ?_, ?_, ?_⟩, fun g hg => ?_, fun i hi => ?_⟩
        · obtain ⟨d1, d2, d3⟩ := h1 v hv
          rw [rd_I0 (by omega), rd_I0 (by omega), rd_I0 (k := 134) (by omega)]
          refine ⟨d1, d2, fun w => ⟨(d3 w).1, ?_⟩⟩
          by_cases u : v = pt (pn - 1)
          · rw [u, rd_I1, upn_s, Nat.add_assoc]
          · rw [rd_I0 (by omega), upn_n u]; exact (d3 w).2
        · rw [rd_I0 (by omega)]; exact h2 i hi
        · rw [rd_I0 (by omega)]; exact h3 j hj
        · rw [rd_I0 (by omega)]; exact h4
        · rw [rd_I0 (by omega)]; exact h5
        · rw [rd_I0 (by omega)]; exact h6
        · rw [rd_I0 (by omega)]; exact h7
        · rw [rd_I0 (by omega)]; exact h8 g hg
        · rw [rd_I0 (by omega)]; exact h9 i hi
      have C7 := CxG_fl hC0 f7 (by decide) (by decide)
      have mu : tjm (dgx P W) od (upn nx (pt (pn - 1)) (nx (pt (pn - 1)) + 1)) pn (4 * N) + 1 = μ := by
        rw [← em]
        refine tjm_ch vM (fun u hu => ⟨rfl, upn_n hu⟩) ?_
        rw [if_neg o.1, if_neg o.1, upn_s]
        omega
      refine ok_eb (hNx _ C7 _ vM vo _ q2) ?_
      refine ok_bi (G := fun p => ∃ pn' μ', μ' < μ ∧ TSX P N W opb xd V m0 p pn' μ') ?_ (fun p ⟨pn', μ', c1, c2⟩ => ok_mk ⟨(pn', μ', st + 1), c1, nI_1 st, by show st + 1 + μ' ≤ 200000; omega, c2⟩)
      have go : ∀ (lw1 : Nat → Nat) (m2 : zM), XFr m0 m2 → TXm P W (4 * N) od lw1 gp (upn nx (pt (pn - 1)) (nx (pt (pn - 1)) + 1)) wt pt sta mem wn pn G T m2 → TJ (4 * N) (fun v => opb v = true) (dgx P W) xd od lw1 gp (upn nx (pt (pn - 1)) (nx (pt (pn - 1)) + 1)) wt pt wn pn G T → ok (some m2) (fun p => ∃ pn' μ', μ' < μ ∧ TSX P N W opb xd V m0 p pn' μ') := fun lw1 m2 a b c => ok_mk ⟨pn, tjm (dgx P W) od (upn nx (pt (pn - 1)) (nx (pt (pn - 1)) + 1)) pn (4 * N), by omega, a, od, lw1, gp, _, wt, pt, sta, mem, wn, G, T, c, i1, i2, mb, b, vis, rfl⟩
      have xb : xd (pt (pn - 1)) (nx (pt (pn - 1))) < 2 ^ 31 := by
        rcases Nat.eq_zero_or_pos (xd (pt (pn - 1)) (nx (pt (pn - 1)))) with z | z
        · omega
        · have := (hXo _ vM vo _ q2 (xd (pt (pn - 1)) (nx (pt (pn - 1))) - 1) (by omega)).1
          omega
      unfold f_Joined_follow
      refine ok_mm (xd (pt (pn - 1)) (nx (pt (pn - 1)))) (fun z => ?_) (fun z => ?_)
      · exact go lw _ f7 t7 (TJ_nx tj' (by omega) q2 (fun u hu => by omega))
      · obtain ⟨u, eu⟩ : ∃ u, xd (pt (pn - 1)) (nx (pt (pn - 1))) = u + 1 := ⟨xd (pt (pn - 1)) (nx (pt (pn - 1))) - 1, by omega⟩
        obtain ⟨uM, uo⟩ := hXo _ vM vo _ q2 u eu
        rw [eu, nI_pred]
        have u2 : u < 2400 := by omega
        obtain ⟨d1, d2, d3⟩ := t7.1 u uM
        have uT : od u ≤ T := by
          by_cases w : od u = 0
          · omega
          · exact (hA.1 u w).2.2
        have uG : gp u ≤ G := by
          by_cases w : gp u = 0
          · omega
          · exact (hK u w).2.1
        refine ok_ix rfl u2 (by decide) ?_
        refine ok_mm (od u) (fun w => ?_) (fun w => ?_) (hx := d1)
        · have nw := TJ_chi tj' (by omega) q2 eu w uM uo
          obtain ⟨n1, n2⟩ := TJ_bd nw
          refine ok_bi (enterX hN C7.1.2.2.1 t7 uM (by omega) (by omega)) (fun p ⟨c1, c2⟩ => ok_mk ⟨pn + 1, tjm (dgx P W) (upn od u (T + 1)) (upn (upn nx (pt (pn - 1)) (nx (pt (pn - 1)) + 1)) u 0) (pn + 1) (4 * N), ?_, fl2_tr f7 c1, _, _, gp, _, _, _, sta, mem, wn + 1, G, T + 1, nw, i1, inh_up i2 w, mb, c2, fun v hv hv' => ?_, rfl⟩)
          · have k := tjm_pn (dg := dgx P W) (od := upn od u (T + 1)) (nx := upn (upn nx (pt (pn - 1)) (nx (pt (pn - 1)) + 1)) u 0) (pn := pn) (d := 1) (k := 4 * N)
            have k2 : tjm (dgx P W) (upn od u (T + 1)) (upn (upn nx (pt (pn - 1)) (nx (pt (pn - 1)) + 1)) u 0) pn (4 * N) + 1 = tjm (dgx P W) od (upn nx (pt (pn - 1)) (nx (pt (pn - 1)) + 1)) pn (4 * N) := by
              refine tjm_ch uM (fun y hy => ⟨upn_n hy, upn_n hy⟩) ?_
              rw [upn_s, upn_s, if_neg (by omega), if_pos w]
              omega
            omega
          · by_cases y : v = u
            · rw [y, upn_s]; omega
            · rw [upn_n y]; exact vis v hv hv'
        · refine ok_ix rfl u2 (by decide) ?_
          refine ok_mm (gp u) (fun gu => ?_) (fun gu => ?_) (hx := d2)
          · have k := TJ_low tj' (by omega) q2 eu (by omega) gu
            refine ok_ix rfl v2 (by decide) (ok_ix rfl u2 (by decide) (ok_ix rfl v2 (by decide) (ok_lt ?_)))
            rw [minX ((t7.1 _ vM).2.2 o.1).1 d1 (by omega) (by omega)]
            refine go _ _ (fl2_tr f7 (fl2_I (inS_c (by simp)))) ?_ k
            obtain ⟨g1, g2, g3, ⟨g4, g5, g6, g7⟩, g8, g9⟩ := t7
            refine ⟨fun v hv => ?_, fun i hi => ?_, fun j hj => ?_, ⟨?_, ?_, ?_, ?_⟩, fun g hg => ?_, fun i hi => ?_⟩
            · obtain ⟨d1, d2, d3⟩ := g1 v hv
              rw [rd_I0 (by omega), rd_I0 (by omega), rd_I0 (k := 135) (by omega)]
              refine ⟨d1, d2, fun w => ⟨?_, (d3 w).2⟩⟩
              by_cases u' : v = pt (pn - 1)
              · rw [u', rd_I1, upn_s]
              · rw [rd_I0 (by omega), upn_n u']; exact (d3 w).1
            · rw [rd_I0 (by omega)]; exact g2 i hi
            · rw [rd_I0 (by omega)]; exact g3 j hj
            · rw [rd_I0 (by omega)]; exact g4
            · rw [rd_I0 (by omega)]; exact g5
            · rw [rd_I0 (by omega)]; exact g6
            · rw [rd_I0 (by omega)]; exact g7
            · rw [rd_I0 (by omega)]; exact g8 g hg
            · rw [rd_I0 (by omega)]; exact g9 i hi
          · refine go lw _ f7 t7 (TJ_nx tj' (by omega) q2 (fun t ht => ?_))
            rw [eu] at ht
            rw [← show u = t by omega]; omega
/-- the groups of the class -/
def JXm (P : Nat → Nat) (N : Nat) (W : Nat → Nat) (opb : Nat → Bool) (xd : Nat → Nat → Nat) (gp sta mem : Nat → Nat) (G : Nat) (m : zM) : Prop := JGr (fun v => opb v = true) (dgx P W) xd (4 * N) gp G ∧ inh gp G ∧ G ≤ 4 * N ∧ mbs gp sta mem G ∧ sta G ≤ 4 * N ∧ m.1 129 4 = nI G ∧ (∀ v, v < 4 * N → m.1 130 v = nI (gp v) - 1) ∧ (∀ g, g ≤ G → m.1 131 g = nI (sta g)) ∧ ∀ i, i < sta G → m.1 132 i = nI (mem i)
def YFr (m0 m : zM) : Prop := fl2 [130, 131, 132, 133, 134, 135, 136, 137] [(129, 1), (129, 2), (129, 3), (129, 4), (129, 13), (129, 14), (129, 15)] m0 m
theorem joinX {P : Nat → Nat} {N : Nat} {W D pr sp : Nat → Nat} {fol sk av : Int32} {opb : Nat → Bool} {xd : Nat → Nat → Nat} {m : zM} (hN : N ≤ 600) (hA : AXm P N W D pr sp m) (hfo : fol = 0 ∨ fol = 1) (hNd : ∀ m', CxG P N W D pr sp fol sk av m' → ∀ v, v < 4 * N → f_Joined_isNode (nI v) m' = some (opb v)) (hNx : ∀ m', CxG P N W D pr sp fol sk av m' → ∀ v, v < 4 * N → opb v = true → ∀ e, e < dgx P W v → f_Joined_next (nI v) (nI (frm P W (v / 4) + e)) m' = some (nI (xd v e) - 1)) (hXo : ∀ v, v < 4 * N → opb v = true → ∀ e, e < dgx P W v → ∀ u, xd v e = u + 1 → u < 4 * N ∧ opb u = true) : ok (f_Joined_join fol sk av m) (fun p => YFr m p ∧ CxG P N W D pr sp fol sk av p ∧ ∃ (gp sta mem : Nat → Nat) (G : Nat), JXm P N W opb xd gp sta mem G p) := by
  unfold f_Joined_join
  refine ok_eb (show bt fol = some () from if_pos hfo) ?_
  refine ok_lt (ok_lt (ok_lt (ok_lt (ok_lt (ok_lt (ok_lt (ok_ix (show (0 : Int32) = nI 0 from rfl) (by decide) (by decide) (ok_lt ?_))))))))
  refine ok_bi (fillX (c := 130) (x := -1) (by decide)) (fun p10 ⟨c1, c2⟩ => ok_bi (fillX (c := 133) (x := -1) (by decide)) (fun p11 ⟨d1, d2⟩ => ?_))
  have f11 : YFr m p11 := fl2_tr (fl2_I (inS_f (by simp))) (fl2_tr (fl2_I (inS_f (by simp))) (fl2_tr (fl2_I (inS_f (by simp))) (fl2_tr (fl2_I (inS_f (by simp))) (fl2_tr (fl2_I (inS_f (by simp))) (fl2_tr (fl2_I (inS_f (by simp))) (fl2_tr (fl2_I (inS_f (by simp))) (fl2_tr (fl2_I (inS_c (by simp))) (fl2_tr (fl2_su c2 (by decide)) (fl2_su d2 (by decide))))))))))
  have r : ∀ c j, c ≠ 130 → c ≠ 133 → p11.1 c j = (sI (sI (sI (sI (sI (sI (sI (sI m 129 1 fol) 129 2 sk) 129 3 av) 129 4 0) 129 13 0) 129 14 0) 129 15 0) 131 0 0).1 c j := fun c j z1 z2 => by
    rw [fl2_i d2 (by simp [inS, z2]), fl2_i c2 (by simp [inS, z1])]
  have C11 : CxG P N W D pr sp fol sk av p11 := by
    refine ⟨AXm_fl hA f11 (by decide), ?_, ?_, ?_⟩
    · rw [r 129 1 (by decide) (by decide)]; simp [rd_I]
    · rw [r 129 2 (by decide) (by decide)]; simp [rd_I]
    · rw [r 129 3 (by decide) (by decide)]; simp [rd_I]
  unfold f_Joined_join_L61
  refine ok_for (4 * N) (fun V (s : Int32 × zM) => s.1 = nI V ∧ ∃ μ, TSX P N W opb xd V p11 s.2 0 μ) ⟨rfl, _, fl2_rf, fun _ => 0, fun _ => 0, fun _ => 0, fun _ => 0, fun _ => 0, fun _ => 0, fun _ => 0, fun _ => 0, 0, 0, 0, TJ_0 (fun _ => rfl) (fun _ => rfl), fun t h1 h2 => by omega, fun t h1 h2 => by omega, ⟨rfl, fun g hg => absurd hg (Nat.not_lt_zero _), fun g hg => absurd hg (Nat.not_lt_zero _), fun v hv => absurd rfl hv, fun i j hi => absurd hi (Nat.not_lt_zero _)⟩, ⟨fun v hv => ?_, fun i hi => absurd hi (Nat.not_lt_zero _), fun i hi => absurd hi (Nat.not_lt_zero _), ⟨?_, ?_, ?_, ?_⟩, fun g hg => ?_, fun i hi => absurd hi (Nat.not_lt_zero _)⟩, fun v hv => absurd hv (Nat.not_lt_zero _), rfl⟩ (Nat.zero_le _) ?_
  · refine ⟨?_, ?_, fun z => absurd rfl z⟩
    · show p11.1 133 v = nI 0 - 1
      rw [d1 v (show v < 2400 by omega)]; decide
    · show p11.1 130 v = nI 0 - 1
      rw [fl2_i d2 (by simp [inS]), c1 v (show v < 2400 by omega)]; decide
  · show p11.1 129 15 = nI 0
    rw [r 129 15 (by decide) (by decide)]; simp [rd_I]; rfl
  · show p11.1 129 14 = nI 0
    rw [r 129 14 (by decide) (by decide)]; simp [rd_I]; rfl
  · show p11.1 129 13 = nI 0
    rw [r 129 13 (by decide) (by decide)]; simp [rd_I]; rfl
  · show p11.1 129 4 = nI 0
    rw [r 129 4 (by decide) (by decide)]; simp [rd_I]; rfl
  · show p11.1 131 g = nI 0
    rw [show g = 0 by omega, r 131 0 (by decide) (by decide)]; simp [rd_I]; rfl
  rintro V ⟨x, m2⟩ - hV ⟨e, μ, f2, od, lw, gp, nx, wt, pt, sta, mem, wn, G, T, tj, i1, i2, mb, tm, vis, em⟩
  have e : x = nI V := e
  subst e
  have f2 : XFr p11 m2 := f2
  have tm : TXm P W (4 * N) od lw gp nx wt pt sta mem wn 0 G T m2 := tm
  obtain ⟨h1, h2, h3, ⟨h4, h5, h6, h7⟩, h8, h9⟩ := id tm
  obtain ⟨b3, b4⟩ := TJ_G tj i1 i2
  have C2 := CxG_fl C11 f2 (by decide) (by decide)
  unfold f_Joined_join_B61 f_Joined_join_J101
  have e24 : m2.1 24 0 * 4 = nI (4 * N) := by rw [C2.1.1.1.1, show (4 : Int32) = nI 4 from rfl, pk_mul, Nat.mul_comm]
  refine ok_le (4 * N) V (fun q => ok_mk ⟨fl2_tr f11 (fl2_su f2 (by decide)), C2, gp, sta, mem, G, JGr_of tj (fun v hv hv' => vis v (by omega) hv'), i1, b3, mb, by have := mbs_bd tj mb; omega, h7, fun v hv => (h1 v hv).2.1, h8, h9⟩) (fun q => ?_) (hx := e24)
  have V2 : V < 2400 := by omega
  have same : (opb V = true → od V ≠ 0) → ok (some (Sum.inr (nI V + 1, m2))) (lp (fun p => YFr m p ∧ CxG P N W D pr sp fol sk av p ∧ ∃ (gp sta mem : Nat → Nat) (G : Nat), JXm P N W opb xd gp sta mem G p) (fun s' : Int32 × zM => V < 4 * N ∧ s'.1 = nI (V + 1) ∧ ∃ μ, TSX P N W opb xd (V + 1) p11 s'.2 0 μ)) := by
    intro hs
    refine ok_mk ⟨q, nI_1 V, μ, f2, od, lw, gp, nx, wt, pt, sta, mem, wn, G, T, tj, i1, i2, mb, tm, fun v hv hv' => ?_, em⟩
    by_cases z : v = V
    · rw [z] at hv' ⊢; exact hs hv'
    · exact vis v (by omega) hv'
  have oT : od V ≤ T := by
    by_cases w : od V = 0
    · omega
    · exact (tj.1.1 V w).2.2
  refine ok_ix rfl V2 (by decide) ?_
  refine ok_mm (od V) (fun w => ?_) (fun w => same (fun _ => by omega)) (hx := (h1 V q).1)
  refine ok_eb (hNd m2 C2 V q) ?_
  refine ok_tf (fun eo => ?_) (fun eo => same (fun z => by rw [eo] at z; cases z))
  have nw := TJ_root tj w q eo
  obtain ⟨n1, n2⟩ := TJ_bd nw
  unfold f_Joined_goThrough
  refine ok_bi (G := fun p => ∃ μ', TSX P N W opb xd (V + 1) p11 p 0 μ') (ok_bi (enterX hN C2.1.2.2.1 tm q (by omega) (by omega)) (fun p ⟨c1, c2⟩ => ?_)) (fun p ⟨μ', a⟩ => ok_mk ⟨q, nI_1 V, μ', a⟩)
  refine throughX (V := V + 1) hN C11 hNx hXo ⟨fl2_tr f2 c1, _, _, gp, _, _, _, sta, mem, wn + 1, G, T + 1, nw, i1, inh_up i2 w, mb, c2, fun v hv hv' => ?_, rfl⟩ ?_
  · by_cases z : v = V
    · rw [z, upn_s]; omega
    · rw [upn_n z]; exact vis v (by omega) hv'
  · have := tjm_le (dg := dgx P W) (od := upn od V (T + 1)) (nx := upn nx V 0) (pn := 1) (k := 4 * N) (B := 64) (fun v _ => cn_le _ _)
    have : 4 * N * (64 + 1) ≤ 2400 * 65 := Nat.mul_le_mul (by omega) (Nat.le_refl _)
    omega
