theorem c_way {a1 a2 a3 : Int32} {mx mm : zM} (h : IvW mx mm) : Alk ((f_PA_way a1 a2 a3 mx).bind fun r => some (r, mx)) (f_MO_way a1 a2 a3 mm) := by
  refine Alk_b ?_
  unfold f_PA_way f_MO_way
  refine wqry h (fun P N W D pr sp b t p hq htN e => ?_)
  obtain ⟨hc, ht, z2, z3, z4⟩ := id hq
  obtain ⟨⟨h1, h2, h3, h4, h5, h6, h7⟩, r0, g1, g2, g3, g4, g5⟩ := ht.1
  subst e
  have hM := z4.2.1.2.2.2.1.2.1 t htN
  have hX := g3.1.2.1 t htN
  obtain ⟨ow, fk, dp, pa, st, sg, hI, hS, hW⟩ := h7.1
  have hW2 : ∀ i, i < N → W i = fk (sg i) ∧ D i = dp (sg i) := fun i hi => ⟨(hW i hi).1, (hW i hi).2.1⟩
  have dl : D t < 2 ^ 30 := by
    have := Rn_lt hI.1 (Nat.le_refl _) (sg t) (hS.1 t htN)
    rw [(hW2 t htN).2]
    omega
  refine ok_ix rfl (by omega : t < 600) (by decide) ?_
  rw [hX.2.1]
  refine ok_it (fun q => ?_) (fun q => ?_)
  · refine ok_it (fun q' => ok_mk (ok_ip q (ok_ip q' (ok_ix rfl (by omega : t < 608) (by decide) (ok_mk ⟨hM.2.symm, Qy_i hq⟩))))) (fun q' => ok_mk (ok_ip q (ok_in q' (ok_mk ⟨rfl, Qy_i hq⟩))))
  · rcases num_or a2 (D t) with ⟨k, hk, e⟩ | e
    · subst e
      refine ok_in (nI_pos (by omega)) (ok_ip ((nI_ltI (by omega) (by omega)).mpr hk) ?_)
      have em := (isIn_n (n := D t) (x := nI k) dl).mpr ⟨k, hk, rfl⟩
      have eb : nI (D t) - 1 - nI k = nI (D t - 1 - k) := by rw [nI_pr (by omega), pk_sub (by omega)]
      have hs : st (ubk pa (sg t) (D t - 1 - k)) < 64 := (ubk_st hI (hS.1 t htN) (by rw [← (hW2 t htN).2]; omega)).1
      rw [eb]
      refine ok_eb (stepToX g3 h3 hI hS hW htN (by omega)) ?_
      have m0 : ∀ v3 : Int32, (v3 = 0 ∨ v3 = 1) → ok (if nI k = -1 then if v3 = 0 then (ix 608 (nI t)).bind fun i5 => some (p.2.1 28 i5, p.2) else some (-1, p.2) else (ix 608 (nI t)).bind fun i2 => if f_MO_isIn (nI k).toInt64 0 ((p.2.1 28 i2 - 1).toInt64) = true then if f_MO_isIn v3.toInt64 0 1 = true then (f_MO_measures (nI t) p.2).bind fun p3 => (ix 608 0).bind fun i4 => f_MO_way_L79 (nI t) (nI k) v3 (p3.2.1 27 i4) (-1) 0 p3 else some (-1, p.2) else some (-1, p.2)) (fun q => (if v3 = 0 then nI (st (ubk pa (sg t) (D t - 1 - k)) / 4) else nI (st (ubk pa (sg t) (D t - 1 - k)) % 4)) = q.1 ∧ IvW mx q.2) := by
        intro v3 hv
        refine ok_in q (ok_ix rfl (by omega : t < 608) (by decide) (ok_ip (by rw [hM.2]; exact em) (ok_ip ?_ ?_)))
        · rcases hv with z | z <;> rw [z] <;> decide
        · refine ok_bi (measuresM z4.2.1 htN) (fun m' ⟨y, fr, hf⟩ => ok_ix (i := 0) rfl (by decide) (by decide) ?_)
          have L1 := LMx_fl z4.2.1 y (by decide) (by decide)
          rw [(L1.2.2.2.1.2.1 0 h2).1, (W_0 h4 h2).1]
          refine ok_mo (wayLM (v3 := v3) h1 (tM_fl z3 y (by decide)) L1 hf hI hS hW2 htN hk) (fun q w => ⟨w.2.symm, ?_⟩)
          exact Qy_s hq (S := [25, 26, 50]) (F := [(0, 36), (0, 38)]) (fl2_tr (fl2_su y (by decide)) (fl2_su w.1 (by decide))) (by decide) (by decide) (by decide) (by decide) (by decide)
      refine ok_it (fun q' => ok_mk ?_) (fun q' => ok_it (fun q2 => ok_mk ?_) (fun q2 => ok_mk ?_))
      · have := m0 a3 (Or.inl q')
        rw [show nI (st (ubk pa (sg t) (D t - 1 - k))) / 4 = nI (st (ubk pa (sg t) (D t - 1 - k)) / 4) from pk_div (d := 4) (by omega) (by decide) (by decide)]
        exact ok_mo this (fun q y => ⟨by rw [← y.1, if_pos q'], y.2⟩)
      · have := m0 a3 (Or.inr q2)
        rw [show ir (nI (st (ubk pa (sg t) (D t - 1 - k)))) 4 = nI (st (ubk pa (sg t) (D t - 1 - k)) % 4) from pk_rem (d := 4) (by omega) (by decide) (by decide)]
        exact ok_mo this (fun q y => ⟨by rw [← y.1, if_neg q'], y.2⟩)
      · refine ok_in q (ok_ix rfl (by omega : t < 608) (by decide) (ok_ip (by rw [hM.2]; exact em) (ok_in ?_ (ok_mk ⟨rfl, Qy_i hq⟩))))
        rw [isIn_d (n := 2) (by decide) (by decide) (fun j hj => ?_)]
        · decide
        · rcases (show j = 0 ∨ j = 1 by omega) with z | z <;> rw [z]
          · exact q'
          · exact q2
    · have no : ok (if a2 = -1 then if a3 = 0 then (ix 608 (nI t)).bind fun i5 => some (p.2.1 28 i5, p.2) else some (-1, p.2) else (ix 608 (nI t)).bind fun i2 => if f_MO_isIn a2.toInt64 0 ((p.2.1 28 i2 - 1).toInt64) = true then if f_MO_isIn a3.toInt64 0 1 = true then (f_MO_measures (nI t) p.2).bind fun p3 => (ix 608 0).bind fun i4 => f_MO_way_L79 (nI t) a2 a3 (p3.2.1 27 i4) (-1) 0 p3 else some (-1, p.2) else some (-1, p.2)) (fun q => (-1 : Int32) = q.1 ∧ IvW mx q.2) := by
        refine ok_in q (ok_ix rfl (by omega : t < 608) (by decide) (ok_in ?_ (ok_mk ⟨rfl, Qy_i hq⟩)))
        rw [hM.2, isIn_f dl e]
        decide
      rcases rng_f (n := D t) (by omega) e with s | s
      · exact ok_ip s (ok_mk no)
      · exact ok_it (fun _ => ok_mk no) (fun _ => ok_in (fun y => Int32.lt_irrefl (Int32.lt_of_lt_of_le y s)) (ok_mk no))
