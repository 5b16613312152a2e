theorem c_rule {a1 a2 : Int32} {mx mm : zM} (h : IvW mx mm) : Alk ((f_PA_rule a1 a2 mx).bind fun r => some (r, mx)) ((f_MO_rule a1 a2 mm).bind fun r => some (r, mm)) := by
  refine Alk_b ?_
  unfold f_PA_rule f_MO_rule
  obtain ⟨hc, hn | ⟨P, N, W, D, pr, sp, b, ht⟩⟩ := id h
  · unfold f_PA_isRule
    rw [if_pos hn.1, if_pos hn.2.1]
    exact ok_mk (ok_mk ⟨rfl, h⟩)
  · have h1 := ht.1.1.1
    have h2 := ht.1.2.1
    have p8 := h1.1.2.2.2.2.2.2.2.2.2.2.1
    have tm := ht.2.1.2.1
    rw [if_neg (by rw [ht.2.1.1]; decide), rulesM tm, Option.bind_some]
    have sm : ∀ {K : Int32 → Prop}, ok (some (-1 : Int32)) K → K (-1) := fun ⟨a, e, z⟩ => by cases e; exact z
    have fin : ∀ r : Int32, ok (if f_MO_isIn a1.toInt64 0 ((nI (P 8) - 1).toInt64) = true then if f_MO_isIn a2.toInt64 0 7 = true then (f_MO_ruleOf a1 a2 mm).bind fun r2 => some r2 else some (-1) else some (-1)) (fun r' => r = r') → ok ((if f_MO_isIn a1.toInt64 0 ((nI (P 8) - 1).toInt64) = true then if f_MO_isIn a2.toInt64 0 7 = true then (f_MO_ruleOf a1 a2 mm).bind fun r2 => some r2 else some (-1) else some (-1)).bind fun r => some (r, mm)) (fun q => r = q.1 ∧ IvW mx q.2) := fun r z => ok_bi z (fun r' e => ok_mk ⟨e, h⟩)
    refine ok_bi (isRuT ht.1) (fun r hr => ok_it (fun q => ?_) (fun q => ok_mk (fin _ (ok_in (fun y => q (hr.mpr ((isIn_n (by omega)).mp y))) (ok_mk rfl)))))
    obtain ⟨i, hi, e⟩ := hr.mp q
    subst e
    refine ok_eb (tb_ok h2.2.1 h2.1) (ok_ix rfl (by omega : i < 16) (by decide) (ok_mk (fin _ (ok_ip ((isIn_n (by omega)).mpr ⟨i, hi, rfl⟩) ?_))))
    have hF := tV_F h1 hi
    have hX := ht.1.2.2.2.1.2.2.1 i hi
    rcases num_or a2 8 with ⟨k, hk, e⟩ | e
    · rw [(isIn_c (n := 8) (by decide) (by decide)).mpr ⟨k, hk, e⟩]
      subst e
      refine ok_ip rfl (ok_eb (ruleM (tM_r tm hi) (by omega) hk) (ok_mk ?_))
      have as : ∀ x, x ≤ 1 → f_PA_asNumber (nI x) = nI x := fun x hx => by
        rcases (show x = 0 ∨ x = 1 by omega) with z | z <;> rw [z] <;> decide
      unfold f_Row_told
      rcases (show k = 0 ∨ k = 1 ∨ k = 2 ∨ k = 3 ∨ k = 4 ∨ k = 5 ∨ k = 6 ∨ k = 7 by omega) with z | z | z | z | z | z | z | z <;> subst z
      · rw [if_pos (by decide), hX 0 (by omega)]; exact as _ hF.1
      · rw [if_neg (by decide), if_pos (by decide), hX 1 (by omega)]
      · rw [if_neg (by decide), if_neg (by decide), if_pos (by decide), hX 2 (by omega)]
      · rw [if_neg (by decide), if_neg (by decide), if_neg (by decide), if_pos (by decide), hX 3 (by omega)]
      · rw [if_neg (by decide), if_neg (by decide), if_neg (by decide), if_neg (by decide), if_pos (by decide), hX 4 (by omega)]
      · rw [if_neg (by decide), if_neg (by decide), if_neg (by decide), if_neg (by decide), if_neg (by decide), if_pos (by decide), hX 5 (by omega)]
      · rw [if_neg (by decide), if_neg (by decide), if_neg (by decide), if_neg (by decide), if_neg (by decide), if_neg (by decide), if_pos (by decide), hX 6 (by omega)]
      · rw [if_neg (by decide), if_neg (by decide), if_neg (by decide), if_neg (by decide), if_neg (by decide), if_neg (by decide), if_neg (by decide), if_pos (by decide), hX 7 (by omega)]
        exact as _ hF.2.2.2.2.2.2.2
    · rw [isIn_d (n := 8) (by decide) (by decide) e]
      refine ok_in Bool.false_ne_true (ok_mk ?_)
      unfold f_Row_told
      rw [if_neg (show ¬ a2 = 0 from e 0 (by omega)), if_neg (show ¬ a2 = 1 from e 1 (by omega)), if_neg (show ¬ a2 = 2 from e 2 (by omega)), if_neg (show ¬ a2 = 3 from e 3 (by omega)), if_neg (show ¬ a2 = 4 from e 4 (by omega)), if_neg (show ¬ a2 = 5 from e 5 (by omega)), if_neg (show ¬ a2 = 6 from e 6 (by omega)), if_neg (show ¬ a2 = 7 from e 7 (by omega))]
theorem c_has {a1 : Int32} {mx mm : zM} (h : IvW mx mm) : Alk ((f_PA_has a1 mx).bind fun r => some (r, mx)) (f_MO_has a1 mm) := by
  refine Alk_b ?_
  unfold f_PA_has f_MO_has
  rcases num_or a1 14 with ⟨k, hk, e⟩ | e
  · refine ok_in (by rw [e]; exact nI_pos (by omega)) (ok_ip (by rw [e]; exact (nI_leI (b := 13) (by omega) (by omega)).mpr (by omega)) ?_)
    rw [if_pos ((isIn_c (n := 14) (by decide) (by decide)).mpr ⟨k, hk, e⟩)]
    refine aqry (v := 0) h (fun P N W D pr sp b p hq => ?_)
    obtain ⟨hc, ht, z2, z3, z4⟩ := id hq
    obtain ⟨⟨h1, h2, h3, h4, h5, h6, h7⟩, r0, g1, g2, g3, g4, g5⟩ := ht.1
    have p8 := h1.1.2.2.2.2.2.2.2.2.2.2.1
    have eT := tb_ok r0.2.1 r0.1
    have sF : ∀ j, j < 4 → ok (f_MO_sumOf (nI j) p.2) (fun q => IvW mx q.2 ∧ q.1 = sumI (smF P 16 N W j) N) := fun j hj => ok_mo (sumOfM h1 z3 z4.2.1 hj) (fun q ⟨y1, y2⟩ => ⟨Qy_s hq y1 (by decide) (by decide) (by decide) (by decide) (by decide), y2⟩)
    subst e
    rcases (show k = 0 ∨ k = 1 ∨ k = 2 ∨ k = 3 ∨ k = 4 ∨ k = 5 ∨ k = 6 ∨ k = 7 ∨ k = 8 ∨ k = 9 ∨ k = 10 ∨ k = 11 ∨ k = 12 ∨ k = 13 by omega) with z | z | z | z | z | z | z | z | z | z | z | z | z | z <;> subst z
    · repeat (refine ok_in (by decide) ?_)
      refine ok_ip (by decide) (ok_eb eT (ok_mk ?_))
      repeat (refine ok_in (by decide) ?_)
      refine ok_ip (by decide) (ok_eb (agM (tM_n z3 (by decide) (by decide))) (ok_mk ⟨g2.1.1, Qy_i hq⟩))
    · repeat (refine ok_in (by decide) ?_)
      refine ok_ip (by decide) (ok_eb eT (ok_ix (i := 0) rfl (by decide) (by decide) (ok_mk ?_)))
      repeat (refine ok_in (by decide) ?_)
      refine ok_ip (by decide) ?_
      unfold f_MO_has_J97
      exact ok_ix (i := 0) (by decide) (by decide) (by decide) (ok_mk ⟨(g2.2.1 0 (by omega)).trans (tM_n z3 (k := 0) (by decide) (by decide)).symm, Qy_i hq⟩)
    · repeat (refine ok_in (by decide) ?_)
      refine ok_ip (by decide) (ok_eb eT (ok_ix (i := 1) rfl (by decide) (by decide) (ok_mk ?_)))
      repeat (refine ok_in (by decide) ?_)
      refine ok_ip (by decide) ?_
      unfold f_MO_has_J97
      exact ok_ix (i := 1) (by decide) (by decide) (by decide) (ok_mk ⟨(g2.2.1 1 (by omega)).trans (tM_n z3 (k := 1) (by decide) (by decide)).symm, Qy_i hq⟩)
    · repeat (refine ok_in (by decide) ?_)
      refine ok_ip (by decide) (ok_eb eT (ok_ix (i := 2) rfl (by decide) (by decide) (ok_mk ?_)))
      repeat (refine ok_in (by decide) ?_)
      refine ok_ip (by decide) ?_
      unfold f_MO_has_J97
      exact ok_ix (i := 2) (by decide) (by decide) (by decide) (ok_mk ⟨(g2.2.1 2 (by omega)).trans (tM_n z3 (k := 2) (by decide) (by decide)).symm, Qy_i hq⟩)
    · repeat (refine ok_in (by decide) ?_)
      refine ok_ip (by decide) (ok_eb eT (ok_mk ?_))
      repeat (refine ok_in (by decide) ?_)
      refine ok_ip (by decide) (ok_eb (rulesM z3) (ok_mk ⟨g2.1.2.2.1, Qy_i hq⟩))
    · repeat (refine ok_in (by decide) ?_)
      refine ok_ip (by decide) (ok_mk ?_)
      repeat (refine ok_in (by decide) ?_)
      refine ok_ip (by decide) (ok_mk ⟨g3.1.1.1.trans z4.2.1.2.2.2.1.1.symm, Qy_i hq⟩)
    · repeat (refine ok_in (by decide) ?_)
      refine ok_ip (by decide) (ok_eb (allWorldsX g3 h3) (ok_mk ?_))
      repeat (refine ok_in (by decide) ?_)
      refine ok_ip (by decide) (ok_bi (sF 0 (by decide)) (fun q y => ok_mk ⟨?_, y.1⟩))
      rw [y.2]; rfl
    · repeat (refine ok_in (by decide) ?_)
      refine ok_ip (by decide) (ok_ix (i := N - 1) (by rw [g3.1.1.1]; exact nI_pr h2) (by omega) (by decide) (ok_mk ?_))
      repeat (refine ok_in (by decide) ?_)
      refine ok_ip (by decide) (ok_ix (i := N - 1) (by rw [z4.2.1.2.2.2.1.1]; exact nI_pr h2) (by omega) (by decide) (ok_mk ⟨?_, Qy_i hq⟩))
      rw [(g3.1.2.1 (N - 1) (by omega)).2.1, (z4.2.1.2.2.2.1.2.1 (N - 1) (by omega)).2]
    · repeat (refine ok_in (by decide) ?_)
      refine ok_ip (by decide) (ok_eb (allMovesX (q := fun _ => true) h1 h3 h4 g3 (Or.inl ⟨rfl, fun _ => rfl⟩)) (ok_mk ?_))
      repeat (refine ok_in (by decide) ?_)
      refine ok_ip (by decide) ?_
      unfold f_MO_has_J136
      refine ok_bi (sF 1 (by decide)) (fun q y => ok_mk ⟨?_, y.1⟩)
      rw [y.2]
      refine sumI_cg (fun i hi => ?_)
      unfold smF
      rw [if_neg (by decide), if_pos rfl, cn_nx (w := 0) p8, cn_all]
    · repeat (refine ok_in (by decide) ?_)
      refine ok_ip (by decide) (ok_eb (allBadX g3 h3) (ok_mk ?_))
      repeat (refine ok_in (by decide) ?_)
      refine ok_ip (by decide) ?_
      unfold f_MO_has_J136
      refine ok_bi (sF 2 (by decide)) (fun q y => ok_mk ⟨?_, y.1⟩)
      rw [y.2]; rfl
    · repeat (refine ok_in (by decide) ?_)
      refine ok_ip (by decide) (ok_eb (allStuckX g3 h3) (ok_mk ?_))
      repeat (refine ok_in (by decide) ?_)
      refine ok_ip (by decide) ?_
      unfold f_MO_has_J136
      refine ok_bi (sF 3 (by decide)) (fun q y => ok_mk ⟨?_, y.1⟩)
      rw [y.2]
      refine sumI_cg (fun i hi => ?_)
      unfold smF
      rw [if_neg (show ¬ 3 = 0 by decide), if_neg (show ¬ 3 = 1 by decide), if_neg (show ¬ 3 = 2 by decide), cn_nx (w := 0) p8]
    · repeat (refine ok_in (by decide) ?_)
      refine ok_ip (by decide) (ok_mk ?_)
      repeat (refine ok_in (by decide) ?_)
      refine ok_ip (by decide) (ok_bi (partManyM h1 z4.2.1) (fun q y => ok_mk ⟨?_, ?_⟩))
      · exact g4.1.1.trans y.2.1.symm
      · exact Qy_s hq y.1 (by decide) (by decide) (by decide) (by decide) (by decide)
    · obtain ⟨_, k', q', tr, _, _, w1, w2, _⟩ := ht.2.2.1
      repeat (refine ok_in (by decide) ?_)
      refine ok_ip (by decide) (ok_mk ?_)
      repeat (refine ok_in (by decide) ?_)
      refine ok_ip (by decide) (ok_mk ⟨?_, Qy_i hq⟩)
      rw [fl2_i z2 (by decide), w1, w2]
    · obtain ⟨r, s, st, mn, _, _, _, w1, _, w2, _⟩ := ht.2.2.2
      repeat (refine ok_in (by decide) ?_)
      refine ok_mk ?_
      repeat (refine ok_in (by decide) ?_)
      refine ok_mk ⟨?_, Qy_i hq⟩
      rw [fl2_i z2 (by decide), w1, w2]
  · rw [isIn_d (n := 14) (by decide) (by decide) e]
    rcases rng_f (n := 14) (by omega) e with s | s
    · exact ok_ip s (ok_mk (ok_in Bool.false_ne_true (Alk_k h)))
    · refine ok_it (fun _ => ok_mk (ok_in Bool.false_ne_true (Alk_k h))) (fun _ => ok_in (fun y => ?_) (ok_mk (ok_in Bool.false_ne_true (Alk_k h))))
      exact absurd (Int32.le_trans s y) (by decide)
