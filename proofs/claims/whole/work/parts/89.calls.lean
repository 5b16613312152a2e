theorem c_agent {a1 a2 a3 : Int32} {mx mm : zM} (h : IvW mx mm) : Alk ((f_PA_agent a1 a2 a3 mx).bind fun r => some (r, mx)) (f_MO_agent a1 a2 a3 mm) := by
  refine Alk_b ?_
  unfold f_PA_agent f_MO_agent
  refine wqry h (fun P N W D pr sp b i p hq hi e => ?_)
  obtain ⟨hc, ht, z2, z3, z4⟩ := id hq
  obtain ⟨⟨h1, h2, h3, h4, h5, h6, h7⟩, r0, g1, g2, g3, g4, g5⟩ := ht.1
  have p8 := h1.1.2.2.2.2.2.2.2.2.2.2.1
  have p3 := h1.1.2.1
  subst e
  have hM := z4.2.1.2.2.2.1.2.1 i hi
  have hkv := (W_kv h1 h4 hi).1
  have eg := agM (tM_n z3 (k := 3) (by decide) (by decide))
  refine ok_bi (isAgT ht.1) (fun r hr => ok_it (fun q => ?_) (fun q => ok_mk (ok_eb eg (ok_in (fun y => q (hr.mpr ((isIn_n (by omega)).mp y))) (ok_mk ⟨rfl, Qy_i hq⟩)))))
  obtain ⟨a, ha, e⟩ := hr.mp q
  subst e
  have ev : nI i * 4 + nI a = nI (4 * i + a) := nI_4
  have em := (isIn_n (n := P 3) (x := nI a) (by omega)).mpr ⟨a, ha, rfl⟩
  have hd := g4.2 (4 * i + a) (by omega)
  have hg := (g3.2.1 i hi).2.2 a ha
  rcases num_or a3 6 with ⟨k, hk, e⟩ | e
  · have e6 := (isIn_c (n := 6) (x := a3) (hi := 5) (by decide) (by decide)).mpr ⟨k, hk, e⟩
    subst e
    have ag : ∀ k, k < 4 → f_PA_held (nI (da (P 3) (W i) a)) (nI k) = (if k = 0 then nI (oS (da (P 3) (W i) a)) else if k = 1 then nI (o1 (da (P 3) (W i) a)) - 1 else if k = 2 then nI (o2 (da (P 3) (W i) a)) - 1 else nI (o3 (da (P 3) (W i) a)) - 1) := by
      intro k hk
      have dl := da_lt (P 3) (W i) a
      rcases (show k = 0 ∨ k = 1 ∨ k = 2 ∨ k = 3 by omega) with z | z | z | z <;> subst z
      · exact hd0 dl
      · exact hd1 dl
      · exact hd2 dl
      · exact hd3 dl
    rcases Nat.lt_or_ge k 4 with hk4 | hk4
    · have n4 : nI k ≠ 4 := fun z => by have := (nI_eq (a := k) (b := 4) (by omega) (by omega)).mp z; omega
      have n5 : nI k ≠ 5 := fun z => by have := (nI_eq (a := k) (b := 5) (by omega) (by omega)).mp z; omega
      refine ok_in n4 (ok_in n5 (ok_ix ev (by omega) (by decide) (ok_mk ?_)))
      rw [hg.1, ag k hk4]
      refine ok_eb eg (ok_ip em (ok_ip e6 (ok_ip ((nI_leI (b := 3) (by omega) (by omega)).mpr (by omega)) (ok_ix rfl (by omega : i < 608) (by decide) ?_))))
      rw [hM.1]
      refine ok_bi (opensK hkv) (fun m' y => ?_)
      have iv : IvW mx m' := Qy_s hq y.1 (by decide) (by decide) (by decide) (by decide) (by decide)
      have ms := ms_S _ (da_lt (P 3) (W i) a)
      have e25 := wM_a y.2 ha (by omega)
      refine ok_bi (G := fun r => r = (if k = 0 then nI (oS (da (P 3) (W i) a)) else if k = 1 then nI (o1 (da (P 3) (W i) a)) - 1 else if k = 2 then nI (o2 (da (P 3) (W i) a)) - 1 else nI (o3 (da (P 3) (W i) a)) - 1)) ?_ (fun r er => ok_mk ⟨er.symm, iv⟩)
      unfold f_MO_agentHas
      refine ok_ix rfl (by omega : a < 4) (by decide) ?_
      rw [e25, ms.1, ms.2.1, ms.2.2.1, ms.2.2.2.1]
      rcases (show k = 0 ∨ k = 1 ∨ k = 2 ∨ k = 3 by omega) with z | z | z | z <;> subst z
      · exact ok_ip rfl (ok_mk rfl)
      · exact ok_in (by decide) (ok_ip rfl (ok_mk rfl))
      · exact ok_in (by decide) (ok_in (by decide) (ok_ip rfl (ok_mk rfl)))
      · exact ok_in (by decide) (ok_in (by decide) (ok_in (by decide) (ok_mk rfl)))
    · rcases (show k = 4 ∨ k = 5 by omega) with z | z <;> subst z
      · refine ok_ip (by decide) (ok_ix ev (by omega) (by decide) (ok_mk ?_))
        rw [hd.1]
        refine ok_eb eg (ok_ip em (ok_ip e6 (ok_in (by decide) (ok_bi (looksM h1 z3 z4.2.1 z4.2.2) (fun m' y => ok_ip (by decide) ?_)))))
        refine ok_bi (wantM h1 (tM_fl z3 y.1 (by decide)) (LMx_fl z4.2.1 y.1 (by decide) (by decide)) y.2.1 hi ha).1 (fun q' y' => ?_)
        have iv : IvW mx q'.2 := Qy_l hq (fl2_tr y.1 (fl2_su y'.1 (by decide))) (LKm_fl y.2.1 y'.1 (by decide))
        rw [y'.2]
        cases stvB P 16 N W (4 * i + a) with
        | true => exact ok_ip rfl (ok_mk ⟨as_t, iv⟩)
        | false => exact ok_in Bool.false_ne_true (ok_mk ⟨as_f, iv⟩)
      · refine ok_in (by decide) (ok_ip (by decide) (ok_ix ev (by omega) (by decide) (ok_mk ?_)))
        rw [hd.2, lefB_Q p8]
        refine ok_eb eg (ok_ip em (ok_ip e6 (ok_in (by decide) (ok_bi (looksM h1 z3 z4.2.1 z4.2.2) (fun m' y => ok_in (by decide) ?_)))))
        refine ok_bi (wantM h1 (tM_fl z3 y.1 (by decide)) (LMx_fl z4.2.1 y.1 (by decide) (by decide)) y.2.1 hi ha).2 (fun q' y' => ?_)
        have iv : IvW mx q'.2 := Qy_l hq (fl2_tr y.1 (fl2_su y'.1 (by decide))) (LKm_fl y.2.1 y'.1 (by decide))
        rw [y'.2]
        cases cBo (P 6 ≠ 0 ∧ instA P W (4 * i + a) (P 6 - 1) = true ∧ lefoQ P 16 N W (fln P W (4 * i + a))) with
        | true => exact ok_ip rfl (ok_mk ⟨as_t, iv⟩)
        | false => exact ok_in Bool.false_ne_true (ok_mk ⟨as_f, iv⟩)
  · refine ok_in (e 4 (by omega)) (ok_in (e 5 (by omega)) (ok_ix ev (by omega) (by decide) (ok_mk ?_)))
    have hh : f_PA_held (mx.1 34 (4 * i + a)) a3 = -1 := by
      unfold f_PA_held
      rw [if_neg (show ¬ a3 = 0 from e 0 (by omega)), if_neg (show ¬ a3 = 1 from e 1 (by omega)), if_neg (show ¬ a3 = 2 from e 2 (by omega)), if_neg (show ¬ a3 = 3 from e 3 (by omega))]
    rw [hh]
    exact ok_eb eg (ok_ip em (ok_in (by rw [isIn_d (n := 6) (by decide) (by decide) e]; decide) (ok_mk ⟨rfl, Qy_i hq⟩)))
theorem c_starving {a1 : Int32} {mx mm : zM} (h : IvW mx mm) : Alk ((f_PA_starving a1 mx).bind fun r => some (r, mx)) (f_MO_starving a1 mm) := by
  refine Alk_b ?_
  unfold f_PA_starving f_MO_starving
  refine aqry (v := -1) h (fun P N W D pr sp b p hq => ?_)
  obtain ⟨hc, ht, z2, z3, z4⟩ := id hq
  obtain ⟨⟨h1, h2, h3, h4, h5, h6, h7⟩, r0, g1, g2, g3, g4, g5⟩ := ht.1
  have p8 := h1.1.2.2.2.2.2.2.2.2.2.2.1
  have p3 := h1.1.2.1
  have inst : ∀ v s, instA P W v s = true → v % 4 < P 3 := fun v s z => by
    unfold instA at z
    rw [Bool.and_eq_true] at z
    exact of_decide_eq_true z.1
  have hw := wantAllM (what := a1) h1 z3 z4.2.1 z4.2.2
  rcases num_or a1 2 with ⟨k, hk, e⟩ | e
  · have e6 := (isIn_c (n := 2) (x := a1) (hi := 1) (by decide) (by decide)).mpr ⟨k, hk, e⟩
    subst e
    rcases (show k = 0 ∨ k = 1 by omega) with z | z <;> subst z
    · refine ok_ip (by decide) (ok_eb (agentsWX (B := stvB P 16 N W) g3 h3 (Or.inl rfl) (fun v hv => (g4.2 v hv).1)) (ok_mk (ok_ip e6 (ok_bi hw (fun q y => ok_mk ⟨?_, Qy_l hq y.1 y.2.1⟩)))))
      rw [y.2.2.2, sumI_4 (n := P 3) (t := fun i => timesOf P (W i)) (by omega) (fun v hv => inst v _ (cBo_iff.mp hv).2.1)]
      refine sumI_cg (fun i hi => ?_)
      unfold wnB
      rfl
    · refine ok_in (by decide) (ok_ip (by decide) (ok_eb (agentsWX (B := lefB P N W) g3 h3 (Or.inr rfl) (fun v hv => (g4.2 v hv).2)) (ok_mk (ok_ip e6 (ok_bi hw (fun q y => ok_mk ⟨?_, Qy_l hq y.1 y.2.1⟩))))))
      rw [y.2.2.2, sumI_4 (n := P 3) (t := fun i => timesOf P (W i)) (by omega) (fun v hv => inst v _ (cBo_iff.mp hv).2.1)]
      refine sumI_cg (fun i hi => ?_)
      show timesOf P (W i) * nI (cn (fun a => lefB P N W (4 * i + a)) (P 3)) = timesOf P (W i) * nI (cn (fun a => wnB P 16 N W (nI 1) (4 * i + a)) (P 3))
      congr 2
      refine cn_cg (fun a _ => ?_)
      rw [lefB_Q p8]
      unfold wnB
      rw [if_neg (by decide)]
  · exact ok_in (e 0 (by omega)) (ok_in (e 1 (by omega)) (ok_mk (ok_in (by rw [isIn_d (n := 2) (by decide) (by decide) e]; decide) (ok_mk ⟨rfl, Qy_i hq⟩))))
