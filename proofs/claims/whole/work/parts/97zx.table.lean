theorem CoR_t {mx mx' mm mm' : zM} {S S' : List Nat} {F F' : List (Nat × Nat)} (h : CoR mx mm) (hf : fl2 S F mx mx') (hf' : fl2 S' F' mm mm') (e1 : mx'.1 1 1 = nI 0) (e2 : mm'.1 0 1 = nI 0) (e7 : mx'.1 65 7 = mm'.1 0 7) (e8 : mx'.1 65 8 = mm'.1 0 8) (hk : kps [4, 64] [(0, 15), (3, 1), (5, 1)] S F = true) (hk' : kps [2, 56] [(0, 76), (0, 83)] S' F' = true) (k4 : kps [3, 4, 5, 6, 7, 8, 9, 10, 11, 12, 13, 14, 15, 16, 17, 18, 19, 20, 21] [] S' F' = true := by decide) : CoR mx' mm' := by
  obtain ⟨h1, h2, h3, h4, h5⟩ := h
  refine ⟨⟨0, by omega, e1, e2, fun j hj => absurd hj (Nat.not_lt_zero _)⟩, ?_, ⟨e7, e8, ?_, WdM_f h3.2.2.2 hf' k4⟩, ?_, ?_⟩
  · rw [show mm'.1 2 = mm.1 2 from fl2_ic hf' (kps_c hk' (by simp)), show mx'.1 64 = mx.1 64 from fl2_ic hf (kps_c hk (by simp))]; exact h2
  · rw [show mx'.1 5 1 = mx.1 5 1 from fl2_i hf (kps_g hk (by simp))]; exact h3.2.2.1
  · rw [show mm'.2.1 0 76 = mm.2.1 0 76 from fl2_j hf' (kps_g hk' (by simp)), show mx'.2.1 0 15 = mx.2.1 0 15 from fl2_j hf (kps_g hk (by simp))]; exact h4
  · rw [show mm'.1 0 83 = mm.1 0 83 from fl2_i hf' (kps_g hk' (by simp)), show mm'.1 56 = mm.1 56 from fl2_ic hf' (kps_c hk' (by simp)), show mx'.1 3 1 = mx.1 3 1 from fl2_i hf (kps_g hk (by simp)), show mx'.1 4 = mx.1 4 from fl2_ic hf (kps_c hk (by simp))]; exact h5
theorem why_u {n : Nat} {R : PRs} {c q c' q' : Nat} (h : whyN n R c q) (h' : whyN n R c' q') : c = c' ∧ q = q' := by
  rcases h with e | ⟨s, P, e, _, a, b⟩
  · rcases h' with e' | ⟨s', P', e', _, a', b'⟩
    · rw [e] at e'
      have := Sum.inl.inj e'
      exact ⟨(Prod.mk.inj this).1, (Prod.mk.inj this).2⟩
    · rw [e] at e'; cases e'
  · rcases h' with e' | ⟨s', P', e', _, a', b'⟩
    · rw [e] at e'; cases e'
    · exact ⟨a.trans a'.symm, b.trans b'.symm⟩
theorem tX_d {S : List Nat} {F : List (Nat × Nat)} {b : Nat} {P : Nat → Nat} {m m' : zM} (h : tX b P m) (hf : fl2 S F m m') (ho : kps (dsL b) [] S F = true) (hr : P 8 ≤ 16) : tX b P m' := by
  have k : ∀ c, c < 23 → m'.1 (b + c) = m.1 (b + c) := fun c hc => fl2_ic hf (kps_c ho (by unfold dsL; simp; omega))
  have k0 := k 0 (by decide)
  obtain ⟨h1, h2, h3, h4, h5⟩ := h
  unfold tX
  rw [show m'.1 b = m.1 b from k0, k 1 (by decide), k 2 (by decide), k 4 (by decide), k 5 (by decide), k 6 (by decide)]
  refine ⟨h1, h2, fun r hr' k' hk' => ?_, h4, h5⟩
  rw [show b + 7 + r = b + (7 + r) by omega, k (7 + r) (by omega), show b + (7 + r) = b + 7 + r by omega]
  exact h3 r hr' k' hk'
theorem tc_1 {b : Nat} (hb : tbv b) : kps (dsL b) [] (tbS b) tbF = true ∧ kps [26, 27, 28, 29, 30, 31, 32, 33, 34, 35, 36, 37] [(24, 0), (24, 1)] (tbS b) tbF = true ∧ kps [117, 118, 119, 120] [(116, 3)] (tbS b) tbF = true ∧ kps [122, 123] [] (tbS b) tbF = true ∧ kps [127, 128] [(0, 13)] (tbS b) tbF = true ∧ kps [55, 56, 63] [(0, 14)] (tbS b) tbF = true ∧ kps [49, 50, 53] [(48, 2), (48, 3), (48, 7), (48, 8)] (tbS b) tbF = true ∧ kps [4, 64] [(0, 15), (3, 1), (5, 1)] (tbS b) tbF = true := by
  rcases hb with e | e <;> subst e <;> decide
theorem tc_2 {b : Nat} (hb : tbv b) : kps [4, 64] [(0, 15), (3, 1), (5, 1)] (tbS b ++ taS) (tbF ++ taF) = true := by
  rcases hb with e | e <;> subst e <;> decide
theorem c_table {mx mm : zM} (h : IvW mx mm) : Alk (f_PA_table mx) (f_MO_table mm) := by
  obtain ⟨hc, hq⟩ := h
  obtain ⟨n, g, hn, hT, n2, hB⟩ := CoR_tp hc
  have hb0 : ∃ b, Rfs b mx := by
    rcases hq with h | ⟨P, N, W, D, pr, sp, b, ht⟩
    · exact h.2.2.2.2
    · exact ⟨b, ht.1.2.1⟩
  obtain ⟨b, hR⟩ := hb0
  have hb := hR.1
  refine ok_mo (tableX hR hT hn) (fun p hp => ok_mo (tableM hn n2 hB hc.2.2.1.2.2.2) (fun q hq' => ?_))
  generalize rdR n g 61 0 0 P00 = R at hp hq'
  rcases hp with ⟨x, ep, fx, x1, c, k, wx, x7, x8⟩ | ⟨s, P, N, W, D, pr, sp, eR, es, tx, fx, x1, x7, x8, xw, x14, y2, y3, y8⟩
  · rcases hq' with ⟨y, eq, fy, y1, ⟨c', k', wy, y7, y8⟩, y23, y40⟩ | ⟨s, P, eR, es, fy, y1, y7, y8, ty, y74, y77, N, W, D, N0, N6, hL, _⟩
    · obtain ⟨ec, ek⟩ := why_u wx wy
      subst ec ek
      rw [ep, eq]
      refine ⟨rfl, IvRf (i := 1) ⟨CoR_t hc fx fy x1 y1 (x7.trans y7.symm) (x8.trans y8.symm) (tc_1 hb).2.2.2.2.2.2.2 (by decide), ?_⟩ (by decide)⟩
      rcases hq with h | ⟨P, N, W, D, pr, sp, b', ht⟩
      · exact Or.inl (NtR_f h fx fy (by rcases hb with e | e <;> subst e <;> decide) (by decide))
      · have eb : b' = b := ht.1.2.1.2.1.symm.trans hR.2.1
        subst eb
        obtain ⟨h1, h2, h3, h4, h5, h6, h7⟩ := ht.1
        have p8 := h1.1.1.2.2.2.2.2.2.2.2.2.2.1
        obtain ⟨o1, o2, o3, o4, o5, o6, o7, _⟩ := tc_1 hb
        refine Or.inr ⟨P, N, W, D, pr, sp, b', ⟨h1, Rfs_x h2 fx, by rw [fl2_i fx (kps_g o5 (by simp))]; exact h3, tX_d h4 fx o1 p8, AXm_fl h5 fx o2, STm_fl h6 fx o3 o4, ?_⟩, ⟨?_, ?_, ?_⟩, WaR_m (WaR_x ht.2.2.1 fx o6) fy (by decide), SiR_m (SiR_x ht.2.2.2 fx o7) fy (by decide)⟩
        · rw [show x.1 127 = mx.1 127 from fl2_ic fx (kps_c o5 (by simp)), show x.1 128 = mx.1 128 from fl2_ic fx (kps_c o5 (by simp))]
          exact h7
        · rw [fl2_i fy (by decide)]; exact ht.2.1.1
        · intro i hi
          rw [y23 i (by omega)]
          exact ht.2.1.2.1 i hi
        · rcases y40 with z | z
          · exact Or.inl z
          · exact MCa_fl ht.2.1.2.2 z (by decide) (by decide) (by decide) (by decide)
    · rcases wx with e | ⟨s', P', e, big, _⟩
      · rw [e] at eR; cases eR
      · rw [e] at eR
        have := (Prod.mk.inj (Sum.inr.inj eR)).2
        subst this
        exact absurd big (big_no hL N6)
  · rcases hq' with ⟨y, eq, fy, y1, ⟨c', k', wy, y7, y8⟩, y23, y40⟩ | ⟨s', P', eR', es', fy, z1, z7, z8, ty, z74, z77, N', W', D', N0, N6, hL, z72⟩
    · rcases wy with e | ⟨s', P', e, big, _⟩
      · rw [e] at eR; cases eR
      · rw [e] at eR
        have := (Prod.mk.inj (Sum.inr.inj eR)).2
        subst this
        exact absurd big (big_no tx.1.2.2.2.1 tx.1.2.2.1)
    · rw [eR] at eR'
      obtain ⟨u1, u2⟩ := Prod.mk.inj (Sum.inr.inj eR')
      subst u1 u2
      refine ⟨es.trans es'.symm, CoR_t (mx := swp b mx) hc fx fy x1 z1 (x7.trans z7.symm) (x8.trans z8.symm) (tc_2 hb) (by decide), Or.inr ⟨P, N, W, D, pr, sp, 159 - b, tx, ty, ⟨⟨wx0 P, ⟨wx0_kv tx.1.1, 0, tx.1.2.1, ?_⟩, xw, ?_⟩, ?_⟩, 0, 0, fun _ => 0, fun _ => 0, by omega, by omega, fun _ => rfl, y2, y3, z77, fun w => absurd w (Nat.lt_irrefl _), fun i hi => absurd hi (Nat.not_lt_zero _), Or.inl y8⟩⟩
      · rw [wx0_fo tx.1.1]; exact (W_0 tx.1.2.2.2.1 tx.1.2.1).1
      · rw [z72, (W_0 hL N0).1]
      · have q75 : ∃ q, q < 20 ∧ mm.1 0 75 = nI q := by
          rcases hq with h | ⟨P, N, W, D, pr, sp, b', ht⟩
          · exact ⟨0, by omega, h.2.2.2.1⟩
          · obtain ⟨_, k, q, tr, _, hq, _, _, e75, _⟩ := ht.2.2.1
            exact ⟨q, hq, e75⟩
        obtain ⟨q0, hq0, e75⟩ := q75
        exact ⟨0, q0, fun _ => 0, by omega, hq0, x14, z74, by rw [fl2_i fy (by decide)]; exact e75, fun i hi => absurd hi (Nat.not_lt_zero _)⟩
