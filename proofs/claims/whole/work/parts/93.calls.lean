theorem MCa_fl {P : Nat → Nat} {m m' : zM} {S : List Nat} {F : List (Nat × Nat)} (h : MCa P m) (hf : fl2 S F m m') (hk : kps [27, 28, 29] [(0, 41)] S F = true) (hk2 : kps [30] [] S F = true) (hk3 : kps [32, 35, 36] [] S F = true) (hk4 : kps [] [(0, 40), (0, 46)] S F = true) : MCa P m' := by
  unfold MCa
  rw [show m'.1 0 40 = m.1 0 40 from fl2_i hf (kps_g hk4 (by simp)), show m'.1 0 46 = m.1 0 46 from fl2_i hf (kps_g hk4 (by simp))]
  rcases h with h | ⟨w, N, W, D, h1, h2, h3, h4, h5, h6⟩
  · exact Or.inl h
  · exact Or.inr ⟨w, N, W, D, h1, h2, LMx_fl h3 hf hk hk2, h4, h5, fun z => LKm_fl (h6 z) hf hk3⟩
/-- both sides have worked; what a table is made of is as it was -/
theorem IvC {mx mx' mm mm' : zM} {S S' : List Nat} {F F' : List (Nat × Nat)} (h : IvW mx mm) (hc : CoR mx' mm') (hf : fl2 S F mx mx') (hf' : fl2 S' F' mm mm') (ho : offT S F = true) (hk : kps [26, 27, 28, 29, 30, 31, 32, 33, 34, 35, 36, 37] [(24, 0), (24, 1)] S F = true) (hk2 : kps [117, 118, 119, 120] [(116, 3)] S F = true) (hk3 : kps [122, 123] [] S F = true) (hk4 : kps [127, 128] [(0, 13)] S F = true) (k5 : kps [55, 56, 63] [(0, 14)] S F = true) (k6 : kps [49, 50, 53] [(48, 2), (48, 3), (48, 7), (48, 8)] S F = true) (m0 : kps [23] [] S' F' = true) (m1 : kps [27, 28, 29] [(0, 41)] S' F' = true) (m2 : kps [30] [] S' F' = true) (m3 : kps [32, 35, 36] [] S' F' = true) (m4 : kps [] [(0, 40), (0, 46)] S' F' = true) (m5 : kps [52] [(0, 72), (0, 74), (0, 75)] S' F' = true) (m6 : kps [53] [(0, 77), (0, 78)] S' F' = true) (m7 : kps [] [(0, 33), (0, 74), (0, 75)] S' F' = true) : IvW mx' mm' := by
  obtain ⟨_, hn | ⟨P, N, W, D, pr, sp, b, h1, h2, h3, h4⟩⟩ := h
  · refine ⟨hc, Or.inl ⟨?_, ?_, ?_, ?_, ?_⟩⟩
    · rw [fl2_i hf (kps_g hk4 (by simp))]; exact hn.1
    · rw [fl2_i hf' (kps_g m7 (by simp))]; exact hn.2.1
    · rw [fl2_i hf' (kps_g m7 (by simp))]; exact hn.2.2.1
    · rw [fl2_i hf' (kps_g m7 (by simp))]; exact hn.2.2.2.1
    · obtain ⟨b, hb⟩ := hn.2.2.2.2
      exact ⟨b, Rfs_x hb hf⟩
  · refine ⟨hc, Or.inr ⟨P, N, W, D, pr, sp, b, TdX_f h1 hf ho hk hk2 hk3 hk4, ⟨?_, tM_fl h2.2.1 hf' m0, MCa_fl h2.2.2 hf' m1 m2 m3 m4⟩, WaR_m (WaR_x h3 hf k5) hf' m5, SiR_m (SiR_x h4 hf k6) hf' m6⟩⟩
    rw [fl2_i hf' (kps_g m7 (by simp))]; exact h2.1
theorem IvRf {mx mm : zM} {i : Nat} (h : IvW mx mm) (hi : i < 6) : IvW (sI mx 64 i (mx.1 64 i + 1)) (sI mm 2 i (mm.1 2 i + 1)) := by
  refine IvC h ?_ (S := [64]) (F := []) (S' := [2]) (F' := []) (fl2_I (inS_c (by simp))) (fl2_I (inS_c (by simp))) (by decide) (by decide) (by decide) (by decide) (by decide) (by decide) (by decide) (by decide) (by decide) (by decide) (by decide) (by decide) (by decide) (by decide) (by decide)
  obtain ⟨h1, h2, h3, h4, h5⟩ := h.1
  refine ⟨?_, fun j hj => ?_, ?_, h4, ?_⟩
  · rw [rd_I0 (by omega), rd_I0 (by omega), rd_Ic (by omega), rd_Ic (by omega)]; exact h1
  · rw [rd_I, rd_I]
    by_cases e : j = i
    · rw [if_pos ⟨rfl, e⟩, if_pos ⟨rfl, e⟩, h2 i hi]
    · rw [if_neg (fun z => e z.2), if_neg (fun z => e z.2)]; exact h2 j hj
  · exact CoF_f (S := [64]) (F := []) (S' := [2]) (F' := []) h3 (fl2_I (inS_c (by simp))) (fl2_I (inS_c (by simp))) (by decide) (by decide)
  · rw [rd_I0 (by omega), rd_I0 (by omega), rd_Ic (by omega), rd_Ic (by omega)]; exact h5
theorem nby_l (v : Int32) (k : Nat) : ∃ j, j < 256 ∧ nby v k = nI j := by
  unfold nby
  exact pk_andE _ 8 (by decide)
theorem c_feed {a b c d e : Int32} {mx mm : zM} (h : IvW mx mm) : Alk (f_PA_feed a b c d e mx) (f_MO_feed a b c d e mm) := by
  obtain ⟨⟨n, hn, n1, n2, n3⟩, h2, h3, h4, h5⟩ := id h.1
  refine ok_mo (feedX n1 hn) (fun p hp => ok_mo (feedM n2 hn) (fun q hq => ?_))
  by_cases c0 : n + 20 ≤ 1600
  · rw [if_pos c0] at hp hq
    refine ⟨hp.1.trans hq.1.symm, IvC h ?_ hp.2.2.2.2 hq.2.2.2.2 (by decide) (by decide) (by decide) (by decide) (by decide) (by decide) (by decide) (by decide) (by decide) (by decide) (by decide) (by decide) (by decide) (by decide) (by decide)⟩
    have fx := hp.2.2.2.2
    have fm := hq.2.2.2.2
    refine ⟨⟨n + 20, c0, hp.2.1, hq.2.1, fun j hj => ?_⟩, ?_, ?_, ?_, ?_⟩
    · rcases Nat.lt_or_ge j n with z | z
      · rw [hp.2.2.1 j z, hq.2.2.1 j z]; exact n3 j z
      · have ax := hp.2.2.2.1 (j - n) (by omega)
        have am := hq.2.2.2.1 (j - n) (by omega)
        rw [show n + (j - n) = j by omega] at ax am
        rw [ax, am]
        obtain ⟨k, k1, k2⟩ := nby_l (if j - n < 4 then a else if j - n < 8 then b else if j - n < 12 then c else if j - n < 16 then d else e) ((j - n) % 4)
        exact ⟨k, k1, k2, k2⟩
    · rw [fl2_ic fx (fun j => by simp [inS]), fl2_ic fm (fun j => by simp [inS])]; exact h2
    · exact CoF_f h3 fx fm (by decide) (by decide)
    · rw [fl2_j fx (by decide), fl2_j fm (by decide)]; exact h4
    · rw [fl2_i fx (by decide), fl2_i fm (by decide), fl2_ic fx (fun j => by simp [inS]), fl2_ic fm (fun j => by simp [inS])]; exact h5
  · rw [if_neg c0] at hp hq
    rw [hp, hq]
    exact ⟨rfl, IvRf h (by decide)⟩
theorem Alk_bb {x y : Option (Bool × zM)} (h : ok x (fun p => ok y (fun q => p.1 = q.1 ∧ IvW p.2 q.2))) : Alk (x.bind fun p => some (b2i p.1, p.2)) (y.bind fun p => some (b2i p.1, p.2)) := by
  refine ok_bi h (fun p hp => ok_mk (ok_bi hp (fun q hq => ok_mk ⟨?_, hq.2⟩)))
  show b2i p.1 = b2i q.1
  rw [hq.1]
theorem refBB {i : Nat} (hi : i < 6) {v w : Int32} {mx mm : zM} (e : v = nI i) (e' : w = nI i) (h : IvW mx mm) : ok ((f_PA_refuse v mx).bind fun p2 => some ((false, p2.2))) (fun p => ok ((f_MO_isRefused w mm).bind fun p2 => some ((p2.1, p2.2))) (fun q => p.1 = q.1 ∧ IvW p.2 q.2)) := by
  rw [e, e', refX hi, refMb hi]
  exact ok_mk (ok_mk ⟨rfl, IvRf h hi⟩)
theorem refNN {i : Nat} (hi : i < 6) {v w : Int32} {mx mm : zM} (e : v = nI i) (e' : w = nI i) (h : IvW mx mm) : ok ((f_PA_refuse v mx).bind fun p2 => some ((p2.1, p2.2))) (fun p => ok ((f_MO_refuses w mm).bind fun p2 => some ((p2.1, p2.2))) (fun q => p.1 = q.1 ∧ IvW p.2 q.2)) := by
  rw [e, e', refX hi, refM hi]
  exact ok_mk (ok_mk ⟨rfl, IvRf h hi⟩)
theorem c_end {a : Int32} {mx mm : zM} (h : IvW mx mm) : Alk ((f_PA_end a mx).bind fun p => some (b2i p.1, p.2)) ((f_MO_end a mm).bind fun p => some (b2i p.1, p.2)) := by
  refine Alk_bb ?_
  obtain ⟨⟨n, hn, n1, n2, n3⟩, h2, h3, h4, h5⟩ := id h.1
  have no : ok (f_PA_end_J15 mx) (fun p => ok (f_MO_end_J12 mm) (fun q => p.1 = q.1 ∧ IvW p.2 q.2)) := by
    unfold f_PA_end_J15 f_MO_end_J12
    exact refBB (i := 0) (by decide) rfl rfl h
  unfold f_PA_end f_MO_end f_Bytes_size
  rw [n1, n2]
  by_cases c : a < 0
  · rw [if_pos c, if_pos c]; exact no
  · rw [if_neg c, if_neg c]
    by_cases c2 : a ≤ nI n
    · rw [if_pos c2, if_pos c2]
      obtain ⟨k, hk, e⟩ := nI_of c
      subst e
      have kn := (nI_leI hk (by omega)).mp c2
      have fin : ∀ mx', fl2 [] [(1, 1)] mx mx' → mx'.1 1 1 = nI k → IvW mx' (sI mm 0 1 (nI k)) := by
        intro mx' fx ex
        have fm : fl2 [] [(0, 1)] mm (sI mm 0 1 (nI k)) := fl2_I (inS_f (by simp))
        refine IvC h ?_ fx fm (by decide) (by decide) (by decide) (by decide) (by decide) (by decide) (by decide) (by decide) (by decide) (by decide) (by decide) (by decide) (by decide) (by decide) (by decide)
        refine ⟨⟨k, by omega, ex, rd_I1 _ _ _ _, fun j hj => ?_⟩, ?_, ?_, ?_, ?_⟩
        · rw [fl2_ic fx (fun j => by simp [inS]), rd_Ic (by omega)]; exact n3 j (by omega)
        · rw [fl2_ic fx (fun j => by simp [inS]), rd_Ic (by omega)]; exact h2
        · exact CoF_f h3 fx fm (by decide) (by decide)
        · rw [fl2_j fx (by decide), fl2_j fm (by decide)]; exact h4
        · rw [fl2_i fx (by decide), fl2_i fm (by decide), fl2_ic fx (fun j => by simp [inS]), rd_Ic (by omega)]; exact h5
      refine ok_lt (ok_mk (ok_lt (ok_mk ⟨rfl, ?_⟩)))
      unfold f_Bytes_cut
      rw [if_neg c, n1]
      by_cases c3 : nI n ≤ nI k
      · rw [if_pos c3]
        have := (nI_leI (by omega) hk).mp c3
        exact fin mx fl2_rf (by rw [n1, show n = k by omega])
      · rw [if_neg c3]
        exact fin _ (fl2_I (inS_f (by simp))) (rd_I1 _ _ _ _)
    · rw [if_neg c2, if_neg c2]; exact no
theorem c_seed {a : Int32} {mx mm : zM} (h : IvW mx mm) : Alk ((f_PA_seed a mx).bind fun p => some (b2i p.1, p.2)) ((f_MO_seed a mm).bind fun p => some (b2i p.1, p.2)) := by
  refine Alk_bb ?_
  obtain ⟨h1, h2, h3, h4, h5⟩ := id h.1
  unfold f_PA_seed f_MO_seed
  by_cases c : 0 ≤ a
  · rw [if_pos c, if_pos c]
    obtain ⟨k, hk, e⟩ := nI_of (x := a) (fun z => Int32.lt_irrefl (Int32.lt_of_lt_of_le z c))
    have fx : fl2 [] [(0, 15)] mx (sJ mx 0 15 a.toInt64) := fl2_J (inS_f (by simp))
    have fm : fl2 [] [(0, 76)] mm (sJ mm 0 76 a.toInt64) := fl2_J (inS_f (by simp))
    refine ok_lt (ok_mk (ok_lt (ok_mk ⟨rfl, IvC h ⟨h1, h2, h3, ⟨k, hk, ?_, ?_⟩, h5⟩ fx fm (by decide) (by decide) (by decide) (by decide) (by decide) (by decide) (by decide) (by decide) (by decide) (by decide) (by decide) (by decide) (by decide) (by decide) (by decide)⟩)))
    · rw [← nI_l hk, ← e]; exact rd_J1 _ _ _ _
    · rw [← nI_l hk, ← e]; exact rd_J1 _ _ _ _
  · rw [if_neg c, if_neg c]
    exact refBB (i := 5) (by decide) rfl rfl h
theorem c_octet {a : Int32} {mx mm : zM} (h : IvW mx mm) : Alk ((f_PA_octet a mx).bind fun r => some (r, mx)) ((f_MO_octet a mm).bind fun r => some (r, mm)) := by
  refine Alk_b ?_
  obtain ⟨h1, h2, h3, h4, n, hn, n1, n2, n3⟩ := id h.1
  unfold f_PA_octet f_Bytes_get f_MO_octet
  rw [n1, n2]
  by_cases c : a < 0
  · rw [if_pos c, if_pos c]; exact ok_mk (ok_mk ⟨rfl, h⟩)
  · rw [if_neg c, if_neg c]
    by_cases c2 : nI n ≤ a
    · rw [if_pos c2, if_pos c2]; exact ok_mk (ok_mk ⟨rfl, h⟩)
    · rw [if_neg c2, if_neg c2]
      obtain ⟨k, hk, e⟩ := nI_of c
      subst e
      have kn : k < n := Nat.lt_of_not_le (fun z => c2 ((nI_leI (by omega) hk).mpr z))
      rw [ix_nI (by omega : k < 1600) (by decide), ix_nI (by omega : k < 130) (by decide)]
      exact ok_mk (ok_mk ⟨n3 k kn, h⟩)
