theorem as_t : f_PA_asNumber (b2i true) = 1 := by decide
theorem as_f : f_PA_asNumber (b2i false) = 0 := by decide
theorem lefB_Q {P : Nat → Nat} {N v : Nat} {W : Nat → Nat} (h : P 8 ≤ 16) : lefB P N W v = cBo (P 6 ≠ 0 ∧ instA P W v (P 6 - 1) = true ∧ lefoQ P 16 N W (fln P W v)) := by
  unfold lefB
  refine cBo_cg (and_congr_right (fun _ => and_congr_right (fun _ => ?_)))
  unfold lefoP lefoQ
  refine and_congr_right (fun _ => exists_congr (fun u => and_congr_right (fun _ => (RgQ_16 h).symm)))
theorem IvW_x {mx mx' mm : zM} {S : List Nat} {F : List (Nat × Nat)} (h : IvW mx mm) (hf : fl2 S F mx mx') (k1 : kps [2, 4, 64] [(0, 15), (1, 1), (3, 1), (5, 1), (65, 7), (65, 8)] S F = true) (ho : offT S F = true) (hk : kps [26, 27, 28, 29, 30, 31, 32, 33, 34, 35, 36, 37] [(24, 0), (24, 1)] S F = true) (hk2 : kps [117, 118, 119, 120] [(116, 3)] S F = true) (hk3 : kps [122, 123] [] S F = true) (hk4 : kps [127, 128] [(0, 13)] S F = true) (k5 : kps [55, 56, 63] [(0, 14)] S F = true) (k6 : kps [49, 50, 53] [(48, 2), (48, 3), (48, 7), (48, 8)] S F = true) : IvW mx' mm := by
  obtain ⟨hc, hn | ⟨P, N, W, D, pr, sp, b, h1, h2, h3, h4⟩⟩ := h
  · refine ⟨CoR_x hc hf k1, Or.inl ⟨?_, hn.2.1, hn.2.2.1, hn.2.2.2.1, ?_⟩⟩
    · rw [fl2_i hf (kps_g hk4 (by simp))]; exact hn.1
    · obtain ⟨b, hb⟩ := hn.2.2.2.2
      exact ⟨b, Rfs_x hb hf⟩
  · exact ⟨CoR_x hc hf k1, Or.inr ⟨P, N, W, D, pr, sp, b, TdX_f h1 hf ho hk hk2 hk3 hk4, h2, WaR_x h3 hf k5, SiR_x h4 hf k6⟩⟩
theorem W_kv {P : Nat → Nat} {N i : Nat} {W D : Nat → Nat} (hP : tV P) (hL : Lst (Ed P 16) (wx0 P) N W D) (hi : i < N) : kv (P 3) (W i) ∧ fo (P 3) (W i) = W i := Rn_kv hP (hL.1 i hi).1
theorem homeM {n x : Nat} (hx : kv n x) : (lsr (lN (km n x)) 48).toInt32 - 1 = nI (dh n x) - 1 := by
  have d0 := mD_lt (kv_w hx) 0
  have d1 := mD_lt (kv_w hx) 1
  have d2 := mD_lt (kv_w hx) 2
  have d3 := mD_lt (kv_w hx) 3
  have ke := kM_eq n (dh n x) (da n x)
  have h7 := hx.2.2
  unfold lsr km
  rw [lq_shrN (by omega) _ 48 (by decide), lN_i, show kM n (dh n x) (da n x) / 2 ^ 48 = dh n x by omega]
theorem wqrz {A : Option (Int32 × zM)} {B : Bool × zM → Option (Int32 × zM)} {a1 : Int32} {mx mm : zM} (h : IvW mx mm) (k : ∀ (P : Nat → Nat) (N : Nat) (W D pr sp : Nat → Nat) (b i : Nat) (p : Bool × zM), Qy P N W D pr sp b mx mm p.2 → i < N → a1 = nI i → ok A (fun r => ok (B p) (fun q => r.1 = q.1 ∧ IvW r.2 q.2))) : Alk (if f_PA_isWorld a1 mx = true then A else some (-1, mx)) ((f_MO_isWorld a1 mm).bind fun p1 => if p1.1 = true then B p1 else some (-1, p1.2)) := by
  obtain ⟨hc, hn | ⟨P, N, W, D, pr, sp, b, ht⟩⟩ := id h
  · rw [ntX hn]
    exact ok_in (by decide) (ok_mk (ok_eb (ntW hn) (ok_in Bool.false_ne_true (ok_mk ⟨rfl, h⟩))))
  · obtain ⟨p, ep, z1, z2, z3, z4⟩ := wldT (x := a1) ht
    rw [ep]
    refine ok_it (fun q => ?_) (fun q => ok_mk (ok_in (fun y => q ((wldX ht).mpr (z1.mp y))) (ok_mk ⟨rfl, qryA hc ht z2 z4⟩)))
    obtain ⟨i, hi, e⟩ := (wldX ht).mp q
    refine ok_mo (k P N W D pr sp b i p ⟨hc, ht, z2, z3, z4⟩ hi e) (fun r hr => ok_ip (z1.mpr ⟨i, hi, e⟩) hr)
theorem c_world {a1 a2 : Int32} {mx mm : zM} (h : IvW mx mm) : Alk (f_PA_world a1 a2 mx) (f_MO_world a1 a2 mm) := by
  unfold f_PA_world f_MO_world
  refine wqrz h (fun P N W D pr sp b i p hq hi e => ?_)
  obtain ⟨hc, ht, z2, z3, z4⟩ := id hq
  obtain ⟨⟨h1, h2, h3, h4, h5, h6, h7⟩, r0, g1, g2, g3, g4, g5⟩ := ht.1
  have p8 := h1.1.2.2.2.2.2.2.2.2.2.2.1
  subst e
  have hM := z4.2.1.2.2.2.1.2.1 i hi
  have hX := g3.1.2.1 i hi
  have hkv := (W_kv h1 h4 hi).1
  rcases num_or a2 7 with ⟨k, hk, e⟩ | e
  · subst e
    rcases (show k = 0 ∨ k = 1 ∨ k = 2 ∨ k = 3 ∨ k = 4 ∨ k = 5 ∨ k = 6 by omega) with z | z | z | z | z | z | z <;> subst z
    · repeat (refine ok_in (by decide) ?_)
      refine ok_ip (by decide) (ok_ix rfl (by omega : i < 600) (by decide) (ok_mk ?_))
      repeat (refine ok_in (by decide) ?_)
      refine ok_ip (by decide) (ok_ix rfl (by omega : i < 608) (by decide) (ok_mk ⟨hX.2.1.trans hM.2.symm, Qy_i hq⟩))
    · repeat (refine ok_in (by decide) ?_)
      refine ok_ip (by decide) (ok_ix rfl (by omega : i < 600) (by decide) (ok_mk ?_))
      repeat (refine ok_in (by decide) ?_)
      refine ok_ip (by decide) (ok_bi (copiesM h1 z3 z4.2.1.2.2.2.1 h3 hi hkv) (fun q y => ok_mk ⟨(g3.2.1 i hi).1.trans y.2.symm, Qy_s hq y.1 (by decide) (by decide) (by decide) (by decide) (by decide)⟩))
    · repeat (refine ok_in (by decide) ?_)
      refine ok_ip (by decide) ?_
      unfold f_Atlas_home
      have hl := loadX (w := 40) (m := mx) (kv_w hkv)
      rw [ky_d] at hl
      refine ok_bi (G := fun r => fl2 [40, 41] [] mx r.2 ∧ r.1 = nI (dh (P 3) (W i)) - 1) (ok_ix rfl (by omega : i < 600) (by decide) ?_) (fun r hr => ok_mk ?_)
      · rw [hX.1, g3.1.1.2]
        exact ok_bi hl (fun m' y => ok_mk ⟨y.1, y.2.1⟩)
      · repeat (refine ok_in (by decide) ?_)
        refine ok_ip (by decide) (ok_ix rfl (by omega : i < 608) (by decide) (ok_mk ⟨?_, IvW_x (Qy_i hq) hr.1 (by decide) (by decide) (by decide) (by decide) (by decide) (by decide) (by decide) (by decide)⟩))
        rw [hM.1, homeM hkv]; exact hr.2
    · repeat (refine ok_in (by decide) ?_)
      refine ok_ip (by decide) (ok_ix rfl (by omega : i < 600) (by decide) (ok_mk ?_))
      repeat (refine ok_in (by decide) ?_)
      refine ok_ip (by decide) (ok_ix rfl (by omega : i < 608) (by decide) ?_)
      rw [hM.1]
      refine ok_bi (isBadM h1 z3 hkv) (fun q y => ?_)
      have iv : IvW mx q.2 := Qy_s hq y.1 (by decide) (by decide) (by decide) (by decide) (by decide)
      rw [(g3.2.1 i hi).2.1, y.2]
      cases bd P (W i) with
      | true => exact ok_ip rfl (ok_mk ⟨as_t, iv⟩)
      | false => exact ok_in (by decide) (ok_mk ⟨as_f, iv⟩)
    · repeat (refine ok_in (by decide) ?_)
      refine ok_ip (by decide) (ok_eb (movesFX g3 h3 hi) ?_)
      have hm := movesFromM z4.2.1.2.2.2.2 h3 hi
      rw [cn_nx (w := 0) p8] at hm
      have cl := cn_le (psb P (W i)) 64
      refine ok_it (fun y => ?_) (fun y => ?_)
      · refine ok_mk ?_
        repeat (refine ok_in (by decide) ?_)
        exact ok_ip (by decide) (ok_eb hm (ok_ip y (ok_mk ⟨as_t, Qy_i hq⟩)))
      · refine ok_mk ?_
        repeat (refine ok_in (by decide) ?_)
        exact ok_ip (by decide) (ok_eb hm (ok_in y (ok_mk ⟨as_f, Qy_i hq⟩)))
    · repeat (refine ok_in (by decide) ?_)
      refine ok_ip (by decide) (ok_eb (movesFX g3 h3 hi) (ok_mk ?_))
      have hm := movesFromM z4.2.1.2.2.2.2 h3 hi
      rw [cn_nx (w := 0) p8] at hm
      repeat (refine ok_in (by decide) ?_)
      exact ok_ip (by decide) (ok_eb hm (ok_mk ⟨rfl, Qy_i hq⟩))
    · repeat (refine ok_in (by decide) ?_)
      refine ok_ip (by decide) (ok_ix rfl (by omega : i < 600) (by decide) (ok_mk ?_))
      repeat (refine ok_in (by decide) ?_)
      refine ok_ip (by decide) (ok_bi (partManyM h1 z4.2.1) (fun q y => ok_ix rfl (by omega : i < 608) (by decide) (ok_mk ⟨?_, Qy_s hq y.1 (by decide) (by decide) (by decide) (by decide) (by decide)⟩)))
      exact (g4.1.2.1 i hi).trans (y.2.2.1 i hi).symm
  · refine ok_in (e 0 (by omega)) (ok_in (e 1 (by omega)) (ok_in (e 2 (by omega)) (ok_in (e 3 (by omega)) (ok_in (e 4 (by omega)) (ok_in (e 5 (by omega)) (ok_in (e 6 (by omega)) (ok_mk ?_)))))))
    exact ok_in (e 0 (by omega)) (ok_in (e 1 (by omega)) (ok_in (e 2 (by omega)) (ok_in (e 3 (by omega)) (ok_in (e 4 (by omega)) (ok_in (e 5 (by omega)) (ok_in (e 6 (by omega)) (ok_mk ⟨rfl, Qy_i hq⟩)))))))
