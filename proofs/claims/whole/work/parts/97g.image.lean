theorem upn_id {g : Nat → Nat} {n : Nat} : upn g n (g n) = g := by
  funext j
  show (if j = n then g n else g j) = g j
  by_cases u : j = n
  · rw [if_pos u, u]
  · rw [if_neg u]
theorem cutX {n0 : Nat} {m : zM} (h : m.1 3 1 = nI n0) (hn : n0 < 2 ^ 31) : fl2 [4] [(3, 1)] m (f_Bytes_cut 3 0 m) ∧ ∀ g, BwX 0 g (f_Bytes_cut 3 0 m) := by
  unfold f_Bytes_cut
  rw [if_neg (by decide)]
  by_cases c : m.1 3 1 ≤ 0
  · rw [if_pos c]
    rw [h] at c
    have := (nI_leI (a := n0) (b := 0) hn (by decide)).mp c
    exact ⟨fl2_rf, fun g => ⟨by rw [h, show n0 = 0 by omega], fun j hj => absurd hj (Nat.not_lt_zero _)⟩⟩
  · rw [if_neg c]
    exact ⟨fl2_I (inS_f (by simp)), fun g => ⟨rd_I1 _ _ _ _, fun j hj => absurd hj (Nat.not_lt_zero _)⟩⟩
theorem imageX {P : Nat → Nat} {b x n0 : Nat} {m : zM} (hP : tV P) (r0 : Rfs b m) (ht : tX b P m) (hx : kv (P 3) x) (hw : wX 55 (P 3) (dh (P 3) x) (da (P 3) x) m) (h13 : m.1 0 13 = 1) (h0 : m.1 3 1 = nI n0) (hn : n0 < 2 ^ 31) : ok (f_PA_image m) (fun p => fl2 [4] [(3, 1)] m p.2 ∧ p.1 = nI (4 * P 3 + 2) ∧ BwX (4 * P 3 + 2) (upn (imB (P 3) x) (4 * P 3 + 1) (chB (imB (P 3) x) (4 * P 3 + 1))) p.2) := by
  have p8 := hP.1.2.2.2.2.2.2.2.2.2.2.1
  have p3 := hP.1.2.1
  unfold f_PA_image
  refine ok_in (by rw [h13]; decide) (ok_lt ?_)
  obtain ⟨f1, b1⟩ := cutX h0 hn
  have ew : (f_Bytes_cut 3 0 m).1 55 0 = nI (dh (P 3) x) - 1 := by rw [fl2_i f1 (by decide)]; exact hw.1
  rw [ew]
  refine ok_bi (adB (b1 (imB (P 3) x)) (by decide) (asB_x hx.2.2) (asB_l hx.2.2)) (fun p2 ⟨f2, b2⟩ => ?_)
  rw [show upn (imB (P 3) x) 0 (asB (dh (P 3) x)) = imB (P 3) x from upn_id (g := imB (P 3) x) (n := 0)] at b2
  have f2' := fl2_tr f1 f2
  unfold f_PA_image_L36
  refine ok_for (P 3) (fun a (s : Int32 × zM) => s.1 = nI a ∧ fl2 [4] [(3, 1)] m s.2 ∧ BwX (1 + 4 * a) (imB (P 3) x) s.2) (k0 := 0) ⟨rfl, f2', b2⟩ (Nat.zero_le _) ?_
  rintro a ⟨u, m1⟩ - ha ⟨e1, g1, g2⟩
  have e1 : u = nI a := e1
  subst e1
  have g1 : fl2 [4] [(3, 1)] m m1 := g1
  have g2 : BwX (1 + 4 * a) (imB (P 3) x) m1 := g2
  have t1 := tX_fl r0.1 ht g1 (by decide) p8
  unfold f_PA_image_B36
  refine ok_eb (tb_ok (b := b) (by rw [g1.2]; exact r0.2.1) r0.1) (ok_le (P 3) a (fun q => ok_zl ?_) (fun q => ?_) (hx := t1.1.1))
  · unfold f_PA_image_J89 f_Bytes_size
    rw [show a = P 3 by omega] at g2
    rw [g2.1, checkX (g := imB (P 3) x) g2.1 (fun j hj => ⟨g2.2 j hj, imB_l hx⟩) (Nat.le_refl _) (by omega), Option.bind_some]
    have cb := chB_lt (imB (P 3) x) (1 + 4 * P 3)
    refine ok_bi (adB (c := chB (imB (P 3) x) (1 + 4 * P 3)) g2 (by omega) rfl (by omega)) (fun p5 ⟨f5, b5⟩ => ok_mk ⟨fl2_tr g1 f5, ?_, ?_⟩)
    · show p5.1 3 1 = _
      rw [b5.1]
      congr 1
      omega
    · rw [show 4 * P 3 + 2 = 1 + 4 * P 3 + 1 by omega, show 4 * P 3 + 1 = 1 + 4 * P 3 by omega]
      exact b5
  · unfold f_PA_image_L49
    refine ok_for 4 (fun t (s : Int32 × zM) => s.1 = nI t ∧ fl2 [4] [(3, 1)] m s.2 ∧ BwX (1 + 4 * a + t) (imB (P 3) x) s.2) (k0 := 0) ⟨rfl, g1, g2⟩ (Nat.zero_le _) ?_
    rintro t ⟨u, m2⟩ - htt ⟨e1, k1, k2⟩
    have e1 : u = nI t := e1
    subst e1
    have k1 : fl2 [4] [(3, 1)] m m2 := k1
    have k2 : BwX (1 + 4 * a + t) (imB (P 3) x) m2 := k2
    unfold f_PA_image_B49
    refine ok_le 4 t (fun q' => ok_zl (ok_mk ⟨q, nI_1 a, k1, ?_⟩)) (fun q' => ok_ix rfl (by omega : a < 4) (by decide) ?_)
    · show BwX (1 + 4 * (a + 1)) (imB (P 3) x) m2
      rw [show 1 + 4 * (a + 1) = 1 + 4 * a + t by omega]; exact k2
    · have ea : m2.1 (55 + 1) a = nI (da (P 3) x a) := by rw [fl2_i k1 (by simp [inS])]; exact hw.2.2 a q
      have ei : imB (P 3) x (1 + 4 * a + t) = agB (da (P 3) x a) t := by
        unfold imB
        rw [if_neg (by omega), show (1 + 4 * a + t - 1) / 4 = a by omega, show (1 + 4 * a + t - 1) % 4 = t by omega]
      show ok ((f_Bytes_add 3 (f_PA_asByte (f_PA_held (m2.1 (55 + 1) a) (nI t))) m2).bind _) _
      rw [ea, agB_x (da_lt _ _ _) q', ← ei]
      refine ok_bi (adB k2 (by omega) rfl (imB_l hx)) (fun p7 ⟨f7, b7⟩ => ok_mk ⟨q', nI_1 t, fl2_tr k1 f7, ?_⟩)
      rw [upn_id] at b7
      exact b7
