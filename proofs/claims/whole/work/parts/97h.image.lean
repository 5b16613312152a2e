theorem imageM {P : Nat → Nat} {x : Nat} {m : zM} (hP : tV P) (ht : tM 23 P m) (hx : kv (P 3) x) (hm : m.2.1 0 72 = lN (km (P 3) x)) (h33 : m.1 0 33 = 1) : ok (f_MO_image m) (fun p => fl2 [25, 56] [(0, 36), (0, 83)] m p.2 ∧ p.1 = nI (4 * P 3 + 2) ∧ BwM (4 * P 3 + 2) (upn (imB (P 3) x) (4 * P 3 + 1) (chB (imB (P 3) x) (4 * P 3 + 1))) p.2) := by
  have p3 := hP.1.2.1
  unfold f_MO_image
  refine ok_in (by rw [h33]; decide) (ok_lt ?_)
  have f0 : fl2 [25, 56] [(0, 36), (0, 83)] m (sI m 0 83 0) := fl2_I (inS_f (by simp))
  rw [show (sI m 0 83 0).2.1 0 72 = lN (km (P 3) x) from hm]
  refine ok_bi (opensK hx) (fun p2 ⟨o1, o2⟩ => ?_)
  have f1 : fl2 [25, 56] [(0, 36), (0, 83)] m p2 := fl2_tr f0 (fl2_su o1 (by decide))
  have b1 : ∀ g, BwM 0 g p2 := fun g => ⟨by rw [fl2_i o1 (by decide)]; exact rd_I1 _ _ _ _, fun j hj => absurd hj (Nat.not_lt_zero _)⟩
  have J : ∀ v : Int32, v = nI (asB (dh (P 3) x)) → ok (f_MO_image_J41 v p2) (fun p => fl2 [25, 56] [(0, 36), (0, 83)] m p.2 ∧ p.1 = nI (4 * P 3 + 2) ∧ BwM (4 * P 3 + 2) (upn (imB (P 3) x) (4 * P 3 + 1) (chB (imB (P 3) x) (4 * P 3 + 1))) p.2) := by
    intro v hv
    unfold f_MO_image_J41
    refine ok_bi (wrB (b1 (imB (P 3) x)) (by decide) hv) (fun p3' ⟨f2, b2⟩ => ?_)
    rw [show upn (imB (P 3) x) 0 (asB (dh (P 3) x)) = imB (P 3) x from upn_id (g := imB (P 3) x) (n := 0)] at b2
    have w2 : wM (P 3) (dh (P 3) x) (da (P 3) x) p3' := by
      unfold wM
      rw [fl2_i f2 (by decide), fl2_ic f2 (fun j => by simp [inS])]; exact o2
    have t2 := tM_fl (tM_fl ht f1 (by decide)) f2 (by decide)
    have fz : fl2 [25, 56] [(0, 36), (0, 83)] m p3' := fl2_tr f1 (fl2_su f2 (by decide))
    unfold f_MO_image_L46
    refine ok_for (P 3) (fun a (s : Int32 × zM) => s.1 = nI a ∧ fl2 [56] [(0, 83)] p3' s.2 ∧ BwM (1 + 4 * a) (imB (P 3) x) s.2) (k0 := 0) ⟨rfl, fl2_rf, b2⟩ (Nat.zero_le _) ?_
    rintro a ⟨u, m1⟩ - ha ⟨e1, g1, g2⟩
    have e1 : u = nI a := e1
    subst e1
    have g1 : fl2 [56] [(0, 83)] p3' m1 := g1
    have g2 : BwM (1 + 4 * a) (imB (P 3) x) m1 := g2
    unfold f_MO_image_B46
    refine ok_eb (agM (tM_n (tM_fl t2 g1 (by decide)) (k := 3) (by decide) (by decide))) (ok_le (P 3) a (fun q => ok_zl ?_) (fun q => ?_))
    · unfold f_MO_image_J96
      rw [show a = P 3 by omega] at g2
      rw [g2.1, checkM (c := 56) (g := imB (P 3) x) (fun j hj => ⟨g2.2 j hj, imB_l hx⟩) (by rw [show zlen gM 56 = 130 by decide]; omega) (by decide), Option.bind_some]
      refine ok_bi (wrB (c := chB (imB (P 3) x) (1 + 4 * P 3)) g2 (by omega) rfl) (fun p5 ⟨f5, b5⟩ => ok_mk ⟨fl2_tr fz (fl2_su (fl2_tr g1 f5) (by decide)), ?_, ?_⟩)
      · show p5.1 0 83 = _
        rw [b5.1]
        congr 1
        omega
      · rw [show 4 * P 3 + 2 = 1 + 4 * P 3 + 1 by omega, show 4 * P 3 + 1 = 1 + 4 * P 3 by omega]
        exact b5
    · unfold f_MO_image_L56
      refine ok_for 4 (fun t (s : Int32 × zM) => s.1 = nI t ∧ fl2 [56] [(0, 83)] p3' s.2 ∧ BwM (1 + 4 * a + t) (imB (P 3) x) s.2) (k0 := 0) ⟨rfl, g1, g2⟩ (Nat.zero_le _) ?_
      rintro t ⟨u, m2⟩ - htt ⟨e1, k1, k2⟩
      have e1 : u = nI t := e1
      subst e1
      have k1 : fl2 [56] [(0, 83)] p3' m2 := k1
      have k2 : BwM (1 + 4 * a + t) (imB (P 3) x) m2 := k2
      unfold f_MO_image_B56
      refine ok_le 4 t (fun q' => ok_zl (ok_mk ⟨q, nI_1 a, k1, ?_⟩)) (fun q' => ?_)
      · show BwM (1 + 4 * (a + 1)) (imB (P 3) x) m2
        rw [show 1 + 4 * (a + 1) = 1 + 4 * a + t by omega]; exact k2
      · have dl := da_lt (P 3) x a
        have ei : imB (P 3) x (1 + 4 * a + t) = agB (da (P 3) x a) t := by
          unfold imB
          rw [if_neg (by omega), show (1 + 4 * a + t - 1) / 4 = a by omega, show (1 + 4 * a + t - 1) % 4 = t by omega]
        have eh : ok (f_MO_agentHas (nI a) (nI t) m2) (fun r => r = f_PA_held (nI (da (P 3) x a)) (nI t)) := by
          have ms := ms_S _ dl
          have e25 : m2.1 25 a = nI (mOf (da (P 3) x a)) := by rw [fl2_i k1 (by simp [inS])]; exact wM_a w2 q (by omega)
          unfold f_MO_agentHas
          refine ok_ix rfl (by omega : a < 4) (by decide) ?_
          rw [e25, ms.1, ms.2.1, ms.2.2.1, ms.2.2.2.1]
          rcases (show t = 0 ∨ t = 1 ∨ t = 2 ∨ t = 3 by omega) with z | z | z | z <;> subst z
          · exact ok_ip rfl (ok_mk (hd0 dl).symm)
          · exact ok_in (by decide) (ok_ip rfl (ok_mk (hd1 dl).symm))
          · exact ok_in (by decide) (ok_in (by decide) (ok_ip rfl (ok_mk (hd2 dl).symm)))
          · exact ok_in (by decide) (ok_in (by decide) (ok_in (by decide) (ok_mk (hd3 dl).symm)))
        have ex := agB_x dl q'
        rw [← ei] at ex
        have W8 : ∀ w : Int32, w = nI (imB (P 3) x (1 + 4 * a + t)) → ok (f_MO_image_J81 (nI a) (nI t) w m2) (lp (lp (fun p : Int32 × zM => fl2 [25, 56] [(0, 36), (0, 83)] m p.2 ∧ p.1 = nI (4 * P 3 + 2) ∧ BwM (4 * P 3 + 2) (upn (imB (P 3) x) (4 * P 3 + 1) (chB (imB (P 3) x) (4 * P 3 + 1))) p.2) (fun s : Int32 × zM => a < P 3 ∧ s.1 = nI (a + 1) ∧ fl2 [56] [(0, 83)] p3' s.2 ∧ BwM (1 + 4 * (a + 1)) (imB (P 3) x) s.2)) (fun s : Int32 × zM => t < 4 ∧ s.1 = nI (t + 1) ∧ fl2 [56] [(0, 83)] p3' s.2 ∧ BwM (1 + 4 * a + (t + 1)) (imB (P 3) x) s.2)) := by
          intro w hw
          unfold f_MO_image_J81
          refine ok_bi (wrB k2 (by omega) hw) (fun p8 ⟨f8, b8⟩ => ok_mk ⟨q', nI_1 t, fl2_tr k1 f8, ?_⟩)
          rw [upn_id] at b8
          exact b8
        refine ok_bi eh (fun r er => ?_)
        unfold f_PA_asByte at ex
        rw [er]
        by_cases c : f_PA_held (nI (da (P 3) x a)) (nI t) = -1
        · rw [if_pos c] at ex
          exact ok_ip c (W8 255 ex)
        · rw [if_neg c] at ex
          exact ok_in c (W8 _ ex)
  have ex := asB_x hx.2.2
  unfold f_PA_asByte at ex
  rw [o2.1]
  by_cases c : nI (dh (P 3) x) - 1 = -1
  · rw [if_pos c] at ex
    exact ok_ip c (J 255 ex)
  · rw [if_neg c] at ex
    exact ok_in c (J _ ex)
