theorem numX {P : Nat → Nat} {N w x : Nat} {W D pr sp : Nat → Nat} {m : zM} (hP : tV P) (hL : Lst (Ed P 16) (wx0 P) N W D) (hN : N ≤ 600) (hA : AXm P N W D pr sp m) (hr : rchd P N W x) (hw : wX w (P 3) (dh (P 3) x) (da (P 3) x) m) (hz : zlen gX (w + 3) = 4) (hk : kps [26, 27, 28, 29, 30, 31, 32, 33, 34, 35, 36, 37] [(24, 0), (24, 1)] [w + 2, w + 3] [] = true) : ok (f_Atlas_number w m) (fun p => fl2 [w + 2, w + 3] [] m p.2 ∧ ∃ k, k < N ∧ W k = fo (P 3) x ∧ p.1 = nI k) := by
  obtain ⟨hx, i, hi, ei⟩ := hr
  unfold f_Atlas_number
  refine ok_bi (foldK hw hx hz) (fun p ⟨c1, c2, c3⟩ => ?_)
  have A4 := (AXm_fl hA c1 hk).1
  rw [c2]
  refine ok_bi (findX (v := lN (fo (P 3) x)) A4.2.2.1 A4.2.2.2 (by omega)) (fun r2 hr2 => ok_mk ⟨c1, i, hi, ei, ?_⟩)
  have fz := kv_lt (fo_kv hx)
  rcases hr2 with ⟨j, hj, d1, d2⟩ | ⟨_, d1⟩
  · have wj := kv_lt (Rn_kv hP (hL.1 j hj).1).1
    have := (pk_lEQ (by omega) (by omega)).mp d1
    show r2 = nI i
    rw [d2, Lst_in hL hj hi (this.trans ei.symm)]
  · exact absurd (congrArg lN ei) (d1 i hi)
theorem isIn_m {n : Nat} {x : Int32} (hn : n < 2 ^ 30) : f_MO_isIn x.toInt64 (-1) ((nI n - 1).toInt64) = true ↔ x = -1 ∨ ∃ k, k < n ∧ x = nI k := by
  have e1 : (nI n - 1).toInt = (n : Int) - 1 := pk_sub_toInt (b := 1) hn (by decide)
  rw [isIn_iff, Int64.le_iff_toInt_le, Int64.le_iff_toInt_le, Int32.toInt_toInt64, Int32.toInt_toInt64, e1, show (-1 : Int64).toInt = -1 from rfl]
  constructor
  · rintro ⟨h1, h2⟩
    by_cases z : x < 0
    · left
      rw [Int32.lt_iff_toInt_lt] at z
      have z0 : (0 : Int32).toInt = 0 := rfl
      refine Int32.toInt_inj.mp ?_
      have : (-1 : Int32).toInt = -1 := rfl
      rw [this]
      omega
    · right
      obtain ⟨j, hj, e⟩ := nI_of z
      rw [e, nI_toInt hj] at h2
      exact ⟨j, by omega, e⟩
  · rintro (h | ⟨k, h1, h2⟩)
    · rw [h, show (-1 : Int32).toInt = -1 from rfl]
      omega
    · rw [h2, nI_toInt (by omega)]
      omega
theorem c_can {a1 a2 : Int32} {mx mm : zM} (h : IvW mx mm) : Alk (f_PA_can a1 a2 mx) (f_MO_can a1 a2 mm) := by
  unfold f_PA_can f_MO_can
  obtain ⟨hc, hn | ⟨P, N, W, D, pr, sp, b, ht⟩⟩ := id h
  · unfold f_PA_isRule
    rw [if_pos hn.1]
    exact ok_mk (ok_eb (ntA hn) (ok_in Bool.false_ne_true (ok_mk ⟨rfl, h⟩)))
  · obtain ⟨p, ep, z1, z2, z3, z4⟩ := askT ht
    obtain ⟨⟨h1, h2, h3, h4, h5, h6, h7⟩, r0, g1, g2, g3, g4, g5⟩ := ht.1
    have hq : Qy P N W D pr sp b mx mm p.2 := ⟨hc, ht, z2, z3, z4⟩
    rw [ep]
    have no : (¬ ((∃ k, k < P 8 ∧ a1 = nI k) ∧ ∃ k, k < P 3 ∧ a2 = nI k)) → ok ((some p).bind fun p1 => if p1.1 = true then (f_MO_isMove a1 a2 p1.2).bind fun r2 => if r2 = true then (f_MO_opens (p1.2.2.1 0 72) p1.2).bind fun p3 => (f_MO_isMoved a1 a2 p3).bind fun p4 => if p4.1 = true then some (1, p4.2) else some (0, p4.2) else some (-1, p1.2) else some (-1, p1.2)) (fun q => (-1 : Int32) = q.1 ∧ IvW mx q.2) := fun z => ok_ip z1 (ok_bi (isMvM h1 z3) (fun s hs => ok_in (fun y => z (hs.mp y)) (ok_mk ⟨rfl, Qy_i hq⟩)))
    refine ok_bi (isRuT ht.1) (fun r hr => ok_it (fun q1 => ok_bi (isAgT ht.1) (fun r' hr' => ok_it (fun q2 => ?_) (fun q2 => ok_mk (no (fun z => q2 (hr'.mpr z.2)))))) (fun q1 => ok_mk (no (fun z => q1 (hr.mpr z.1)))))
    obtain ⟨i, hi, e2⟩ := hr.mp q1
    obtain ⟨j, hj, e3⟩ := hr'.mp q2
    subst e2 e3
    obtain ⟨⟨x, rx, wx, wm⟩, _⟩ := ht.2.2.1
    refine ok_eb (tb_ok r0.2.1 r0.1) (ok_bi (goP r0.1 h1 g2 rx.1 wx hi hj (by decide) (by decide) (by decide) (by decide)) (fun px ⟨gx1, gx2, gx3⟩ => ok_mk (ok_ip z1 (ok_bi (isMvM h1 z3) (fun s hs => ok_ip (hs.mpr ⟨⟨i, hi, rfl⟩, j, hj, rfl⟩) ?_)))))
    rw [fl2_j z2 (by decide), wm]
    refine ok_bi (opensK rx.1) (fun p3 ⟨o1, o2⟩ => ok_bi (movedK h1 (tM_fl z3 o1 (by decide)) rx.1 o2 hi hj) (fun p4 ⟨v1, v2, v3⟩ => ?_))
    have iv : IvW px.2 p4.2 := IvW_x (Qy_s hq (S := [25, 26]) (F := [(0, 36), (0, 38)]) (fl2_tr (fl2_su o1 (by decide)) (fl2_su v1 (by decide))) (by decide) (by decide) (by decide) (by decide) (by decide)) gx1 (by decide) (by decide) (by decide) (by decide) (by decide) (by decide) (by decide) (by decide)
    cases em : sP P x (4 * i + j) with
    | none =>
      rw [gx3 em, v3 em]
      exact ok_in Bool.false_ne_true (ok_mk ⟨as_f, iv⟩)
    | some y =>
      rw [(gx2 y em).1, (v2 y em).1]
      exact ok_ip rfl (ok_mk ⟨as_t, iv⟩)
theorem c_now {a1 a2 : Int32} {mx mm : zM} (h : IvW mx mm) : Alk (f_PA_now a1 a2 mx) (f_MO_now a1 a2 mm) := by
  unfold f_PA_now f_MO_now
  obtain ⟨hc, hn | ⟨P, N, W, D, pr, sp, b, ht⟩⟩ := id h
  · exact ok_ip hn.1 (ok_mk (ok_eb (ntA hn) (ok_in Bool.false_ne_true (ok_mk ⟨rfl, h⟩))))
  · obtain ⟨p, ep, z1, z2, z3, z4⟩ := askT ht
    obtain ⟨⟨h1, h2, h3, h4, h5, h6, h7⟩, r0, g1, g2, g3, g4, g5⟩ := ht.1
    have hq : Qy P N W D pr sp b mx mm p.2 := ⟨hc, ht, z2, z3, z4⟩
    have p3 := h1.1.2.1
    have eg := agM (tM_n z3 (k := 3) (by decide) (by decide))
    obtain ⟨⟨x, rx, wx, wm⟩, _⟩ := ht.2.2.1
    have wm' : p.2.2.1 0 72 = lN (km (P 3) x) := by rw [fl2_j z2 (by decide)]; exact wm
    rw [ep]
    refine ok_in (by rw [g1]; decide) ?_
    have op : ∀ {K : Int32 × zM → Prop} (v1 v2 : Int32) (lo hi : Int64), f_MO_isIn v2.toInt64 lo hi = true → (∀ p3 : zM, fl2 [25] [(0, 36)] p.2 p3 → wM (P 3) (dh (P 3) x) (da (P 3) x) p3 → ok (if v1 = (-1) then if v2 = 0 then some (((p3.1 0 36), p3)) else if v2 = 1 then (f_MO_foldedOf (p3.2.1 0 72) p3).bind fun p5 => some ((p5.1, p5.2)) else (f_MO_isBad (p3.2.1 0 72) p3).bind fun p4 => if p4.1 = true then some ((1, p4.2)) else some ((0, p4.2)) else (f_MO_agentHas v1 v2 p3).bind fun r6 => some ((r6, p3))) K) → ok (f_MO_now_J42 v1 v2 v2.toInt64 lo hi p.2) K := by
      intro K v1 v2 lo hi hin hk
      unfold f_MO_now_J42
      refine ok_ip hin ?_
      rw [wm']
      exact ok_bi (opensK rx.1) (fun p3 ⟨o1, o2⟩ => hk p3 o1 o2)
    have iv : ∀ p3 : zM, fl2 [25, 26] [(0, 36), (0, 38)] p.2 p3 → IvW mx p3 := fun p3 f => Qy_s hq f (by decide) (by decide) (by decide) (by decide) (by decide)
    refine ok_it (fun q => ?_) (fun q => ?_)
    · subst q
      have em := (isIn_m (n := P 3) (x := -1) (by omega)).mpr (Or.inl rfl)
      rcases num_or a2 3 with ⟨k, hk, e⟩ | e
      · have e6 := (isIn_c (n := 3) (x := a2) (hi := 2) (by decide) (by decide)).mpr ⟨k, hk, e⟩
        rcases (show k = 0 ∨ k = 1 ∨ k = 2 by omega) with z | z | z <;> subst z <;> subst e
        · refine ok_ip (by decide) (ok_mk (ok_ip z1 (ok_eb eg (ok_ip em (ok_ip rfl (op _ _ _ _ e6 (fun p3 o1 o2 => ok_ip rfl (ok_ip (by decide) (ok_mk ⟨?_, iv _ (fl2_su o1 (by decide))⟩)))))))))
          exact wx.1.trans o2.1.symm
        · refine ok_in (by decide) (ok_ip (by decide) (ok_bi (numX h1 h4 h3 g3 rx wx (by decide) (by decide)) (fun px ⟨n1, k, k1, k2, k3⟩ => ok_mk (ok_ip z1 (ok_eb eg (ok_ip em (ok_ip rfl (op _ _ _ _ e6 (fun p3 o1 o2 => ok_ip rfl (ok_in (by decide) (ok_ip (by decide) ?_)))))))))))
          rw [fl2_j o1 (by decide), wm']
          refine ok_bi (foldedOfM h1 (tM_fl z3 o1 (by decide)) (LMx_fl z4.2.1 o1 (by decide) (by decide)) rx.1) (fun p5 ⟨f1, f2⟩ => ok_mk ⟨?_, ?_⟩)
          · rcases f2 with ⟨j, j1, j2, j3⟩ | ⟨j1, _⟩
            · show px.1 = p5.1
              rw [k3, j3, Lst_in h4 k1 j1 (k2.trans j2.symm)]
            · exact absurd k2 (j1 k k1)
          · exact IvW_x (iv _ (fl2_tr (fl2_su o1 (by decide)) f1)) n1 (by decide) (by decide) (by decide) (by decide) (by decide) (by decide) (by decide) (by decide)
        · refine ok_in (by decide) (ok_in (by decide) (ok_ip (by decide) (ok_eb (tb_ok r0.2.1 r0.1) (ok_eb (isBadX h1 g2 rx.1 wx) (ok_mk (ok_ip z1 (ok_eb eg (ok_ip em (ok_ip rfl (op _ _ _ _ e6 (fun p3 o1 o2 => ok_ip rfl (ok_in (by decide) (ok_in (by decide) ?_)))))))))))))
          rw [fl2_j o1 (by decide), wm']
          refine ok_bi (isBadM h1 (tM_fl z3 o1 (by decide)) rx.1) (fun p4 ⟨f1, f2⟩ => ?_)
          have iv' := iv _ (fl2_tr (fl2_su o1 (by decide)) (fl2_su f1 (by decide)))
          rw [f2]
          cases bd P x with
          | true => exact ok_ip rfl (ok_mk ⟨as_t, iv'⟩)
          | false => exact ok_in Bool.false_ne_true (ok_mk ⟨as_f, iv'⟩)
      · refine ok_in (e 0 (by omega)) (ok_in (e 1 (by omega)) (ok_in (e 2 (by omega)) (ok_mk (ok_ip z1 (ok_eb eg (ok_ip em (ok_ip rfl ?_)))))))
        unfold f_MO_now_J42
        exact ok_in (by rw [isIn_d (n := 3) (by decide) (by decide) e]; decide) (ok_mk ⟨rfl, Qy_i hq⟩)
    · refine ok_bi (isAgT ht.1) (fun r hr => ok_it (fun q2 => ?_) (fun q2 => ok_mk (ok_ip z1 (ok_eb eg (ok_in (fun y => ?_) (ok_mk ⟨rfl, Qy_i hq⟩))))))
      · obtain ⟨a, ha, e⟩ := hr.mp q2
        subst e
        have em := (isIn_m (n := P 3) (x := nI a) (by omega)).mpr (Or.inr ⟨a, ha, rfl⟩)
        refine ok_ix rfl (by omega : a < 4) (by decide) (ok_mk (ok_ip z1 (ok_eb eg (ok_ip em (ok_in q ?_)))))
        have dl := da_lt (P 3) x a
        have ew : mx.1 (55 + 1) a = nI (da (P 3) x a) := wx.2.2 a ha
        rcases num_or a2 4 with ⟨k, hk, e⟩ | e
        · have e6 := (isIn_c (n := 4) (x := a2) (hi := 3) (by decide) (by decide)).mpr ⟨k, hk, e⟩
          subst e
          refine op _ _ _ _ e6 (fun p3' o1 o2 => ok_in q ?_)
          have ms := ms_S _ dl
          have e25 := wM_a o2 ha (by omega)
          have iv' := iv _ (fl2_su o1 (by decide))
          unfold f_MO_agentHas
          refine ok_bi (G := fun r => r = f_PA_held (nI (da (P 3) x a)) (nI k)) (ok_ix rfl (by omega : a < 4) (by decide) ?_) (fun r er => ok_mk ⟨?_, iv'⟩)
          · rw [e25, ms.1, ms.2.1, ms.2.2.1, ms.2.2.2.1]
            rcases (show k = 0 ∨ k = 1 ∨ k = 2 ∨ k = 3 by omega) with z | z | z | z <;> subst z
            · exact ok_ip rfl (ok_mk (hd0 dl).symm)
            · exact ok_in (by decide) (ok_ip rfl (ok_mk (hd1 dl).symm))
            · exact ok_in (by decide) (ok_in (by decide) (ok_ip rfl (ok_mk (hd2 dl).symm)))
            · exact ok_in (by decide) (ok_in (by decide) (ok_in (by decide) (ok_mk (hd3 dl).symm)))
          · show f_PA_held (mx.1 (55 + 1) a) (nI k) = r
            rw [er, ew]
        · unfold f_MO_now_J42
          refine ok_in (by rw [isIn_d (n := 4) (by decide) (by decide) e]; decide) (ok_mk ⟨?_, Qy_i hq⟩)
          show f_PA_held _ a2 = -1
          unfold f_PA_held
          rw [if_neg (show ¬ a2 = 0 from e 0 (by omega)), if_neg (show ¬ a2 = 1 from e 1 (by omega)), if_neg (show ¬ a2 = 2 from e 2 (by omega)), if_neg (show ¬ a2 = 3 from e 3 (by omega))]
      · rcases (isIn_m (by omega)).mp y with z | z
        · exact q z
        · exact q2 (hr.mpr z)
