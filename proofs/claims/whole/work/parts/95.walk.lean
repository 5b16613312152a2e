/-- the trail of both sides -/
def TrR (P : Nat → Nat) (N : Nat) (W : Nat → Nat) (mx mm : zM) : Prop := ∃ (k q : Nat) (tr : Nat → Nat), k ≤ 20 ∧ q < 20 ∧ mx.1 0 14 = nI k ∧ mm.1 0 74 = nI k ∧ mm.1 0 75 = nI q ∧ ∀ i, i < k → rchd P N W (tr i) ∧ mx.2.1 63 i = lN (tr i) ∧ mm.2.1 52 ((q + 20 - (k - 1 - i)) % 20) = lN (km (P 3) (tr i))
theorem rchd_s {P : Nat → Nat} {N x y c : Nat} {W D : Nat → Nat} (hP : tV P) (hL : Lst (Ed P 16) (wx0 P) N W D) (hr : rchd P N W x) (e : sP P x c = some y) : rchd P N W y := by
  obtain ⟨hx, i, hi, ei⟩ := hr
  have p8 := hP.1.2.2.2.2.2.2.2.2.2.2.1
  have hc : c / 4 < P 8 := by
    unfold sP at e
    by_cases q : c / 4 < P 8 ∧ c % 4 < P 3
    · exact q.1
    · rw [if_neg q] at e; cases e
  have hE : Ed P 16 (W i) (fo (P 3) y) := by
    rw [ei]
    exact (Ed_fo hP hx).mpr ⟨c, by omega, by omega, by rw [e]; rfl⟩
  obtain ⟨j, hj, ej⟩ := hL.2.1 (D i + 1) (fo (P 3) y) ⟨W i, (hL.1 i hi).1, hE⟩
  exact ⟨sP_kv hP hx e, j, hj, ej⟩
theorem fl2_CJ {S : List Nat} {F : List (Nat × Nat)} {m : zM} {a b s d n : Nat} (hb : b ∈ S) : fl2 S F m (cJ m a b s d n) := by
  refine ⟨fun k j hk => ⟨rfl, ?_⟩, rfl⟩
  show (if k = b then _ else m.2.1 k j) = _
  rw [if_neg]
  intro z
  rw [z, inS_c hb] at hk
  cases hk
theorem remX {P : Nat → Nat} {N x : Nat} {W : Nat → Nat} {mx mm : zM} (hr : rchd P N W x) (hw : wX 55 (P 3) (dh (P 3) x) (da (P 3) x) mx) (hm : mm.2.1 0 72 = lN (km (P 3) x)) (ht : TrR P N W mx mm) : ok (f_PA_remember mx) (fun px => fl2 [63] [(0, 14)] mx px ∧ ok (f_MO_keeps mm) (fun pm => fl2 [52] [(0, 74), (0, 75)] mm pm ∧ TrR P N W px pm)) := by
  obtain ⟨k, q, tr, hk, hq, e1, e2, e3, hT⟩ := ht
  have eq1 : ir (nI q + 1) 20 = nI ((q + 1) % 20) := by
    rw [nI_1]; exact pk_rem (d := 20) (by omega) (by decide) (by decide)
  have K : ∀ {G : zM → Prop}, (∀ pm, fl2 [52] [(0, 74), (0, 75)] mm pm → pm.1 0 75 = nI ((q + 1) % 20) → pm.1 0 74 = nI (if k = 20 then 20 else k + 1) → pm.2.1 52 ((q + 1) % 20) = lN (km (P 3) x) → (∀ j, j ≠ (q + 1) % 20 → pm.2.1 52 j = mm.2.1 52 j) → G pm) → ok (f_MO_keeps mm) G := by
    intro G hG
    unfold f_MO_keeps
    rw [e3, eq1]
    have s1 : fl2 [52] [(0, 74), (0, 75)] mm (sI mm 0 75 (nI ((q + 1) % 20))) := fl2_I (inS_f (by simp))
    have s2 : fl2 [52] [(0, 74), (0, 75)] mm (sJ (sI mm 0 75 (nI ((q + 1) % 20))) 52 ((q + 1) % 20) ((sI mm 0 75 (nI ((q + 1) % 20))).2.1 0 72)) := fl2_tr s1 (fl2_J (inS_c (by simp)))
    have v1 : (sI mm 0 75 (nI ((q + 1) % 20))).2.1 0 72 = lN (km (P 3) x) := hm
    refine ok_lt (ok_ix (i := (q + 1) % 20) (rd_I1 _ _ _ _) (Nat.mod_lt _ (by decide)) (by decide) (ok_lt ?_))
    refine ok_le 20 k (fun c => ?_) (fun c => ?_) (hy := by rw [rd_JI, rd_I0 (by omega)]; exact e2)
    · refine ok_mk (hG _ s2 ?_ ?_ ?_ (fun j hj => ?_))
      · rw [rd_JI, rd_I1]
      · rw [rd_JI, rd_I0 (by omega), e2, if_pos (by omega), show k = 20 by omega]
      · rw [rd_J1, v1]
      · rw [rd_J0 (fun z => hj z.2), rd_IJ]
    · refine ok_lt (ok_mk (hG _ (fl2_tr s2 (fl2_I (inS_f (by simp)))) ?_ ?_ ?_ (fun j hj => ?_)))
      · rw [rd_I0 (by omega), rd_JI, rd_I1]
      · rw [rd_I1, rd_JI, rd_I0 (by omega), e2, if_neg (by omega), nI_1]
      · rw [rd_IJ, rd_J1, v1]
      · rw [rd_IJ, rd_J0 (fun z => hj z.2), rd_IJ]
  have J : ∀ (m1 : zM) (k1 : Nat) (tr1 : Nat → Nat), k1 < 20 → fl2 [63] [(0, 14)] mx m1 → m1.1 0 14 = nI k1 → ok (f_PA_remember_J34 m1) (fun px => fl2 [63] [(0, 14)] mx px ∧ px.1 0 14 = nI (k1 + 1) ∧ px.2.1 63 k1 = lN x ∧ ∀ i, i < k1 → px.2.1 63 i = m1.2.1 63 i) := by
    intro m1 k1 tr1 h1 f1 g1
    unfold f_PA_remember_J34
    have wx1 : wX 55 (P 3) (dh (P 3) x) (da (P 3) x) m1 := wX_fl hw f1 (by decide)
    refine ok_eb (ownX wx1 hr.1 (by decide)) (ok_ix g1 h1 (by decide) (ok_lt (ok_lt (ok_mk ⟨?_, ?_, ?_, fun i hi => ?_⟩))))
    · exact fl2_tr f1 (fl2_tr (fl2_J (inS_c (by simp))) (fl2_I (inS_f (by simp))))
    · rw [rd_I1, rd_JI, g1, nI_1]
    · rw [rd_IJ, rd_J1]
    · rw [rd_IJ, rd_J0 (by omega)]
  unfold f_PA_remember
  refine ok_ee k 20 (fun c => ?_) (fun c => ?_) (hx := e1)
  · subst c
    refine ok_eb (show zcpy 20 20 1 0 19 = some (1, 0, 19) by decide) (ok_lt (ok_lt ?_))
    refine ok_mo (J _ 19 (fun i => tr (i + 1)) (by decide) ?_ ?_) (fun px ⟨j1, j2, j3, j4⟩ => ⟨j1, K (fun pm k1 k2 k3 k4 k5 => ⟨k1, 20, (q + 1) % 20, (fun i => if i = 19 then x else tr (i + 1)), by omega, Nat.mod_lt _ (by decide), j2, ?_, k2, fun i hi => ?_⟩)⟩)
    · exact fl2_tr (fl2_CJ (by simp)) (fl2_I (inS_f (by simp)))
    · rw [rd_I1]
      show mx.1 0 14 - 1 = nI 19
      rw [e1]; decide
    · rw [k3]; rfl
    · by_cases u : i = 19
      · subst u
        show rchd P N W (if 19 = 19 then x else _) ∧ px.2.1 63 19 = lN (if 19 = 19 then x else _) ∧ _ = lN (km (P 3) (if 19 = 19 then x else _))
        rw [if_pos rfl]
        refine ⟨hr, j3, ?_⟩
        rw [show ((q + 1) % 20 + 20 - (20 - 1 - 19)) % 20 = (q + 1) % 20 by omega]
        exact k4
      · show rchd P N W (if i = 19 then x else tr (i + 1)) ∧ px.2.1 63 i = lN (if i = 19 then x else tr (i + 1)) ∧ _ = lN (km (P 3) (if i = 19 then x else tr (i + 1)))
        rw [if_neg u]
        obtain ⟨t1, t2, t3⟩ := hT (i + 1) (by omega)
        refine ⟨t1, ?_, ?_⟩
        · rw [j4 i (by omega), ← t2, rd_IJ]
          show (if 63 = 63 then va_cpy (mx.2.1 63) (mx.2.1 63) 1 0 19 i else mx.2.1 63 i) = _
          rw [if_pos rfl]
          unfold va_cpy
          rw [if_pos (by omega), show 1 + (i - 0) = i + 1 by omega]
        · rw [k5 _ (by omega), ← t3, show ((q + 1) % 20 + 20 - (20 - 1 - i)) % 20 = (q + 20 - (20 - 1 - (i + 1))) % 20 by omega]
  · have k20 : k < 20 := by omega
    refine ok_mo (J mx k tr k20 fl2_rf e1) (fun px ⟨j1, j2, j3, j4⟩ => ⟨j1, K (fun pm k1 k2 k3 k4 k5 => ⟨k1, k + 1, (q + 1) % 20, upn tr k x, by omega, Nat.mod_lt _ (by decide), j2, ?_, k2, fun i hi => ?_⟩)⟩)
    · rw [k3, if_neg c]
    · by_cases u : i = k
      · subst u
        rw [show upn tr i x i = x from if_pos rfl]
        refine ⟨hr, j3, ?_⟩
        rw [show ((q + 1) % 20 + 20 - (i + 1 - 1 - i)) % 20 = (q + 1) % 20 by omega]
        exact k4
      · rw [show upn tr k x i = tr i from if_neg u]
        obtain ⟨t1, t2, t3⟩ := hT i (by omega)
        refine ⟨t1, ?_, ?_⟩
        · rw [j4 i (by omega), t2]
        · rw [k5 _ (by omega), ← t3, show ((q + 1) % 20 + 20 - (k + 1 - 1 - i)) % 20 = (q + 20 - (k - 1 - i)) % 20 by omega]
