set_option maxRecDepth 20000 in
theorem law_loop {l : Launch} {p : Program} {e : Env} {s : State} {m : MethodId} {below : List Frame} {meth : Method} {c : Code} {b L : Nat} {xs : Nat → Int32} {D : va_G} {cA : Nat → ClassId} {adx adm : Nat → Nat} (hc : lxC p s m meth c b L xs D cA adx adm) (hL : L ≤ 3072) {Inv : zM → zM → Prop} (hA : Alike Inv) : ∀ (n k : Nat) (mx mm : zM), Inv mx mm → k ≤ L → L - k < n → LW l p e s m below meth c b D cA adx adm 18 [(0, .ref b), (1, .ref (adx 0)), (2, .ref (adm 0)), (3, .int (nI k))] [] mx mm := by
  obtain ⟨⟨hx, hb, hr, hml, hown, hts, hX, hbl, hlocks, hgv⟩, -⟩ := id hc
  intro n
  induction n with
  | zero => intro k mx mm _ _ h; exact absurd h (Nat.not_lt_zero _)
  | succ n ih =>
    intro k mx mm hI hkL hn H locs lv hH hl
    refine lv_iload_n hx hb d_law_18 rfl (lv_at hl 3 rfl) ?_
    refine lv_aload_n hx hb d_law_19 rfl (lv_at hl 0 rfl) ?_
    refine va_slen hx hb hX hbl (Nat.not_le.mpr hbl : ¬ zA0 s b) hH.2.2.2 d_law_20 ?_
    refine lv_bipush (v := 6) hx hb d_law_21 (by decide) ?_
    refine lv_isub hx hb d_law_23 ?_
    have e0 : (nI L - nI 6).toInt = (L : Int) - 6 := by have := pk_sub_toInt (a := L) (b := 6) (by omega) (by decide); exact this
    refine lv_icmp_gt (tgt := 1092) hx hb d_law_24 rfl (fun hgt => ?_) (fun hgt => ?_)
    · refine lv_iconst (v := 1) hx hb d_law_1092 (by decide) ?_
      refine va_forget (fun q hq => hH.2.2.2.2.2 q hq) ?_
      refine W.widen (k := 600000) (n := 7302250) (Nat.le_of_ble_eq_true rfl) (Nat.le_of_ble_eq_true rfl) ?_
      exact lw_ret hx hb hr hlocks d_law_1093
    · have hk6 : k + 6 ≤ L := by
        have h1 : ¬ (nI L - nI 6).toInt < (nI k).toInt := fun z => hgt (Int32.lt_iff_toInt_lt.mpr z)
        rw [e0, nI_toInt (by omega)] at h1
        omega
      refine lv_aload_n hx hb d_law_27 rfl (lv_at hl 0 rfl) ?_
      refine lv_iload_n hx hb d_law_28 rfl (lv_at hl 3 rfl) ?_
      refine va_sld hx hb hX hbl (Nat.not_le.mpr hbl : ¬ zA0 s b) hH.2.2.2 (vp_in_nI (by omega) (by omega)) d_law_29 ?_
      refine lv_bipush (v := 63) hx hb d_law_30 (by decide) ?_
      refine lv_iand hx hb d_law_32 ?_
      obtain ⟨j, hj, hj1⟩ := pk_andE (xs (nI k).toNatClampNeg) (m := 63) 6 (by decide)
      rw [hj1]
      have hj2 : (nI j).toInt = (j : Int) := nI_toInt (by omega)
      have nx : ∀ mx' mm' : zM, Inv mx' mm' → LW l p e s m below meth c b D cA adx adm 1086 [(0, .ref b), (1, .ref (adx 0)), (2, .ref (adm 0)), (3, .int (nI k))] [] mx' mm' := by
        intro mx' mm' hI' H locs lv hH hl
        refine lv_iinc (v := nI (k + 6)) (lv' := [(3, .int (nI (k + 6))), (0, .ref b), (1, .ref (adx 0)), (2, .ref (adm 0))]) hx hb d_law_1086 hl (k := 3) rfl (by rw [← nI_add]; rfl) (by decide) rfl (fun lv hl => ?_)
        refine lv_goto (tgt := 18) hx hb d_law_1089 rfl ?_
        exact ih (k + 6) mx' mm' hI' (by omega) (by omega) H locs lv hH (lv_sub hl [1, 2, 3, 0] rfl)
      by_cases j0 : j = 0
      · subst j0
        exact lv_tableIn (off := 151) (tgt := 184) hx hb d_law_33 (by rw [hj2]; decide) (by rw [hj2]; decide) (by rw [hj2]; rfl) rfl (lcase_0 hc hA hk6 hL hI nx H locs lv hH hl)
      by_cases j1 : j = 1
      · subst j1
        exact lv_tableIn (off := 214) (tgt := 247) hx hb d_law_33 (by rw [hj2]; decide) (by rw [hj2]; decide) (by rw [hj2]; rfl) rfl (lcase_1 hc hA hk6 hL hI nx H locs lv hH hl)
      by_cases j2 : j = 2
      · subst j2
        exact lv_tableIn (off := 237) (tgt := 270) hx hb d_law_33 (by rw [hj2]; decide) (by rw [hj2]; decide) (by rw [hj2]; rfl) rfl (lcase_2 hc hA hk6 hL hI nx H locs lv hH hl)
      by_cases j3 : j = 3
      · subst j3
        exact lv_tableIn (off := 250) (tgt := 283) hx hb d_law_33 (by rw [hj2]; decide) (by rw [hj2]; decide) (by rw [hj2]; rfl) rfl (lcase_3 hc hA hk6 hL hI nx H locs lv hH hl)
      by_cases j4 : j = 4
      · subst j4
        exact lv_tableIn (off := 273) (tgt := 306) hx hb d_law_33 (by rw [hj2]; decide) (by rw [hj2]; decide) (by rw [hj2]; rfl) rfl (lcase_4 hc hA hk6 hL hI nx H locs lv hH hl)
      by_cases j5 : j = 5
      · subst j5
        exact lv_tableIn (off := 296) (tgt := 329) hx hb d_law_33 (by rw [hj2]; decide) (by rw [hj2]; decide) (by rw [hj2]; rfl) rfl (lcase_5 hc hA hk6 hL hI nx H locs lv hH hl)
      by_cases j6 : j = 6
      · subst j6
        exact lv_tableIn (off := 339) (tgt := 372) hx hb d_law_33 (by rw [hj2]; decide) (by rw [hj2]; decide) (by rw [hj2]; rfl) rfl (lcase_6 hc hA hk6 hL hI nx H locs lv hH hl)
      by_cases j7 : j = 7
      · subst j7
        exact lv_tableIn (off := 372) (tgt := 405) hx hb d_law_33 (by rw [hj2]; decide) (by rw [hj2]; decide) (by rw [hj2]; rfl) rfl (lcase_7 hc hA hk6 hL hI nx H locs lv hH hl)
      by_cases j8 : j = 8
      · subst j8
        exact lv_tableIn (off := 405) (tgt := 438) hx hb d_law_33 (by rw [hj2]; decide) (by rw [hj2]; decide) (by rw [hj2]; rfl) rfl (lcase_8 hc hA hk6 hL hI nx H locs lv hH hl)
      by_cases j9 : j = 9
      · subst j9
        exact lv_tableIn (off := 448) (tgt := 481) hx hb d_law_33 (by rw [hj2]; decide) (by rw [hj2]; decide) (by rw [hj2]; rfl) rfl (lcase_9 hc hA hk6 hL hI nx H locs lv hH hl)
      by_cases j10 : j = 10
      · subst j10
        exact lv_tableIn (off := 491) (tgt := 524) hx hb d_law_33 (by rw [hj2]; decide) (by rw [hj2]; decide) (by rw [hj2]; rfl) rfl (lcase_10 hc hA hk6 hL hI nx H locs lv hH hl)
      by_cases j11 : j = 11
      · subst j11
        exact lv_tableIn (off := 534) (tgt := 567) hx hb d_law_33 (by rw [hj2]; decide) (by rw [hj2]; decide) (by rw [hj2]; rfl) rfl (lcase_11 hc hA hk6 hL hI nx H locs lv hH hl)
      by_cases j12 : j = 12
      · subst j12
        exact lv_tableIn (off := 557) (tgt := 590) hx hb d_law_33 (by rw [hj2]; decide) (by rw [hj2]; decide) (by rw [hj2]; rfl) rfl (lcase_12 hc hA hk6 hL hI nx H locs lv hH hl)
      by_cases j13 : j = 13
      · subst j13
        exact lv_tableIn (off := 590) (tgt := 623) hx hb d_law_33 (by rw [hj2]; decide) (by rw [hj2]; decide) (by rw [hj2]; rfl) rfl (lcase_13 hc hA hk6 hL hI nx H locs lv hH hl)
      by_cases j14 : j = 14
      · subst j14
        exact lv_tableIn (off := 603) (tgt := 636) hx hb d_law_33 (by rw [hj2]; decide) (by rw [hj2]; decide) (by rw [hj2]; rfl) rfl (lcase_14 hc hA hk6 hL hI nx H locs lv hH hl)
      by_cases j15 : j = 15
      · subst j15
        exact lv_tableIn (off := 626) (tgt := 659) hx hb d_law_33 (by rw [hj2]; decide) (by rw [hj2]; decide) (by rw [hj2]; rfl) rfl (lcase_15 hc hA hk6 hL hI nx H locs lv hH hl)
      by_cases j16 : j = 16
      · subst j16
        exact lv_tableIn (off := 649) (tgt := 682) hx hb d_law_33 (by rw [hj2]; decide) (by rw [hj2]; decide) (by rw [hj2]; rfl) rfl (lcase_16 hc hA hk6 hL hI nx H locs lv hH hl)
      by_cases j17 : j = 17
      · subst j17
        exact lv_tableIn (off := 682) (tgt := 715) hx hb d_law_33 (by rw [hj2]; decide) (by rw [hj2]; decide) (by rw [hj2]; rfl) rfl (lcase_17 hc hA hk6 hL hI nx H locs lv hH hl)
      by_cases j18 : j = 18
      · subst j18
        exact lv_tableIn (off := 695) (tgt := 728) hx hb d_law_33 (by rw [hj2]; decide) (by rw [hj2]; decide) (by rw [hj2]; rfl) rfl (lcase_18 hc hA hk6 hL hI nx H locs lv hH hl)
      by_cases j19 : j = 19
      · subst j19
        exact lv_tableIn (off := 728) (tgt := 761) hx hb d_law_33 (by rw [hj2]; decide) (by rw [hj2]; decide) (by rw [hj2]; rfl) rfl (lcase_19 hc hA hk6 hL hI nx H locs lv hH hl)
      by_cases j20 : j = 20
      · subst j20
        exact lv_tableIn (off := 761) (tgt := 794) hx hb d_law_33 (by rw [hj2]; decide) (by rw [hj2]; decide) (by rw [hj2]; rfl) rfl (lcase_20 hc hA hk6 hL hI nx H locs lv hH hl)
      by_cases j21 : j = 21
      · subst j21
        exact lv_tableIn (off := 794) (tgt := 827) hx hb d_law_33 (by rw [hj2]; decide) (by rw [hj2]; decide) (by rw [hj2]; rfl) rfl (lcase_21 hc hA hk6 hL hI nx H locs lv hH hl)
      by_cases j22 : j = 22
      · subst j22
        exact lv_tableIn (off := 817) (tgt := 850) hx hb d_law_33 (by rw [hj2]; decide) (by rw [hj2]; decide) (by rw [hj2]; rfl) rfl (lcase_22 hc hA hk6 hL hI nx H locs lv hH hl)
      by_cases j23 : j = 23
      · subst j23
        exact lv_tableIn (off := 840) (tgt := 873) hx hb d_law_33 (by rw [hj2]; decide) (by rw [hj2]; decide) (by rw [hj2]; rfl) rfl (lcase_23 hc hA hk6 hL hI nx H locs lv hH hl)
      by_cases j24 : j = 24
      · subst j24
        exact lv_tableIn (off := 853) (tgt := 886) hx hb d_law_33 (by rw [hj2]; decide) (by rw [hj2]; decide) (by rw [hj2]; rfl) rfl (lcase_24 hc hA hk6 hL hI nx H locs lv hH hl)
      by_cases j25 : j = 25
      · subst j25
        exact lv_tableIn (off := 876) (tgt := 909) hx hb d_law_33 (by rw [hj2]; decide) (by rw [hj2]; decide) (by rw [hj2]; rfl) rfl (lcase_25 hc hA hk6 hL hI nx H locs lv hH hl)
      by_cases j26 : j = 26
      · subst j26
        exact lv_tableIn (off := 899) (tgt := 932) hx hb d_law_33 (by rw [hj2]; decide) (by rw [hj2]; decide) (by rw [hj2]; rfl) rfl (lcase_26 hc hA hk6 hL hI nx H locs lv hH hl)
      by_cases j27 : j = 27
      · subst j27
        exact lv_tableIn (off := 922) (tgt := 955) hx hb d_law_33 (by rw [hj2]; decide) (by rw [hj2]; decide) (by rw [hj2]; rfl) rfl (lcase_27 hc hA hk6 hL hI nx H locs lv hH hl)
      by_cases j28 : j = 28
      · subst j28
        exact lv_tableIn (off := 945) (tgt := 978) hx hb d_law_33 (by rw [hj2]; decide) (by rw [hj2]; decide) (by rw [hj2]; rfl) rfl (lcase_28 hc hA hk6 hL hI nx H locs lv hH hl)
      by_cases j29 : j = 29
      · subst j29
        exact lv_tableIn (off := 968) (tgt := 1001) hx hb d_law_33 (by rw [hj2]; decide) (by rw [hj2]; decide) (by rw [hj2]; rfl) rfl (lcase_29 hc hA hk6 hL hI nx H locs lv hH hl)
      by_cases j30 : j = 30
      · subst j30
        exact lv_tableIn (off := 981) (tgt := 1014) hx hb d_law_33 (by rw [hj2]; decide) (by rw [hj2]; decide) (by rw [hj2]; rfl) rfl (lcase_30 hc hA hk6 hL hI nx H locs lv hH hl)
      by_cases j31 : j = 31
      · subst j31
        exact lv_tableIn (off := 994) (tgt := 1027) hx hb d_law_33 (by rw [hj2]; decide) (by rw [hj2]; decide) (by rw [hj2]; rfl) rfl (lcase_31 hc hA hk6 hL hI nx H locs lv hH hl)
      by_cases j32 : j = 32
      · subst j32
        exact lv_tableIn (off := 1017) (tgt := 1050) hx hb d_law_33 (by rw [hj2]; decide) (by rw [hj2]; decide) (by rw [hj2]; rfl) rfl (lcase_32 hc hA hk6 hL hI nx H locs lv hH hl)
      by_cases j33 : j = 33
      · subst j33
        exact lv_tableIn (off := 1030) (tgt := 1063) hx hb d_law_33 (by rw [hj2]; decide) (by rw [hj2]; decide) (by rw [hj2]; rfl) rfl (lcase_33 hc hA hk6 hL hI nx H locs lv hH hl)
      exact lv_tableOut (tgt := 1086) hx hb d_law_33 (by rw [hj2]; omega) rfl (nx mx mm hI H locs lv hH hl)
def w00 : zW := ((fun _ _ => 0), (fun _ _ => 0), (fun _ _ => none))
/-- the memories behind the constructors -/
def mx0 : zM := ((F_PA_init 1 0 w00).1, (F_PA_init 1 0 w00).2.1, fun j => match j with | 0 => 93 | 1 => 66 | _ => 93)
def mm0 : zM := ((F_MO_init 1 0 w00).1, (F_MO_init 1 0 w00).2.1, fun _ => 0)
theorem zP_R {D : va_G} {cA : Nat → ClassId} {ad : Nat → Nat} {s : List zQs} {I : Nat → Nat → Int32} {J : Nat → Nat → Int64} {R R' : Nat → Nat → Option Nat} {H : Heap} (h : ∀ k q, s[k]? = some q → (∀ ci, q = .inl ci → ∀ j, j < (zkd ci).length → R k j = R' k j) ∧ (∀ n, q = .inr (4, n) → ∀ j, j < n → R k j = R' k j)) (hP : va_P D zcl (zws cA ad (s, I, J, R)) H) : va_P D zcl (zws cA ad (s, I, J, R')) H := by
  intro k x hx
  obtain ⟨hk, -⟩ := zws_ad hx
  have hq : s[k]? = some s[k] := List.getElem?_eq_getElem hk
  generalize s[k] = q at hq
  obtain ⟨h1, h2⟩ := h k q hq
  have hold := hP k _ (zws_at (cA := cA) (ad := ad) (h := (s, I, J, R)) hq)
  rw [zws_at (cA := cA) (ad := ad) (h := (s, I, J, R')) hq] at hx
  cases hx
  cases q with
  | inl ci =>
    have e : zfs (zkd ci) ad (s, I, J, R') k = zfs (zkd ci) ad (s, I, J, R) k := by
      simp only [zfs]
      apply List.map_congr_left
      intro j hj
      have hj : j < (zkd ci).length := List.mem_range.mp hj
      simp only [zfv, h1 ci rfl j hj]
    show va_at D zcl (ad k, .inr (ci, zfs (zkd ci) ad (s, I, J, R') k)) H
    rw [e]
    exact hold
  | inr q =>
    obtain ⟨t, n⟩ := q
    by_cases ht : t = 4
    · subst ht
      show H[ad k]? = some (vp_cell (cA 4) (n, .inr (.inr (.inr (.inr (fun j => (R' k j).map ad))))))
      have hold : H[ad k]? = some (vp_cell (cA 4) (n, .inr (.inr (.inr (.inr (fun j => (R k j).map ad)))))) := hold
      rw [hold, vp_cell_q, vp_cell_q]
      have e : arrV (cA 4) n (fun j => va_rf ((R k j).map ad)) = arrV (cA 4) n (fun j => va_rf ((R' k j).map ad)) := by
        unfold arrV
        congr 2
        funext j
        exact congrArg (fun x => va_rf (Option.map ad x)) (h2 n rfl j.val j.isLt)
      rw [e]
    · have e : zac ad (s, I, J, R') k t n = zac ad (s, I, J, R) k t n := by
        unfold zac
        congr 1
        split <;> first | rfl | contradiction
      show H[ad k]? = some (vp_cell (cA t) (zac ad (s, I, J, R') k t n))
      rw [e]
      exact hold
theorem RX_ok : ∀ k, k < 138 → ∀ j, j < 17 → (F_PA_init 1 0 w00).2.2 k j = RX mx0.2.2 k j := by decide +kernel
theorem RM_ok : ∀ j, j < 85 → (F_MO_init 1 0 w00).2.2 0 j = RM mm0.2.2 0 j := by decide +kernel
theorem zkd_l : ∀ ci, ci < 12 → (zkd ci).length ≤ 17 := by decide +kernel
def okX : Option zQs → Bool
  | some (.inl ci) => decide (ci < 12)
  | some (.inr (4, n)) => decide (n ≤ 17)
  | _ => true
def okM (k : Nat) : Option zQs → Bool
  | some (.inl ci) => decide (k = 0 ∧ ci = 12)
  | some (.inr (4, _)) => false
  | _ => true
theorem SHX_ok : ∀ k, k < 138 → okX SHX[k]? = true := by decide +kernel
theorem SHM_ok : ∀ k, k < 58 → okM k SHM[k]? = true := by decide +kernel
theorem SHX_at {k : Nat} {q : zQs} (h : SHX[k]? = some q) : k < 138 := by rw [← SHX_len]; exact (List.getElem?_eq_some_iff.mp h).1
theorem SHM_at {k : Nat} {q : zQs} (h : SHM[k]? = some q) : k < 58 := by rw [← SHM_len]; exact (List.getElem?_eq_some_iff.mp h).1
theorem zPX {D : va_G} {cA : Nat → ClassId} {ad : Nat → Nat} {H : Heap} (hP : va_P D zcl (zws cA ad (SHX, F_PA_init 1 0 w00)) H) : va_P D zcl (zws cA ad (zh gX mx0)) H := by
  refine zP_R (s := SHX) (I := (F_PA_init 1 0 w00).1) (J := (F_PA_init 1 0 w00).2.1) (R := (F_PA_init 1 0 w00).2.2) (fun k q hq => ?_) hP
  have hk := SHX_at hq
  have h1 := SHX_ok k hk
  rw [hq] at h1
  refine ⟨fun ci e j hj => ?_, fun n e j hj => ?_⟩
  · subst e
    have := zkd_l ci (by simpa [okX] using h1)
    exact RX_ok k hk j (by omega)
  · subst e
    have : n ≤ 17 := by simpa [okX] using h1
    exact RX_ok k hk j (by omega)
theorem zPM {D : va_G} {cA : Nat → ClassId} {ad : Nat → Nat} {H : Heap} (hP : va_P D zcl (zws cA ad (SHM, F_MO_init 1 0 w00)) H) : va_P D zcl (zws cA ad (zh gM mm0)) H := by
  refine zP_R (s := SHM) (I := (F_MO_init 1 0 w00).1) (J := (F_MO_init 1 0 w00).2.1) (R := (F_MO_init 1 0 w00).2.2) (fun k q hq => ?_) hP
  have hk := SHM_at hq
  have h1 := SHM_ok k hk
  rw [hq] at h1
  refine ⟨fun ci e j hj => ?_, fun n e j hj => ?_⟩
  · subst e
    have h2 : k = 0 ∧ ci = 12 := by simpa [okM] using h1
    obtain ⟨rfl, rfl⟩ := h2
    exact RM_ok j hj
  · subst e
    simp [okM] at h1
theorem zdef0 {ty : FieldType} {ad : Nat → Nat} {s : List zQs} {k i kd : Nat} (hk : kd = (match ty with | .long => 1 | .object _ => 2 | .array _ => 2 | _ => 0)) (hty : ty = .int ∨ ty = .boolean ∨ ty = .long ∨ (∃ cn, ty = .object cn) ∨ ∃ t, ty = .array t) : zfv ad (s, w00) k i kd = defaultValue ty := by
  rcases hty with rfl | rfl | rfl | ⟨_, rfl⟩ | ⟨_, rfl⟩ <;> subst hk <;> simp [zfv, w00, defaultValue, va_rf]
/-- a new object at the law's beginning, and its constructor -/
theorem lnew {l : Launch} {p : Program} {e : Env} {s : State} {m : MethodId} {below : List Frame} {meth : Method} {c : Code} {b L : Nat} {xs : Nat → Int32} {D : va_G} {cA : Nat → ClassId} {ad : Nat → Nat} {H : Heap} {locs : List Loc} {lv : Array Slot} {ls : List (Nat × Value)} {kc ks pc : Nat} {QQ : State → Prop} {S' : zS} {ix ix2 ci N n : Nat} {C : String} {T : u_T} {ty : Nat → FieldType} {hF : zH}
    (C0 : lw_At p s m meth c b L xs) (hK : va_K D zcl (ztys cA) s) (hN : ∀ w ∈ znw, va_Nw w s) (hO : va_AO "ProtocolAtlas$Row" s) (hSt : zstr ad (zA0 s) s) (hS : va_S (zA0 s) s.heap H locs) (hl : lv_has lv 4 ls) (ha : H.size = ad 0) (had : ∀ k, k < 900 → ad (k + 1) = ad k + 1)
    (hk : zcls ci C T N ty) (hty2 : ∀ k, k < N → (ty k = .int ∨ ty k = .boolean ∨ ty k = .long ∨ (∃ cn, ty k = .object cn) ∨ ∃ t, ty k = .array t)) (hcl : Cond.classLink R_law ix C ∈ ztb) (hins : Cond.instantiable C N ∈ ztb) (hini : Cond.initialized C ∈ ztb)
    (hkI : zLI R_law ix2 S' 0) (hrm : zrl S') (hkc : kc + 1 + S'.2.2.2.2.cells ≤ room_1.cells) (hks : ks + N + S'.2.2.2.2.slots ≤ room_1.slots) (hd : decode code pc = .ok (.new ix, 3)) (hd2 : decode code (pc + 3) = .ok (.dup, 1)) (hd3 : decode code (pc + 3 + 1) = .ok (.invokespecial ix2, 3))
    (hz : zCall S' true [.ref 0] (([.inl ci] : List zQs), w00) (fun r h => r = none ∧ h = hF))
    (kk : ∀ (H1 : Heap) (locs1 : List Loc), va_P D zcl (zws cA ad hF) H1 → H1.size = ad hF.1.length → (∀ q : Nat, q < H.size → H1[q]? = H[q]?) ∨ True → va_S (zA0 s) s.heap H1 locs1 → (∀ q : Nat, q < H.size → ¬ (ad 0 ≤ q) → H1[q]? = H[q]?) → W p l e room_1 s m #[Value.ref b] below meth c H1 locs1 (kc + 1 + S'.2.2.2.2.cells) (ks + N + S'.2.2.2.2.slots) QQ (F0 m (pc + 3 + 1 + 3) lv [.ref (ad 0)])) :
    W p l e room_1 s m #[Value.ref b] below meth c H locs kc ks QQ (F0 m pc lv []) := by
  obtain ⟨hx, hb, hr, hml, hown, hts, hX, hbl, hlocks, hgv⟩ := id C0
  obtain ⟨hc, hin, hty, hnm, hown2, hlen, hkd⟩ := hk
  obtain ⟨hsg, hnm2, hret, hcd, him, hini2, hlk⟩ := hkI
  have wk : ∀ w ∈ ztb, w.before #[Value.ref b] s = true := fun w hw => hts w (ltb hw)
  have hT : ∀ w ∈ u_ws C T N, w ∈ lw_tbl := fun w hw => ltb (hin w hw)
  have hKn := hK.1 ci _ hc
  refine W.newcK hx hb hown (wk _ hcl) (wk _ hins) (wk _ hini) rfl hd (by omega) (by omega) hKn.2.1 ha fun H1 kC hkC e1 z1 o1 => ?_
  have o1' : ∀ q, q < H.size → H1[q]? = H[q]? := fun q hq => o1 q (by rw [← ha]; exact hq)
  have hS1 : va_S (zA0 s) s.heap H1 locs := ⟨Nat.le_trans hS.1 (by omega), fun x h1 h2 => (o1' x (Nat.lt_of_lt_of_le h1 hS.1)).trans (hS.2.1 x h1 h2), hS.2.2⟩
  have hP1 : va_P D zcl (zws cA ad (([.inl ci] : List zQs), w00)) H1 := by
    intro k x hx
    obtain ⟨hk1, -⟩ := zws_ad hx
    have hk0 : k = 0 := by
      have : k < 1 := hk1
      omega
    subst hk0
    rw [zws_at (cA := cA) (ad := ad) (h := (([.inl ci] : List zQs), w00)) (k := 0) rfl] at hx
    cases hx
    refine ⟨_, hc, (u_born ty hts hT hKn hkC e1 hty).to (fun j hj => ?_)⟩
    have := zfs_at (ad := ad) (h := (([.inl ci] : List zQs), w00)) (a := 0) (kds := zkd ci) (i := j) (by rw [hlen]; exact hj)
    show defaultValue (ty j) = vp_V (zfs (zkd ci) ad (([.inl ci] : List zQs), w00) 0) j
    rw [vp_V, List.getD_eq_getElem?_getD, this]
    exact (zdef0 (hkd j hj) (hty2 j hj)).symm
  have hD1 : va_D (fun q => ad 0 ≤ q) (zws cA ad (([.inl ci] : List zQs), w00)) := by
    refine ⟨fun i j x y hi hj _ => ?_, fun k q hk => ?_⟩
    · have h1 : i < 1 := (zws_ad hi).1
      have h2 : j < 1 := (zws_ad hj).1
      omega
    · obtain ⟨h1, h2⟩ := zws_ad hk
      have h1 : k < 1 := h1
      rw [h2, show k = 0 by omega]
      exact Nat.le_refl _
  have hsz0 : s.heap.size ≤ ad 0 := by rw [← ha]; exact hS.1
  have hAA : ∀ q, (fun q => ad 0 ≤ q) q → zA0 s q := fun q h => Nat.le_trans hsz0 h
  refine lv_dup hx hb hd2 rfl ?_
  have hre : PreS s H1 (va_Pc (([.ref 0] : List Value).map (zv ad)) (zPre true D cA ad (fun q => ad 0 ≤ q) (([.inl ci] : List zQs), w00))) [.ref (ad 0)] := by
    refine ⟨zpre_blind, fun U hU hW => ⟨rfl, ?_⟩⟩
    have kp : ∀ a : Nat, a < s.heap.size → ¬ (ad 0 ≤ a) → U.heap[a]? = s.heap[a]? := fun a h1 h2 => by rw [hU]; exact hS1.2.1 a h1 (fun z => by have : s.heap.size ≤ a := z; omega)
    have hSt2 := zstr_nar hSt hAA
    exact ⟨by rw [hU]; exact hP1, hD1, fun _ => ⟨by rw [hU, z1]; exact (had 0 (by decide)).symm, fun k hk hk9 => had k hk9⟩, va_K.moved hW.alike hK, znw_warm hW hN, va_AO.moved hW.alike hO, ⟨vk_S.moved hW.alike (hSt2.1.kept kp), fun i hi => vk_R.warm hW (hSt2.2.1 i hi), va_Z.moved hW.alike (hSt2.2.2.1.kept kp), hSt2.2.2.2.imp (fun z => va_Z.moved hW.alike (z.kept kp)) (fun z => va_Z.moved hW.alike (z.kept kp))⟩, fun q hq => by rw [hU, z1] at hq; show ad 0 ≤ q; omega⟩
  have hcd2 : Cond.code S'.1 S'.2.1 S'.2.2.1 S'.2.2.2.1 ∈ ztb := by rw [hret]; exact hcd
  have hmem : Cond.code S'.1 S'.2.1 S'.2.2.1 none ∈ zwo S' := by rw [← hret]; exact List.mem_cons_self
  have hsg2 : ∀ sig, parseMethodDescriptor S'.1.desc = some sig → 0 = sig.parameters.length := fun sig h => by
    have h2 := hsg.2.2
    rw [h] at h2
    exact (Option.some.inj h2).symm
  rcases hlk with hlk | ⟨host, hlk⟩
  · refine lback (A := fun q => ad 0 ≤ q) (va_runI (own := R_law) (bytes := S'.2.1) (maxL := S'.2.2.1) (n := 0) (b := ad 0) (As := []) (rest := [.ref (ad 0)]) (mc := S'.2.2.2.2.cells) (ms := S'.2.2.2.2.slots) ⟨hx, hb, hml, hown, hts⟩ (hz l D cA ad (fun q => ad 0 ≤ q)) ⟨⟨rfl, rfl, hrm.1, hrm.2, pay_in hts (lgood hcd2), hmem, wk _ hcd, wk _ hini2, ⟨hsg.1, hsg.2.1⟩, hsg2, wk _ hlk⟩, hnm2, wk _ him⟩ hre rfl rfl hl.1 rfl (lv_room (Nat.le_of_ble_eq_true rfl)) hd3 ⟨by omega, by omega⟩) hS1 hAA (fun r h H2 locs2 hq hP2 hal h1 h2 hS2 => ?_)
    obtain ⟨rfl, rfl⟩ := hq
    refine kk H2 locs2 hP2 (hal rfl).1 (Or.inr trivial) hS2 (fun q h3 h4 => ?_)
    rw [h2 q (by omega) h4]
    exact o1' q h3
  · exact absurd rfl (znw_law hlk)
