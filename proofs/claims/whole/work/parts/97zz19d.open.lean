theorem mi_law_9 : zLI R_law 9 s_PA_init 0 := ⟨⟨by decide, by decide, by decide +kernel⟩, rfl, rfl, (ztb_1 (i := 25) rfl rfl), (ztb_1 (i := 24) rfl rfl), (ztb_1 (i := 1) rfl rfl), Or.inl (ztb_1 (i := 23) rfl rfl)⟩
theorem mi_law_12 : zLI R_law 12 s_MO_init 0 := ⟨⟨by decide, by decide, by decide +kernel⟩, rfl, rfl, (ztb_6 (i := 225) rfl rfl), (ztb_6 (i := 224) rfl rfl), (ztb_1 (i := 13) rfl rfl), Or.inl (ztb_6 (i := 223) rfl rfl)⟩
set_option maxRecDepth 100000 in
theorem whole_open {Inv : zM → zM → Prop} (hA : Alike Inv) (hI : Inv mx0 mm0) {p : Program} {e : Env} {s : State} {m : MethodId} {below : List Frame} {meth : Method} {c : Code} (l : Launch) {b L : Nat} {xs : Nat → Int32} (hL : L ≤ 3072) (C0 : lw_At p s m meth c b L xs) : W p l e room_1 s m #[Value.ref b] below meth c s.heap [] 0 0 (lw_Z below #[Value.ref b] s) (entryFrame m ([Value.ref b] : List Value).toArray 4) := by
  obtain ⟨D, cA, adx, adm, hc⟩ := lx_of C0
  obtain ⟨hx, hb, hr, hml, hown, hts, hX, hbl, hlocks, hgv⟩ := id C0
  obtain ⟨-, hK, hN, hO, hSx, hSm, hax, ham⟩ := id hc
  have hl := lv_entry ([.ref b]) (n := 4) (Nat.le_of_ble_eq_true rfl)
  rw [lg_entry_eq]
  generalize (lg_sl ([.ref b]) ++ List.replicate (4 - (lg_sl ([.ref b])).length) Slot.unset).toArray = lv at hl ⊢
  have hl : lv_has lv 4 [(0, .ref b)] := hl
  refine lnew (n := 0) (S' := s_PA_init) (hF := (SHX, F_PA_init 1 0 w00)) C0 hK hN hO hSx (va_S.rf (A := zA0 s)) hl (by rw [hax 0 (by decide)]; rfl) (fun k hk => by rw [hax k (by omega), hax (k + 1) (by omega)]; omega) zk_PA ty2_PA (ztb_1 (i := 21) rfl rfl) (ztb_1 (i := 22) rfl rfl) (ztb_1 (i := 1) rfl rfl) mi_law_9 ⟨Nat.le_of_ble_eq_true rfl, Nat.le_of_ble_eq_true rfl⟩ (Nat.le_of_ble_eq_true rfl) (Nat.le_of_ble_eq_true rfl) d_law_0 d_law_3 d_law_4 (zi_PA_init w00 ⟨rfl, rfl⟩) (fun H1 locs1 hP1 hz1 _ hS1 hk1 => ?_)
  have hz1 : H1.size = s.heap.size + 138 := by rw [hz1]; show adx SHX.length = _; rw [SHX_len]; exact hax 138 (by decide)
  refine lv_astore_n (lv' := [(1, .ref (adx 0)), (0, .ref b)]) hx hb d_law_7 rfl hl (by decide) rfl (fun lv hl => ?_)
  refine lnew (n := 0) (S' := s_MO_init) (hF := (SHM, F_MO_init 1 0 w00)) C0 hK hN hO hSm hS1 hl (by rw [ham 0 (by decide), hz1]) (fun k hk => by rw [ham k (by omega), ham (k + 1) (by omega)]; omega) zk_MO ty2_MO (ztb_6 (i := 221) rfl rfl) (ztb_6 (i := 222) rfl rfl) (ztb_1 (i := 13) rfl rfl) mi_law_12 ⟨Nat.le_of_ble_eq_true rfl, Nat.le_of_ble_eq_true rfl⟩ (Nat.le_of_ble_eq_true rfl) (Nat.le_of_ble_eq_true rfl) d_law_8 d_law_11 d_law_12 (zi_MO_init w00 ⟨rfl, rfl⟩) (fun H2 locs2 hP2 hz2 _ hS2 hk2 => ?_)
  have hz2 : H2.size = s.heap.size + 138 + 58 := by rw [hz2]; show adm SHM.length = _; rw [SHM_len]; exact ham 58 (by decide)
  refine lv_astore_n (lv' := [(2, .ref (adm 0)), (1, .ref (adx 0)), (0, .ref b)]) hx hb d_law_15 rfl hl (by decide) rfl (fun lv hl => ?_)
  refine lv_iconst (v := 0) hx hb d_law_16 (by decide) ?_
  refine lv_istore_n (lv' := [(3, .int 0), (2, .ref (adm 0)), (1, .ref (adx 0)), (0, .ref b)]) hx hb d_law_17 rfl hl (by decide) rfl (fun lv hl => ?_)
  have hPx : va_P D zcl (zws cA adx (zh gX mx0)) H2 := by
    refine zPX (hP1.kept (fun k q hk => ?_))
    obtain ⟨l1, e1⟩ := zws_ad hk
    have l2 : k < 138 := by rw [← SHX_len]; exact l1
    rw [e1, hax k (by omega)]
    exact hk2 _ (by omega) (by rw [ham 0 (by decide)]; omega)
  exact law_loop hc hL hA (L + 1) 0 mx0 mm0 hI (Nat.zero_le _) (by omega) H2 locs2 lv ⟨by omega, hPx, zPM hP2, hS2⟩ (lv_sub hl [3, 2, 1, 0] rfl)
