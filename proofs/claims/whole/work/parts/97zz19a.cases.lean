theorem SHX_len : SHX.length = 138 := by decide +kernel
theorem SHM_len : SHM.length = 58 := by decide +kernel
/-- at a place of the law, with the worlds of both sides -/
def LW (l : Launch) (p : Program) (e : Env) (s : State) (m : MethodId) (below : List Frame) (meth : Method) (c : Code) (b : Nat) (D : va_G) (cA : Nat → ClassId) (adx adm : Nat → Nat) (pc : Nat) (ls : List (Nat × Value)) (st : List Value) (mx mm : zM) : Prop :=
  ∀ (H : Heap) (locs : List Loc) (lv : Array Slot), lxH s D cA adx adm H locs mx mm → lv_has lv 4 ls → W p l e room_1 s m #[Value.ref b] below meth c H locs 196 346562 (lw_Z below #[Value.ref b] s) (F0 m pc lv st)
theorem lw_x {l : Launch} {p : Program} {e : Env} {s : State} {m : MethodId} {below : List Frame} {meth : Method} {c : Code} {b L : Nat} {xs : Nat → Int32} {D : va_G} {cA : Nat → ClassId} {adx adm : Nat → Nat} (hc : lxC p s m meth c b L xs D cA adx adm) {S' : zS} {ix n pc : Nat} {ls : List (Nat × Value)} {rest : List Value} {mx mm : zM} (hk : zLV R_law ix S' n) (hcls : S'.1.cls = R_PA) (hrm : zrl S') (hz : S'.2.2.2.2.cells = 0 ∧ S'.2.2.2.2.slots = 0) (As : List Value) (hAs : ∀ ad, As.map (zv ad) = As) (hn : As.length = n) (hcat : zcat rest ≤ 8) (st0 : List Value) (hst : st0 = As.reverse ++ .ref (adx 0) :: rest) (hd : decode code pc = .ok (.invokevirtual ix, 3)) {r : Int32} {mx' : zM}
    (k : zc gX S' (.ref 0 :: As) mx (fun v m1 => v = some (.int r) ∧ m1 = mx')) (kk : LW l p e s m below meth c b D cA adx adm (pc + 3) ls (.int r :: rest) mx' mm) : LW l p e s m below meth c b D cA adx adm pc ls st0 mx mm := by
  intro H locs lv hH hl
  obtain ⟨C0, hK, hN, hO, hSx, hSm, ha, hb⟩ := hc
  obtain ⟨hz1, hPx, hPm, hS⟩ := hH
  have hAA : ∀ q, zAx s q → zA0 s q := fun q h => by
    rcases h with h | h
    · exact h.1
    · show s.heap.size ≤ q; omega
  refine lcall (A := zAx s) (ci := 11) C0 hK hN hO (zstr_nar hSx hAA) hAA (fun q h => Or.inr (by omega)) hPx (zD_of (n := 138) (B := s.heap.size) (Nat.le_of_eq SHX_len) (by decide) ha (fun q h1 h2 => Or.inl ⟨h1, h2⟩)) hS hl hk hrm hz (q0 := (R_PA, F_PA, 16)) rfl hcls.symm rfl As (hAs adx) hn hcat ⟨Nat.le_of_ble_eq_true rfl, Nat.le_of_ble_eq_true rfl⟩ st0 hst hd k (fun v m1 H1 locs1 hq hP1 h1 h2 hS1 => ?_)
  obtain ⟨rfl, rfl⟩ := hq
  refine kk H1 locs1 lv ⟨Nat.le_trans hz1 h1, hP1, hPm.kept (fun k q hk => ?_), hS1⟩ hl
  obtain ⟨l1, e1⟩ := zws_ad hk
  have l2 : k < 58 := by rw [← SHM_len]; exact l1
  rw [e1, hb k (by omega)]
  refine h2 _ (by omega) (fun z => ?_)
  rcases z with z | z <;> omega
theorem lw_m {l : Launch} {p : Program} {e : Env} {s : State} {m : MethodId} {below : List Frame} {meth : Method} {c : Code} {b L : Nat} {xs : Nat → Int32} {D : va_G} {cA : Nat → ClassId} {adx adm : Nat → Nat} (hc : lxC p s m meth c b L xs D cA adx adm) {S' : zS} {ix n pc : Nat} {ls : List (Nat × Value)} {rest : List Value} {mx mm : zM} (hk : zLV R_law ix S' n) (hcls : S'.1.cls = R_MO) (hrm : zrl S') (hz : S'.2.2.2.2.cells = 0 ∧ S'.2.2.2.2.slots = 0) (As : List Value) (hAs : ∀ ad, As.map (zv ad) = As) (hn : As.length = n) (hcat : zcat rest ≤ 8) (st0 : List Value) (hst : st0 = As.reverse ++ .ref (adm 0) :: rest) (hd : decode code pc = .ok (.invokevirtual ix, 3)) {r : Int32} {mm' : zM}
    (k : zc gM S' (.ref 0 :: As) mm (fun v m1 => v = some (.int r) ∧ m1 = mm')) (kk : LW l p e s m below meth c b D cA adx adm (pc + 3) ls (.int r :: rest) mx mm') : LW l p e s m below meth c b D cA adx adm pc ls st0 mx mm := by
  intro H locs lv hH hl
  obtain ⟨C0, hK, hN, hO, hSx, hSm, ha, hb⟩ := hc
  obtain ⟨hz1, hPx, hPm, hS⟩ := hH
  have hAA : ∀ q, zAm s q → zA0 s q := fun q h => by
    have h : s.heap.size + 138 ≤ q := h
    show s.heap.size ≤ q
    omega
  refine lcall (A := zAm s) (ci := 12) C0 hK hN hO (zstr_nar hSm hAA) hAA (fun q h => by show s.heap.size + 138 ≤ q; omega) hPm (zD_of (n := 58) (B := s.heap.size + 138) (Nat.le_of_eq SHM_len) (by decide) hb (fun q h1 h2 => h1)) hS hl hk hrm hz (q0 := (R_MO, F_MO, 85)) rfl hcls.symm rfl As (hAs adm) hn hcat ⟨Nat.le_of_ble_eq_true rfl, Nat.le_of_ble_eq_true rfl⟩ st0 hst hd k (fun v m1 H1 locs1 hq hP1 h1 h2 hS1 => ?_)
  obtain ⟨rfl, rfl⟩ := hq
  refine kk H1 locs1 lv ⟨Nat.le_trans hz1 h1, hPx.kept (fun k q hk => ?_), hP1, hS1⟩ hl
  obtain ⟨l1, e1⟩ := zws_ad hk
  have l2 : k < 138 := by rw [← SHX_len]; exact l1
  rw [e1, ha k (by omega)]
  exact h2 _ (by omega) (fun z => by have z : s.heap.size + 138 ≤ s.heap.size + k := z; omega)
/-- the j-th number behind place k of the script, onto the stack -/
theorem lw_arg {l : Launch} {p : Program} {e : Env} {s : State} {m : MethodId} {below : List Frame} {meth : Method} {c : Code} {b L : Nat} {xs : Nat → Int32} {D : va_G} {cA : Nat → ClassId} {adx adm : Nat → Nat} (hc : lxC p s m meth c b L xs D cA adx adm) {pc k : Nat} {st : List Value} {mx mm : zM} (j : Nat) (hj : j < 6) (hk : k + 6 ≤ L) (hL : L ≤ 3072) {x y : Value} (d0 : decode code pc = .ok (.aload_n 0, 1)) (d1 : decode code (pc + 1) = .ok (.iload_n 3, 1)) (d2 : decode code (pc + 2) = .ok (.iconst (j : Int), 1)) (d3 : decode code (pc + 3) = .ok (.iadd, 1)) (d4 : decode code (pc + 4) = .ok (.iaload, 1))
    (kk : LW l p e s m below meth c b D cA adx adm (pc + 5) [(0, .ref b), (1, x), (2, y), (3, .int (nI k))] (.int (xs (k + j)) :: st) mx mm) : LW l p e s m below meth c b D cA adx adm pc [(0, .ref b), (1, x), (2, y), (3, .int (nI k))] st mx mm := by
  intro H locs lv hH hl
  obtain ⟨⟨hx, hb, hr, hml, hown, hts, hX, hbl, hlocks, hgv⟩, -⟩ := id hc
  refine lv_aload_n hx hb d0 rfl (lv_at hl 0 rfl) ?_
  refine lv_iload_n hx hb d1 rfl (lv_at hl 3 rfl) ?_
  refine lv_iconst (v := nI j) hx hb d2 rfl ?_
  refine lv_iadd hx hb d3 ?_
  rw [nI_add]
  refine va_sld hx hb hX hbl (Nat.not_le.mpr hbl : ¬ zA0 s b) hH.2.2.2 (vp_in_nI (by omega) (by omega)) d4 ?_
  rw [nI_clamp (by omega)]
  exact kk H locs lv hH hl
theorem lcase_0 {l : Launch} {p : Program} {e : Env} {s : State} {m : MethodId} {below : List Frame} {meth : Method} {c : Code} {b L : Nat} {xs : Nat → Int32} {D : va_G} {cA : Nat → ClassId} {adx adm : Nat → Nat} (hc : lxC p s m meth c b L xs D cA adx adm) {Inv : zM → zM → Prop} (hA : Alike Inv) {k : Nat} (hk : k + 6 ≤ L) (hL : L ≤ 3072) {mx mm : zM} (hI : Inv mx mm) (nx : ∀ mx' mm' : zM, Inv mx' mm' → LW l p e s m below meth c b D cA adx adm 1086 [(0, .ref b), (1, .ref (adx 0)), (2, .ref (adm 0)), (3, .int (nI k))] [] mx' mm') : LW l p e s m below meth c b D cA adx adm 184 [(0, .ref b), (1, .ref (adx 0)), (2, .ref (adm 0)), (3, .int (nI k))] [] mx mm := by
  obtain ⟨⟨hx, hb, hr, hml, hown, hts, hX, hbl, hlocks, hgv⟩, -⟩ := id hc
  obtain ⟨r, mx', mm', e1, e2, hI'⟩ := hA 0 (xs (k + 1)) (xs (k + 2)) (xs (k + 3)) (xs (k + 4)) (xs (k + 5)) mx mm (by decide) hI
  have t3 : LW l p e s m below meth c b D cA adx adm 242 [(0, .ref b), (1, .ref (adx 0)), (2, .ref (adm 0)), (3, .int (nI k))] [.int r, .int r] mx' mm' := by
    intro H locs lv hH hl
    exact lv_icmp_eq (tgt := 1086) hx hb d_law_242 rfl (fun _ => nx mx' mm' hI' H locs lv hH hl) (fun h => absurd rfl h)
  have t2 : LW l p e s m below meth c b D cA adx adm 214 [(0, .ref b), (1, .ref (adx 0)), (2, .ref (adm 0)), (3, .int (nI k))] [.ref (adm 0), .int r] mx' mm := by
    refine lw_arg hc 1 (by decide) hk hL d_law_214 d_law_215 d_law_216 d_law_217 d_law_218 ?_
    refine lw_arg hc 2 (by decide) hk hL d_law_219 d_law_220 d_law_221 d_law_222 d_law_223 ?_
    refine lw_arg hc 3 (by decide) hk hL d_law_224 d_law_225 d_law_226 d_law_227 d_law_228 ?_
    refine lw_arg hc 4 (by decide) hk hL d_law_229 d_law_230 d_law_231 d_law_232 d_law_233 ?_
    refine lw_arg hc 5 (by decide) hk hL d_law_234 d_law_235 d_law_236 d_law_237 d_law_238 ?_
    exact lw_m hc mv_law_17 rfl ⟨Nat.le_of_ble_eq_true rfl, Nat.le_of_ble_eq_true rfl⟩ ⟨rfl, rfl⟩ [.int (xs (k + 1)), .int (xs (k + 2)), .int (xs (k + 3)), .int (xs (k + 4)), .int (xs (k + 5))] (fun _ => rfl) rfl (Nat.le_of_ble_eq_true rfl) [.int (xs (k + 5)), .int (xs (k + 4)), .int (xs (k + 3)), .int (xs (k + 2)), .int (xs (k + 1)), .ref (adm 0), .int r] rfl d_law_239 (zm_0 (xs (k + 1)) (xs (k + 2)) (xs (k + 3)) (xs (k + 4)) (xs (k + 5)) mm ⟨_, e2, rfl, rfl⟩) t3
  have t1 : LW l p e s m below meth c b D cA adx adm 185 [(0, .ref b), (1, .ref (adx 0)), (2, .ref (adm 0)), (3, .int (nI k))] [.ref (adx 0)] mx mm := by
    refine lw_arg hc 1 (by decide) hk hL d_law_185 d_law_186 d_law_187 d_law_188 d_law_189 ?_
    refine lw_arg hc 2 (by decide) hk hL d_law_190 d_law_191 d_law_192 d_law_193 d_law_194 ?_
    refine lw_arg hc 3 (by decide) hk hL d_law_195 d_law_196 d_law_197 d_law_198 d_law_199 ?_
    refine lw_arg hc 4 (by decide) hk hL d_law_200 d_law_201 d_law_202 d_law_203 d_law_204 ?_
    refine lw_arg hc 5 (by decide) hk hL d_law_205 d_law_206 d_law_207 d_law_208 d_law_209 ?_
    refine lw_x hc mv_law_13 rfl ⟨Nat.le_of_ble_eq_true rfl, Nat.le_of_ble_eq_true rfl⟩ ⟨rfl, rfl⟩ [.int (xs (k + 1)), .int (xs (k + 2)), .int (xs (k + 3)), .int (xs (k + 4)), .int (xs (k + 5))] (fun _ => rfl) rfl (Nat.le_of_ble_eq_true rfl) [.int (xs (k + 5)), .int (xs (k + 4)), .int (xs (k + 3)), .int (xs (k + 2)), .int (xs (k + 1)), .ref (adx 0)] rfl d_law_210 (zx_0 (xs (k + 1)) (xs (k + 2)) (xs (k + 3)) (xs (k + 4)) (xs (k + 5)) mx ⟨_, e1, rfl, rfl⟩) (mx' := mx') ?_
    intro H locs lv hH hl
    exact lv_aload_n hx hb d_law_213 rfl (lv_at hl 2 rfl) (t2 H locs lv hH hl)
  intro H locs lv hH hl
  exact lv_aload_n hx hb d_law_184 rfl (lv_at hl 1 rfl) (t1 H locs lv hH hl)
theorem lcase_1 {l : Launch} {p : Program} {e : Env} {s : State} {m : MethodId} {below : List Frame} {meth : Method} {c : Code} {b L : Nat} {xs : Nat → Int32} {D : va_G} {cA : Nat → ClassId} {adx adm : Nat → Nat} (hc : lxC p s m meth c b L xs D cA adx adm) {Inv : zM → zM → Prop} (hA : Alike Inv) {k : Nat} (hk : k + 6 ≤ L) (hL : L ≤ 3072) {mx mm : zM} (hI : Inv mx mm) (nx : ∀ mx' mm' : zM, Inv mx' mm' → LW l p e s m below meth c b D cA adx adm 1086 [(0, .ref b), (1, .ref (adx 0)), (2, .ref (adm 0)), (3, .int (nI k))] [] mx' mm') : LW l p e s m below meth c b D cA adx adm 247 [(0, .ref b), (1, .ref (adx 0)), (2, .ref (adm 0)), (3, .int (nI k))] [] mx mm := by
  obtain ⟨⟨hx, hb, hr, hml, hown, hts, hX, hbl, hlocks, hgv⟩, -⟩ := id hc
  obtain ⟨r, mx', mm', e1, e2, hI'⟩ := hA 1 (xs (k + 1)) 0 0 0 0 mx mm (by decide) hI
  have t3 : LW l p e s m below meth c b D cA adx adm 265 [(0, .ref b), (1, .ref (adx 0)), (2, .ref (adm 0)), (3, .int (nI k))] [.int r, .int r] mx' mm' := by
    intro H locs lv hH hl
    exact lv_icmp_eq (tgt := 1086) hx hb d_law_265 rfl (fun _ => nx mx' mm' hI' H locs lv hH hl) (fun h => absurd rfl h)
  have t2 : LW l p e s m below meth c b D cA adx adm 257 [(0, .ref b), (1, .ref (adx 0)), (2, .ref (adm 0)), (3, .int (nI k))] [.ref (adm 0), .int r] mx' mm := by
    refine lw_arg hc 1 (by decide) hk hL d_law_257 d_law_258 d_law_259 d_law_260 d_law_261 ?_
    exact lw_m hc mv_law_22 rfl ⟨Nat.le_of_ble_eq_true rfl, Nat.le_of_ble_eq_true rfl⟩ ⟨rfl, rfl⟩ [.int (xs (k + 1))] (fun _ => rfl) rfl (Nat.le_of_ble_eq_true rfl) [.int (xs (k + 1)), .ref (adm 0), .int r] rfl d_law_262 (zm_1 (xs (k + 1)) 0 0 0 0 mm ⟨_, e2, rfl, rfl⟩) t3
  have t1 : LW l p e s m below meth c b D cA adx adm 248 [(0, .ref b), (1, .ref (adx 0)), (2, .ref (adm 0)), (3, .int (nI k))] [.ref (adx 0)] mx mm := by
    refine lw_arg hc 1 (by decide) hk hL d_law_248 d_law_249 d_law_250 d_law_251 d_law_252 ?_
    refine lw_x hc mv_law_18 rfl ⟨Nat.le_of_ble_eq_true rfl, Nat.le_of_ble_eq_true rfl⟩ ⟨rfl, rfl⟩ [.int (xs (k + 1))] (fun _ => rfl) rfl (Nat.le_of_ble_eq_true rfl) [.int (xs (k + 1)), .ref (adx 0)] rfl d_law_253 (zx_1 (xs (k + 1)) 0 0 0 0 mx ⟨_, e1, rfl, rfl⟩) (mx' := mx') ?_
    intro H locs lv hH hl
    exact lv_aload_n hx hb d_law_256 rfl (lv_at hl 2 rfl) (t2 H locs lv hH hl)
  intro H locs lv hH hl
  exact lv_aload_n hx hb d_law_247 rfl (lv_at hl 1 rfl) (t1 H locs lv hH hl)
theorem lcase_2 {l : Launch} {p : Program} {e : Env} {s : State} {m : MethodId} {below : List Frame} {meth : Method} {c : Code} {b L : Nat} {xs : Nat → Int32} {D : va_G} {cA : Nat → ClassId} {adx adm : Nat → Nat} (hc : lxC p s m meth c b L xs D cA adx adm) {Inv : zM → zM → Prop} (hA : Alike Inv) {k : Nat} (hk : k + 6 ≤ L) (hL : L ≤ 3072) {mx mm : zM} (hI : Inv mx mm) (nx : ∀ mx' mm' : zM, Inv mx' mm' → LW l p e s m below meth c b D cA adx adm 1086 [(0, .ref b), (1, .ref (adx 0)), (2, .ref (adm 0)), (3, .int (nI k))] [] mx' mm') : LW l p e s m below meth c b D cA adx adm 270 [(0, .ref b), (1, .ref (adx 0)), (2, .ref (adm 0)), (3, .int (nI k))] [] mx mm := by
  obtain ⟨⟨hx, hb, hr, hml, hown, hts, hX, hbl, hlocks, hgv⟩, -⟩ := id hc
  obtain ⟨r, mx', mm', e1, e2, hI'⟩ := hA 2 0 0 0 0 0 mx mm (by decide) hI
  have t3 : LW l p e s m below meth c b D cA adx adm 278 [(0, .ref b), (1, .ref (adx 0)), (2, .ref (adm 0)), (3, .int (nI k))] [.int r, .int r] mx' mm' := by
    intro H locs lv hH hl
    exact lv_icmp_eq (tgt := 1086) hx hb d_law_278 rfl (fun _ => nx mx' mm' hI' H locs lv hH hl) (fun h => absurd rfl h)
  have t2 : LW l p e s m below meth c b D cA adx adm 275 [(0, .ref b), (1, .ref (adx 0)), (2, .ref (adm 0)), (3, .int (nI k))] [.ref (adm 0), .int r] mx' mm := by

    exact lw_m hc mv_law_27 rfl ⟨Nat.le_of_ble_eq_true rfl, Nat.le_of_ble_eq_true rfl⟩ ⟨rfl, rfl⟩ [] (fun _ => rfl) rfl (Nat.le_of_ble_eq_true rfl) [.ref (adm 0), .int r] rfl d_law_275 (zm_2 0 0 0 0 0 mm ⟨_, e2, rfl, rfl⟩) t3
  have t1 : LW l p e s m below meth c b D cA adx adm 271 [(0, .ref b), (1, .ref (adx 0)), (2, .ref (adm 0)), (3, .int (nI k))] [.ref (adx 0)] mx mm := by

    refine lw_x hc mv_law_23 rfl ⟨Nat.le_of_ble_eq_true rfl, Nat.le_of_ble_eq_true rfl⟩ ⟨rfl, rfl⟩ [] (fun _ => rfl) rfl (Nat.le_of_ble_eq_true rfl) [.ref (adx 0)] rfl d_law_271 (zx_2 0 0 0 0 0 mx ⟨_, e1, rfl, rfl⟩) (mx' := mx') ?_
    intro H locs lv hH hl
    exact lv_aload_n hx hb d_law_274 rfl (lv_at hl 2 rfl) (t2 H locs lv hH hl)
  intro H locs lv hH hl
  exact lv_aload_n hx hb d_law_270 rfl (lv_at hl 1 rfl) (t1 H locs lv hH hl)
theorem lcase_3 {l : Launch} {p : Program} {e : Env} {s : State} {m : MethodId} {below : List Frame} {meth : Method} {c : Code} {b L : Nat} {xs : Nat → Int32} {D : va_G} {cA : Nat → ClassId} {adx adm : Nat → Nat} (hc : lxC p s m meth c b L xs D cA adx adm) {Inv : zM → zM → Prop} (hA : Alike Inv) {k : Nat} (hk : k + 6 ≤ L) (hL : L ≤ 3072) {mx mm : zM} (hI : Inv mx mm) (nx : ∀ mx' mm' : zM, Inv mx' mm' → LW l p e s m below meth c b D cA adx adm 1086 [(0, .ref b), (1, .ref (adx 0)), (2, .ref (adm 0)), (3, .int (nI k))] [] mx' mm') : LW l p e s m below meth c b D cA adx adm 283 [(0, .ref b), (1, .ref (adx 0)), (2, .ref (adm 0)), (3, .int (nI k))] [] mx mm := by
  obtain ⟨⟨hx, hb, hr, hml, hown, hts, hX, hbl, hlocks, hgv⟩, -⟩ := id hc
  obtain ⟨r, mx', mm', e1, e2, hI'⟩ := hA 3 (xs (k + 1)) 0 0 0 0 mx mm (by decide) hI
  have t3 : LW l p e s m below meth c b D cA adx adm 301 [(0, .ref b), (1, .ref (adx 0)), (2, .ref (adm 0)), (3, .int (nI k))] [.int r, .int r] mx' mm' := by
    intro H locs lv hH hl
    exact lv_icmp_eq (tgt := 1086) hx hb d_law_301 rfl (fun _ => nx mx' mm' hI' H locs lv hH hl) (fun h => absurd rfl h)
  have t2 : LW l p e s m below meth c b D cA adx adm 293 [(0, .ref b), (1, .ref (adx 0)), (2, .ref (adm 0)), (3, .int (nI k))] [.ref (adm 0), .int r] mx' mm := by
    refine lw_arg hc 1 (by decide) hk hL d_law_293 d_law_294 d_law_295 d_law_296 d_law_297 ?_
    exact lw_m hc mv_law_32 rfl ⟨Nat.le_of_ble_eq_true rfl, Nat.le_of_ble_eq_true rfl⟩ ⟨rfl, rfl⟩ [.int (xs (k + 1))] (fun _ => rfl) rfl (Nat.le_of_ble_eq_true rfl) [.int (xs (k + 1)), .ref (adm 0), .int r] rfl d_law_298 (zm_3 (xs (k + 1)) 0 0 0 0 mm ⟨_, e2, rfl, rfl⟩) t3
  have t1 : LW l p e s m below meth c b D cA adx adm 284 [(0, .ref b), (1, .ref (adx 0)), (2, .ref (adm 0)), (3, .int (nI k))] [.ref (adx 0)] mx mm := by
    refine lw_arg hc 1 (by decide) hk hL d_law_284 d_law_285 d_law_286 d_law_287 d_law_288 ?_
    refine lw_x hc mv_law_28 rfl ⟨Nat.le_of_ble_eq_true rfl, Nat.le_of_ble_eq_true rfl⟩ ⟨rfl, rfl⟩ [.int (xs (k + 1))] (fun _ => rfl) rfl (Nat.le_of_ble_eq_true rfl) [.int (xs (k + 1)), .ref (adx 0)] rfl d_law_289 (zx_3 (xs (k + 1)) 0 0 0 0 mx ⟨_, e1, rfl, rfl⟩) (mx' := mx') ?_
    intro H locs lv hH hl
    exact lv_aload_n hx hb d_law_292 rfl (lv_at hl 2 rfl) (t2 H locs lv hH hl)
  intro H locs lv hH hl
  exact lv_aload_n hx hb d_law_283 rfl (lv_at hl 1 rfl) (t1 H locs lv hH hl)
theorem lcase_4 {l : Launch} {p : Program} {e : Env} {s : State} {m : MethodId} {below : List Frame} {meth : Method} {c : Code} {b L : Nat} {xs : Nat → Int32} {D : va_G} {cA : Nat → ClassId} {adx adm : Nat → Nat} (hc : lxC p s m meth c b L xs D cA adx adm) {Inv : zM → zM → Prop} (hA : Alike Inv) {k : Nat} (hk : k + 6 ≤ L) (hL : L ≤ 3072) {mx mm : zM} (hI : Inv mx mm) (nx : ∀ mx' mm' : zM, Inv mx' mm' → LW l p e s m below meth c b D cA adx adm 1086 [(0, .ref b), (1, .ref (adx 0)), (2, .ref (adm 0)), (3, .int (nI k))] [] mx' mm') : LW l p e s m below meth c b D cA adx adm 306 [(0, .ref b), (1, .ref (adx 0)), (2, .ref (adm 0)), (3, .int (nI k))] [] mx mm := by
  obtain ⟨⟨hx, hb, hr, hml, hown, hts, hX, hbl, hlocks, hgv⟩, -⟩ := id hc
  obtain ⟨r, mx', mm', e1, e2, hI'⟩ := hA 4 (xs (k + 1)) 0 0 0 0 mx mm (by decide) hI
  have t3 : LW l p e s m below meth c b D cA adx adm 324 [(0, .ref b), (1, .ref (adx 0)), (2, .ref (adm 0)), (3, .int (nI k))] [.int r, .int r] mx' mm' := by
    intro H locs lv hH hl
    exact lv_icmp_eq (tgt := 1086) hx hb d_law_324 rfl (fun _ => nx mx' mm' hI' H locs lv hH hl) (fun h => absurd rfl h)
  have t2 : LW l p e s m below meth c b D cA adx adm 316 [(0, .ref b), (1, .ref (adx 0)), (2, .ref (adm 0)), (3, .int (nI k))] [.ref (adm 0), .int r] mx' mm := by
    refine lw_arg hc 1 (by decide) hk hL d_law_316 d_law_317 d_law_318 d_law_319 d_law_320 ?_
    exact lw_m hc mv_law_36 rfl ⟨Nat.le_of_ble_eq_true rfl, Nat.le_of_ble_eq_true rfl⟩ ⟨rfl, rfl⟩ [.int (xs (k + 1))] (fun _ => rfl) rfl (Nat.le_of_ble_eq_true rfl) [.int (xs (k + 1)), .ref (adm 0), .int r] rfl d_law_321 (zm_4 (xs (k + 1)) 0 0 0 0 mm ⟨_, e2, rfl, rfl⟩) t3
  have t1 : LW l p e s m below meth c b D cA adx adm 307 [(0, .ref b), (1, .ref (adx 0)), (2, .ref (adm 0)), (3, .int (nI k))] [.ref (adx 0)] mx mm := by
    refine lw_arg hc 1 (by decide) hk hL d_law_307 d_law_308 d_law_309 d_law_310 d_law_311 ?_
    refine lw_x hc mv_law_33 rfl ⟨Nat.le_of_ble_eq_true rfl, Nat.le_of_ble_eq_true rfl⟩ ⟨rfl, rfl⟩ [.int (xs (k + 1))] (fun _ => rfl) rfl (Nat.le_of_ble_eq_true rfl) [.int (xs (k + 1)), .ref (adx 0)] rfl d_law_312 (zx_4 (xs (k + 1)) 0 0 0 0 mx ⟨_, e1, rfl, rfl⟩) (mx' := mx') ?_
    intro H locs lv hH hl
    exact lv_aload_n hx hb d_law_315 rfl (lv_at hl 2 rfl) (t2 H locs lv hH hl)
  intro H locs lv hH hl
  exact lv_aload_n hx hb d_law_306 rfl (lv_at hl 1 rfl) (t1 H locs lv hH hl)
theorem lcase_5 {l : Launch} {p : Program} {e : Env} {s : State} {m : MethodId} {below : List Frame} {meth : Method} {c : Code} {b L : Nat} {xs : Nat → Int32} {D : va_G} {cA : Nat → ClassId} {adx adm : Nat → Nat} (hc : lxC p s m meth c b L xs D cA adx adm) {Inv : zM → zM → Prop} (hA : Alike Inv) {k : Nat} (hk : k + 6 ≤ L) (hL : L ≤ 3072) {mx mm : zM} (hI : Inv mx mm) (nx : ∀ mx' mm' : zM, Inv mx' mm' → LW l p e s m below meth c b D cA adx adm 1086 [(0, .ref b), (1, .ref (adx 0)), (2, .ref (adm 0)), (3, .int (nI k))] [] mx' mm') : LW l p e s m below meth c b D cA adx adm 329 [(0, .ref b), (1, .ref (adx 0)), (2, .ref (adm 0)), (3, .int (nI k))] [] mx mm := by
  obtain ⟨⟨hx, hb, hr, hml, hown, hts, hX, hbl, hlocks, hgv⟩, -⟩ := id hc
  obtain ⟨r, mx', mm', e1, e2, hI'⟩ := hA 5 (xs (k + 1)) (xs (k + 2)) (xs (k + 3)) 0 0 mx mm (by decide) hI
  have t3 : LW l p e s m below meth c b D cA adx adm 367 [(0, .ref b), (1, .ref (adx 0)), (2, .ref (adm 0)), (3, .int (nI k))] [.int r, .int r] mx' mm' := by
    intro H locs lv hH hl
    exact lv_icmp_eq (tgt := 1086) hx hb d_law_367 rfl (fun _ => nx mx' mm' hI' H locs lv hH hl) (fun h => absurd rfl h)
  have t2 : LW l p e s m below meth c b D cA adx adm 349 [(0, .ref b), (1, .ref (adx 0)), (2, .ref (adm 0)), (3, .int (nI k))] [.ref (adm 0), .int r] mx' mm := by
    refine lw_arg hc 1 (by decide) hk hL d_law_349 d_law_350 d_law_351 d_law_352 d_law_353 ?_
    refine lw_arg hc 2 (by decide) hk hL d_law_354 d_law_355 d_law_356 d_law_357 d_law_358 ?_
    refine lw_arg hc 3 (by decide) hk hL d_law_359 d_law_360 d_law_361 d_law_362 d_law_363 ?_
    exact lw_m hc mv_law_41 rfl ⟨Nat.le_of_ble_eq_true rfl, Nat.le_of_ble_eq_true rfl⟩ ⟨rfl, rfl⟩ [.int (xs (k + 1)), .int (xs (k + 2)), .int (xs (k + 3))] (fun _ => rfl) rfl (Nat.le_of_ble_eq_true rfl) [.int (xs (k + 3)), .int (xs (k + 2)), .int (xs (k + 1)), .ref (adm 0), .int r] rfl d_law_364 (zm_5 (xs (k + 1)) (xs (k + 2)) (xs (k + 3)) 0 0 mm ⟨_, e2, rfl, rfl⟩) t3
  have t1 : LW l p e s m below meth c b D cA adx adm 330 [(0, .ref b), (1, .ref (adx 0)), (2, .ref (adm 0)), (3, .int (nI k))] [.ref (adx 0)] mx mm := by
    refine lw_arg hc 1 (by decide) hk hL d_law_330 d_law_331 d_law_332 d_law_333 d_law_334 ?_
    refine lw_arg hc 2 (by decide) hk hL d_law_335 d_law_336 d_law_337 d_law_338 d_law_339 ?_
    refine lw_arg hc 3 (by decide) hk hL d_law_340 d_law_341 d_law_342 d_law_343 d_law_344 ?_
    refine lw_x hc mv_law_37 rfl ⟨Nat.le_of_ble_eq_true rfl, Nat.le_of_ble_eq_true rfl⟩ ⟨rfl, rfl⟩ [.int (xs (k + 1)), .int (xs (k + 2)), .int (xs (k + 3))] (fun _ => rfl) rfl (Nat.le_of_ble_eq_true rfl) [.int (xs (k + 3)), .int (xs (k + 2)), .int (xs (k + 1)), .ref (adx 0)] rfl d_law_345 (zx_5 (xs (k + 1)) (xs (k + 2)) (xs (k + 3)) 0 0 mx ⟨_, e1, rfl, rfl⟩) (mx' := mx') ?_
    intro H locs lv hH hl
    exact lv_aload_n hx hb d_law_348 rfl (lv_at hl 2 rfl) (t2 H locs lv hH hl)
  intro H locs lv hH hl
  exact lv_aload_n hx hb d_law_329 rfl (lv_at hl 1 rfl) (t1 H locs lv hH hl)
theorem lcase_6 {l : Launch} {p : Program} {e : Env} {s : State} {m : MethodId} {below : List Frame} {meth : Method} {c : Code} {b L : Nat} {xs : Nat → Int32} {D : va_G} {cA : Nat → ClassId} {adx adm : Nat → Nat} (hc : lxC p s m meth c b L xs D cA adx adm) {Inv : zM → zM → Prop} (hA : Alike Inv) {k : Nat} (hk : k + 6 ≤ L) (hL : L ≤ 3072) {mx mm : zM} (hI : Inv mx mm) (nx : ∀ mx' mm' : zM, Inv mx' mm' → LW l p e s m below meth c b D cA adx adm 1086 [(0, .ref b), (1, .ref (adx 0)), (2, .ref (adm 0)), (3, .int (nI k))] [] mx' mm') : LW l p e s m below meth c b D cA adx adm 372 [(0, .ref b), (1, .ref (adx 0)), (2, .ref (adm 0)), (3, .int (nI k))] [] mx mm := by
  obtain ⟨⟨hx, hb, hr, hml, hown, hts, hX, hbl, hlocks, hgv⟩, -⟩ := id hc
  obtain ⟨r, mx', mm', e1, e2, hI'⟩ := hA 6 (xs (k + 1)) (xs (k + 2)) 0 0 0 mx mm (by decide) hI
  have t3 : LW l p e s m below meth c b D cA adx adm 400 [(0, .ref b), (1, .ref (adx 0)), (2, .ref (adm 0)), (3, .int (nI k))] [.int r, .int r] mx' mm' := by
    intro H locs lv hH hl
    exact lv_icmp_eq (tgt := 1086) hx hb d_law_400 rfl (fun _ => nx mx' mm' hI' H locs lv hH hl) (fun h => absurd rfl h)
  have t2 : LW l p e s m below meth c b D cA adx adm 387 [(0, .ref b), (1, .ref (adx 0)), (2, .ref (adm 0)), (3, .int (nI k))] [.ref (adm 0), .int r] mx' mm := by
    refine lw_arg hc 1 (by decide) hk hL d_law_387 d_law_388 d_law_389 d_law_390 d_law_391 ?_
    refine lw_arg hc 2 (by decide) hk hL d_law_392 d_law_393 d_law_394 d_law_395 d_law_396 ?_
    exact lw_m hc mv_law_46 rfl ⟨Nat.le_of_ble_eq_true rfl, Nat.le_of_ble_eq_true rfl⟩ ⟨rfl, rfl⟩ [.int (xs (k + 1)), .int (xs (k + 2))] (fun _ => rfl) rfl (Nat.le_of_ble_eq_true rfl) [.int (xs (k + 2)), .int (xs (k + 1)), .ref (adm 0), .int r] rfl d_law_397 (zm_6 (xs (k + 1)) (xs (k + 2)) 0 0 0 mm ⟨_, e2, rfl, rfl⟩) t3
  have t1 : LW l p e s m below meth c b D cA adx adm 373 [(0, .ref b), (1, .ref (adx 0)), (2, .ref (adm 0)), (3, .int (nI k))] [.ref (adx 0)] mx mm := by
    refine lw_arg hc 1 (by decide) hk hL d_law_373 d_law_374 d_law_375 d_law_376 d_law_377 ?_
    refine lw_arg hc 2 (by decide) hk hL d_law_378 d_law_379 d_law_380 d_law_381 d_law_382 ?_
    refine lw_x hc mv_law_42 rfl ⟨Nat.le_of_ble_eq_true rfl, Nat.le_of_ble_eq_true rfl⟩ ⟨rfl, rfl⟩ [.int (xs (k + 1)), .int (xs (k + 2))] (fun _ => rfl) rfl (Nat.le_of_ble_eq_true rfl) [.int (xs (k + 2)), .int (xs (k + 1)), .ref (adx 0)] rfl d_law_383 (zx_6 (xs (k + 1)) (xs (k + 2)) 0 0 0 mx ⟨_, e1, rfl, rfl⟩) (mx' := mx') ?_
    intro H locs lv hH hl
    exact lv_aload_n hx hb d_law_386 rfl (lv_at hl 2 rfl) (t2 H locs lv hH hl)
  intro H locs lv hH hl
  exact lv_aload_n hx hb d_law_372 rfl (lv_at hl 1 rfl) (t1 H locs lv hH hl)
theorem lcase_7 {l : Launch} {p : Program} {e : Env} {s : State} {m : MethodId} {below : List Frame} {meth : Method} {c : Code} {b L : Nat} {xs : Nat → Int32} {D : va_G} {cA : Nat → ClassId} {adx adm : Nat → Nat} (hc : lxC p s m meth c b L xs D cA adx adm) {Inv : zM → zM → Prop} (hA : Alike Inv) {k : Nat} (hk : k + 6 ≤ L) (hL : L ≤ 3072) {mx mm : zM} (hI : Inv mx mm) (nx : ∀ mx' mm' : zM, Inv mx' mm' → LW l p e s m below meth c b D cA adx adm 1086 [(0, .ref b), (1, .ref (adx 0)), (2, .ref (adm 0)), (3, .int (nI k))] [] mx' mm') : LW l p e s m below meth c b D cA adx adm 405 [(0, .ref b), (1, .ref (adx 0)), (2, .ref (adm 0)), (3, .int (nI k))] [] mx mm := by
  obtain ⟨⟨hx, hb, hr, hml, hown, hts, hX, hbl, hlocks, hgv⟩, -⟩ := id hc
  obtain ⟨r, mx', mm', e1, e2, hI'⟩ := hA 7 (xs (k + 1)) (xs (k + 2)) 0 0 0 mx mm (by decide) hI
  have t3 : LW l p e s m below meth c b D cA adx adm 433 [(0, .ref b), (1, .ref (adx 0)), (2, .ref (adm 0)), (3, .int (nI k))] [.int r, .int r] mx' mm' := by
    intro H locs lv hH hl
    exact lv_icmp_eq (tgt := 1086) hx hb d_law_433 rfl (fun _ => nx mx' mm' hI' H locs lv hH hl) (fun h => absurd rfl h)
  have t2 : LW l p e s m below meth c b D cA adx adm 420 [(0, .ref b), (1, .ref (adx 0)), (2, .ref (adm 0)), (3, .int (nI k))] [.ref (adm 0), .int r] mx' mm := by
    refine lw_arg hc 1 (by decide) hk hL d_law_420 d_law_421 d_law_422 d_law_423 d_law_424 ?_
    refine lw_arg hc 2 (by decide) hk hL d_law_425 d_law_426 d_law_427 d_law_428 d_law_429 ?_
    exact lw_m hc mv_law_50 rfl ⟨Nat.le_of_ble_eq_true rfl, Nat.le_of_ble_eq_true rfl⟩ ⟨rfl, rfl⟩ [.int (xs (k + 1)), .int (xs (k + 2))] (fun _ => rfl) rfl (Nat.le_of_ble_eq_true rfl) [.int (xs (k + 2)), .int (xs (k + 1)), .ref (adm 0), .int r] rfl d_law_430 (zm_7 (xs (k + 1)) (xs (k + 2)) 0 0 0 mm ⟨_, e2, rfl, rfl⟩) t3
  have t1 : LW l p e s m below meth c b D cA adx adm 406 [(0, .ref b), (1, .ref (adx 0)), (2, .ref (adm 0)), (3, .int (nI k))] [.ref (adx 0)] mx mm := by
    refine lw_arg hc 1 (by decide) hk hL d_law_406 d_law_407 d_law_408 d_law_409 d_law_410 ?_
    refine lw_arg hc 2 (by decide) hk hL d_law_411 d_law_412 d_law_413 d_law_414 d_law_415 ?_
    refine lw_x hc mv_law_47 rfl ⟨Nat.le_of_ble_eq_true rfl, Nat.le_of_ble_eq_true rfl⟩ ⟨rfl, rfl⟩ [.int (xs (k + 1)), .int (xs (k + 2))] (fun _ => rfl) rfl (Nat.le_of_ble_eq_true rfl) [.int (xs (k + 2)), .int (xs (k + 1)), .ref (adx 0)] rfl d_law_416 (zx_7 (xs (k + 1)) (xs (k + 2)) 0 0 0 mx ⟨_, e1, rfl, rfl⟩) (mx' := mx') ?_
    intro H locs lv hH hl
    exact lv_aload_n hx hb d_law_419 rfl (lv_at hl 2 rfl) (t2 H locs lv hH hl)
  intro H locs lv hH hl
  exact lv_aload_n hx hb d_law_405 rfl (lv_at hl 1 rfl) (t1 H locs lv hH hl)
theorem lcase_8 {l : Launch} {p : Program} {e : Env} {s : State} {m : MethodId} {below : List Frame} {meth : Method} {c : Code} {b L : Nat} {xs : Nat → Int32} {D : va_G} {cA : Nat → ClassId} {adx adm : Nat → Nat} (hc : lxC p s m meth c b L xs D cA adx adm) {Inv : zM → zM → Prop} (hA : Alike Inv) {k : Nat} (hk : k + 6 ≤ L) (hL : L ≤ 3072) {mx mm : zM} (hI : Inv mx mm) (nx : ∀ mx' mm' : zM, Inv mx' mm' → LW l p e s m below meth c b D cA adx adm 1086 [(0, .ref b), (1, .ref (adx 0)), (2, .ref (adm 0)), (3, .int (nI k))] [] mx' mm') : LW l p e s m below meth c b D cA adx adm 438 [(0, .ref b), (1, .ref (adx 0)), (2, .ref (adm 0)), (3, .int (nI k))] [] mx mm := by
  obtain ⟨⟨hx, hb, hr, hml, hown, hts, hX, hbl, hlocks, hgv⟩, -⟩ := id hc
  obtain ⟨r, mx', mm', e1, e2, hI'⟩ := hA 8 (xs (k + 1)) (xs (k + 2)) (xs (k + 3)) 0 0 mx mm (by decide) hI
  have t3 : LW l p e s m below meth c b D cA adx adm 476 [(0, .ref b), (1, .ref (adx 0)), (2, .ref (adm 0)), (3, .int (nI k))] [.int r, .int r] mx' mm' := by
    intro H locs lv hH hl
    exact lv_icmp_eq (tgt := 1086) hx hb d_law_476 rfl (fun _ => nx mx' mm' hI' H locs lv hH hl) (fun h => absurd rfl h)
  have t2 : LW l p e s m below meth c b D cA adx adm 458 [(0, .ref b), (1, .ref (adx 0)), (2, .ref (adm 0)), (3, .int (nI k))] [.ref (adm 0), .int r] mx' mm := by
    refine lw_arg hc 1 (by decide) hk hL d_law_458 d_law_459 d_law_460 d_law_461 d_law_462 ?_
    refine lw_arg hc 2 (by decide) hk hL d_law_463 d_law_464 d_law_465 d_law_466 d_law_467 ?_
    refine lw_arg hc 3 (by decide) hk hL d_law_468 d_law_469 d_law_470 d_law_471 d_law_472 ?_
    exact lw_m hc mv_law_54 rfl ⟨Nat.le_of_ble_eq_true rfl, Nat.le_of_ble_eq_true rfl⟩ ⟨rfl, rfl⟩ [.int (xs (k + 1)), .int (xs (k + 2)), .int (xs (k + 3))] (fun _ => rfl) rfl (Nat.le_of_ble_eq_true rfl) [.int (xs (k + 3)), .int (xs (k + 2)), .int (xs (k + 1)), .ref (adm 0), .int r] rfl d_law_473 (zm_8 (xs (k + 1)) (xs (k + 2)) (xs (k + 3)) 0 0 mm ⟨_, e2, rfl, rfl⟩) t3
  have t1 : LW l p e s m below meth c b D cA adx adm 439 [(0, .ref b), (1, .ref (adx 0)), (2, .ref (adm 0)), (3, .int (nI k))] [.ref (adx 0)] mx mm := by
    refine lw_arg hc 1 (by decide) hk hL d_law_439 d_law_440 d_law_441 d_law_442 d_law_443 ?_
    refine lw_arg hc 2 (by decide) hk hL d_law_444 d_law_445 d_law_446 d_law_447 d_law_448 ?_
    refine lw_arg hc 3 (by decide) hk hL d_law_449 d_law_450 d_law_451 d_law_452 d_law_453 ?_
    refine lw_x hc mv_law_51 rfl ⟨Nat.le_of_ble_eq_true rfl, Nat.le_of_ble_eq_true rfl⟩ ⟨rfl, rfl⟩ [.int (xs (k + 1)), .int (xs (k + 2)), .int (xs (k + 3))] (fun _ => rfl) rfl (Nat.le_of_ble_eq_true rfl) [.int (xs (k + 3)), .int (xs (k + 2)), .int (xs (k + 1)), .ref (adx 0)] rfl d_law_454 (zx_8 (xs (k + 1)) (xs (k + 2)) (xs (k + 3)) 0 0 mx ⟨_, e1, rfl, rfl⟩) (mx' := mx') ?_
    intro H locs lv hH hl
    exact lv_aload_n hx hb d_law_457 rfl (lv_at hl 2 rfl) (t2 H locs lv hH hl)
  intro H locs lv hH hl
  exact lv_aload_n hx hb d_law_438 rfl (lv_at hl 1 rfl) (t1 H locs lv hH hl)
theorem lcase_9 {l : Launch} {p : Program} {e : Env} {s : State} {m : MethodId} {below : List Frame} {meth : Method} {c : Code} {b L : Nat} {xs : Nat → Int32} {D : va_G} {cA : Nat → ClassId} {adx adm : Nat → Nat} (hc : lxC p s m meth c b L xs D cA adx adm) {Inv : zM → zM → Prop} (hA : Alike Inv) {k : Nat} (hk : k + 6 ≤ L) (hL : L ≤ 3072) {mx mm : zM} (hI : Inv mx mm) (nx : ∀ mx' mm' : zM, Inv mx' mm' → LW l p e s m below meth c b D cA adx adm 1086 [(0, .ref b), (1, .ref (adx 0)), (2, .ref (adm 0)), (3, .int (nI k))] [] mx' mm') : LW l p e s m below meth c b D cA adx adm 481 [(0, .ref b), (1, .ref (adx 0)), (2, .ref (adm 0)), (3, .int (nI k))] [] mx mm := by
  obtain ⟨⟨hx, hb, hr, hml, hown, hts, hX, hbl, hlocks, hgv⟩, -⟩ := id hc
  obtain ⟨r, mx', mm', e1, e2, hI'⟩ := hA 9 (xs (k + 1)) (xs (k + 2)) (xs (k + 3)) 0 0 mx mm (by decide) hI
  have t3 : LW l p e s m below meth c b D cA adx adm 519 [(0, .ref b), (1, .ref (adx 0)), (2, .ref (adm 0)), (3, .int (nI k))] [.int r, .int r] mx' mm' := by
    intro H locs lv hH hl
    exact lv_icmp_eq (tgt := 1086) hx hb d_law_519 rfl (fun _ => nx mx' mm' hI' H locs lv hH hl) (fun h => absurd rfl h)
  have t2 : LW l p e s m below meth c b D cA adx adm 501 [(0, .ref b), (1, .ref (adx 0)), (2, .ref (adm 0)), (3, .int (nI k))] [.ref (adm 0), .int r] mx' mm := by
    refine lw_arg hc 1 (by decide) hk hL d_law_501 d_law_502 d_law_503 d_law_504 d_law_505 ?_
    refine lw_arg hc 2 (by decide) hk hL d_law_506 d_law_507 d_law_508 d_law_509 d_law_510 ?_
    refine lw_arg hc 3 (by decide) hk hL d_law_511 d_law_512 d_law_513 d_law_514 d_law_515 ?_
    exact lw_m hc mv_law_58 rfl ⟨Nat.le_of_ble_eq_true rfl, Nat.le_of_ble_eq_true rfl⟩ ⟨rfl, rfl⟩ [.int (xs (k + 1)), .int (xs (k + 2)), .int (xs (k + 3))] (fun _ => rfl) rfl (Nat.le_of_ble_eq_true rfl) [.int (xs (k + 3)), .int (xs (k + 2)), .int (xs (k + 1)), .ref (adm 0), .int r] rfl d_law_516 (zm_9 (xs (k + 1)) (xs (k + 2)) (xs (k + 3)) 0 0 mm ⟨_, e2, rfl, rfl⟩) t3
  have t1 : LW l p e s m below meth c b D cA adx adm 482 [(0, .ref b), (1, .ref (adx 0)), (2, .ref (adm 0)), (3, .int (nI k))] [.ref (adx 0)] mx mm := by
    refine lw_arg hc 1 (by decide) hk hL d_law_482 d_law_483 d_law_484 d_law_485 d_law_486 ?_
    refine lw_arg hc 2 (by decide) hk hL d_law_487 d_law_488 d_law_489 d_law_490 d_law_491 ?_
    refine lw_arg hc 3 (by decide) hk hL d_law_492 d_law_493 d_law_494 d_law_495 d_law_496 ?_
    refine lw_x hc mv_law_55 rfl ⟨Nat.le_of_ble_eq_true rfl, Nat.le_of_ble_eq_true rfl⟩ ⟨rfl, rfl⟩ [.int (xs (k + 1)), .int (xs (k + 2)), .int (xs (k + 3))] (fun _ => rfl) rfl (Nat.le_of_ble_eq_true rfl) [.int (xs (k + 3)), .int (xs (k + 2)), .int (xs (k + 1)), .ref (adx 0)] rfl d_law_497 (zx_9 (xs (k + 1)) (xs (k + 2)) (xs (k + 3)) 0 0 mx ⟨_, e1, rfl, rfl⟩) (mx' := mx') ?_
    intro H locs lv hH hl
    exact lv_aload_n hx hb d_law_500 rfl (lv_at hl 2 rfl) (t2 H locs lv hH hl)
  intro H locs lv hH hl
  exact lv_aload_n hx hb d_law_481 rfl (lv_at hl 1 rfl) (t1 H locs lv hH hl)
theorem lcase_10 {l : Launch} {p : Program} {e : Env} {s : State} {m : MethodId} {below : List Frame} {meth : Method} {c : Code} {b L : Nat} {xs : Nat → Int32} {D : va_G} {cA : Nat → ClassId} {adx adm : Nat → Nat} (hc : lxC p s m meth c b L xs D cA adx adm) {Inv : zM → zM → Prop} (hA : Alike Inv) {k : Nat} (hk : k + 6 ≤ L) (hL : L ≤ 3072) {mx mm : zM} (hI : Inv mx mm) (nx : ∀ mx' mm' : zM, Inv mx' mm' → LW l p e s m below meth c b D cA adx adm 1086 [(0, .ref b), (1, .ref (adx 0)), (2, .ref (adm 0)), (3, .int (nI k))] [] mx' mm') : LW l p e s m below meth c b D cA adx adm 524 [(0, .ref b), (1, .ref (adx 0)), (2, .ref (adm 0)), (3, .int (nI k))] [] mx mm := by
  obtain ⟨⟨hx, hb, hr, hml, hown, hts, hX, hbl, hlocks, hgv⟩, -⟩ := id hc
  obtain ⟨r, mx', mm', e1, e2, hI'⟩ := hA 10 (xs (k + 1)) (xs (k + 2)) (xs (k + 3)) 0 0 mx mm (by decide) hI
  have t3 : LW l p e s m below meth c b D cA adx adm 562 [(0, .ref b), (1, .ref (adx 0)), (2, .ref (adm 0)), (3, .int (nI k))] [.int r, .int r] mx' mm' := by
    intro H locs lv hH hl
    exact lv_icmp_eq (tgt := 1086) hx hb d_law_562 rfl (fun _ => nx mx' mm' hI' H locs lv hH hl) (fun h => absurd rfl h)
  have t2 : LW l p e s m below meth c b D cA adx adm 544 [(0, .ref b), (1, .ref (adx 0)), (2, .ref (adm 0)), (3, .int (nI k))] [.ref (adm 0), .int r] mx' mm := by
    refine lw_arg hc 1 (by decide) hk hL d_law_544 d_law_545 d_law_546 d_law_547 d_law_548 ?_
    refine lw_arg hc 2 (by decide) hk hL d_law_549 d_law_550 d_law_551 d_law_552 d_law_553 ?_
    refine lw_arg hc 3 (by decide) hk hL d_law_554 d_law_555 d_law_556 d_law_557 d_law_558 ?_
    exact lw_m hc mv_law_62 rfl ⟨Nat.le_of_ble_eq_true rfl, Nat.le_of_ble_eq_true rfl⟩ ⟨rfl, rfl⟩ [.int (xs (k + 1)), .int (xs (k + 2)), .int (xs (k + 3))] (fun _ => rfl) rfl (Nat.le_of_ble_eq_true rfl) [.int (xs (k + 3)), .int (xs (k + 2)), .int (xs (k + 1)), .ref (adm 0), .int r] rfl d_law_559 (zm_10 (xs (k + 1)) (xs (k + 2)) (xs (k + 3)) 0 0 mm ⟨_, e2, rfl, rfl⟩) t3
  have t1 : LW l p e s m below meth c b D cA adx adm 525 [(0, .ref b), (1, .ref (adx 0)), (2, .ref (adm 0)), (3, .int (nI k))] [.ref (adx 0)] mx mm := by
    refine lw_arg hc 1 (by decide) hk hL d_law_525 d_law_526 d_law_527 d_law_528 d_law_529 ?_
    refine lw_arg hc 2 (by decide) hk hL d_law_530 d_law_531 d_law_532 d_law_533 d_law_534 ?_
    refine lw_arg hc 3 (by decide) hk hL d_law_535 d_law_536 d_law_537 d_law_538 d_law_539 ?_
    refine lw_x hc mv_law_59 rfl ⟨Nat.le_of_ble_eq_true rfl, Nat.le_of_ble_eq_true rfl⟩ ⟨rfl, rfl⟩ [.int (xs (k + 1)), .int (xs (k + 2)), .int (xs (k + 3))] (fun _ => rfl) rfl (Nat.le_of_ble_eq_true rfl) [.int (xs (k + 3)), .int (xs (k + 2)), .int (xs (k + 1)), .ref (adx 0)] rfl d_law_540 (zx_10 (xs (k + 1)) (xs (k + 2)) (xs (k + 3)) 0 0 mx ⟨_, e1, rfl, rfl⟩) (mx' := mx') ?_
    intro H locs lv hH hl
    exact lv_aload_n hx hb d_law_543 rfl (lv_at hl 2 rfl) (t2 H locs lv hH hl)
  intro H locs lv hH hl
  exact lv_aload_n hx hb d_law_524 rfl (lv_at hl 1 rfl) (t1 H locs lv hH hl)
theorem lcase_11 {l : Launch} {p : Program} {e : Env} {s : State} {m : MethodId} {below : List Frame} {meth : Method} {c : Code} {b L : Nat} {xs : Nat → Int32} {D : va_G} {cA : Nat → ClassId} {adx adm : Nat → Nat} (hc : lxC p s m meth c b L xs D cA adx adm) {Inv : zM → zM → Prop} (hA : Alike Inv) {k : Nat} (hk : k + 6 ≤ L) (hL : L ≤ 3072) {mx mm : zM} (hI : Inv mx mm) (nx : ∀ mx' mm' : zM, Inv mx' mm' → LW l p e s m below meth c b D cA adx adm 1086 [(0, .ref b), (1, .ref (adx 0)), (2, .ref (adm 0)), (3, .int (nI k))] [] mx' mm') : LW l p e s m below meth c b D cA adx adm 567 [(0, .ref b), (1, .ref (adx 0)), (2, .ref (adm 0)), (3, .int (nI k))] [] mx mm := by
  obtain ⟨⟨hx, hb, hr, hml, hown, hts, hX, hbl, hlocks, hgv⟩, -⟩ := id hc
  obtain ⟨r, mx', mm', e1, e2, hI'⟩ := hA 11 (xs (k + 1)) 0 0 0 0 mx mm (by decide) hI
  have t3 : LW l p e s m below meth c b D cA adx adm 585 [(0, .ref b), (1, .ref (adx 0)), (2, .ref (adm 0)), (3, .int (nI k))] [.int r, .int r] mx' mm' := by
    intro H locs lv hH hl
    exact lv_icmp_eq (tgt := 1086) hx hb d_law_585 rfl (fun _ => nx mx' mm' hI' H locs lv hH hl) (fun h => absurd rfl h)
  have t2 : LW l p e s m below meth c b D cA adx adm 577 [(0, .ref b), (1, .ref (adx 0)), (2, .ref (adm 0)), (3, .int (nI k))] [.ref (adm 0), .int r] mx' mm := by
    refine lw_arg hc 1 (by decide) hk hL d_law_577 d_law_578 d_law_579 d_law_580 d_law_581 ?_
    exact lw_m hc mv_law_66 rfl ⟨Nat.le_of_ble_eq_true rfl, Nat.le_of_ble_eq_true rfl⟩ ⟨rfl, rfl⟩ [.int (xs (k + 1))] (fun _ => rfl) rfl (Nat.le_of_ble_eq_true rfl) [.int (xs (k + 1)), .ref (adm 0), .int r] rfl d_law_582 (zm_11 (xs (k + 1)) 0 0 0 0 mm ⟨_, e2, rfl, rfl⟩) t3
  have t1 : LW l p e s m below meth c b D cA adx adm 568 [(0, .ref b), (1, .ref (adx 0)), (2, .ref (adm 0)), (3, .int (nI k))] [.ref (adx 0)] mx mm := by
    refine lw_arg hc 1 (by decide) hk hL d_law_568 d_law_569 d_law_570 d_law_571 d_law_572 ?_
    refine lw_x hc mv_law_63 rfl ⟨Nat.le_of_ble_eq_true rfl, Nat.le_of_ble_eq_true rfl⟩ ⟨rfl, rfl⟩ [.int (xs (k + 1))] (fun _ => rfl) rfl (Nat.le_of_ble_eq_true rfl) [.int (xs (k + 1)), .ref (adx 0)] rfl d_law_573 (zx_11 (xs (k + 1)) 0 0 0 0 mx ⟨_, e1, rfl, rfl⟩) (mx' := mx') ?_
    intro H locs lv hH hl
    exact lv_aload_n hx hb d_law_576 rfl (lv_at hl 2 rfl) (t2 H locs lv hH hl)
  intro H locs lv hH hl
  exact lv_aload_n hx hb d_law_567 rfl (lv_at hl 1 rfl) (t1 H locs lv hH hl)
theorem lcase_12 {l : Launch} {p : Program} {e : Env} {s : State} {m : MethodId} {below : List Frame} {meth : Method} {c : Code} {b L : Nat} {xs : Nat → Int32} {D : va_G} {cA : Nat → ClassId} {adx adm : Nat → Nat} (hc : lxC p s m meth c b L xs D cA adx adm) {Inv : zM → zM → Prop} (hA : Alike Inv) {k : Nat} (hk : k + 6 ≤ L) (hL : L ≤ 3072) {mx mm : zM} (hI : Inv mx mm) (nx : ∀ mx' mm' : zM, Inv mx' mm' → LW l p e s m below meth c b D cA adx adm 1086 [(0, .ref b), (1, .ref (adx 0)), (2, .ref (adm 0)), (3, .int (nI k))] [] mx' mm') : LW l p e s m below meth c b D cA adx adm 590 [(0, .ref b), (1, .ref (adx 0)), (2, .ref (adm 0)), (3, .int (nI k))] [] mx mm := by
  obtain ⟨⟨hx, hb, hr, hml, hown, hts, hX, hbl, hlocks, hgv⟩, -⟩ := id hc
  obtain ⟨r, mx', mm', e1, e2, hI'⟩ := hA 12 (xs (k + 1)) (xs (k + 2)) 0 0 0 mx mm (by decide) hI
  have t3 : LW l p e s m below meth c b D cA adx adm 618 [(0, .ref b), (1, .ref (adx 0)), (2, .ref (adm 0)), (3, .int (nI k))] [.int r, .int r] mx' mm' := by
    intro H locs lv hH hl
    exact lv_icmp_eq (tgt := 1086) hx hb d_law_618 rfl (fun _ => nx mx' mm' hI' H locs lv hH hl) (fun h => absurd rfl h)
  have t2 : LW l p e s m below meth c b D cA adx adm 605 [(0, .ref b), (1, .ref (adx 0)), (2, .ref (adm 0)), (3, .int (nI k))] [.ref (adm 0), .int r] mx' mm := by
    refine lw_arg hc 1 (by decide) hk hL d_law_605 d_law_606 d_law_607 d_law_608 d_law_609 ?_
    refine lw_arg hc 2 (by decide) hk hL d_law_610 d_law_611 d_law_612 d_law_613 d_law_614 ?_
    exact lw_m hc mv_law_70 rfl ⟨Nat.le_of_ble_eq_true rfl, Nat.le_of_ble_eq_true rfl⟩ ⟨rfl, rfl⟩ [.int (xs (k + 1)), .int (xs (k + 2))] (fun _ => rfl) rfl (Nat.le_of_ble_eq_true rfl) [.int (xs (k + 2)), .int (xs (k + 1)), .ref (adm 0), .int r] rfl d_law_615 (zm_12 (xs (k + 1)) (xs (k + 2)) 0 0 0 mm ⟨_, e2, rfl, rfl⟩) t3
  have t1 : LW l p e s m below meth c b D cA adx adm 591 [(0, .ref b), (1, .ref (adx 0)), (2, .ref (adm 0)), (3, .int (nI k))] [.ref (adx 0)] mx mm := by
    refine lw_arg hc 1 (by decide) hk hL d_law_591 d_law_592 d_law_593 d_law_594 d_law_595 ?_
    refine lw_arg hc 2 (by decide) hk hL d_law_596 d_law_597 d_law_598 d_law_599 d_law_600 ?_
    refine lw_x hc mv_law_67 rfl ⟨Nat.le_of_ble_eq_true rfl, Nat.le_of_ble_eq_true rfl⟩ ⟨rfl, rfl⟩ [.int (xs (k + 1)), .int (xs (k + 2))] (fun _ => rfl) rfl (Nat.le_of_ble_eq_true rfl) [.int (xs (k + 2)), .int (xs (k + 1)), .ref (adx 0)] rfl d_law_601 (zx_12 (xs (k + 1)) (xs (k + 2)) 0 0 0 mx ⟨_, e1, rfl, rfl⟩) (mx' := mx') ?_
    intro H locs lv hH hl
    exact lv_aload_n hx hb d_law_604 rfl (lv_at hl 2 rfl) (t2 H locs lv hH hl)
  intro H locs lv hH hl
  exact lv_aload_n hx hb d_law_590 rfl (lv_at hl 1 rfl) (t1 H locs lv hH hl)
theorem lcase_13 {l : Launch} {p : Program} {e : Env} {s : State} {m : MethodId} {below : List Frame} {meth : Method} {c : Code} {b L : Nat} {xs : Nat → Int32} {D : va_G} {cA : Nat → ClassId} {adx adm : Nat → Nat} (hc : lxC p s m meth c b L xs D cA adx adm) {Inv : zM → zM → Prop} (hA : Alike Inv) {k : Nat} (hk : k + 6 ≤ L) (hL : L ≤ 3072) {mx mm : zM} (hI : Inv mx mm) (nx : ∀ mx' mm' : zM, Inv mx' mm' → LW l p e s m below meth c b D cA adx adm 1086 [(0, .ref b), (1, .ref (adx 0)), (2, .ref (adm 0)), (3, .int (nI k))] [] mx' mm') : LW l p e s m below meth c b D cA adx adm 623 [(0, .ref b), (1, .ref (adx 0)), (2, .ref (adm 0)), (3, .int (nI k))] [] mx mm := by
  obtain ⟨⟨hx, hb, hr, hml, hown, hts, hX, hbl, hlocks, hgv⟩, -⟩ := id hc
  obtain ⟨r, mx', mm', e1, e2, hI'⟩ := hA 13 0 0 0 0 0 mx mm (by decide) hI
  have t3 : LW l p e s m below meth c b D cA adx adm 631 [(0, .ref b), (1, .ref (adx 0)), (2, .ref (adm 0)), (3, .int (nI k))] [.int r, .int r] mx' mm' := by
    intro H locs lv hH hl
    exact lv_icmp_eq (tgt := 1086) hx hb d_law_631 rfl (fun _ => nx mx' mm' hI' H locs lv hH hl) (fun h => absurd rfl h)
  have t2 : LW l p e s m below meth c b D cA adx adm 628 [(0, .ref b), (1, .ref (adx 0)), (2, .ref (adm 0)), (3, .int (nI k))] [.ref (adm 0), .int r] mx' mm := by

    exact lw_m hc mv_law_74 rfl ⟨Nat.le_of_ble_eq_true rfl, Nat.le_of_ble_eq_true rfl⟩ ⟨rfl, rfl⟩ [] (fun _ => rfl) rfl (Nat.le_of_ble_eq_true rfl) [.ref (adm 0), .int r] rfl d_law_628 (zm_13 0 0 0 0 0 mm ⟨_, e2, rfl, rfl⟩) t3
  have t1 : LW l p e s m below meth c b D cA adx adm 624 [(0, .ref b), (1, .ref (adx 0)), (2, .ref (adm 0)), (3, .int (nI k))] [.ref (adx 0)] mx mm := by

    refine lw_x hc mv_law_71 rfl ⟨Nat.le_of_ble_eq_true rfl, Nat.le_of_ble_eq_true rfl⟩ ⟨rfl, rfl⟩ [] (fun _ => rfl) rfl (Nat.le_of_ble_eq_true rfl) [.ref (adx 0)] rfl d_law_624 (zx_13 0 0 0 0 0 mx ⟨_, e1, rfl, rfl⟩) (mx' := mx') ?_
    intro H locs lv hH hl
    exact lv_aload_n hx hb d_law_627 rfl (lv_at hl 2 rfl) (t2 H locs lv hH hl)
  intro H locs lv hH hl
  exact lv_aload_n hx hb d_law_623 rfl (lv_at hl 1 rfl) (t1 H locs lv hH hl)
theorem lcase_14 {l : Launch} {p : Program} {e : Env} {s : State} {m : MethodId} {below : List Frame} {meth : Method} {c : Code} {b L : Nat} {xs : Nat → Int32} {D : va_G} {cA : Nat → ClassId} {adx adm : Nat → Nat} (hc : lxC p s m meth c b L xs D cA adx adm) {Inv : zM → zM → Prop} (hA : Alike Inv) {k : Nat} (hk : k + 6 ≤ L) (hL : L ≤ 3072) {mx mm : zM} (hI : Inv mx mm) (nx : ∀ mx' mm' : zM, Inv mx' mm' → LW l p e s m below meth c b D cA adx adm 1086 [(0, .ref b), (1, .ref (adx 0)), (2, .ref (adm 0)), (3, .int (nI k))] [] mx' mm') : LW l p e s m below meth c b D cA adx adm 636 [(0, .ref b), (1, .ref (adx 0)), (2, .ref (adm 0)), (3, .int (nI k))] [] mx mm := by
  obtain ⟨⟨hx, hb, hr, hml, hown, hts, hX, hbl, hlocks, hgv⟩, -⟩ := id hc
  obtain ⟨r, mx', mm', e1, e2, hI'⟩ := hA 14 (xs (k + 1)) 0 0 0 0 mx mm (by decide) hI
  have t3 : LW l p e s m below meth c b D cA adx adm 654 [(0, .ref b), (1, .ref (adx 0)), (2, .ref (adm 0)), (3, .int (nI k))] [.int r, .int r] mx' mm' := by
    intro H locs lv hH hl
    exact lv_icmp_eq (tgt := 1086) hx hb d_law_654 rfl (fun _ => nx mx' mm' hI' H locs lv hH hl) (fun h => absurd rfl h)
  have t2 : LW l p e s m below meth c b D cA adx adm 646 [(0, .ref b), (1, .ref (adx 0)), (2, .ref (adm 0)), (3, .int (nI k))] [.ref (adm 0), .int r] mx' mm := by
    refine lw_arg hc 1 (by decide) hk hL d_law_646 d_law_647 d_law_648 d_law_649 d_law_650 ?_
    exact lw_m hc mv_law_78 rfl ⟨Nat.le_of_ble_eq_true rfl, Nat.le_of_ble_eq_true rfl⟩ ⟨rfl, rfl⟩ [.int (xs (k + 1))] (fun _ => rfl) rfl (Nat.le_of_ble_eq_true rfl) [.int (xs (k + 1)), .ref (adm 0), .int r] rfl d_law_651 (zm_14 (xs (k + 1)) 0 0 0 0 mm ⟨_, e2, rfl, rfl⟩) t3
  have t1 : LW l p e s m below meth c b D cA adx adm 637 [(0, .ref b), (1, .ref (adx 0)), (2, .ref (adm 0)), (3, .int (nI k))] [.ref (adx 0)] mx mm := by
    refine lw_arg hc 1 (by decide) hk hL d_law_637 d_law_638 d_law_639 d_law_640 d_law_641 ?_
    refine lw_x hc mv_law_75 rfl ⟨Nat.le_of_ble_eq_true rfl, Nat.le_of_ble_eq_true rfl⟩ ⟨rfl, rfl⟩ [.int (xs (k + 1))] (fun _ => rfl) rfl (Nat.le_of_ble_eq_true rfl) [.int (xs (k + 1)), .ref (adx 0)] rfl d_law_642 (zx_14 (xs (k + 1)) 0 0 0 0 mx ⟨_, e1, rfl, rfl⟩) (mx' := mx') ?_
    intro H locs lv hH hl
    exact lv_aload_n hx hb d_law_645 rfl (lv_at hl 2 rfl) (t2 H locs lv hH hl)
  intro H locs lv hH hl
  exact lv_aload_n hx hb d_law_636 rfl (lv_at hl 1 rfl) (t1 H locs lv hH hl)
theorem lcase_15 {l : Launch} {p : Program} {e : Env} {s : State} {m : MethodId} {below : List Frame} {meth : Method} {c : Code} {b L : Nat} {xs : Nat → Int32} {D : va_G} {cA : Nat → ClassId} {adx adm : Nat → Nat} (hc : lxC p s m meth c b L xs D cA adx adm) {Inv : zM → zM → Prop} (hA : Alike Inv) {k : Nat} (hk : k + 6 ≤ L) (hL : L ≤ 3072) {mx mm : zM} (hI : Inv mx mm) (nx : ∀ mx' mm' : zM, Inv mx' mm' → LW l p e s m below meth c b D cA adx adm 1086 [(0, .ref b), (1, .ref (adx 0)), (2, .ref (adm 0)), (3, .int (nI k))] [] mx' mm') : LW l p e s m below meth c b D cA adx adm 659 [(0, .ref b), (1, .ref (adx 0)), (2, .ref (adm 0)), (3, .int (nI k))] [] mx mm := by
  obtain ⟨⟨hx, hb, hr, hml, hown, hts, hX, hbl, hlocks, hgv⟩, -⟩ := id hc
  obtain ⟨r, mx', mm', e1, e2, hI'⟩ := hA 15 (xs (k + 1)) 0 0 0 0 mx mm (by decide) hI
  have t3 : LW l p e s m below meth c b D cA adx adm 677 [(0, .ref b), (1, .ref (adx 0)), (2, .ref (adm 0)), (3, .int (nI k))] [.int r, .int r] mx' mm' := by
    intro H locs lv hH hl
    exact lv_icmp_eq (tgt := 1086) hx hb d_law_677 rfl (fun _ => nx mx' mm' hI' H locs lv hH hl) (fun h => absurd rfl h)
  have t2 : LW l p e s m below meth c b D cA adx adm 669 [(0, .ref b), (1, .ref (adx 0)), (2, .ref (adm 0)), (3, .int (nI k))] [.ref (adm 0), .int r] mx' mm := by
    refine lw_arg hc 1 (by decide) hk hL d_law_669 d_law_670 d_law_671 d_law_672 d_law_673 ?_
    exact lw_m hc mv_law_82 rfl ⟨Nat.le_of_ble_eq_true rfl, Nat.le_of_ble_eq_true rfl⟩ ⟨rfl, rfl⟩ [.int (xs (k + 1))] (fun _ => rfl) rfl (Nat.le_of_ble_eq_true rfl) [.int (xs (k + 1)), .ref (adm 0), .int r] rfl d_law_674 (zm_15 (xs (k + 1)) 0 0 0 0 mm ⟨_, e2, rfl, rfl⟩) t3
  have t1 : LW l p e s m below meth c b D cA adx adm 660 [(0, .ref b), (1, .ref (adx 0)), (2, .ref (adm 0)), (3, .int (nI k))] [.ref (adx 0)] mx mm := by
    refine lw_arg hc 1 (by decide) hk hL d_law_660 d_law_661 d_law_662 d_law_663 d_law_664 ?_
    refine lw_x hc mv_law_79 rfl ⟨Nat.le_of_ble_eq_true rfl, Nat.le_of_ble_eq_true rfl⟩ ⟨rfl, rfl⟩ [.int (xs (k + 1))] (fun _ => rfl) rfl (Nat.le_of_ble_eq_true rfl) [.int (xs (k + 1)), .ref (adx 0)] rfl d_law_665 (zx_15 (xs (k + 1)) 0 0 0 0 mx ⟨_, e1, rfl, rfl⟩) (mx' := mx') ?_
    intro H locs lv hH hl
    exact lv_aload_n hx hb d_law_668 rfl (lv_at hl 2 rfl) (t2 H locs lv hH hl)
  intro H locs lv hH hl
  exact lv_aload_n hx hb d_law_659 rfl (lv_at hl 1 rfl) (t1 H locs lv hH hl)
theorem lcase_16 {l : Launch} {p : Program} {e : Env} {s : State} {m : MethodId} {below : List Frame} {meth : Method} {c : Code} {b L : Nat} {xs : Nat → Int32} {D : va_G} {cA : Nat → ClassId} {adx adm : Nat → Nat} (hc : lxC p s m meth c b L xs D cA adx adm) {Inv : zM → zM → Prop} (hA : Alike Inv) {k : Nat} (hk : k + 6 ≤ L) (hL : L ≤ 3072) {mx mm : zM} (hI : Inv mx mm) (nx : ∀ mx' mm' : zM, Inv mx' mm' → LW l p e s m below meth c b D cA adx adm 1086 [(0, .ref b), (1, .ref (adx 0)), (2, .ref (adm 0)), (3, .int (nI k))] [] mx' mm') : LW l p e s m below meth c b D cA adx adm 682 [(0, .ref b), (1, .ref (adx 0)), (2, .ref (adm 0)), (3, .int (nI k))] [] mx mm := by
  obtain ⟨⟨hx, hb, hr, hml, hown, hts, hX, hbl, hlocks, hgv⟩, -⟩ := id hc
  obtain ⟨r, mx', mm', e1, e2, hI'⟩ := hA 16 (xs (k + 1)) (xs (k + 2)) 0 0 0 mx mm (by decide) hI
  have t3 : LW l p e s m below meth c b D cA adx adm 710 [(0, .ref b), (1, .ref (adx 0)), (2, .ref (adm 0)), (3, .int (nI k))] [.int r, .int r] mx' mm' := by
    intro H locs lv hH hl
    exact lv_icmp_eq (tgt := 1086) hx hb d_law_710 rfl (fun _ => nx mx' mm' hI' H locs lv hH hl) (fun h => absurd rfl h)
  have t2 : LW l p e s m below meth c b D cA adx adm 697 [(0, .ref b), (1, .ref (adx 0)), (2, .ref (adm 0)), (3, .int (nI k))] [.ref (adm 0), .int r] mx' mm := by
    refine lw_arg hc 1 (by decide) hk hL d_law_697 d_law_698 d_law_699 d_law_700 d_law_701 ?_
    refine lw_arg hc 2 (by decide) hk hL d_law_702 d_law_703 d_law_704 d_law_705 d_law_706 ?_
    exact lw_m hc mv_law_86 rfl ⟨Nat.le_of_ble_eq_true rfl, Nat.le_of_ble_eq_true rfl⟩ ⟨rfl, rfl⟩ [.int (xs (k + 1)), .int (xs (k + 2))] (fun _ => rfl) rfl (Nat.le_of_ble_eq_true rfl) [.int (xs (k + 2)), .int (xs (k + 1)), .ref (adm 0), .int r] rfl d_law_707 (zm_16 (xs (k + 1)) (xs (k + 2)) 0 0 0 mm ⟨_, e2, rfl, rfl⟩) t3
  have t1 : LW l p e s m below meth c b D cA adx adm 683 [(0, .ref b), (1, .ref (adx 0)), (2, .ref (adm 0)), (3, .int (nI k))] [.ref (adx 0)] mx mm := by
    refine lw_arg hc 1 (by decide) hk hL d_law_683 d_law_684 d_law_685 d_law_686 d_law_687 ?_
    refine lw_arg hc 2 (by decide) hk hL d_law_688 d_law_689 d_law_690 d_law_691 d_law_692 ?_
    refine lw_x hc mv_law_83 rfl ⟨Nat.le_of_ble_eq_true rfl, Nat.le_of_ble_eq_true rfl⟩ ⟨rfl, rfl⟩ [.int (xs (k + 1)), .int (xs (k + 2))] (fun _ => rfl) rfl (Nat.le_of_ble_eq_true rfl) [.int (xs (k + 2)), .int (xs (k + 1)), .ref (adx 0)] rfl d_law_693 (zx_16 (xs (k + 1)) (xs (k + 2)) 0 0 0 mx ⟨_, e1, rfl, rfl⟩) (mx' := mx') ?_
    intro H locs lv hH hl
    exact lv_aload_n hx hb d_law_696 rfl (lv_at hl 2 rfl) (t2 H locs lv hH hl)
  intro H locs lv hH hl
  exact lv_aload_n hx hb d_law_682 rfl (lv_at hl 1 rfl) (t1 H locs lv hH hl)
theorem lcase_17 {l : Launch} {p : Program} {e : Env} {s : State} {m : MethodId} {below : List Frame} {meth : Method} {c : Code} {b L : Nat} {xs : Nat → Int32} {D : va_G} {cA : Nat → ClassId} {adx adm : Nat → Nat} (hc : lxC p s m meth c b L xs D cA adx adm) {Inv : zM → zM → Prop} (hA : Alike Inv) {k : Nat} (hk : k + 6 ≤ L) (hL : L ≤ 3072) {mx mm : zM} (hI : Inv mx mm) (nx : ∀ mx' mm' : zM, Inv mx' mm' → LW l p e s m below meth c b D cA adx adm 1086 [(0, .ref b), (1, .ref (adx 0)), (2, .ref (adm 0)), (3, .int (nI k))] [] mx' mm') : LW l p e s m below meth c b D cA adx adm 715 [(0, .ref b), (1, .ref (adx 0)), (2, .ref (adm 0)), (3, .int (nI k))] [] mx mm := by
  obtain ⟨⟨hx, hb, hr, hml, hown, hts, hX, hbl, hlocks, hgv⟩, -⟩ := id hc
  obtain ⟨r, mx', mm', e1, e2, hI'⟩ := hA 17 0 0 0 0 0 mx mm (by decide) hI
  have t3 : LW l p e s m below meth c b D cA adx adm 723 [(0, .ref b), (1, .ref (adx 0)), (2, .ref (adm 0)), (3, .int (nI k))] [.int r, .int r] mx' mm' := by
    intro H locs lv hH hl
    exact lv_icmp_eq (tgt := 1086) hx hb d_law_723 rfl (fun _ => nx mx' mm' hI' H locs lv hH hl) (fun h => absurd rfl h)
  have t2 : LW l p e s m below meth c b D cA adx adm 720 [(0, .ref b), (1, .ref (adx 0)), (2, .ref (adm 0)), (3, .int (nI k))] [.ref (adm 0), .int r] mx' mm := by

    exact lw_m hc mv_law_90 rfl ⟨Nat.le_of_ble_eq_true rfl, Nat.le_of_ble_eq_true rfl⟩ ⟨rfl, rfl⟩ [] (fun _ => rfl) rfl (Nat.le_of_ble_eq_true rfl) [.ref (adm 0), .int r] rfl d_law_720 (zm_17 0 0 0 0 0 mm ⟨_, e2, rfl, rfl⟩) t3
  have t1 : LW l p e s m below meth c b D cA adx adm 716 [(0, .ref b), (1, .ref (adx 0)), (2, .ref (adm 0)), (3, .int (nI k))] [.ref (adx 0)] mx mm := by

    refine lw_x hc mv_law_87 rfl ⟨Nat.le_of_ble_eq_true rfl, Nat.le_of_ble_eq_true rfl⟩ ⟨rfl, rfl⟩ [] (fun _ => rfl) rfl (Nat.le_of_ble_eq_true rfl) [.ref (adx 0)] rfl d_law_716 (zx_17 0 0 0 0 0 mx ⟨_, e1, rfl, rfl⟩) (mx' := mx') ?_
    intro H locs lv hH hl
    exact lv_aload_n hx hb d_law_719 rfl (lv_at hl 2 rfl) (t2 H locs lv hH hl)
  intro H locs lv hH hl
  exact lv_aload_n hx hb d_law_715 rfl (lv_at hl 1 rfl) (t1 H locs lv hH hl)
theorem lcase_18 {l : Launch} {p : Program} {e : Env} {s : State} {m : MethodId} {below : List Frame} {meth : Method} {c : Code} {b L : Nat} {xs : Nat → Int32} {D : va_G} {cA : Nat → ClassId} {adx adm : Nat → Nat} (hc : lxC p s m meth c b L xs D cA adx adm) {Inv : zM → zM → Prop} (hA : Alike Inv) {k : Nat} (hk : k + 6 ≤ L) (hL : L ≤ 3072) {mx mm : zM} (hI : Inv mx mm) (nx : ∀ mx' mm' : zM, Inv mx' mm' → LW l p e s m below meth c b D cA adx adm 1086 [(0, .ref b), (1, .ref (adx 0)), (2, .ref (adm 0)), (3, .int (nI k))] [] mx' mm') : LW l p e s m below meth c b D cA adx adm 728 [(0, .ref b), (1, .ref (adx 0)), (2, .ref (adm 0)), (3, .int (nI k))] [] mx mm := by
  obtain ⟨⟨hx, hb, hr, hml, hown, hts, hX, hbl, hlocks, hgv⟩, -⟩ := id hc
  obtain ⟨r, mx', mm', e1, e2, hI'⟩ := hA 18 (xs (k + 1)) (xs (k + 2)) 0 0 0 mx mm (by decide) hI
  have t3 : LW l p e s m below meth c b D cA adx adm 756 [(0, .ref b), (1, .ref (adx 0)), (2, .ref (adm 0)), (3, .int (nI k))] [.int r, .int r] mx' mm' := by
    intro H locs lv hH hl
    exact lv_icmp_eq (tgt := 1086) hx hb d_law_756 rfl (fun _ => nx mx' mm' hI' H locs lv hH hl) (fun h => absurd rfl h)
  have t2 : LW l p e s m below meth c b D cA adx adm 743 [(0, .ref b), (1, .ref (adx 0)), (2, .ref (adm 0)), (3, .int (nI k))] [.ref (adm 0), .int r] mx' mm := by
    refine lw_arg hc 1 (by decide) hk hL d_law_743 d_law_744 d_law_745 d_law_746 d_law_747 ?_
    refine lw_arg hc 2 (by decide) hk hL d_law_748 d_law_749 d_law_750 d_law_751 d_law_752 ?_
    exact lw_m hc mv_law_94 rfl ⟨Nat.le_of_ble_eq_true rfl, Nat.le_of_ble_eq_true rfl⟩ ⟨rfl, rfl⟩ [.int (xs (k + 1)), .int (xs (k + 2))] (fun _ => rfl) rfl (Nat.le_of_ble_eq_true rfl) [.int (xs (k + 2)), .int (xs (k + 1)), .ref (adm 0), .int r] rfl d_law_753 (zm_18 (xs (k + 1)) (xs (k + 2)) 0 0 0 mm ⟨_, e2, rfl, rfl⟩) t3
  have t1 : LW l p e s m below meth c b D cA adx adm 729 [(0, .ref b), (1, .ref (adx 0)), (2, .ref (adm 0)), (3, .int (nI k))] [.ref (adx 0)] mx mm := by
    refine lw_arg hc 1 (by decide) hk hL d_law_729 d_law_730 d_law_731 d_law_732 d_law_733 ?_
    refine lw_arg hc 2 (by decide) hk hL d_law_734 d_law_735 d_law_736 d_law_737 d_law_738 ?_
    refine lw_x hc mv_law_91 rfl ⟨Nat.le_of_ble_eq_true rfl, Nat.le_of_ble_eq_true rfl⟩ ⟨rfl, rfl⟩ [.int (xs (k + 1)), .int (xs (k + 2))] (fun _ => rfl) rfl (Nat.le_of_ble_eq_true rfl) [.int (xs (k + 2)), .int (xs (k + 1)), .ref (adx 0)] rfl d_law_739 (zx_18 (xs (k + 1)) (xs (k + 2)) 0 0 0 mx ⟨_, e1, rfl, rfl⟩) (mx' := mx') ?_
    intro H locs lv hH hl
    exact lv_aload_n hx hb d_law_742 rfl (lv_at hl 2 rfl) (t2 H locs lv hH hl)
  intro H locs lv hH hl
  exact lv_aload_n hx hb d_law_728 rfl (lv_at hl 1 rfl) (t1 H locs lv hH hl)
theorem lcase_19 {l : Launch} {p : Program} {e : Env} {s : State} {m : MethodId} {below : List Frame} {meth : Method} {c : Code} {b L : Nat} {xs : Nat → Int32} {D : va_G} {cA : Nat → ClassId} {adx adm : Nat → Nat} (hc : lxC p s m meth c b L xs D cA adx adm) {Inv : zM → zM → Prop} (hA : Alike Inv) {k : Nat} (hk : k + 6 ≤ L) (hL : L ≤ 3072) {mx mm : zM} (hI : Inv mx mm) (nx : ∀ mx' mm' : zM, Inv mx' mm' → LW l p e s m below meth c b D cA adx adm 1086 [(0, .ref b), (1, .ref (adx 0)), (2, .ref (adm 0)), (3, .int (nI k))] [] mx' mm') : LW l p e s m below meth c b D cA adx adm 761 [(0, .ref b), (1, .ref (adx 0)), (2, .ref (adm 0)), (3, .int (nI k))] [] mx mm := by
  obtain ⟨⟨hx, hb, hr, hml, hown, hts, hX, hbl, hlocks, hgv⟩, -⟩ := id hc
  obtain ⟨r, mx', mm', e1, e2, hI'⟩ := hA 19 (xs (k + 1)) (xs (k + 2)) 0 0 0 mx mm (by decide) hI
  have t3 : LW l p e s m below meth c b D cA adx adm 789 [(0, .ref b), (1, .ref (adx 0)), (2, .ref (adm 0)), (3, .int (nI k))] [.int r, .int r] mx' mm' := by
    intro H locs lv hH hl
    exact lv_icmp_eq (tgt := 1086) hx hb d_law_789 rfl (fun _ => nx mx' mm' hI' H locs lv hH hl) (fun h => absurd rfl h)
  have t2 : LW l p e s m below meth c b D cA adx adm 776 [(0, .ref b), (1, .ref (adx 0)), (2, .ref (adm 0)), (3, .int (nI k))] [.ref (adm 0), .int r] mx' mm := by
    refine lw_arg hc 1 (by decide) hk hL d_law_776 d_law_777 d_law_778 d_law_779 d_law_780 ?_
    refine lw_arg hc 2 (by decide) hk hL d_law_781 d_law_782 d_law_783 d_law_784 d_law_785 ?_
    exact lw_m hc mv_law_98 rfl ⟨Nat.le_of_ble_eq_true rfl, Nat.le_of_ble_eq_true rfl⟩ ⟨rfl, rfl⟩ [.int (xs (k + 1)), .int (xs (k + 2))] (fun _ => rfl) rfl (Nat.le_of_ble_eq_true rfl) [.int (xs (k + 2)), .int (xs (k + 1)), .ref (adm 0), .int r] rfl d_law_786 (zm_19 (xs (k + 1)) (xs (k + 2)) 0 0 0 mm ⟨_, e2, rfl, rfl⟩) t3
  have t1 : LW l p e s m below meth c b D cA adx adm 762 [(0, .ref b), (1, .ref (adx 0)), (2, .ref (adm 0)), (3, .int (nI k))] [.ref (adx 0)] mx mm := by
    refine lw_arg hc 1 (by decide) hk hL d_law_762 d_law_763 d_law_764 d_law_765 d_law_766 ?_
    refine lw_arg hc 2 (by decide) hk hL d_law_767 d_law_768 d_law_769 d_law_770 d_law_771 ?_
    refine lw_x hc mv_law_95 rfl ⟨Nat.le_of_ble_eq_true rfl, Nat.le_of_ble_eq_true rfl⟩ ⟨rfl, rfl⟩ [.int (xs (k + 1)), .int (xs (k + 2))] (fun _ => rfl) rfl (Nat.le_of_ble_eq_true rfl) [.int (xs (k + 2)), .int (xs (k + 1)), .ref (adx 0)] rfl d_law_772 (zx_19 (xs (k + 1)) (xs (k + 2)) 0 0 0 mx ⟨_, e1, rfl, rfl⟩) (mx' := mx') ?_
    intro H locs lv hH hl
    exact lv_aload_n hx hb d_law_775 rfl (lv_at hl 2 rfl) (t2 H locs lv hH hl)
  intro H locs lv hH hl
  exact lv_aload_n hx hb d_law_761 rfl (lv_at hl 1 rfl) (t1 H locs lv hH hl)
theorem lcase_20 {l : Launch} {p : Program} {e : Env} {s : State} {m : MethodId} {below : List Frame} {meth : Method} {c : Code} {b L : Nat} {xs : Nat → Int32} {D : va_G} {cA : Nat → ClassId} {adx adm : Nat → Nat} (hc : lxC p s m meth c b L xs D cA adx adm) {Inv : zM → zM → Prop} (hA : Alike Inv) {k : Nat} (hk : k + 6 ≤ L) (hL : L ≤ 3072) {mx mm : zM} (hI : Inv mx mm) (nx : ∀ mx' mm' : zM, Inv mx' mm' → LW l p e s m below meth c b D cA adx adm 1086 [(0, .ref b), (1, .ref (adx 0)), (2, .ref (adm 0)), (3, .int (nI k))] [] mx' mm') : LW l p e s m below meth c b D cA adx adm 794 [(0, .ref b), (1, .ref (adx 0)), (2, .ref (adm 0)), (3, .int (nI k))] [] mx mm := by
  obtain ⟨⟨hx, hb, hr, hml, hown, hts, hX, hbl, hlocks, hgv⟩, -⟩ := id hc
  obtain ⟨r, mx', mm', e1, e2, hI'⟩ := hA 20 (xs (k + 1)) (xs (k + 2)) 0 0 0 mx mm (by decide) hI
  have t3 : LW l p e s m below meth c b D cA adx adm 822 [(0, .ref b), (1, .ref (adx 0)), (2, .ref (adm 0)), (3, .int (nI k))] [.int r, .int r] mx' mm' := by
    intro H locs lv hH hl
    exact lv_icmp_eq (tgt := 1086) hx hb d_law_822 rfl (fun _ => nx mx' mm' hI' H locs lv hH hl) (fun h => absurd rfl h)
  have t2 : LW l p e s m below meth c b D cA adx adm 809 [(0, .ref b), (1, .ref (adx 0)), (2, .ref (adm 0)), (3, .int (nI k))] [.ref (adm 0), .int r] mx' mm := by
    refine lw_arg hc 1 (by decide) hk hL d_law_809 d_law_810 d_law_811 d_law_812 d_law_813 ?_
    refine lw_arg hc 2 (by decide) hk hL d_law_814 d_law_815 d_law_816 d_law_817 d_law_818 ?_
    exact lw_m hc mv_law_102 rfl ⟨Nat.le_of_ble_eq_true rfl, Nat.le_of_ble_eq_true rfl⟩ ⟨rfl, rfl⟩ [.int (xs (k + 1)), .int (xs (k + 2))] (fun _ => rfl) rfl (Nat.le_of_ble_eq_true rfl) [.int (xs (k + 2)), .int (xs (k + 1)), .ref (adm 0), .int r] rfl d_law_819 (zm_20 (xs (k + 1)) (xs (k + 2)) 0 0 0 mm ⟨_, e2, rfl, rfl⟩) t3
  have t1 : LW l p e s m below meth c b D cA adx adm 795 [(0, .ref b), (1, .ref (adx 0)), (2, .ref (adm 0)), (3, .int (nI k))] [.ref (adx 0)] mx mm := by
    refine lw_arg hc 1 (by decide) hk hL d_law_795 d_law_796 d_law_797 d_law_798 d_law_799 ?_
    refine lw_arg hc 2 (by decide) hk hL d_law_800 d_law_801 d_law_802 d_law_803 d_law_804 ?_
    refine lw_x hc mv_law_99 rfl ⟨Nat.le_of_ble_eq_true rfl, Nat.le_of_ble_eq_true rfl⟩ ⟨rfl, rfl⟩ [.int (xs (k + 1)), .int (xs (k + 2))] (fun _ => rfl) rfl (Nat.le_of_ble_eq_true rfl) [.int (xs (k + 2)), .int (xs (k + 1)), .ref (adx 0)] rfl d_law_805 (zx_20 (xs (k + 1)) (xs (k + 2)) 0 0 0 mx ⟨_, e1, rfl, rfl⟩) (mx' := mx') ?_
    intro H locs lv hH hl
    exact lv_aload_n hx hb d_law_808 rfl (lv_at hl 2 rfl) (t2 H locs lv hH hl)
  intro H locs lv hH hl
  exact lv_aload_n hx hb d_law_794 rfl (lv_at hl 1 rfl) (t1 H locs lv hH hl)
theorem lcase_21 {l : Launch} {p : Program} {e : Env} {s : State} {m : MethodId} {below : List Frame} {meth : Method} {c : Code} {b L : Nat} {xs : Nat → Int32} {D : va_G} {cA : Nat → ClassId} {adx adm : Nat → Nat} (hc : lxC p s m meth c b L xs D cA adx adm) {Inv : zM → zM → Prop} (hA : Alike Inv) {k : Nat} (hk : k + 6 ≤ L) (hL : L ≤ 3072) {mx mm : zM} (hI : Inv mx mm) (nx : ∀ mx' mm' : zM, Inv mx' mm' → LW l p e s m below meth c b D cA adx adm 1086 [(0, .ref b), (1, .ref (adx 0)), (2, .ref (adm 0)), (3, .int (nI k))] [] mx' mm') : LW l p e s m below meth c b D cA adx adm 827 [(0, .ref b), (1, .ref (adx 0)), (2, .ref (adm 0)), (3, .int (nI k))] [] mx mm := by
  obtain ⟨⟨hx, hb, hr, hml, hown, hts, hX, hbl, hlocks, hgv⟩, -⟩ := id hc
  obtain ⟨r, mx', mm', e1, e2, hI'⟩ := hA 21 (xs (k + 1)) 0 0 0 0 mx mm (by decide) hI
  have t3 : LW l p e s m below meth c b D cA adx adm 845 [(0, .ref b), (1, .ref (adx 0)), (2, .ref (adm 0)), (3, .int (nI k))] [.int r, .int r] mx' mm' := by
    intro H locs lv hH hl
    exact lv_icmp_eq (tgt := 1086) hx hb d_law_845 rfl (fun _ => nx mx' mm' hI' H locs lv hH hl) (fun h => absurd rfl h)
  have t2 : LW l p e s m below meth c b D cA adx adm 837 [(0, .ref b), (1, .ref (adx 0)), (2, .ref (adm 0)), (3, .int (nI k))] [.ref (adm 0), .int r] mx' mm := by
    refine lw_arg hc 1 (by decide) hk hL d_law_837 d_law_838 d_law_839 d_law_840 d_law_841 ?_
    exact lw_m hc mv_law_106 rfl ⟨Nat.le_of_ble_eq_true rfl, Nat.le_of_ble_eq_true rfl⟩ ⟨rfl, rfl⟩ [.int (xs (k + 1))] (fun _ => rfl) rfl (Nat.le_of_ble_eq_true rfl) [.int (xs (k + 1)), .ref (adm 0), .int r] rfl d_law_842 (zm_21 (xs (k + 1)) 0 0 0 0 mm ⟨_, e2, rfl, rfl⟩) t3
  have t1 : LW l p e s m below meth c b D cA adx adm 828 [(0, .ref b), (1, .ref (adx 0)), (2, .ref (adm 0)), (3, .int (nI k))] [.ref (adx 0)] mx mm := by
    refine lw_arg hc 1 (by decide) hk hL d_law_828 d_law_829 d_law_830 d_law_831 d_law_832 ?_
    refine lw_x hc mv_law_103 rfl ⟨Nat.le_of_ble_eq_true rfl, Nat.le_of_ble_eq_true rfl⟩ ⟨rfl, rfl⟩ [.int (xs (k + 1))] (fun _ => rfl) rfl (Nat.le_of_ble_eq_true rfl) [.int (xs (k + 1)), .ref (adx 0)] rfl d_law_833 (zx_21 (xs (k + 1)) 0 0 0 0 mx ⟨_, e1, rfl, rfl⟩) (mx' := mx') ?_
    intro H locs lv hH hl
    exact lv_aload_n hx hb d_law_836 rfl (lv_at hl 2 rfl) (t2 H locs lv hH hl)
  intro H locs lv hH hl
  exact lv_aload_n hx hb d_law_827 rfl (lv_at hl 1 rfl) (t1 H locs lv hH hl)
theorem lcase_22 {l : Launch} {p : Program} {e : Env} {s : State} {m : MethodId} {below : List Frame} {meth : Method} {c : Code} {b L : Nat} {xs : Nat → Int32} {D : va_G} {cA : Nat → ClassId} {adx adm : Nat → Nat} (hc : lxC p s m meth c b L xs D cA adx adm) {Inv : zM → zM → Prop} (hA : Alike Inv) {k : Nat} (hk : k + 6 ≤ L) (hL : L ≤ 3072) {mx mm : zM} (hI : Inv mx mm) (nx : ∀ mx' mm' : zM, Inv mx' mm' → LW l p e s m below meth c b D cA adx adm 1086 [(0, .ref b), (1, .ref (adx 0)), (2, .ref (adm 0)), (3, .int (nI k))] [] mx' mm') : LW l p e s m below meth c b D cA adx adm 850 [(0, .ref b), (1, .ref (adx 0)), (2, .ref (adm 0)), (3, .int (nI k))] [] mx mm := by
  obtain ⟨⟨hx, hb, hr, hml, hown, hts, hX, hbl, hlocks, hgv⟩, -⟩ := id hc
  obtain ⟨r, mx', mm', e1, e2, hI'⟩ := hA 22 (xs (k + 1)) 0 0 0 0 mx mm (by decide) hI
  have t3 : LW l p e s m below meth c b D cA adx adm 868 [(0, .ref b), (1, .ref (adx 0)), (2, .ref (adm 0)), (3, .int (nI k))] [.int r, .int r] mx' mm' := by
    intro H locs lv hH hl
    exact lv_icmp_eq (tgt := 1086) hx hb d_law_868 rfl (fun _ => nx mx' mm' hI' H locs lv hH hl) (fun h => absurd rfl h)
  have t2 : LW l p e s m below meth c b D cA adx adm 860 [(0, .ref b), (1, .ref (adx 0)), (2, .ref (adm 0)), (3, .int (nI k))] [.ref (adm 0), .int r] mx' mm := by
    refine lw_arg hc 1 (by decide) hk hL d_law_860 d_law_861 d_law_862 d_law_863 d_law_864 ?_
    exact lw_m hc mv_law_110 rfl ⟨Nat.le_of_ble_eq_true rfl, Nat.le_of_ble_eq_true rfl⟩ ⟨rfl, rfl⟩ [.int (xs (k + 1))] (fun _ => rfl) rfl (Nat.le_of_ble_eq_true rfl) [.int (xs (k + 1)), .ref (adm 0), .int r] rfl d_law_865 (zm_22 (xs (k + 1)) 0 0 0 0 mm ⟨_, e2, rfl, rfl⟩) t3
  have t1 : LW l p e s m below meth c b D cA adx adm 851 [(0, .ref b), (1, .ref (adx 0)), (2, .ref (adm 0)), (3, .int (nI k))] [.ref (adx 0)] mx mm := by
    refine lw_arg hc 1 (by decide) hk hL d_law_851 d_law_852 d_law_853 d_law_854 d_law_855 ?_
    refine lw_x hc mv_law_107 rfl ⟨Nat.le_of_ble_eq_true rfl, Nat.le_of_ble_eq_true rfl⟩ ⟨rfl, rfl⟩ [.int (xs (k + 1))] (fun _ => rfl) rfl (Nat.le_of_ble_eq_true rfl) [.int (xs (k + 1)), .ref (adx 0)] rfl d_law_856 (zx_22 (xs (k + 1)) 0 0 0 0 mx ⟨_, e1, rfl, rfl⟩) (mx' := mx') ?_
    intro H locs lv hH hl
    exact lv_aload_n hx hb d_law_859 rfl (lv_at hl 2 rfl) (t2 H locs lv hH hl)
  intro H locs lv hH hl
  exact lv_aload_n hx hb d_law_850 rfl (lv_at hl 1 rfl) (t1 H locs lv hH hl)
theorem lcase_23 {l : Launch} {p : Program} {e : Env} {s : State} {m : MethodId} {below : List Frame} {meth : Method} {c : Code} {b L : Nat} {xs : Nat → Int32} {D : va_G} {cA : Nat → ClassId} {adx adm : Nat → Nat} (hc : lxC p s m meth c b L xs D cA adx adm) {Inv : zM → zM → Prop} (hA : Alike Inv) {k : Nat} (hk : k + 6 ≤ L) (hL : L ≤ 3072) {mx mm : zM} (hI : Inv mx mm) (nx : ∀ mx' mm' : zM, Inv mx' mm' → LW l p e s m below meth c b D cA adx adm 1086 [(0, .ref b), (1, .ref (adx 0)), (2, .ref (adm 0)), (3, .int (nI k))] [] mx' mm') : LW l p e s m below meth c b D cA adx adm 873 [(0, .ref b), (1, .ref (adx 0)), (2, .ref (adm 0)), (3, .int (nI k))] [] mx mm := by
  obtain ⟨⟨hx, hb, hr, hml, hown, hts, hX, hbl, hlocks, hgv⟩, -⟩ := id hc
  obtain ⟨r, mx', mm', e1, e2, hI'⟩ := hA 23 0 0 0 0 0 mx mm (by decide) hI
  have t3 : LW l p e s m below meth c b D cA adx adm 881 [(0, .ref b), (1, .ref (adx 0)), (2, .ref (adm 0)), (3, .int (nI k))] [.int r, .int r] mx' mm' := by
    intro H locs lv hH hl
    exact lv_icmp_eq (tgt := 1086) hx hb d_law_881 rfl (fun _ => nx mx' mm' hI' H locs lv hH hl) (fun h => absurd rfl h)
  have t2 : LW l p e s m below meth c b D cA adx adm 878 [(0, .ref b), (1, .ref (adx 0)), (2, .ref (adm 0)), (3, .int (nI k))] [.ref (adm 0), .int r] mx' mm := by

    exact lw_m hc mv_law_115 rfl ⟨Nat.le_of_ble_eq_true rfl, Nat.le_of_ble_eq_true rfl⟩ ⟨rfl, rfl⟩ [] (fun _ => rfl) rfl (Nat.le_of_ble_eq_true rfl) [.ref (adm 0), .int r] rfl d_law_878 (zm_23 0 0 0 0 0 mm ⟨_, e2, rfl, rfl⟩) t3
  have t1 : LW l p e s m below meth c b D cA adx adm 874 [(0, .ref b), (1, .ref (adx 0)), (2, .ref (adm 0)), (3, .int (nI k))] [.ref (adx 0)] mx mm := by

    refine lw_x hc mv_law_111 rfl ⟨Nat.le_of_ble_eq_true rfl, Nat.le_of_ble_eq_true rfl⟩ ⟨rfl, rfl⟩ [] (fun _ => rfl) rfl (Nat.le_of_ble_eq_true rfl) [.ref (adx 0)] rfl d_law_874 (zx_23 0 0 0 0 0 mx ⟨_, e1, rfl, rfl⟩) (mx' := mx') ?_
    intro H locs lv hH hl
    exact lv_aload_n hx hb d_law_877 rfl (lv_at hl 2 rfl) (t2 H locs lv hH hl)
  intro H locs lv hH hl
  exact lv_aload_n hx hb d_law_873 rfl (lv_at hl 1 rfl) (t1 H locs lv hH hl)
theorem lcase_24 {l : Launch} {p : Program} {e : Env} {s : State} {m : MethodId} {below : List Frame} {meth : Method} {c : Code} {b L : Nat} {xs : Nat → Int32} {D : va_G} {cA : Nat → ClassId} {adx adm : Nat → Nat} (hc : lxC p s m meth c b L xs D cA adx adm) {Inv : zM → zM → Prop} (hA : Alike Inv) {k : Nat} (hk : k + 6 ≤ L) (hL : L ≤ 3072) {mx mm : zM} (hI : Inv mx mm) (nx : ∀ mx' mm' : zM, Inv mx' mm' → LW l p e s m below meth c b D cA adx adm 1086 [(0, .ref b), (1, .ref (adx 0)), (2, .ref (adm 0)), (3, .int (nI k))] [] mx' mm') : LW l p e s m below meth c b D cA adx adm 886 [(0, .ref b), (1, .ref (adx 0)), (2, .ref (adm 0)), (3, .int (nI k))] [] mx mm := by
  obtain ⟨⟨hx, hb, hr, hml, hown, hts, hX, hbl, hlocks, hgv⟩, -⟩ := id hc
  obtain ⟨r, mx', mm', e1, e2, hI'⟩ := hA 24 (xs (k + 1)) 0 0 0 0 mx mm (by decide) hI
  have t3 : LW l p e s m below meth c b D cA adx adm 904 [(0, .ref b), (1, .ref (adx 0)), (2, .ref (adm 0)), (3, .int (nI k))] [.int r, .int r] mx' mm' := by
    intro H locs lv hH hl
    exact lv_icmp_eq (tgt := 1086) hx hb d_law_904 rfl (fun _ => nx mx' mm' hI' H locs lv hH hl) (fun h => absurd rfl h)
  have t2 : LW l p e s m below meth c b D cA adx adm 896 [(0, .ref b), (1, .ref (adx 0)), (2, .ref (adm 0)), (3, .int (nI k))] [.ref (adm 0), .int r] mx' mm := by
    refine lw_arg hc 1 (by decide) hk hL d_law_896 d_law_897 d_law_898 d_law_899 d_law_900 ?_
    exact lw_m hc mv_law_119 rfl ⟨Nat.le_of_ble_eq_true rfl, Nat.le_of_ble_eq_true rfl⟩ ⟨rfl, rfl⟩ [.int (xs (k + 1))] (fun _ => rfl) rfl (Nat.le_of_ble_eq_true rfl) [.int (xs (k + 1)), .ref (adm 0), .int r] rfl d_law_901 (zm_24 (xs (k + 1)) 0 0 0 0 mm ⟨_, e2, rfl, rfl⟩) t3
  have t1 : LW l p e s m below meth c b D cA adx adm 887 [(0, .ref b), (1, .ref (adx 0)), (2, .ref (adm 0)), (3, .int (nI k))] [.ref (adx 0)] mx mm := by
    refine lw_arg hc 1 (by decide) hk hL d_law_887 d_law_888 d_law_889 d_law_890 d_law_891 ?_
    refine lw_x hc mv_law_116 rfl ⟨Nat.le_of_ble_eq_true rfl, Nat.le_of_ble_eq_true rfl⟩ ⟨rfl, rfl⟩ [.int (xs (k + 1))] (fun _ => rfl) rfl (Nat.le_of_ble_eq_true rfl) [.int (xs (k + 1)), .ref (adx 0)] rfl d_law_892 (zx_24 (xs (k + 1)) 0 0 0 0 mx ⟨_, e1, rfl, rfl⟩) (mx' := mx') ?_
    intro H locs lv hH hl
    exact lv_aload_n hx hb d_law_895 rfl (lv_at hl 2 rfl) (t2 H locs lv hH hl)
  intro H locs lv hH hl
  exact lv_aload_n hx hb d_law_886 rfl (lv_at hl 1 rfl) (t1 H locs lv hH hl)
theorem lcase_25 {l : Launch} {p : Program} {e : Env} {s : State} {m : MethodId} {below : List Frame} {meth : Method} {c : Code} {b L : Nat} {xs : Nat → Int32} {D : va_G} {cA : Nat → ClassId} {adx adm : Nat → Nat} (hc : lxC p s m meth c b L xs D cA adx adm) {Inv : zM → zM → Prop} (hA : Alike Inv) {k : Nat} (hk : k + 6 ≤ L) (hL : L ≤ 3072) {mx mm : zM} (hI : Inv mx mm) (nx : ∀ mx' mm' : zM, Inv mx' mm' → LW l p e s m below meth c b D cA adx adm 1086 [(0, .ref b), (1, .ref (adx 0)), (2, .ref (adm 0)), (3, .int (nI k))] [] mx' mm') : LW l p e s m below meth c b D cA adx adm 909 [(0, .ref b), (1, .ref (adx 0)), (2, .ref (adm 0)), (3, .int (nI k))] [] mx mm := by
  obtain ⟨⟨hx, hb, hr, hml, hown, hts, hX, hbl, hlocks, hgv⟩, -⟩ := id hc
  obtain ⟨r, mx', mm', e1, e2, hI'⟩ := hA 25 (xs (k + 1)) 0 0 0 0 mx mm (by decide) hI
  have t3 : LW l p e s m below meth c b D cA adx adm 927 [(0, .ref b), (1, .ref (adx 0)), (2, .ref (adm 0)), (3, .int (nI k))] [.int r, .int r] mx' mm' := by
    intro H locs lv hH hl
    exact lv_icmp_eq (tgt := 1086) hx hb d_law_927 rfl (fun _ => nx mx' mm' hI' H locs lv hH hl) (fun h => absurd rfl h)
  have t2 : LW l p e s m below meth c b D cA adx adm 919 [(0, .ref b), (1, .ref (adx 0)), (2, .ref (adm 0)), (3, .int (nI k))] [.ref (adm 0), .int r] mx' mm := by
    refine lw_arg hc 1 (by decide) hk hL d_law_919 d_law_920 d_law_921 d_law_922 d_law_923 ?_
    exact lw_m hc mv_law_123 rfl ⟨Nat.le_of_ble_eq_true rfl, Nat.le_of_ble_eq_true rfl⟩ ⟨rfl, rfl⟩ [.int (xs (k + 1))] (fun _ => rfl) rfl (Nat.le_of_ble_eq_true rfl) [.int (xs (k + 1)), .ref (adm 0), .int r] rfl d_law_924 (zm_25 (xs (k + 1)) 0 0 0 0 mm ⟨_, e2, rfl, rfl⟩) t3
  have t1 : LW l p e s m below meth c b D cA adx adm 910 [(0, .ref b), (1, .ref (adx 0)), (2, .ref (adm 0)), (3, .int (nI k))] [.ref (adx 0)] mx mm := by
    refine lw_arg hc 1 (by decide) hk hL d_law_910 d_law_911 d_law_912 d_law_913 d_law_914 ?_
    refine lw_x hc mv_law_120 rfl ⟨Nat.le_of_ble_eq_true rfl, Nat.le_of_ble_eq_true rfl⟩ ⟨rfl, rfl⟩ [.int (xs (k + 1))] (fun _ => rfl) rfl (Nat.le_of_ble_eq_true rfl) [.int (xs (k + 1)), .ref (adx 0)] rfl d_law_915 (zx_25 (xs (k + 1)) 0 0 0 0 mx ⟨_, e1, rfl, rfl⟩) (mx' := mx') ?_
    intro H locs lv hH hl
    exact lv_aload_n hx hb d_law_918 rfl (lv_at hl 2 rfl) (t2 H locs lv hH hl)
  intro H locs lv hH hl
  exact lv_aload_n hx hb d_law_909 rfl (lv_at hl 1 rfl) (t1 H locs lv hH hl)
theorem lcase_26 {l : Launch} {p : Program} {e : Env} {s : State} {m : MethodId} {below : List Frame} {meth : Method} {c : Code} {b L : Nat} {xs : Nat → Int32} {D : va_G} {cA : Nat → ClassId} {adx adm : Nat → Nat} (hc : lxC p s m meth c b L xs D cA adx adm) {Inv : zM → zM → Prop} (hA : Alike Inv) {k : Nat} (hk : k + 6 ≤ L) (hL : L ≤ 3072) {mx mm : zM} (hI : Inv mx mm) (nx : ∀ mx' mm' : zM, Inv mx' mm' → LW l p e s m below meth c b D cA adx adm 1086 [(0, .ref b), (1, .ref (adx 0)), (2, .ref (adm 0)), (3, .int (nI k))] [] mx' mm') : LW l p e s m below meth c b D cA adx adm 932 [(0, .ref b), (1, .ref (adx 0)), (2, .ref (adm 0)), (3, .int (nI k))] [] mx mm := by
  obtain ⟨⟨hx, hb, hr, hml, hown, hts, hX, hbl, hlocks, hgv⟩, -⟩ := id hc
  obtain ⟨r, mx', mm', e1, e2, hI'⟩ := hA 26 (xs (k + 1)) 0 0 0 0 mx mm (by decide) hI
  have t3 : LW l p e s m below meth c b D cA adx adm 950 [(0, .ref b), (1, .ref (adx 0)), (2, .ref (adm 0)), (3, .int (nI k))] [.int r, .int r] mx' mm' := by
    intro H locs lv hH hl
    exact lv_icmp_eq (tgt := 1086) hx hb d_law_950 rfl (fun _ => nx mx' mm' hI' H locs lv hH hl) (fun h => absurd rfl h)
  have t2 : LW l p e s m below meth c b D cA adx adm 942 [(0, .ref b), (1, .ref (adx 0)), (2, .ref (adm 0)), (3, .int (nI k))] [.ref (adm 0), .int r] mx' mm := by
    refine lw_arg hc 1 (by decide) hk hL d_law_942 d_law_943 d_law_944 d_law_945 d_law_946 ?_
    exact lw_m hc mv_law_127 rfl ⟨Nat.le_of_ble_eq_true rfl, Nat.le_of_ble_eq_true rfl⟩ ⟨rfl, rfl⟩ [.int (xs (k + 1))] (fun _ => rfl) rfl (Nat.le_of_ble_eq_true rfl) [.int (xs (k + 1)), .ref (adm 0), .int r] rfl d_law_947 (zm_26 (xs (k + 1)) 0 0 0 0 mm ⟨_, e2, rfl, rfl⟩) t3
  have t1 : LW l p e s m below meth c b D cA adx adm 933 [(0, .ref b), (1, .ref (adx 0)), (2, .ref (adm 0)), (3, .int (nI k))] [.ref (adx 0)] mx mm := by
    refine lw_arg hc 1 (by decide) hk hL d_law_933 d_law_934 d_law_935 d_law_936 d_law_937 ?_
    refine lw_x hc mv_law_124 rfl ⟨Nat.le_of_ble_eq_true rfl, Nat.le_of_ble_eq_true rfl⟩ ⟨rfl, rfl⟩ [.int (xs (k + 1))] (fun _ => rfl) rfl (Nat.le_of_ble_eq_true rfl) [.int (xs (k + 1)), .ref (adx 0)] rfl d_law_938 (zx_26 (xs (k + 1)) 0 0 0 0 mx ⟨_, e1, rfl, rfl⟩) (mx' := mx') ?_
    intro H locs lv hH hl
    exact lv_aload_n hx hb d_law_941 rfl (lv_at hl 2 rfl) (t2 H locs lv hH hl)
  intro H locs lv hH hl
  exact lv_aload_n hx hb d_law_932 rfl (lv_at hl 1 rfl) (t1 H locs lv hH hl)
theorem lcase_27 {l : Launch} {p : Program} {e : Env} {s : State} {m : MethodId} {below : List Frame} {meth : Method} {c : Code} {b L : Nat} {xs : Nat → Int32} {D : va_G} {cA : Nat → ClassId} {adx adm : Nat → Nat} (hc : lxC p s m meth c b L xs D cA adx adm) {Inv : zM → zM → Prop} (hA : Alike Inv) {k : Nat} (hk : k + 6 ≤ L) (hL : L ≤ 3072) {mx mm : zM} (hI : Inv mx mm) (nx : ∀ mx' mm' : zM, Inv mx' mm' → LW l p e s m below meth c b D cA adx adm 1086 [(0, .ref b), (1, .ref (adx 0)), (2, .ref (adm 0)), (3, .int (nI k))] [] mx' mm') : LW l p e s m below meth c b D cA adx adm 955 [(0, .ref b), (1, .ref (adx 0)), (2, .ref (adm 0)), (3, .int (nI k))] [] mx mm := by
  obtain ⟨⟨hx, hb, hr, hml, hown, hts, hX, hbl, hlocks, hgv⟩, -⟩ := id hc
  obtain ⟨r, mx', mm', e1, e2, hI'⟩ := hA 27 (xs (k + 1)) 0 0 0 0 mx mm (by decide) hI
  have t3 : LW l p e s m below meth c b D cA adx adm 973 [(0, .ref b), (1, .ref (adx 0)), (2, .ref (adm 0)), (3, .int (nI k))] [.int r, .int r] mx' mm' := by
    intro H locs lv hH hl
    exact lv_icmp_eq (tgt := 1086) hx hb d_law_973 rfl (fun _ => nx mx' mm' hI' H locs lv hH hl) (fun h => absurd rfl h)
  have t2 : LW l p e s m below meth c b D cA adx adm 965 [(0, .ref b), (1, .ref (adx 0)), (2, .ref (adm 0)), (3, .int (nI k))] [.ref (adm 0), .int r] mx' mm := by
    refine lw_arg hc 1 (by decide) hk hL d_law_965 d_law_966 d_law_967 d_law_968 d_law_969 ?_
    exact lw_m hc mv_law_131 rfl ⟨Nat.le_of_ble_eq_true rfl, Nat.le_of_ble_eq_true rfl⟩ ⟨rfl, rfl⟩ [.int (xs (k + 1))] (fun _ => rfl) rfl (Nat.le_of_ble_eq_true rfl) [.int (xs (k + 1)), .ref (adm 0), .int r] rfl d_law_970 (zm_27 (xs (k + 1)) 0 0 0 0 mm ⟨_, e2, rfl, rfl⟩) t3
  have t1 : LW l p e s m below meth c b D cA adx adm 956 [(0, .ref b), (1, .ref (adx 0)), (2, .ref (adm 0)), (3, .int (nI k))] [.ref (adx 0)] mx mm := by
    refine lw_arg hc 1 (by decide) hk hL d_law_956 d_law_957 d_law_958 d_law_959 d_law_960 ?_
    refine lw_x hc mv_law_128 rfl ⟨Nat.le_of_ble_eq_true rfl, Nat.le_of_ble_eq_true rfl⟩ ⟨rfl, rfl⟩ [.int (xs (k + 1))] (fun _ => rfl) rfl (Nat.le_of_ble_eq_true rfl) [.int (xs (k + 1)), .ref (adx 0)] rfl d_law_961 (zx_27 (xs (k + 1)) 0 0 0 0 mx ⟨_, e1, rfl, rfl⟩) (mx' := mx') ?_
    intro H locs lv hH hl
    exact lv_aload_n hx hb d_law_964 rfl (lv_at hl 2 rfl) (t2 H locs lv hH hl)
  intro H locs lv hH hl
  exact lv_aload_n hx hb d_law_955 rfl (lv_at hl 1 rfl) (t1 H locs lv hH hl)
theorem lcase_28 {l : Launch} {p : Program} {e : Env} {s : State} {m : MethodId} {below : List Frame} {meth : Method} {c : Code} {b L : Nat} {xs : Nat → Int32} {D : va_G} {cA : Nat → ClassId} {adx adm : Nat → Nat} (hc : lxC p s m meth c b L xs D cA adx adm) {Inv : zM → zM → Prop} (hA : Alike Inv) {k : Nat} (hk : k + 6 ≤ L) (hL : L ≤ 3072) {mx mm : zM} (hI : Inv mx mm) (nx : ∀ mx' mm' : zM, Inv mx' mm' → LW l p e s m below meth c b D cA adx adm 1086 [(0, .ref b), (1, .ref (adx 0)), (2, .ref (adm 0)), (3, .int (nI k))] [] mx' mm') : LW l p e s m below meth c b D cA adx adm 978 [(0, .ref b), (1, .ref (adx 0)), (2, .ref (adm 0)), (3, .int (nI k))] [] mx mm := by
  obtain ⟨⟨hx, hb, hr, hml, hown, hts, hX, hbl, hlocks, hgv⟩, -⟩ := id hc
  obtain ⟨r, mx', mm', e1, e2, hI'⟩ := hA 28 (xs (k + 1)) 0 0 0 0 mx mm (by decide) hI
  have t3 : LW l p e s m below meth c b D cA adx adm 996 [(0, .ref b), (1, .ref (adx 0)), (2, .ref (adm 0)), (3, .int (nI k))] [.int r, .int r] mx' mm' := by
    intro H locs lv hH hl
    exact lv_icmp_eq (tgt := 1086) hx hb d_law_996 rfl (fun _ => nx mx' mm' hI' H locs lv hH hl) (fun h => absurd rfl h)
  have t2 : LW l p e s m below meth c b D cA adx adm 988 [(0, .ref b), (1, .ref (adx 0)), (2, .ref (adm 0)), (3, .int (nI k))] [.ref (adm 0), .int r] mx' mm := by
    refine lw_arg hc 1 (by decide) hk hL d_law_988 d_law_989 d_law_990 d_law_991 d_law_992 ?_
    exact lw_m hc mv_law_135 rfl ⟨Nat.le_of_ble_eq_true rfl, Nat.le_of_ble_eq_true rfl⟩ ⟨rfl, rfl⟩ [.int (xs (k + 1))] (fun _ => rfl) rfl (Nat.le_of_ble_eq_true rfl) [.int (xs (k + 1)), .ref (adm 0), .int r] rfl d_law_993 (zm_28 (xs (k + 1)) 0 0 0 0 mm ⟨_, e2, rfl, rfl⟩) t3
  have t1 : LW l p e s m below meth c b D cA adx adm 979 [(0, .ref b), (1, .ref (adx 0)), (2, .ref (adm 0)), (3, .int (nI k))] [.ref (adx 0)] mx mm := by
    refine lw_arg hc 1 (by decide) hk hL d_law_979 d_law_980 d_law_981 d_law_982 d_law_983 ?_
    refine lw_x hc mv_law_132 rfl ⟨Nat.le_of_ble_eq_true rfl, Nat.le_of_ble_eq_true rfl⟩ ⟨rfl, rfl⟩ [.int (xs (k + 1))] (fun _ => rfl) rfl (Nat.le_of_ble_eq_true rfl) [.int (xs (k + 1)), .ref (adx 0)] rfl d_law_984 (zx_28 (xs (k + 1)) 0 0 0 0 mx ⟨_, e1, rfl, rfl⟩) (mx' := mx') ?_
    intro H locs lv hH hl
    exact lv_aload_n hx hb d_law_987 rfl (lv_at hl 2 rfl) (t2 H locs lv hH hl)
  intro H locs lv hH hl
  exact lv_aload_n hx hb d_law_978 rfl (lv_at hl 1 rfl) (t1 H locs lv hH hl)
theorem lcase_29 {l : Launch} {p : Program} {e : Env} {s : State} {m : MethodId} {below : List Frame} {meth : Method} {c : Code} {b L : Nat} {xs : Nat → Int32} {D : va_G} {cA : Nat → ClassId} {adx adm : Nat → Nat} (hc : lxC p s m meth c b L xs D cA adx adm) {Inv : zM → zM → Prop} (hA : Alike Inv) {k : Nat} (hk : k + 6 ≤ L) (hL : L ≤ 3072) {mx mm : zM} (hI : Inv mx mm) (nx : ∀ mx' mm' : zM, Inv mx' mm' → LW l p e s m below meth c b D cA adx adm 1086 [(0, .ref b), (1, .ref (adx 0)), (2, .ref (adm 0)), (3, .int (nI k))] [] mx' mm') : LW l p e s m below meth c b D cA adx adm 1001 [(0, .ref b), (1, .ref (adx 0)), (2, .ref (adm 0)), (3, .int (nI k))] [] mx mm := by
  obtain ⟨⟨hx, hb, hr, hml, hown, hts, hX, hbl, hlocks, hgv⟩, -⟩ := id hc
  obtain ⟨r, mx', mm', e1, e2, hI'⟩ := hA 29 0 0 0 0 0 mx mm (by decide) hI
  have t3 : LW l p e s m below meth c b D cA adx adm 1009 [(0, .ref b), (1, .ref (adx 0)), (2, .ref (adm 0)), (3, .int (nI k))] [.int r, .int r] mx' mm' := by
    intro H locs lv hH hl
    exact lv_icmp_eq (tgt := 1086) hx hb d_law_1009 rfl (fun _ => nx mx' mm' hI' H locs lv hH hl) (fun h => absurd rfl h)
  have t2 : LW l p e s m below meth c b D cA adx adm 1006 [(0, .ref b), (1, .ref (adx 0)), (2, .ref (adm 0)), (3, .int (nI k))] [.ref (adm 0), .int r] mx' mm := by

    exact lw_m hc mv_law_139 rfl ⟨Nat.le_of_ble_eq_true rfl, Nat.le_of_ble_eq_true rfl⟩ ⟨rfl, rfl⟩ [] (fun _ => rfl) rfl (Nat.le_of_ble_eq_true rfl) [.ref (adm 0), .int r] rfl d_law_1006 (zm_29 0 0 0 0 0 mm ⟨_, e2, rfl, rfl⟩) t3
  have t1 : LW l p e s m below meth c b D cA adx adm 1002 [(0, .ref b), (1, .ref (adx 0)), (2, .ref (adm 0)), (3, .int (nI k))] [.ref (adx 0)] mx mm := by

    refine lw_x hc mv_law_136 rfl ⟨Nat.le_of_ble_eq_true rfl, Nat.le_of_ble_eq_true rfl⟩ ⟨rfl, rfl⟩ [] (fun _ => rfl) rfl (Nat.le_of_ble_eq_true rfl) [.ref (adx 0)] rfl d_law_1002 (zx_29 0 0 0 0 0 mx ⟨_, e1, rfl, rfl⟩) (mx' := mx') ?_
    intro H locs lv hH hl
    exact lv_aload_n hx hb d_law_1005 rfl (lv_at hl 2 rfl) (t2 H locs lv hH hl)
  intro H locs lv hH hl
  exact lv_aload_n hx hb d_law_1001 rfl (lv_at hl 1 rfl) (t1 H locs lv hH hl)
theorem lcase_30 {l : Launch} {p : Program} {e : Env} {s : State} {m : MethodId} {below : List Frame} {meth : Method} {c : Code} {b L : Nat} {xs : Nat → Int32} {D : va_G} {cA : Nat → ClassId} {adx adm : Nat → Nat} (hc : lxC p s m meth c b L xs D cA adx adm) {Inv : zM → zM → Prop} (hA : Alike Inv) {k : Nat} (hk : k + 6 ≤ L) (hL : L ≤ 3072) {mx mm : zM} (hI : Inv mx mm) (nx : ∀ mx' mm' : zM, Inv mx' mm' → LW l p e s m below meth c b D cA adx adm 1086 [(0, .ref b), (1, .ref (adx 0)), (2, .ref (adm 0)), (3, .int (nI k))] [] mx' mm') : LW l p e s m below meth c b D cA adx adm 1014 [(0, .ref b), (1, .ref (adx 0)), (2, .ref (adm 0)), (3, .int (nI k))] [] mx mm := by
  obtain ⟨⟨hx, hb, hr, hml, hown, hts, hX, hbl, hlocks, hgv⟩, -⟩ := id hc
  obtain ⟨r, mx', mm', e1, e2, hI'⟩ := hA 30 0 0 0 0 0 mx mm (by decide) hI
  have t3 : LW l p e s m below meth c b D cA adx adm 1022 [(0, .ref b), (1, .ref (adx 0)), (2, .ref (adm 0)), (3, .int (nI k))] [.int r, .int r] mx' mm' := by
    intro H locs lv hH hl
    exact lv_icmp_eq (tgt := 1086) hx hb d_law_1022 rfl (fun _ => nx mx' mm' hI' H locs lv hH hl) (fun h => absurd rfl h)
  have t2 : LW l p e s m below meth c b D cA adx adm 1019 [(0, .ref b), (1, .ref (adx 0)), (2, .ref (adm 0)), (3, .int (nI k))] [.ref (adm 0), .int r] mx' mm := by

    exact lw_m hc mv_law_143 rfl ⟨Nat.le_of_ble_eq_true rfl, Nat.le_of_ble_eq_true rfl⟩ ⟨rfl, rfl⟩ [] (fun _ => rfl) rfl (Nat.le_of_ble_eq_true rfl) [.ref (adm 0), .int r] rfl d_law_1019 (zm_30 0 0 0 0 0 mm ⟨_, e2, rfl, rfl⟩) t3
  have t1 : LW l p e s m below meth c b D cA adx adm 1015 [(0, .ref b), (1, .ref (adx 0)), (2, .ref (adm 0)), (3, .int (nI k))] [.ref (adx 0)] mx mm := by

    refine lw_x hc mv_law_140 rfl ⟨Nat.le_of_ble_eq_true rfl, Nat.le_of_ble_eq_true rfl⟩ ⟨rfl, rfl⟩ [] (fun _ => rfl) rfl (Nat.le_of_ble_eq_true rfl) [.ref (adx 0)] rfl d_law_1015 (zx_30 0 0 0 0 0 mx ⟨_, e1, rfl, rfl⟩) (mx' := mx') ?_
    intro H locs lv hH hl
    exact lv_aload_n hx hb d_law_1018 rfl (lv_at hl 2 rfl) (t2 H locs lv hH hl)
  intro H locs lv hH hl
  exact lv_aload_n hx hb d_law_1014 rfl (lv_at hl 1 rfl) (t1 H locs lv hH hl)
theorem lcase_31 {l : Launch} {p : Program} {e : Env} {s : State} {m : MethodId} {below : List Frame} {meth : Method} {c : Code} {b L : Nat} {xs : Nat → Int32} {D : va_G} {cA : Nat → ClassId} {adx adm : Nat → Nat} (hc : lxC p s m meth c b L xs D cA adx adm) {Inv : zM → zM → Prop} (hA : Alike Inv) {k : Nat} (hk : k + 6 ≤ L) (hL : L ≤ 3072) {mx mm : zM} (hI : Inv mx mm) (nx : ∀ mx' mm' : zM, Inv mx' mm' → LW l p e s m below meth c b D cA adx adm 1086 [(0, .ref b), (1, .ref (adx 0)), (2, .ref (adm 0)), (3, .int (nI k))] [] mx' mm') : LW l p e s m below meth c b D cA adx adm 1027 [(0, .ref b), (1, .ref (adx 0)), (2, .ref (adm 0)), (3, .int (nI k))] [] mx mm := by
  obtain ⟨⟨hx, hb, hr, hml, hown, hts, hX, hbl, hlocks, hgv⟩, -⟩ := id hc
  obtain ⟨r, mx', mm', e1, e2, hI'⟩ := hA 31 (xs (k + 1)) 0 0 0 0 mx mm (by decide) hI
  have t3 : LW l p e s m below meth c b D cA adx adm 1045 [(0, .ref b), (1, .ref (adx 0)), (2, .ref (adm 0)), (3, .int (nI k))] [.int r, .int r] mx' mm' := by
    intro H locs lv hH hl
    exact lv_icmp_eq (tgt := 1086) hx hb d_law_1045 rfl (fun _ => nx mx' mm' hI' H locs lv hH hl) (fun h => absurd rfl h)
  have t2 : LW l p e s m below meth c b D cA adx adm 1037 [(0, .ref b), (1, .ref (adx 0)), (2, .ref (adm 0)), (3, .int (nI k))] [.ref (adm 0), .int r] mx' mm := by
    refine lw_arg hc 1 (by decide) hk hL d_law_1037 d_law_1038 d_law_1039 d_law_1040 d_law_1041 ?_
    exact lw_m hc mv_law_147 rfl ⟨Nat.le_of_ble_eq_true rfl, Nat.le_of_ble_eq_true rfl⟩ ⟨rfl, rfl⟩ [.int (xs (k + 1))] (fun _ => rfl) rfl (Nat.le_of_ble_eq_true rfl) [.int (xs (k + 1)), .ref (adm 0), .int r] rfl d_law_1042 (zm_31 (xs (k + 1)) 0 0 0 0 mm ⟨_, e2, rfl, rfl⟩) t3
  have t1 : LW l p e s m below meth c b D cA adx adm 1028 [(0, .ref b), (1, .ref (adx 0)), (2, .ref (adm 0)), (3, .int (nI k))] [.ref (adx 0)] mx mm := by
    refine lw_arg hc 1 (by decide) hk hL d_law_1028 d_law_1029 d_law_1030 d_law_1031 d_law_1032 ?_
    refine lw_x hc mv_law_144 rfl ⟨Nat.le_of_ble_eq_true rfl, Nat.le_of_ble_eq_true rfl⟩ ⟨rfl, rfl⟩ [.int (xs (k + 1))] (fun _ => rfl) rfl (Nat.le_of_ble_eq_true rfl) [.int (xs (k + 1)), .ref (adx 0)] rfl d_law_1033 (zx_31 (xs (k + 1)) 0 0 0 0 mx ⟨_, e1, rfl, rfl⟩) (mx' := mx') ?_
    intro H locs lv hH hl
    exact lv_aload_n hx hb d_law_1036 rfl (lv_at hl 2 rfl) (t2 H locs lv hH hl)
  intro H locs lv hH hl
  exact lv_aload_n hx hb d_law_1027 rfl (lv_at hl 1 rfl) (t1 H locs lv hH hl)
theorem lcase_32 {l : Launch} {p : Program} {e : Env} {s : State} {m : MethodId} {below : List Frame} {meth : Method} {c : Code} {b L : Nat} {xs : Nat → Int32} {D : va_G} {cA : Nat → ClassId} {adx adm : Nat → Nat} (hc : lxC p s m meth c b L xs D cA adx adm) {Inv : zM → zM → Prop} (hA : Alike Inv) {k : Nat} (hk : k + 6 ≤ L) (hL : L ≤ 3072) {mx mm : zM} (hI : Inv mx mm) (nx : ∀ mx' mm' : zM, Inv mx' mm' → LW l p e s m below meth c b D cA adx adm 1086 [(0, .ref b), (1, .ref (adx 0)), (2, .ref (adm 0)), (3, .int (nI k))] [] mx' mm') : LW l p e s m below meth c b D cA adx adm 1050 [(0, .ref b), (1, .ref (adx 0)), (2, .ref (adm 0)), (3, .int (nI k))] [] mx mm := by
  obtain ⟨⟨hx, hb, hr, hml, hown, hts, hX, hbl, hlocks, hgv⟩, -⟩ := id hc
  obtain ⟨r, mx', mm', e1, e2, hI'⟩ := hA 32 0 0 0 0 0 mx mm (by decide) hI
  have t3 : LW l p e s m below meth c b D cA adx adm 1058 [(0, .ref b), (1, .ref (adx 0)), (2, .ref (adm 0)), (3, .int (nI k))] [.int r, .int r] mx' mm' := by
    intro H locs lv hH hl
    exact lv_icmp_eq (tgt := 1086) hx hb d_law_1058 rfl (fun _ => nx mx' mm' hI' H locs lv hH hl) (fun h => absurd rfl h)
  have t2 : LW l p e s m below meth c b D cA adx adm 1055 [(0, .ref b), (1, .ref (adx 0)), (2, .ref (adm 0)), (3, .int (nI k))] [.ref (adm 0), .int r] mx' mm := by

    exact lw_m hc mv_law_151 rfl ⟨Nat.le_of_ble_eq_true rfl, Nat.le_of_ble_eq_true rfl⟩ ⟨rfl, rfl⟩ [] (fun _ => rfl) rfl (Nat.le_of_ble_eq_true rfl) [.ref (adm 0), .int r] rfl d_law_1055 (zm_32 0 0 0 0 0 mm ⟨_, e2, rfl, rfl⟩) t3
  have t1 : LW l p e s m below meth c b D cA adx adm 1051 [(0, .ref b), (1, .ref (adx 0)), (2, .ref (adm 0)), (3, .int (nI k))] [.ref (adx 0)] mx mm := by

    refine lw_x hc mv_law_148 rfl ⟨Nat.le_of_ble_eq_true rfl, Nat.le_of_ble_eq_true rfl⟩ ⟨rfl, rfl⟩ [] (fun _ => rfl) rfl (Nat.le_of_ble_eq_true rfl) [.ref (adx 0)] rfl d_law_1051 (zx_32 0 0 0 0 0 mx ⟨_, e1, rfl, rfl⟩) (mx' := mx') ?_
    intro H locs lv hH hl
    exact lv_aload_n hx hb d_law_1054 rfl (lv_at hl 2 rfl) (t2 H locs lv hH hl)
  intro H locs lv hH hl
  exact lv_aload_n hx hb d_law_1050 rfl (lv_at hl 1 rfl) (t1 H locs lv hH hl)
theorem lcase_33 {l : Launch} {p : Program} {e : Env} {s : State} {m : MethodId} {below : List Frame} {meth : Method} {c : Code} {b L : Nat} {xs : Nat → Int32} {D : va_G} {cA : Nat → ClassId} {adx adm : Nat → Nat} (hc : lxC p s m meth c b L xs D cA adx adm) {Inv : zM → zM → Prop} (hA : Alike Inv) {k : Nat} (hk : k + 6 ≤ L) (hL : L ≤ 3072) {mx mm : zM} (hI : Inv mx mm) (nx : ∀ mx' mm' : zM, Inv mx' mm' → LW l p e s m below meth c b D cA adx adm 1086 [(0, .ref b), (1, .ref (adx 0)), (2, .ref (adm 0)), (3, .int (nI k))] [] mx' mm') : LW l p e s m below meth c b D cA adx adm 1063 [(0, .ref b), (1, .ref (adx 0)), (2, .ref (adm 0)), (3, .int (nI k))] [] mx mm := by
  obtain ⟨⟨hx, hb, hr, hml, hown, hts, hX, hbl, hlocks, hgv⟩, -⟩ := id hc
  obtain ⟨r, mx', mm', e1, e2, hI'⟩ := hA 33 (xs (k + 1)) 0 0 0 0 mx mm (by decide) hI
  have t3 : LW l p e s m below meth c b D cA adx adm 1081 [(0, .ref b), (1, .ref (adx 0)), (2, .ref (adm 0)), (3, .int (nI k))] [.int r, .int r] mx' mm' := by
    intro H locs lv hH hl
    exact lv_icmp_eq (tgt := 1086) hx hb d_law_1081 rfl (fun _ => nx mx' mm' hI' H locs lv hH hl) (fun h => absurd rfl h)
  have t2 : LW l p e s m below meth c b D cA adx adm 1073 [(0, .ref b), (1, .ref (adx 0)), (2, .ref (adm 0)), (3, .int (nI k))] [.ref (adm 0), .int r] mx' mm := by
    refine lw_arg hc 1 (by decide) hk hL d_law_1073 d_law_1074 d_law_1075 d_law_1076 d_law_1077 ?_
    exact lw_m hc mv_law_155 rfl ⟨Nat.le_of_ble_eq_true rfl, Nat.le_of_ble_eq_true rfl⟩ ⟨rfl, rfl⟩ [.int (xs (k + 1))] (fun _ => rfl) rfl (Nat.le_of_ble_eq_true rfl) [.int (xs (k + 1)), .ref (adm 0), .int r] rfl d_law_1078 (zm_33 (xs (k + 1)) 0 0 0 0 mm ⟨_, e2, rfl, rfl⟩) t3
  have t1 : LW l p e s m below meth c b D cA adx adm 1064 [(0, .ref b), (1, .ref (adx 0)), (2, .ref (adm 0)), (3, .int (nI k))] [.ref (adx 0)] mx mm := by
    refine lw_arg hc 1 (by decide) hk hL d_law_1064 d_law_1065 d_law_1066 d_law_1067 d_law_1068 ?_
    refine lw_x hc mv_law_152 rfl ⟨Nat.le_of_ble_eq_true rfl, Nat.le_of_ble_eq_true rfl⟩ ⟨rfl, rfl⟩ [.int (xs (k + 1))] (fun _ => rfl) rfl (Nat.le_of_ble_eq_true rfl) [.int (xs (k + 1)), .ref (adx 0)] rfl d_law_1069 (zx_33 (xs (k + 1)) 0 0 0 0 mx ⟨_, e1, rfl, rfl⟩) (mx' := mx') ?_
    intro H locs lv hH hl
    exact lv_aload_n hx hb d_law_1072 rfl (lv_at hl 2 rfl) (t2 H locs lv hH hl)
  intro H locs lv hH hl
  exact lv_aload_n hx hb d_law_1063 rfl (lv_at hl 1 rfl) (t1 H locs lv hH hl)
