theorem Met_ofWF {l : Launch} {y : MethodName} {ws ws' : List Cond} {rm : Room} {Pc : Array Value → State → Prop} {Qc : Array Value → State → Outcome → State → Prop} {mc ms : Nat} {free : Addr → Prop} {cc : ByteArray} {maxL : Nat} {ret : Option FieldType}
    (hy : plainFor y = true) (hw : ws = Cond.code y cc maxL ret :: ws')
    (body : ∀ p e s m args below meth c s₁, BodyLoose p l y (headSpec ws rm) cc maxL ret e s m args below meth c s₁ → c.maxLocals = maxL → Pc args s →
      W p l e (headSpec ws rm).room s m args below meth c s.heap [] 0 0 (MQ below Qc args s mc ms free) (entryFrame m args maxL)) : Met l y ws rm Pc Qc mc ms free := by
  refine MetFree.of_bodySF (code := cc) (maxLocals := maxL) (ret := ret) hy ?_ ?_
  · intro args s m h hn
    obtain ⟨meth, c, h1, h2, h3, h4, h5, h6, -, -⟩ := Cond.code_spec hn (atoms_spec (ws := ws) h _ (by rw [hw]; exact List.mem_cons_self))
    exact ⟨meth, c, h1, h2, h3, h4, h5, h6⟩
  · intro p e s m args below meth c s₁ B hml hP _
    have hh0 : s₁.heap = s.heap := by rw [B.state]; rfl
    obtain ⟨t, a1, o, b1, b2, b3⟩ := body p e s m args below meth c s₁ B hml hP s₁ hh0 (Stand.of_body B)
    exact ⟨t, o, a1, b1, b2, ⟨b3.1, b3.2⟩⟩
theorem zc_ofF {g : zG} {S : zS} {as : List Value} {m : zM} {Q : Option Value → zM → Prop} (hy : plainFor S.1 = true) (hn : (lg_sl as).length ≤ S.2.2.1) (hk : AX g S 0 (lv_args 0 as) [] m Q) : zc g S as m Q := by
  intro l D cA ad A
  refine Met_ofWF (cc := S.2.1) (maxL := S.2.2.1) (ret := S.2.2.2.1) hy rfl ?_
  intro p e s m args below meth c s₁ B hml hv
  obtain ⟨rfl, hP, hD, hal, hK, hN, hO, hSt, hA⟩ := hv
  have hts := atoms_spec (ws := zwo S) B.pre
  have hl := lv_entry (as.map (zv ad)) (n := S.2.2.1) (by rw [zsl_len]; exact hn)
  rw [zlm_args] at hl
  rw [lg_entry_eq]
  exact hk l p e s m _ below meth c D cA ad A s.heap [] _ ⟨B.exec, B.bytes, hml, B.returns, findClass_of_methodNamed B.named, hts, B.notSynchronized, (name_of_methodNamed B.named B.method).1, hK, hN, hO, hSt, hA⟩ ⟨hP, hD, va_S.rf, hal⟩ hl
theorem ax_ldcSW {g : zG} {S : zS} {pc : Nat} {ls : List (Nat × Value)} {st : List Value} {m : zM} {Q : Option Value → zM → Prop} (i : Nat) {ix : Nat} (hi : i < zsN) (hix : zsI.getD i 0 = ix) (hown : S.1.cls = "ProtocolAtlas$Reader") (hd : decode S.2.1 pc = .ok (.ldc_w ix, 3)) (q : Nat) (hq : pc + 3 = q) (k : AX g S q ls (.ref (1000 + i) :: st) m Q) : AX g S pc ls st m Q := by
  subst hq
  intro l p e s mm args below meth c D cA ad A H locs lv hC hH hl
  subst hix
  have hZ := hC.2.2.2.2.2.2.2.2.2.2.2.1.2.1 i hi
  have kk := k l p e s mm args below meth c D cA ad A H locs lv hC hH hl
  intro T hT X
  obtain ⟨t, a1, b1⟩ := kk T hT X
  exact ⟨t, X.ldcStringW hC.1 (by rw [← hown]; exact hC.2.2.2.2.1) (text := zsT.getD i "") (a := ad (1000 + i)) hZ.1 hZ.2 (g := F0 mm pc lv (st.map (zv ad))) rfl (by rw [hC.2.1]; exact hd) t a1, b1⟩
def s_str_coder : zS := (⟨"java/lang/String", "coder", "()B"⟩, prog_16_method_152_code, 1, (some .byte), { frames := 0, cells := 0, slots := 0, locals := 30 })
def s_str_isLatin1 : zS := (⟨"java/lang/String", "isLatin1", "()Z"⟩, prog_16_method_154_code, 1, (some .boolean), { frames := 0, cells := 0, slots := 0, locals := 30 })
def s_pre_chk : zS := (⟨"jdk/internal/util/Preconditions", "checkIndex", "(IILjava/util/function/BiFunction;)I"⟩, prog_21_method_11_code, 3, (some .int), { frames := 0, cells := 0, slots := 0, locals := 0 })
def s_str_checkIndex : zS := (⟨"java/lang/String", "checkIndex", "(II)V"⟩, prog_16_method_155_code, 2, none, { frames := 1, cells := 0, slots := 0, locals := 40 })
def s_lat_char : zS := (⟨"java/lang/StringLatin1", "charAt", "([BI)C"⟩, prog_17_method_2_code, 2, (some .char), { frames := 2, cells := 0, slots := 0, locals := 80 })
theorem d_str_coder_0 : decode s_str_coder.2.1 0 = .ok (.getstatic 38, 3) := by decide +kernel
theorem d_str_coder_3 : decode s_str_coder.2.1 3 = .ok (.ifCond .eq 10, 3) := by decide +kernel
theorem d_str_coder_6 : decode s_str_coder.2.1 6 = .ok (.aload_n 0, 1) := by decide +kernel
theorem d_str_coder_7 : decode s_str_coder.2.1 7 = .ok (.getfield 15, 3) := by decide +kernel
theorem d_str_coder_10 : decode s_str_coder.2.1 10 = .ok (.goto 4, 3) := by decide +kernel
theorem d_str_coder_13 : decode s_str_coder.2.1 13 = .ok (.iconst 1, 1) := by decide +kernel
theorem d_str_coder_14 : decode s_str_coder.2.1 14 = .ok (.ireturn, 1) := by decide +kernel
theorem d_str_isLatin1_0 : decode s_str_isLatin1.2.1 0 = .ok (.getstatic 38, 3) := by decide +kernel
theorem d_str_isLatin1_3 : decode s_str_isLatin1.2.1 3 = .ok (.ifCond .eq 14, 3) := by decide +kernel
theorem d_str_isLatin1_6 : decode s_str_isLatin1.2.1 6 = .ok (.aload_n 0, 1) := by decide +kernel
theorem d_str_isLatin1_7 : decode s_str_isLatin1.2.1 7 = .ok (.getfield 15, 3) := by decide +kernel
theorem d_str_isLatin1_10 : decode s_str_isLatin1.2.1 10 = .ok (.ifCond .ne 7, 3) := by decide +kernel
theorem d_str_isLatin1_13 : decode s_str_isLatin1.2.1 13 = .ok (.iconst 1, 1) := by decide +kernel
theorem d_str_isLatin1_14 : decode s_str_isLatin1.2.1 14 = .ok (.goto 4, 3) := by decide +kernel
theorem d_str_isLatin1_17 : decode s_str_isLatin1.2.1 17 = .ok (.iconst 0, 1) := by decide +kernel
theorem d_str_isLatin1_18 : decode s_str_isLatin1.2.1 18 = .ok (.ireturn, 1) := by decide +kernel
theorem d_pre_chk_0 : decode s_pre_chk.2.1 0 = .ok (.iload_n 0, 1) := by decide +kernel
theorem d_pre_chk_1 : decode s_pre_chk.2.1 1 = .ok (.ifCond .lt 8, 3) := by decide +kernel
theorem d_pre_chk_4 : decode s_pre_chk.2.1 4 = .ok (.iload_n 0, 1) := by decide +kernel
theorem d_pre_chk_5 : decode s_pre_chk.2.1 5 = .ok (.iload_n 1, 1) := by decide +kernel
theorem d_pre_chk_6 : decode s_pre_chk.2.1 6 = .ok (.if_icmp .lt 10, 3) := by decide +kernel
theorem d_pre_chk_16 : decode s_pre_chk.2.1 16 = .ok (.iload_n 0, 1) := by decide +kernel
theorem d_pre_chk_17 : decode s_pre_chk.2.1 17 = .ok (.ireturn, 1) := by decide +kernel
theorem d_str_checkIndex_0 : decode s_str_checkIndex.2.1 0 = .ok (.iload_n 0, 1) := by decide +kernel
theorem d_str_checkIndex_1 : decode s_str_checkIndex.2.1 1 = .ok (.iload_n 1, 1) := by decide +kernel
theorem d_str_checkIndex_2 : decode s_str_checkIndex.2.1 2 = .ok (.getstatic 1053, 3) := by decide +kernel
theorem d_str_checkIndex_5 : decode s_str_checkIndex.2.1 5 = .ok (.invokestatic 1059, 3) := by decide +kernel
theorem d_str_checkIndex_8 : decode s_str_checkIndex.2.1 8 = .ok (.pop, 1) := by decide +kernel
theorem d_str_checkIndex_9 : decode s_str_checkIndex.2.1 9 = .ok (.return_, 1) := by decide +kernel
theorem d_lat_char_0 : decode s_lat_char.2.1 0 = .ok (.iload_n 1, 1) := by decide +kernel
theorem d_lat_char_1 : decode s_lat_char.2.1 1 = .ok (.aload_n 0, 1) := by decide +kernel
theorem d_lat_char_2 : decode s_lat_char.2.1 2 = .ok (.arraylength, 1) := by decide +kernel
theorem d_lat_char_3 : decode s_lat_char.2.1 3 = .ok (.invokestatic 9, 3) := by decide +kernel
theorem d_lat_char_6 : decode s_lat_char.2.1 6 = .ok (.aload_n 0, 1) := by decide +kernel
theorem d_lat_char_7 : decode s_lat_char.2.1 7 = .ok (.iload_n 1, 1) := by decide +kernel
theorem d_lat_char_8 : decode s_lat_char.2.1 8 = .ok (.baload, 1) := by decide +kernel
theorem d_lat_char_9 : decode s_lat_char.2.1 9 = .ok (.sipush 255, 3) := by decide +kernel
theorem d_lat_char_12 : decode s_lat_char.2.1 12 = .ok (.iand, 1) := by decide +kernel
theorem d_lat_char_13 : decode s_lat_char.2.1 13 = .ok (.i2c, 1) := by decide +kernel
theorem d_lat_char_14 : decode s_lat_char.2.1 14 = .ok (.ireturn, 1) := by decide +kernel
theorem d_String_length_0 : decode s_String_length.2.1 0 = .ok (.aload_n 0, 1) := by decide +kernel
theorem d_String_length_1 : decode s_String_length.2.1 1 = .ok (.getfield 9, 3) := by decide +kernel
theorem d_String_length_4 : decode s_String_length.2.1 4 = .ok (.arraylength, 1) := by decide +kernel
theorem d_String_length_5 : decode s_String_length.2.1 5 = .ok (.aload_n 0, 1) := by decide +kernel
theorem d_String_length_6 : decode s_String_length.2.1 6 = .ok (.invokevirtual 335, 3) := by decide +kernel
theorem d_String_length_9 : decode s_String_length.2.1 9 = .ok (.ishr, 1) := by decide +kernel
theorem d_String_length_10 : decode s_String_length.2.1 10 = .ok (.ireturn, 1) := by decide +kernel
theorem d_String_charAt_0 : decode s_String_charAt.2.1 0 = .ok (.aload_n 0, 1) := by decide +kernel
theorem d_String_charAt_1 : decode s_String_charAt.2.1 1 = .ok (.invokevirtual 492, 3) := by decide +kernel
theorem d_String_charAt_4 : decode s_String_charAt.2.1 4 = .ok (.ifCond .eq 12, 3) := by decide +kernel
theorem d_String_charAt_7 : decode s_String_charAt.2.1 7 = .ok (.aload_n 0, 1) := by decide +kernel
theorem d_String_charAt_8 : decode s_String_charAt.2.1 8 = .ok (.getfield 9, 3) := by decide +kernel
theorem d_String_charAt_11 : decode s_String_charAt.2.1 11 = .ok (.iload_n 1, 1) := by decide +kernel
theorem d_String_charAt_12 : decode s_String_charAt.2.1 12 = .ok (.invokestatic 495, 3) := by decide +kernel
theorem d_String_charAt_15 : decode s_String_charAt.2.1 15 = .ok (.ireturn, 1) := by decide +kernel
theorem mv_str_335 : zLV "java/lang/String" 335 s_str_coder 0 := ⟨⟨by decide, by decide, by decide +kernel⟩, (ztb_3 (i := 166) rfl rfl), (ztb_3 (i := 164) rfl rfl), (ztb_3 (i := 165) rfl rfl), (ztb_1 (i := 15) rfl rfl), Or.inl (ztb_3 (i := 163) rfl rfl)⟩
theorem mv_str_492 : zLV "java/lang/String" 492 s_str_isLatin1 0 := ⟨⟨by decide, by decide, by decide +kernel⟩, (ztb_3 (i := 176) rfl rfl), (ztb_3 (i := 174) rfl rfl), (ztb_3 (i := 175) rfl rfl), (ztb_1 (i := 15) rfl rfl), Or.inl (ztb_3 (i := 173) rfl rfl)⟩
theorem mv_str_495 : zLS "java/lang/String" 495 s_lat_char 2 := ⟨⟨by decide, by decide, by decide +kernel⟩, (ztb_3 (i := 179) rfl rfl), (ztb_3 (i := 178) rfl rfl), (ztb_1 (i := 16) rfl rfl), Or.inl (ztb_3 (i := 177) rfl rfl)⟩
theorem mv_lat_9 : zLS "java/lang/StringLatin1" 9 s_str_checkIndex 2 := ⟨⟨by decide, by decide, by decide +kernel⟩, (ztb_3 (i := 182) rfl rfl), (ztb_3 (i := 181) rfl rfl), (ztb_1 (i := 15) rfl rfl), Or.inl (ztb_3 (i := 180) rfl rfl)⟩
theorem mv_str_1059 : zLS "java/lang/String" 1059 s_pre_chk 3 := ⟨⟨by decide, by decide, by decide +kernel⟩, (ztb_3 (i := 187) rfl rfl), (ztb_3 (i := 186) rfl rfl), (ztb_1 (i := 17) rfl rfl), Or.inl (ztb_3 (i := 185) rfl rfl)⟩

theorem zc_str_coder {g : zG} (i : Nat) (m : zM) (hi : i < zsN) {Q : Option Value → zM → Prop} (h : Q (some (.int 0)) m) : zc g s_str_coder [.ref (1000 + i)] m Q := by
  refine zc_ofF (by decide) (Nat.le_of_ble_eq_true rfl) ?_
  show AX g s_str_coder 0 [(0, .ref (1000 + i))] [] m Q
  refine aw_scom (ztb_3 (i := 167) rfl rfl) d_str_coder_0 ?_
  refine ax_if_eq 13 6 d_str_coder_3 rfl rfl (fun hc => absurd hc (by decide)) (fun _ => ?_)
  refine ax_aload_n 0 d_str_coder_6 rfl rfl 7 rfl ?_
  refine aw_scod i hi (ztb_10 (i := 79) rfl rfl) d_str_coder_7 ?_
  refine ax_goto 14 d_str_coder_10 rfl ?_
  exact aw_nret (st := []) (Nat.zero_le _) (Nat.zero_le _) .byte rfl (by decide) d_str_coder_14 ⟨m, rfl, h⟩
theorem zc_str_isLatin1 {g : zG} (i : Nat) (m : zM) (hi : i < zsN) {Q : Option Value → zM → Prop} (h : Q (some (.int 1)) m) : zc g s_str_isLatin1 [.ref (1000 + i)] m Q := by
  refine zc_ofF (by decide) (Nat.le_of_ble_eq_true rfl) ?_
  show AX g s_str_isLatin1 0 [(0, .ref (1000 + i))] [] m Q
  refine aw_scom (ztb_3 (i := 167) rfl rfl) d_str_isLatin1_0 ?_
  refine ax_if_eq 17 6 d_str_isLatin1_3 rfl rfl (fun hc => absurd hc (by decide)) (fun _ => ?_)
  refine ax_aload_n 0 d_str_isLatin1_6 rfl rfl 7 rfl ?_
  refine aw_scod i hi (ztb_10 (i := 79) rfl rfl) d_str_isLatin1_7 ?_
  refine ax_if_ne 17 13 d_str_isLatin1_10 rfl rfl (fun hc => absurd rfl hc) (fun _ => ?_)
  refine ax_iconst 1 d_str_isLatin1_13 ic_1 14 rfl ?_
  refine ax_goto 18 d_str_isLatin1_14 rfl ?_
  exact ax_zret (b := true) rfl d_str_isLatin1_18 h
theorem zc_pre_chk {g : zG} (x n : Int32) (v : Value) (hv : v = .null ∨ v = .ref 1200) (m : zM) (h0 : ¬ x < 0) (h1 : x < n) {Q : Option Value → zM → Prop} (h : Q (some (.int x)) m) : zc g s_pre_chk [.int x, .int n, v] m Q := by
  refine zc_ofF (by decide) (by rcases hv with rfl | rfl <;> exact Nat.le_of_ble_eq_true rfl) ?_
  show AX g s_pre_chk 0 [(0, .int x), (1, .int n), (2, v)] [] m Q
  refine ax_iload_n 0 d_pre_chk_0 rfl rfl 1 rfl ?_
  refine ax_if_lt 9 4 d_pre_chk_1 rfl rfl (fun hc => absurd hc h0) (fun _ => ?_)
  refine ax_iload_n 0 d_pre_chk_4 rfl rfl 5 rfl ?_
  refine ax_iload_n 1 d_pre_chk_5 rfl rfl 6 rfl ?_
  refine ax_icmp_lt 16 9 d_pre_chk_6 rfl rfl (fun _ => ?_) (fun hc => absurd h1 hc)
  refine ax_iload_n 0 d_pre_chk_16 rfl rfl 17 rfl ?_
  exact ax_iret rfl d_pre_chk_17 h
theorem zc_str_chk {g : zG} (x n : Int32) (m : zM) (h0 : ¬ x < 0) (h1 : x < n) {Q : Option Value → zM → Prop} (h : Q none m) : zc g s_str_checkIndex [.int x, .int n] m Q := by
  refine zc_ofF (by decide) (Nat.le_of_ble_eq_true rfl) ?_
  show AX g s_str_checkIndex 0 [(0, .int x), (1, .int n)] [] m Q
  refine ax_iload_n 0 d_str_checkIndex_0 rfl rfl 1 rfl ?_
  refine ax_iload_n 1 d_str_checkIndex_1 rfl rfl 2 rfl ?_
  refine aw_sfor (ztb_3 (i := 183) rfl rfl) d_str_checkIndex_2 (fun v hv => ?_)
  refine ax_callS mv_str_1059 ⟨Nat.le_of_ble_eq_true rfl, Nat.le_of_ble_eq_true rfl⟩ ⟨rfl, rfl⟩ [.int x, .int n, v] [v, .int n, .int x] rfl rfl (Nat.le_of_ble_eq_true rfl) d_str_checkIndex_5 8 rfl (zc_pre_chk x n v hv m h0 h1 ?_)
  refine ax_pop d_str_checkIndex_8 rfl 9 rfl ?_
  exact ax_vret rfl d_str_checkIndex_9 h
theorem zs_len : ∀ i, i < zsN → zsL.getD i 0 < 2 ^ 31 ∧ zsL.getD i 0 = (zsB.getD i []).length := by decide +kernel
theorem zs_byt : ∀ i, i < zsN → ∀ b ∈ zsB.getD i [], ((b &&& 255).toUInt32 % 65536).toInt32 = b ∧ narrow .char (.int b) = .int b := by decide +kernel
theorem zgetD_mem {l : List Int32} {j : Nat} (h : j < l.length) : l.getD j 0 ∈ l := by
  rw [List.getD_eq_getElem?_getD, List.getElem?_eq_getElem h]
  exact List.getElem_mem _
theorem zc_lat_char {g : zG} (i j : Nat) (x : Int32) (m : zM) (hi : i < zsN) (hx : x = nI j) (hj : j < zsL.getD i 0) {Q : Option Value → zM → Prop} (h : Q (some (.int ((zsB.getD i []).getD j 0))) m) : zc g s_lat_char [.ref (1100 + i), .int x] m Q := by
  obtain ⟨hl, hL⟩ := zs_len i hi
  have hj31 : j < 2 ^ 31 := by omega
  have hmem : (zsB.getD i []).getD j 0 ∈ zsB.getD i [] := zgetD_mem (by omega)
  obtain ⟨hb1, hb2⟩ := zs_byt i hi _ hmem
  refine zc_ofF (by decide) (Nat.le_of_ble_eq_true rfl) ?_
  show AX g s_lat_char 0 [(0, .ref (1100 + i)), (1, .int x)] [] m Q
  refine ax_iload_n 1 d_lat_char_0 rfl rfl 1 rfl ?_
  refine ax_aload_n 0 d_lat_char_1 rfl rfl 2 rfl ?_
  refine aw_slen i hi d_lat_char_2 ?_
  refine ax_callS mv_lat_9 ⟨Nat.le_of_ble_eq_true rfl, Nat.le_of_ble_eq_true rfl⟩ ⟨rfl, rfl⟩ [.int x, .int (Int32.ofNat (zsL.getD i 0))] [.int (Int32.ofNat (zsL.getD i 0)), .int x] rfl rfl (Nat.le_of_ble_eq_true rfl) d_lat_char_3 6 rfl (zc_str_chk x _ m (by rw [hx]; exact nI_pos hj31) (by rw [hx]; exact nI_lt hj hl) ?_)
  refine ax_aload_n 0 d_lat_char_6 rfl rfl 7 rfl ?_
  refine ax_iload_n 1 d_lat_char_7 rfl rfl 8 rfl ?_
  refine aw_sbald i hi (by rw [hx]; exact vp_in_nI hj hl) d_lat_char_8 ?_
  refine ax_sipush 255 d_lat_char_9 (by decide) 12 rfl ?_
  refine ax_iand d_lat_char_12 13 rfl ?_
  refine aw_i2c d_lat_char_13 ?_
  have e : (((zsB.getD i []).getD x.toNatClampNeg 0 &&& 255).toUInt32 % 65536).toInt32 = (zsB.getD i []).getD j 0 := by rw [hx, nI_clamp hj31]; exact hb1
  rw [e]
  exact aw_nret (st := []) (Nat.zero_le _) (Nat.zero_le _) .char rfl hb2 d_lat_char_14 ⟨m, rfl, h⟩
theorem zc_String_length (v0 : Nat) (m : zM) (hv0 : v0 < zsN) {Q : Option Value → zM → Prop} (h : Q (some (.int (f_String_length v0))) m) : zc gX s_String_length [.ref (1000 + v0)] m Q := by
  refine zc_ofF (by decide) (Nat.le_of_ble_eq_true rfl) ?_
  show AX gX s_String_length 0 [(0, .ref (1000 + v0))] [] m Q
  refine ax_aload_n 0 d_String_length_0 rfl rfl 1 rfl ?_
  refine aw_sval v0 hv0 (ztb_10 (i := 78) rfl rfl) d_String_length_1 ?_
  refine aw_slen v0 hv0 d_String_length_4 ?_
  refine ax_aload_n 0 d_String_length_5 rfl rfl 6 rfl ?_
  refine ax_callV mv_str_335 ⟨Nat.le_of_ble_eq_true rfl, Nat.le_of_ble_eq_true rfl⟩ ⟨rfl, rfl⟩ [] [.ref (1000 + v0), .int (Int32.ofNat (zsL.getD v0 0))] rfl rfl (Or.inr ⟨rfl, v0, hv0, rfl⟩) (Nat.le_of_ble_eq_true rfl) d_String_length_6 9 rfl (zc_str_coder v0 m hv0 ?_)
  refine ax_ishr d_String_length_9 10 rfl ?_
  have e : shr (Int32.ofNat (zsL.getD v0 0)) 0 = f_String_length v0 := sb_shr0 _
  rw [e]
  exact ax_iret rfl d_String_length_10 h
theorem zc_String_charAt (v0 : Nat) (v1 : Int32) (m : zM) (hv0 : v0 < zsN) {Q : Option Value → zM → Prop} (h : ok (f_String_charAt v0 v1) (fun p => Q (some (.int p)) m)) : zc gX s_String_charAt [.ref (1000 + v0), .int v1] m Q := by
  unfold f_String_charAt at h
  refine ok_bb h (fun j e h => ?_)
  obtain ⟨hin, rfl⟩ := ix_some e
  obtain ⟨hl, hL⟩ := zs_len v0 hv0
  obtain ⟨j, hj, rfl⟩ := vp_in_of hin hl
  have h := ok_some h
  refine zc_ofF (by decide) (Nat.le_of_ble_eq_true rfl) ?_
  show AX gX s_String_charAt 0 [(0, .ref (1000 + v0)), (1, .int (nI j))] [] m Q
  refine ax_aload_n 0 d_String_charAt_0 rfl rfl 1 rfl ?_
  refine ax_callV mv_str_492 ⟨Nat.le_of_ble_eq_true rfl, Nat.le_of_ble_eq_true rfl⟩ ⟨rfl, rfl⟩ [] [.ref (1000 + v0)] rfl rfl (Or.inr ⟨rfl, v0, hv0, rfl⟩) (Nat.le_of_ble_eq_true rfl) d_String_charAt_1 4 rfl (zc_str_isLatin1 v0 m hv0 ?_)
  refine ax_if_eq 16 7 d_String_charAt_4 rfl rfl (fun hc => absurd hc (by decide)) (fun _ => ?_)
  refine ax_aload_n 0 d_String_charAt_7 rfl rfl 8 rfl ?_
  refine aw_sval v0 hv0 (ztb_10 (i := 78) rfl rfl) d_String_charAt_8 ?_
  refine ax_iload_n 1 d_String_charAt_11 rfl rfl 12 rfl ?_
  have hj31 : j < 2 ^ 31 := by omega
  rw [nI_clamp hj31] at h
  refine ax_callS mv_str_495 ⟨Nat.le_of_ble_eq_true rfl, Nat.le_of_ble_eq_true rfl⟩ ⟨rfl, rfl⟩ [.ref (1100 + v0), .int (nI j)] [.int (nI j), .ref (1100 + v0)] rfl rfl (Nat.le_of_ble_eq_true rfl) d_String_charAt_12 15 rfl (zc_lat_char v0 j (nI j) m hv0 rfl hj ?_)
  have hmem : (zsB.getD v0 []).getD j 0 ∈ zsB.getD v0 [] := zgetD_mem (by omega)
  exact aw_nret (st := []) (Nat.zero_le _) (Nat.zero_le _) .char rfl (zs_byt v0 hv0 _ hmem).2 d_String_charAt_15 ⟨m, rfl, h⟩

