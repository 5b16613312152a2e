set_option maxRecDepth 4000 in
theorem c_MO_statementTold_J237  (m : zM)  {Q : Option Value → zM → Prop} {K : zM → Prop} (hR : ∀ p : zM, K (p) → Q none p)  (h : ok (f_MO_statementTold_J237  m) K) : AX gM s_MO_statementTold 237 [(0, .ref 0)] [] m Q := by
  unfold f_MO_statementTold_J237 at h
  refine ax_aload_n 0 d_MO_statementTold_237 rfl rfl 238 rfl ?_
  refine ax_aload_n 0 d_MO_statementTold_238 rfl rfl 239 rfl ?_
  refine ax_getR fl_MO_51 m_0 rfl (rm_0_20 _) d_MO_statementTold_239 242 rfl ?_
  refine ax_callV mv_MO_243 ⟨Nat.le_of_ble_eq_true rfl, Nat.le_of_ble_eq_true rfl⟩ ⟨rfl, rfl⟩ [.ref 13] [.ref 13, .ref 0] rfl rfl (rc_m_0 _) (Nat.le_of_ble_eq_true rfl) d_MO_statementTold_242 245 rfl (zc_MO_takes 13 m m_13z (ok_b h (fun p30 h => ?_)))
  refine ax_ifb_eq 255 248 d_MO_statementTold_245 rfl rfl (fun hc => ?_) (fun hc => ?_)
  · have h := ok_f (bf hc) h
    refine ax_aload_n 0 d_MO_statementTold_255 rfl rfl 256 rfl ?_
    refine ax_aload_n 0 d_MO_statementTold_256 rfl rfl 257 rfl ?_
    refine ax_getR fl_MO_63 m_0 rfl (rm_0_24 _) d_MO_statementTold_257 260 rfl ?_
    refine ax_callV mv_MO_243 ⟨Nat.le_of_ble_eq_true rfl, Nat.le_of_ble_eq_true rfl⟩ ⟨rfl, rfl⟩ [.ref 17] [.ref 17, .ref 0] rfl rfl (rc_m_0 _) (Nat.le_of_ble_eq_true rfl) d_MO_statementTold_260 263 rfl (zc_MO_takes 17 p30.2 m_17z (ok_b h (fun p31 h => ?_)))
    refine ax_ifb_eq 279 266 d_MO_statementTold_263 rfl rfl (fun hc => ?_) (fun hc => ?_)
    · have h := ok_f (bf hc) h
      exact ax_sub [0] rfl (c_MO_statementTold_J279 p31.2 (fun p hp => hR p hp) h)
    · have h := ok_t hc h
      refine ax_aload_n 0 d_MO_statementTold_266 rfl rfl 267 rfl ?_
      refine ax_callV mv_MO_306 ⟨Nat.le_of_ble_eq_true rfl, Nat.le_of_ble_eq_true rfl⟩ ⟨rfl, rfl⟩ [] [.ref 0] rfl rfl (rc_m_0 _) (Nat.le_of_ble_eq_true rfl) d_MO_statementTold_267 270 rfl (zc_MO_atTold p31.2 (ok_b h (fun p32 h => ?_)))
      refine ax_goto 279 d_MO_statementTold_270 rfl ?_
      exact ax_sub [0] rfl (c_MO_statementTold_J279 p32 (fun p hp => hR p hp) h)
  · have h := ok_t hc h
    refine ax_aload_n 0 d_MO_statementTold_248 rfl rfl 249 rfl ?_
    refine ax_callV mv_MO_303 ⟨Nat.le_of_ble_eq_true rfl, Nat.le_of_ble_eq_true rfl⟩ ⟨rfl, rfl⟩ [] [.ref 0] rfl rfl (rc_m_0 _) (Nat.le_of_ble_eq_true rfl) d_MO_statementTold_249 252 rfl (zc_MO_onTold p30.2 (ok_b h (fun p33 h => ?_)))
    refine ax_goto 279 d_MO_statementTold_252 rfl ?_
    exact ax_sub [0] rfl (c_MO_statementTold_J279 p33 (fun p hp => hR p hp) h)
set_option maxRecDepth 4000 in
theorem c_MO_statementTold_J219 (v1 : Int32) (m : zM)  {Q : Option Value → zM → Prop} {K : zM → Prop} (hR : ∀ p : zM, K (p) → Q none p)  (h : ok (f_MO_statementTold_J219 v1 m) K) : AX gM s_MO_statementTold 219 [(0, .ref 0), (1, .int v1)] [] m Q := by
  unfold f_MO_statementTold_J219 at h
  refine ax_aload_n 0 d_MO_statementTold_219 rfl rfl 220 rfl ?_
  refine ax_getR fl_MO_78 m_0 rfl (rm_0_30 _) d_MO_statementTold_220 223 rfl ?_
  refine ax_bipush 8 d_MO_statementTold_223 bp_8 225 rfl ?_
  refine ax_iaload m_22 d_MO_statementTold_225 226 rfl h (fun i28 h => ?_)
  refine ax_bipush 16 d_MO_statementTold_226 bp_16 228 rfl ?_
  refine ax_icmp_ne 237 231 d_MO_statementTold_228 rfl rfl (fun hc => ?_) (fun hc => ?_)
  · have h := ok_f hc h
    exact ax_sub [0] rfl (c_MO_statementTold_J237 m (fun p hp => hR p hp) h)
  · have h := ok_t hc h
    refine ax_aload_n 0 d_MO_statementTold_231 rfl rfl 232 rfl ?_
    refine ax_iconst 5 d_MO_statementTold_232 ic_5 233 rfl ?_
    refine ax_iload_n 1 d_MO_statementTold_233 rfl rfl 234 rfl ?_
    refine ax_callV mv_MO_246 ⟨Nat.le_of_ble_eq_true rfl, Nat.le_of_ble_eq_true rfl⟩ ⟨rfl, rfl⟩ [.int 5, .int v1] [.int v1, .int 5, .ref 0] rfl rfl (rc_m_0 _) (Nat.le_of_ble_eq_true rfl) d_MO_statementTold_234 237 rfl (zc_MO_fail 5 v1 m ?_)
    refine ok_l (G := fun p => AX gM s_MO_statementTold 237 [(0, .ref 0), (1, .int v1)] [] p Q) h (fun p29 h => ?_)
    exact ax_sub [0] rfl (c_MO_statementTold_J237 p29 (fun p hp => hR p hp) h)
set_option maxRecDepth 4000 in
theorem zc_MO_statementTold  (m : zM)  {Q : Option Value → zM → Prop} (h : ok (f_MO_statementTold m) (fun p => Q none p)) : zc gM s_MO_statementTold [.ref 0] m Q := by
  refine zc_of rfl (Nat.le_of_ble_eq_true rfl) ?_
  show AX gM s_MO_statementTold 0 [(0, .ref 0)] [] m Q
  obtain ⟨K, hK⟩ : ∃ K : zM → Prop, K = (fun p : zM => Q none p) := ⟨_, rfl⟩
  have hR : ∀ p : zM, K p → Q none p := fun p hp => by rw [hK] at hp; exact hp
  replace h : ok (f_MO_statementTold m) (fun p : zM => Q none p) := h
  rw [← hK] at h
  unfold f_MO_statementTold at h
  refine ax_aload_n 0 d_MO_statementTold_0 rfl rfl 1 rfl ?_
  refine ax_getI fl_MO_223 m_0 rfl d_MO_statementTold_1 4 rfl ?_
  refine ax_istore_n (ls1 := [(1, .int (m.1 0 2)), (0, .ref 0)]) d_MO_statementTold_4 rfl (Nat.le_of_ble_eq_true rfl) rfl 5 rfl ?_
  refine ax_aload_n 1 d_MO_statementTold_5 rfl rfl 6 rfl ?_
  refine ax_getI fl_MO_289 m_0 rfl d_MO_statementTold_6 9 rfl ?_
  refine ax_bipush 60 d_MO_statementTold_9 bp_60 11 rfl ?_
  refine ax_icmp_ne 21 14 d_MO_statementTold_11 rfl rfl (fun hc => ?_) (fun hc => ?_)
  · have h := ok_f hc h
    refine ax_aload_n 1 d_MO_statementTold_21 rfl rfl 22 rfl ?_
    refine ax_aload_n 1 d_MO_statementTold_22 rfl rfl 23 rfl ?_
    refine ax_getR fl_MO_27 m_0 rfl (rm_0_12 _) d_MO_statementTold_23 26 rfl ?_
    refine ax_iconst 1 d_MO_statementTold_26 ic_1 27 rfl ?_
    refine ax_iload_n 0 d_MO_statementTold_27 rfl rfl 28 rfl ?_
    refine ax_callV mv_MO_292 ⟨Nat.le_of_ble_eq_true rfl, Nat.le_of_ble_eq_true rfl⟩ ⟨rfl, rfl⟩ [.ref 5, .int 1, .int (m.1 0 2)] [.int (m.1 0 2), .int 1, .ref 5, .ref 0] rfl rfl (rc_m_0 _) (Nat.le_of_ble_eq_true rfl) d_MO_statementTold_28 31 rfl (zc_MO_isOnce 5 1 (m.1 0 2) m m_5z (ok_b h (fun p1 h => ?_)))
    refine ax_ifb_eq 42 34 d_MO_statementTold_31 rfl rfl (fun hc => ?_) (fun hc => ?_)
    · have h := ok_f (bf hc) h
      refine ax_aload_n 1 d_MO_statementTold_42 rfl rfl 43 rfl ?_
      refine ax_aload_n 1 d_MO_statementTold_43 rfl rfl 44 rfl ?_
      refine ax_getR fl_MO_30 m_0 rfl (rm_0_13 _) d_MO_statementTold_44 47 rfl ?_
      refine ax_iconst 2 d_MO_statementTold_47 ic_2 48 rfl ?_
      refine ax_iload_n 0 d_MO_statementTold_48 rfl rfl 49 rfl ?_
      refine ax_callV mv_MO_292 ⟨Nat.le_of_ble_eq_true rfl, Nat.le_of_ble_eq_true rfl⟩ ⟨rfl, rfl⟩ [.ref 6, .int 2, .int (m.1 0 2)] [.int (m.1 0 2), .int 2, .ref 6, .ref 0] rfl rfl (rc_m_0 _) (Nat.le_of_ble_eq_true rfl) d_MO_statementTold_49 52 rfl (zc_MO_isOnce 6 2 (m.1 0 2) p1.2 m_6z (ok_b h (fun p2 h => ?_)))
      refine ax_ifb_eq 63 55 d_MO_statementTold_52 rfl rfl (fun hc => ?_) (fun hc => ?_)
      · have h := ok_f (bf hc) h
        refine ax_aload_n 1 d_MO_statementTold_63 rfl rfl 64 rfl ?_
        refine ax_aload_n 1 d_MO_statementTold_64 rfl rfl 65 rfl ?_
        refine ax_getR fl_MO_48 m_0 rfl (rm_0_19 _) d_MO_statementTold_65 68 rfl ?_
        refine ax_iconst 4 d_MO_statementTold_68 ic_4 69 rfl ?_
        refine ax_iload_n 0 d_MO_statementTold_69 rfl rfl 70 rfl ?_
        refine ax_callV mv_MO_292 ⟨Nat.le_of_ble_eq_true rfl, Nat.le_of_ble_eq_true rfl⟩ ⟨rfl, rfl⟩ [.ref 12, .int 4, .int (m.1 0 2)] [.int (m.1 0 2), .int 4, .ref 12, .ref 0] rfl rfl (rc_m_0 _) (Nat.le_of_ble_eq_true rfl) d_MO_statementTold_70 73 rfl (zc_MO_isOnce 12 4 (m.1 0 2) p2.2 m_12z (ok_b h (fun p3 h => ?_)))
        refine ax_ifb_eq 103 76 d_MO_statementTold_73 rfl rfl (fun hc => ?_) (fun hc => ?_)
        · have h := ok_f (bf hc) h
          refine ax_aload_n 1 d_MO_statementTold_103 rfl rfl 104 rfl ?_
          refine ax_aload_n 1 d_MO_statementTold_104 rfl rfl 105 rfl ?_
          refine ax_getR fl_MO_33 m_0 rfl (rm_0_14 _) d_MO_statementTold_105 108 rfl ?_
          refine ax_callV mv_MO_243 ⟨Nat.le_of_ble_eq_true rfl, Nat.le_of_ble_eq_true rfl⟩ ⟨rfl, rfl⟩ [.ref 7] [.ref 7, .ref 0] rfl rfl (rc_m_0 _) (Nat.le_of_ble_eq_true rfl) d_MO_statementTold_108 111 rfl (zc_MO_takes 7 p3.2 m_7z (ok_b h (fun p4 h => ?_)))
          refine ax_ifb_eq 156 114 d_MO_statementTold_111 rfl rfl (fun hc => ?_) (fun hc => ?_)
          · have h := ok_f (bf hc) h
            refine ax_aload_n 1 d_MO_statementTold_156 rfl rfl 157 rfl ?_
            refine ax_aload_n 1 d_MO_statementTold_157 rfl rfl 158 rfl ?_
            refine ax_getR fl_MO_42 m_0 rfl (rm_0_17 _) d_MO_statementTold_158 161 rfl ?_
            refine ax_callV mv_MO_243 ⟨Nat.le_of_ble_eq_true rfl, Nat.le_of_ble_eq_true rfl⟩ ⟨rfl, rfl⟩ [.ref 10] [.ref 10, .ref 0] rfl rfl (rc_m_0 _) (Nat.le_of_ble_eq_true rfl) d_MO_statementTold_161 164 rfl (zc_MO_takes 10 p4.2 m_10z (ok_b h (fun p5 h => ?_)))
            refine ax_ifb_eq 197 167 d_MO_statementTold_164 rfl rfl (fun hc => ?_) (fun hc => ?_)
            · have h := ok_f (bf hc) h
              refine ax_aload_n 1 d_MO_statementTold_197 rfl rfl 198 rfl ?_
              refine ax_aload_n 1 d_MO_statementTold_198 rfl rfl 199 rfl ?_
              refine ax_getR fl_MO_51 m_0 rfl (rm_0_20 _) d_MO_statementTold_199 202 rfl ?_
              refine ax_callV mv_MO_239 ⟨Nat.le_of_ble_eq_true rfl, Nat.le_of_ble_eq_true rfl⟩ ⟨rfl, rfl⟩ [.ref 13] [.ref 13, .ref 0] rfl rfl (rc_m_0 _) (Nat.le_of_ble_eq_true rfl) d_MO_statementTold_202 205 rfl (zc_MO_isHere 13 p5.2 m_13z (ok_b h (fun p6 h => ?_)))
              refine ax_ifb_ne 219 208 d_MO_statementTold_205 rfl rfl (fun hc => ?_) (fun hc => ?_)
              · have h := ok_t hc h
                exact ax_sub [1, 0] rfl (c_MO_statementTold_J219 (m.1 0 2) p6.2 (fun p hp => hR p hp) h)
              · have h := ok_f (bf hc) h
                refine ax_aload_n 1 d_MO_statementTold_208 rfl rfl 209 rfl ?_
                refine ax_aload_n 1 d_MO_statementTold_209 rfl rfl 210 rfl ?_
                refine ax_getR fl_MO_63 m_0 rfl (rm_0_24 _) d_MO_statementTold_210 213 rfl ?_
                refine ax_callV mv_MO_239 ⟨Nat.le_of_ble_eq_true rfl, Nat.le_of_ble_eq_true rfl⟩ ⟨rfl, rfl⟩ [.ref 17] [.ref 17, .ref 0] rfl rfl (rc_m_0 _) (Nat.le_of_ble_eq_true rfl) d_MO_statementTold_213 216 rfl (zc_MO_isHere 17 p6.2 m_17z (ok_b h (fun p7 h => ?_)))
                refine ax_ifb_eq 273 219 d_MO_statementTold_216 rfl rfl (fun hc => ?_) (fun hc => ?_)
                · have h := ok_f (bf hc) h
                  refine ax_aload_n 1 d_MO_statementTold_273 rfl rfl 274 rfl ?_
                  refine ax_iconst 1 d_MO_statementTold_274 ic_1 275 rfl ?_
                  refine ax_iload_n 0 d_MO_statementTold_275 rfl rfl 276 rfl ?_
                  refine ax_callV mv_MO_246 ⟨Nat.le_of_ble_eq_true rfl, Nat.le_of_ble_eq_true rfl⟩ ⟨rfl, rfl⟩ [.int 1, .int (m.1 0 2)] [.int (m.1 0 2), .int 1, .ref 0] rfl rfl (rc_m_0 _) (Nat.le_of_ble_eq_true rfl) d_MO_statementTold_276 279 rfl (zc_MO_fail 1 (m.1 0 2) p7.2 ?_)
                  refine ok_l (G := fun p => AX gM s_MO_statementTold 279 [(1, .int (m.1 0 2)), (0, .ref 0)] [] p Q) h (fun p8 h => ?_)
                  exact ax_sub [1] rfl (c_MO_statementTold_J279 p8 (fun p hp => hR p hp) h)
                · have h := ok_t hc h
                  exact ax_sub [1, 0] rfl (c_MO_statementTold_J219 (m.1 0 2) p7.2 (fun p hp => hR p hp) h)
            · have h := ok_t hc h
              refine ax_aload_n 1 d_MO_statementTold_167 rfl rfl 168 rfl ?_
              refine ax_getR fl_MO_78 m_0 rfl (rm_0_30 _) d_MO_statementTold_168 171 rfl ?_
              refine ax_iconst 5 d_MO_statementTold_171 ic_5 172 rfl ?_
              refine ax_iaload m_22 d_MO_statementTold_172 173 rfl h (fun i9 h => ?_)
              refine ax_iconst 4 d_MO_statementTold_173 ic_4 174 rfl ?_
              refine ax_icmp_ne 183 177 d_MO_statementTold_174 rfl rfl (fun hc => ?_) (fun hc => ?_)
              · have h := ok_f hc h
                exact ax_sub [1] rfl (c_MO_statementTold_J183 p5.2 (fun p hp => hR p hp) h)
              · have h := ok_t hc h
                refine ax_aload_n 1 d_MO_statementTold_177 rfl rfl 178 rfl ?_
                refine ax_iconst 5 d_MO_statementTold_178 ic_5 179 rfl ?_
                refine ax_iload_n 0 d_MO_statementTold_179 rfl rfl 180 rfl ?_
                refine ax_callV mv_MO_246 ⟨Nat.le_of_ble_eq_true rfl, Nat.le_of_ble_eq_true rfl⟩ ⟨rfl, rfl⟩ [.int 5, .int (m.1 0 2)] [.int (m.1 0 2), .int 5, .ref 0] rfl rfl (rc_m_0 _) (Nat.le_of_ble_eq_true rfl) d_MO_statementTold_180 183 rfl (zc_MO_fail 5 (m.1 0 2) p5.2 ?_)
                refine ok_l (G := fun p => AX gM s_MO_statementTold 183 [(1, .int (m.1 0 2)), (0, .ref 0)] [] p Q) h (fun p10 h => ?_)
                exact ax_sub [1] rfl (c_MO_statementTold_J183 p10 (fun p hp => hR p hp) h)
          · have h := ok_t hc h
            refine ax_aload_n 1 d_MO_statementTold_114 rfl rfl 115 rfl ?_
            refine ax_getR fl_MO_78 m_0 rfl (rm_0_30 _) d_MO_statementTold_115 118 rfl ?_
            refine ax_iconst 4 d_MO_statementTold_118 ic_4 119 rfl ?_
            refine ax_aload_n 1 d_MO_statementTold_119 rfl rfl 120 rfl ?_
            refine ax_aload_n 1 d_MO_statementTold_120 rfl rfl 121 rfl ?_
            refine ax_getR fl_MO_39 m_0 rfl (rm_0_16 _) d_MO_statementTold_121 124 rfl ?_
            refine ax_callV mv_MO_243 ⟨Nat.le_of_ble_eq_true rfl, Nat.le_of_ble_eq_true rfl⟩ ⟨rfl, rfl⟩ [.ref 9] [.ref 9, .ref 0, .int 4, .ref 22] rfl rfl (rc_m_0 _) (Nat.le_of_ble_eq_true rfl) d_MO_statementTold_124 127 rfl (zc_MO_takes 9 p4.2 m_9z (ok_b h (fun p11 h => ?_)))
            refine ax_ifb_eq 134 130 d_MO_statementTold_127 rfl rfl (fun hc => ?_) (fun hc => ?_)
            · have h := ok_f (bf hc) h
              refine ax_iconst 0 d_MO_statementTold_134 ic_0 135 rfl ?_
              exact ax_sub [1] rfl (c_MO_statementTold_J135 22 4 false p11.2 m_22z (fun p hp => hR p hp) h)
            · have h := ok_t hc h
              refine ax_iconst 1 d_MO_statementTold_130 ic_1 131 rfl ?_
              refine ax_goto 135 d_MO_statementTold_131 rfl ?_
              exact ax_sub [1] rfl (c_MO_statementTold_J135 22 4 true p11.2 m_22z (fun p hp => hR p hp) h)
        · have h := ok_t hc h
          refine ax_aload_n 1 d_MO_statementTold_76 rfl rfl 77 rfl ?_
          refine ax_getR fl_MO_78 m_0 rfl (rm_0_30 _) d_MO_statementTold_77 80 rfl ?_
          refine ax_bipush 6 d_MO_statementTold_80 bp_6 82 rfl ?_
          refine ax_aload_n 1 d_MO_statementTold_82 rfl rfl 83 rfl ?_
          refine ax_iconst 0 d_MO_statementTold_83 ic_0 84 rfl ?_
          refine ax_callV mv_MO_276 ⟨Nat.le_of_ble_eq_true rfl, Nat.le_of_ble_eq_true rfl⟩ ⟨rfl, rfl⟩ [.int 0] [.int 0, .ref 0, .int 6, .ref 22] rfl rfl (rc_m_0 _) (Nat.le_of_ble_eq_true rfl) d_MO_statementTold_84 87 rfl (zc_MO_named 0 p3.2 (ok_b h (fun p12 h => ?_)))
          refine ax_iastore m_22 d_MO_statementTold_87 88 rfl h (fun i13 m14 h => ?_)
          refine ax_aload_n 1 d_MO_statementTold_88 rfl rfl 89 rfl ?_
          refine ax_getR fl_MO_78 m_0 rfl (rm_0_30 _) d_MO_statementTold_89 92 rfl ?_
          refine ax_bipush 7 d_MO_statementTold_92 bp_7 94 rfl ?_
          refine ax_aload_n 1 d_MO_statementTold_94 rfl rfl 95 rfl ?_
          refine ax_iconst 0 d_MO_statementTold_95 ic_0 96 rfl ?_
          refine ax_callV mv_MO_276 ⟨Nat.le_of_ble_eq_true rfl, Nat.le_of_ble_eq_true rfl⟩ ⟨rfl, rfl⟩ [.int 0] [.int 0, .ref 0, .int 7, .ref 22] rfl rfl (rc_m_0 _) (Nat.le_of_ble_eq_true rfl) d_MO_statementTold_96 99 rfl (zc_MO_named 0 m14 (ok_b h (fun p15 h => ?_)))
          refine ax_iastore m_22 d_MO_statementTold_99 100 rfl h (fun i16 m17 h => ?_)
          refine ax_goto 279 d_MO_statementTold_100 rfl ?_
          exact ax_sub [1] rfl (c_MO_statementTold_J279 m17 (fun p hp => hR p hp) h)
      · have h := ok_t hc h
        refine ax_aload_n 1 d_MO_statementTold_55 rfl rfl 56 rfl ?_
        refine ax_iconst 2 d_MO_statementTold_56 ic_2 57 rfl ?_
        refine ax_callV mv_MO_296 ⟨Nat.le_of_ble_eq_true rfl, Nat.le_of_ble_eq_true rfl⟩ ⟨rfl, rfl⟩ [.int 2] [.int 2, .ref 0] rfl rfl (rc_m_0 _) (Nat.le_of_ble_eq_true rfl) d_MO_statementTold_57 60 rfl (zc_MO_newNames 2 p2.2 (ok_b h (fun p18 h => ?_)))
        refine ax_goto 279 d_MO_statementTold_60 rfl ?_
        exact ax_sub [1] rfl (c_MO_statementTold_J279 p18 (fun p hp => hR p hp) h)
    · have h := ok_t hc h
      refine ax_aload_n 1 d_MO_statementTold_34 rfl rfl 35 rfl ?_
      refine ax_iconst 1 d_MO_statementTold_35 ic_1 36 rfl ?_
      refine ax_callV mv_MO_296 ⟨Nat.le_of_ble_eq_true rfl, Nat.le_of_ble_eq_true rfl⟩ ⟨rfl, rfl⟩ [.int 1] [.int 1, .ref 0] rfl rfl (rc_m_0 _) (Nat.le_of_ble_eq_true rfl) d_MO_statementTold_36 39 rfl (zc_MO_newNames 1 p1.2 (ok_b h (fun p19 h => ?_)))
      refine ax_goto 279 d_MO_statementTold_39 rfl ?_
      exact ax_sub [1] rfl (c_MO_statementTold_J279 p19 (fun p hp => hR p hp) h)
  · have h := ok_t hc h
    refine ax_aload_n 1 d_MO_statementTold_14 rfl rfl 15 rfl ?_
    refine ax_iconst 5 d_MO_statementTold_15 ic_5 16 rfl ?_
    refine ax_iload_n 0 d_MO_statementTold_16 rfl rfl 17 rfl ?_
    refine ax_callV mv_MO_246 ⟨Nat.le_of_ble_eq_true rfl, Nat.le_of_ble_eq_true rfl⟩ ⟨rfl, rfl⟩ [.int 5, .int (m.1 0 2)] [.int (m.1 0 2), .int 5, .ref 0] rfl rfl (rc_m_0 _) (Nat.le_of_ble_eq_true rfl) d_MO_statementTold_17 20 rfl (zc_MO_fail 5 (m.1 0 2) m ?_)
    refine ok_l (G := fun p => AX gM s_MO_statementTold 20 [(1, .int (m.1 0 2)), (0, .ref 0)] [] p Q) h (fun p20 h => ?_)
    exact ax_vret rfl d_MO_statementTold_20 (hR p20 (ok_some h))
set_option maxRecDepth 4000 in
theorem c_MO_opensFirst_B20 (v1 : Int32) (m : zM)  {Q : Option Value → zM → Prop} {K : ((zM) ⊕ (Int32 × zM)) → Prop} (hR : ∀ p : zM, K (.inl p) → Q none p) (h0 : ∀ s : Int32 × zM, K (.inr s) → AX gM s_MO_opensFirst 20 [(0, .ref 0), (1, .int s.1)] [] s.2 Q) (h : ok (f_MO_opensFirst_B20 v1 m) K) : AX gM s_MO_opensFirst 20 [(0, .ref 0), (1, .int v1)] [] m Q := by
  unfold f_MO_opensFirst_B20 at h
  refine ax_iload_n 1 d_MO_opensFirst_20 rfl rfl 21 rfl ?_
  refine ax_iconst 4 d_MO_opensFirst_21 ic_4 22 rfl ?_
  refine ax_icmp_ge 38 25 d_MO_opensFirst_22 rfl rfl (fun hc => ?_) (fun hc => ?_)
  · have h := ok_t hc h
    exact ax_vret rfl d_MO_opensFirst_38 (hR m (ok_some h))
  · have h := ok_f hc h
    refine ax_aload_n 0 d_MO_opensFirst_25 rfl rfl 26 rfl ?_
    refine ax_getR fl_MO_90 m_0 rfl (rm_0_39 _) d_MO_opensFirst_26 29 rfl ?_
    refine ax_iload_n 1 d_MO_opensFirst_29 rfl rfl 30 rfl ?_
    refine ax_iconst 0 d_MO_opensFirst_30 ic_0 31 rfl ?_
    refine ax_iastore m_26 d_MO_opensFirst_31 32 rfl h (fun i3 m4 h => ?_)
    refine ax_iinc (ls1 := [(1, .int (v1 + 1)), (0, .ref 0)]) 1 1 d_MO_opensFirst_32 rfl ic_1 (Nat.le_of_ble_eq_true rfl) rfl 35 rfl ?_
    refine ax_goto 20 d_MO_opensFirst_35 rfl ?_
    exact ax_sub [1, 0] rfl (h0 ((v1 + 1), m4) (ok_some h))
theorem c_MO_opensFirst_L20 (v1 : Int32) (m : zM)  {Q : Option Value → zM → Prop} {K : zM → Prop} (hR : ∀ p : zM, K (p) → Q none p)  (h : ok (f_MO_opensFirst_L20 v1 m) K) : AX gM s_MO_opensFirst 20 [(0, .ref 0), (1, .int v1)] [] m Q :=
  ok_lp (K := K) (G := fun s : Int32 × zM => AX gM s_MO_opensFirst 20 [(0, .ref 0), (1, .int s.1)] [] s.2 Q) (fun s h => c_MO_opensFirst_B20 s.1 s.2  (fun p hp => hR p hp) (fun s hs => hs) h) FU (v1, m) h
set_option maxRecDepth 4000 in
theorem c_MO_opensFirst_J15 (t1 : Int32) (m : zM)  {Q : Option Value → zM → Prop} {K : zM → Prop} (hR : ∀ p : zM, K (p) → Q none p)  (h : ok (f_MO_opensFirst_J15 t1 m) K) : AX gM s_MO_opensFirst 15 [(0, .ref 0)] [.int t1, .ref 0] m Q := by
  unfold f_MO_opensFirst_J15 at h
  refine ax_putI (K := K) fl_MO_337 m_0 rfl rfl rfl (Nat.le_of_ble_eq_true rfl) d_MO_opensFirst_15 18 rfl h (fun m2 h => ?_)
  refine ax_iconst 0 d_MO_opensFirst_18 ic_0 19 rfl ?_
  refine ax_istore_n (ls1 := [(1, .int 0), (0, .ref 0)]) d_MO_opensFirst_19 rfl (Nat.le_of_ble_eq_true rfl) rfl 20 rfl ?_
  exact ax_sub [1, 0] rfl (c_MO_opensFirst_L20 0 m2 (fun p hp => hR p hp) h)
set_option maxRecDepth 4000 in
theorem zc_MO_opensFirst  (m : zM)  {Q : Option Value → zM → Prop} (h : ok (f_MO_opensFirst m) (fun p => Q none p)) : zc gM s_MO_opensFirst [.ref 0] m Q := by
  refine zc_of rfl (Nat.le_of_ble_eq_true rfl) ?_
  show AX gM s_MO_opensFirst 0 [(0, .ref 0)] [] m Q
  obtain ⟨K, hK⟩ : ∃ K : zM → Prop, K = (fun p : zM => Q none p) := ⟨_, rfl⟩
  have hR : ∀ p : zM, K p → Q none p := fun p hp => by rw [hK] at hp; exact hp
  replace h : ok (f_MO_opensFirst m) (fun p : zM => Q none p) := h
  rw [← hK] at h
  unfold f_MO_opensFirst at h
  refine ax_aload_n 0 d_MO_opensFirst_0 rfl rfl 1 rfl ?_
  refine ax_aload_n 0 d_MO_opensFirst_1 rfl rfl 2 rfl ?_
  refine ax_getR fl_MO_81 m_0 rfl (rm_0_31 _) d_MO_opensFirst_2 5 rfl ?_
  refine ax_iconst 1 d_MO_opensFirst_5 ic_1 6 rfl ?_
  refine ax_iaload m_23 d_MO_opensFirst_6 7 rfl h (fun i1 h => ?_)
  refine ax_if_le 14 10 d_MO_opensFirst_7 rfl rfl (fun hc => ?_) (fun hc => ?_)
  · have h := ok_t hc h
    refine ax_iconst (-1) d_MO_opensFirst_14 ic_m1 15 rfl ?_
    exact ax_sub [0] rfl (c_MO_opensFirst_J15 (-1) m (fun p hp => hR p hp) h)
  · have h := ok_f hc h
    refine ax_iconst 0 d_MO_opensFirst_10 ic_0 11 rfl ?_
    refine ax_goto 15 d_MO_opensFirst_11 rfl ?_
    exact ax_sub [0] rfl (c_MO_opensFirst_J15 0 m (fun p hp => hR p hp) h)
set_option maxRecDepth 4000 in
theorem c_MO_shut_B10 (v1 : Int64) (v3 : Int32) (m : zM)  {Q : Option Value → zM → Prop} {K : ((Int64) ⊕ (Int64 × Int32)) → Prop} (hR : ∀ p : Int64, K (.inl p) → Q (some (.long p)) m) (h0 : ∀ s : Int64 × Int32, K (.inr s) → AX gM s_MO_shut 10 [(0, .ref 0), (1, .long s.1), (3, .int s.2)] [] m Q) (h : ok (f_MO_shut_B10 v1 v3 m) K) : AX gM s_MO_shut 10 [(0, .ref 0), (1, .long v1), (3, .int v3)] [] m Q := by
  unfold f_MO_shut_B10 at h
  refine ax_iload_n 2 d_MO_shut_10 rfl rfl 11 rfl ?_
  refine ax_iconst 4 d_MO_shut_11 ic_4 12 rfl ?_
  refine ax_icmp_ge 34 15 d_MO_shut_12 rfl rfl (fun hc => ?_) (fun hc => ?_)
  · have h := ok_t hc h
    refine ax_lload_n 1 d_MO_shut_34 rfl rfl 35 rfl ?_
    exact ax_lret rfl d_MO_shut_35 (hR v1 (ok_some h))
  · have h := ok_f hc h
    refine ax_lload_n 1 d_MO_shut_15 rfl rfl 16 rfl ?_
    refine ax_bipush 12 d_MO_shut_16 bp_12 18 rfl ?_
    refine ax_lshl d_MO_shut_18 19 rfl ?_
    refine ax_aload_n 0 d_MO_shut_19 rfl rfl 20 rfl ?_
    refine ax_getR fl_MO_90 m_0 rfl (rm_0_39 _) d_MO_shut_20 23 rfl ?_
    refine ax_iload_n 2 d_MO_shut_23 rfl rfl 24 rfl ?_
    refine ax_iaload m_26 d_MO_shut_24 25 rfl h (fun i1 h => ?_)
    refine ax_i2l d_MO_shut_25 26 rfl ?_
    refine ax_lor d_MO_shut_26 27 rfl ?_
    refine ax_lstore_n (ls1 := [(1, .long ((lsl v1 12) ||| ((m.1 26 i1).toInt64))), (0, .ref 0), (3, .int v3)]) d_MO_shut_27 rfl (Nat.le_of_ble_eq_true rfl) rfl 28 rfl ?_
    refine ax_iinc (ls1 := [(3, .int (v3 + 1)), (1, .long ((lsl v1 12) ||| ((m.1 26 i1).toInt64))), (0, .ref 0)]) 2 1 d_MO_shut_28 rfl ic_1 (Nat.le_of_ble_eq_true rfl) rfl 31 rfl ?_
    refine ax_goto 10 d_MO_shut_31 rfl ?_
    exact ax_sub [2, 1, 0] rfl (h0 (((lsl v1 12) ||| ((m.1 26 i1).toInt64)), (v3 + 1)) (ok_some h))
theorem c_MO_shut_L10 (v1 : Int64) (v3 : Int32) (m : zM)  {Q : Option Value → zM → Prop} {K : Int64 → Prop} (hR : ∀ p : Int64, K (p) → Q (some (.long p)) m)  (h : ok (f_MO_shut_L10 v1 v3 m) K) : AX gM s_MO_shut 10 [(0, .ref 0), (1, .long v1), (3, .int v3)] [] m Q :=
  ok_lp (K := K) (G := fun s : Int64 × Int32 => AX gM s_MO_shut 10 [(0, .ref 0), (1, .long s.1), (3, .int s.2)] [] m Q) (fun s h => c_MO_shut_B10 s.1 s.2 m  (fun p hp => hR p hp) (fun s hs => hs) h) FU (v1, v3) h
set_option maxRecDepth 4000 in
theorem zc_MO_shut  (m : zM)  {Q : Option Value → zM → Prop} (h : ok (f_MO_shut m) (fun p => Q (some (.long p)) m)) : zc gM s_MO_shut [.ref 0] m Q := by
  refine zc_of rfl (Nat.le_of_ble_eq_true rfl) ?_
  show AX gM s_MO_shut 0 [(0, .ref 0)] [] m Q
  obtain ⟨K, hK⟩ : ∃ K : Int64 → Prop, K = (fun p : Int64 => Q (some (.long p)) m) := ⟨_, rfl⟩
  have hR : ∀ p : Int64, K p → Q (some (.long p)) m := fun p hp => by rw [hK] at hp; exact hp
  replace h : ok (f_MO_shut m) (fun p : Int64 => Q (some (.long p)) m) := h
  rw [← hK] at h
  unfold f_MO_shut at h
  refine ax_aload_n 0 d_MO_shut_0 rfl rfl 1 rfl ?_
  refine ax_getI fl_MO_337 m_0 rfl d_MO_shut_1 4 rfl ?_
  refine ax_iconst 1 d_MO_shut_4 ic_1 5 rfl ?_
  refine ax_iadd d_MO_shut_5 6 rfl ?_
  refine ax_i2l d_MO_shut_6 7 rfl ?_
  refine ax_lstore_n (ls1 := [(1, .long (((m.1 0 38) + 1).toInt64)), (0, .ref 0)]) d_MO_shut_7 rfl (Nat.le_of_ble_eq_true rfl) rfl 8 rfl ?_
  refine ax_iconst 0 d_MO_shut_8 ic_0 9 rfl ?_
  refine ax_istore_n (ls1 := [(3, .int 0), (1, .long (((m.1 0 38) + 1).toInt64)), (0, .ref 0)]) d_MO_shut_9 rfl (Nat.le_of_ble_eq_true rfl) rfl 10 rfl ?_
  exact ax_sub [2, 1, 0] rfl (c_MO_shut_L10 (((m.1 0 38) + 1).toInt64) 0 m (fun p hp => hR p hp) h)
set_option maxRecDepth 4000 in
theorem zc_MO_spot (v0 : Int64) (m : zM)  {Q : Option Value → zM → Prop} (h : Q (some (.int (f_MO_spot v0))) m) : zc gM s_MO_spot [.long v0] m Q := by
  refine zc_of rfl (Nat.le_of_ble_eq_true rfl) ?_
  show AX gM s_MO_spot 0 [(0, .long v0)] [] m Q
  obtain ⟨K, hK⟩ : ∃ K : Int32 → Prop, K = (fun p : Int32 => Q (some (.int p)) m) := ⟨_, rfl⟩
  have hR : ∀ p : Int32, K p → Q (some (.int p)) m := fun p hp => by rw [hK] at hp; exact hp
  replace h : (fun p : Int32 => Q (some (.int p)) m) (f_MO_spot v0) := h
  rw [← hK] at h
  unfold f_MO_spot at h
  refine ax_lload_n 0 d_MO_spot_0 rfl rfl 1 rfl ?_
  refine ax_ldc2 (-7046029254386353131) wk_MO_374 d_MO_spot_1 4 rfl ?_
  refine ax_lmul d_MO_spot_4 5 rfl ?_
  refine ax_lstore_n (ls1 := [(2, .long (v0 * (-7046029254386353131))), (0, .long v0)]) d_MO_spot_5 rfl (Nat.le_of_ble_eq_true rfl) rfl 6 rfl ?_
  refine ax_lload_n 0 d_MO_spot_6 rfl rfl 7 rfl ?_
  refine ax_bipush 53 d_MO_spot_7 bp_53 9 rfl ?_
  refine ax_lushr d_MO_spot_9 10 rfl ?_
  refine ax_l2i d_MO_spot_10 11 rfl ?_
  exact ax_iret rfl d_MO_spot_11 (hR ((lus (v0 * (-7046029254386353131)) 53).toInt32) h)
set_option maxRecDepth 4000 in
theorem c_MO_found_J42 (v3 : Int32) (m : zM)  {Q : Option Value → zM → Prop} {K : Int32 → Prop} (hR : ∀ p : Int32, K (p) → Q (some (.int p)) m)  (h : ok (f_MO_found_J42 v3 m) K) : AX gM s_MO_found 42 [(0, .ref 0), (3, .int v3)] [] m Q := by
  unfold f_MO_found_J42 at h
  refine ax_aload_n 0 d_MO_found_42 rfl rfl 43 rfl ?_
  refine ax_getR fl_MO_103 m_0 rfl (rm_0_44 _) d_MO_found_43 46 rfl ?_
  refine ax_iload_n 1 d_MO_found_46 rfl rfl 47 rfl ?_
  refine ax_iaload m_29 d_MO_found_47 48 rfl h (fun i4 h => ?_)
  exact ax_iret rfl d_MO_found_48 (hR (m.1 29 i4) (ok_some h))
set_option maxRecDepth 4000 in
theorem c_MO_found_B5 (v1 : Int64) (v3 : Int32) (m : zM)  {Q : Option Value → zM → Prop} {K : ((Int32) ⊕ (Int32)) → Prop} (hR : ∀ p : Int32, K (.inl p) → Q (some (.int p)) m) (h0 : ∀ s : Int32, K (.inr s) → AX gM s_MO_found 5 [(0, .ref 0), (1, .long v1), (3, .int s)] [] m Q) (h : ok (f_MO_found_B5 v1 v3 m) K) : AX gM s_MO_found 5 [(0, .ref 0), (1, .long v1), (3, .int v3)] [] m Q := by
  unfold f_MO_found_B5 at h
  refine ax_aload_n 0 d_MO_found_5 rfl rfl 6 rfl ?_
  refine ax_getR fl_MO_103 m_0 rfl (rm_0_44 _) d_MO_found_6 9 rfl ?_
  refine ax_iload_n 2 d_MO_found_9 rfl rfl 10 rfl ?_
  refine ax_iaload m_29 d_MO_found_10 11 rfl h (fun i1 h => ?_)
  refine ax_iconst (-1) d_MO_found_11 ic_m1 12 rfl ?_
  refine ax_icmp_eq 42 15 d_MO_found_12 rfl rfl (fun hc => ?_) (fun hc => ?_)
  · have h := ok_t hc h
    exact ax_sub [0, 2] rfl (c_MO_found_J42 v3 m (fun p hp => hR p hp) (ok_z h))
  · have h := ok_f hc h
    refine ax_aload_n 0 d_MO_found_15 rfl rfl 16 rfl ?_
    refine ax_getR fl_MO_96 m_0 rfl (rm_0_42 _) d_MO_found_16 19 rfl ?_
    refine ax_aload_n 0 d_MO_found_19 rfl rfl 20 rfl ?_
    refine ax_getR fl_MO_103 m_0 rfl (rm_0_44 _) d_MO_found_20 23 rfl ?_
    refine ax_iload_n 2 d_MO_found_23 rfl rfl 24 rfl ?_
    refine ax_iaload m_29 d_MO_found_24 25 rfl h (fun i2 h => ?_)
    refine ax_laload m_27 d_MO_found_25 26 rfl h (fun i3 h => ?_)
    refine ax_lload_n 1 d_MO_found_26 rfl rfl 27 rfl ?_
    refine ax_lcmp d_MO_found_27 28 rfl ?_
    refine ax_if_eq 42 31 d_MO_found_28 rfl rfl (fun hc => ?_) (fun hc => ?_)
    · have h := ok_t hc h
      exact ax_sub [0, 2] rfl (c_MO_found_J42 v3 m (fun p hp => hR p hp) (ok_z h))
    · have h := ok_f hc h
      refine ax_iload_n 2 d_MO_found_31 rfl rfl 32 rfl ?_
      refine ax_iconst 1 d_MO_found_32 ic_1 33 rfl ?_
      refine ax_iadd d_MO_found_33 34 rfl ?_
      refine ax_sipush 2047 d_MO_found_34 sp_2047 37 rfl ?_
      refine ax_iand d_MO_found_37 38 rfl ?_
      refine ax_istore_n (ls1 := [(3, .int ((v3 + 1) &&& 2047)), (0, .ref 0), (1, .long v1)]) d_MO_found_38 rfl (Nat.le_of_ble_eq_true rfl) rfl 39 rfl ?_
      refine ax_goto 5 d_MO_found_39 rfl ?_
      exact ax_sub [1, 2, 0] rfl (h0 ((v3 + 1) &&& 2047) (ok_some h))
theorem c_MO_found_L5 (v1 : Int64) (v3 : Int32) (m : zM)  {Q : Option Value → zM → Prop} {K : Int32 → Prop} (hR : ∀ p : Int32, K (p) → Q (some (.int p)) m)  (h : ok (f_MO_found_L5 v1 v3 m) K) : AX gM s_MO_found 5 [(0, .ref 0), (1, .long v1), (3, .int v3)] [] m Q :=
  ok_lp (K := K) (G := fun s : Int32 => AX gM s_MO_found 5 [(0, .ref 0), (1, .long v1), (3, .int s)] [] m Q) (fun s h => c_MO_found_B5 v1 s m  (fun p hp => hR p hp) (fun s hs => hs) h) FU v3 h
set_option maxRecDepth 4000 in
theorem zc_MO_found (v1 : Int64) (m : zM)  {Q : Option Value → zM → Prop} (h : ok (f_MO_found v1 m) (fun p => Q (some (.int p)) m)) : zc gM s_MO_found [.ref 0, .long v1] m Q := by
  refine zc_of rfl (Nat.le_of_ble_eq_true rfl) ?_
  show AX gM s_MO_found 0 [(0, .ref 0), (1, .long v1)] [] m Q
  obtain ⟨K, hK⟩ : ∃ K : Int32 → Prop, K = (fun p : Int32 => Q (some (.int p)) m) := ⟨_, rfl⟩
  have hR : ∀ p : Int32, K p → Q (some (.int p)) m := fun p hp => by rw [hK] at hp; exact hp
  replace h : ok (f_MO_found v1 m) (fun p : Int32 => Q (some (.int p)) m) := h
  rw [← hK] at h
  unfold f_MO_found at h
  refine ax_lload_n 1 d_MO_found_0 rfl rfl 1 rfl ?_
  refine ax_callS mv_MO_376 ⟨Nat.le_of_ble_eq_true rfl, Nat.le_of_ble_eq_true rfl⟩ ⟨rfl, rfl⟩ [.long v1] [.long v1] rfl rfl (Nat.le_of_ble_eq_true rfl) d_MO_found_1 4 rfl (zc_MO_spot v1 m ?_)
  refine ax_istore_n (ls1 := [(3, .int (f_MO_spot v1)), (0, .ref 0), (1, .long v1)]) d_MO_found_4 rfl (Nat.le_of_ble_eq_true rfl) rfl 5 rfl ?_
  exact ax_sub [1, 2, 0] rfl (c_MO_found_L5 v1 (f_MO_spot v1) m (fun p hp => hR p hp) h)
set_option maxRecDepth 4000 in
theorem c_MO_enters_J31 (v1 : Int32) (v2 : Int32) (m : zM)  {Q : Option Value → zM → Prop} {K : zM → Prop} (hR : ∀ p : zM, K (p) → Q none p)  (h : ok (f_MO_enters_J31 v1 v2 m) K) : AX gM s_MO_enters 31 [(0, .ref 0), (1, .int v1), (2, .int v2)] [] m Q := by
  unfold f_MO_enters_J31 at h
  refine ax_aload_n 0 d_MO_enters_31 rfl rfl 32 rfl ?_
  refine ax_getR fl_MO_103 m_0 rfl (rm_0_44 _) d_MO_enters_32 35 rfl ?_
  refine ax_iload_n 2 d_MO_enters_35 rfl rfl 36 rfl ?_
  refine ax_iload_n 1 d_MO_enters_36 rfl rfl 37 rfl ?_
  refine ax_iastore m_29 d_MO_enters_37 38 rfl h (fun i3 m4 h => ?_)
  exact ax_vret rfl d_MO_enters_38 (hR m4 (ok_some h))
set_option maxRecDepth 4000 in
theorem c_MO_enters_B10 (v1 : Int32) (v2 : Int32) (m : zM)  {Q : Option Value → zM → Prop} {K : ((zM) ⊕ (Int32)) → Prop} (hR : ∀ p : zM, K (.inl p) → Q none p) (h0 : ∀ s : Int32, K (.inr s) → AX gM s_MO_enters 10 [(0, .ref 0), (1, .int v1), (2, .int s)] [] m Q) (h : ok (f_MO_enters_B10 v1 v2 m) K) : AX gM s_MO_enters 10 [(0, .ref 0), (1, .int v1), (2, .int v2)] [] m Q := by
  unfold f_MO_enters_B10 at h
  refine ax_aload_n 0 d_MO_enters_10 rfl rfl 11 rfl ?_
  refine ax_getR fl_MO_103 m_0 rfl (rm_0_44 _) d_MO_enters_11 14 rfl ?_
  refine ax_iload_n 2 d_MO_enters_14 rfl rfl 15 rfl ?_
  refine ax_iaload m_29 d_MO_enters_15 16 rfl h (fun i2 h => ?_)
  refine ax_iconst (-1) d_MO_enters_16 ic_m1 17 rfl ?_
  refine ax_icmp_eq 31 20 d_MO_enters_17 rfl rfl (fun hc => ?_) (fun hc => ?_)
  · have h := ok_t hc h
    exact ax_sub [0, 1, 2] rfl (c_MO_enters_J31 v1 v2 m (fun p hp => hR p hp) (ok_z h))
  · have h := ok_f hc h
    refine ax_iload_n 2 d_MO_enters_20 rfl rfl 21 rfl ?_
    refine ax_iconst 1 d_MO_enters_21 ic_1 22 rfl ?_
    refine ax_iadd d_MO_enters_22 23 rfl ?_
    refine ax_sipush 2047 d_MO_enters_23 sp_2047 26 rfl ?_
    refine ax_iand d_MO_enters_26 27 rfl ?_
    refine ax_istore_n (ls1 := [(2, .int ((v2 + 1) &&& 2047)), (0, .ref 0), (1, .int v1)]) d_MO_enters_27 rfl (Nat.le_of_ble_eq_true rfl) rfl 28 rfl ?_
    refine ax_goto 10 d_MO_enters_28 rfl ?_
    exact ax_sub [1, 2, 0] rfl (h0 ((v2 + 1) &&& 2047) (ok_some h))
theorem c_MO_enters_L10 (v1 : Int32) (v2 : Int32) (m : zM)  {Q : Option Value → zM → Prop} {K : zM → Prop} (hR : ∀ p : zM, K (p) → Q none p)  (h : ok (f_MO_enters_L10 v1 v2 m) K) : AX gM s_MO_enters 10 [(0, .ref 0), (1, .int v1), (2, .int v2)] [] m Q :=
  ok_lp (K := K) (G := fun s : Int32 => AX gM s_MO_enters 10 [(0, .ref 0), (1, .int v1), (2, .int s)] [] m Q) (fun s h => c_MO_enters_B10 v1 s m  (fun p hp => hR p hp) (fun s hs => hs) h) FU v2 h
set_option maxRecDepth 4000 in
theorem zc_MO_enters (v1 : Int32) (m : zM)  {Q : Option Value → zM → Prop} (h : ok (f_MO_enters v1 m) (fun p => Q none p)) : zc gM s_MO_enters [.ref 0, .int v1] m Q := by
  refine zc_of rfl (Nat.le_of_ble_eq_true rfl) ?_
  show AX gM s_MO_enters 0 [(0, .ref 0), (1, .int v1)] [] m Q
  obtain ⟨K, hK⟩ : ∃ K : zM → Prop, K = (fun p : zM => Q none p) := ⟨_, rfl⟩
  have hR : ∀ p : zM, K p → Q none p := fun p hp => by rw [hK] at hp; exact hp
  replace h : ok (f_MO_enters v1 m) (fun p : zM => Q none p) := h
  rw [← hK] at h
  unfold f_MO_enters at h
  refine ax_aload_n 0 d_MO_enters_0 rfl rfl 1 rfl ?_
  refine ax_getR fl_MO_96 m_0 rfl (rm_0_42 _) d_MO_enters_1 4 rfl ?_
  refine ax_iload_n 1 d_MO_enters_4 rfl rfl 5 rfl ?_
  refine ax_laload m_27 d_MO_enters_5 6 rfl h (fun i1 h => ?_)
  refine ax_callS mv_MO_376 ⟨Nat.le_of_ble_eq_true rfl, Nat.le_of_ble_eq_true rfl⟩ ⟨rfl, rfl⟩ [.long (m.2.1 27 i1)] [.long (m.2.1 27 i1)] rfl rfl (Nat.le_of_ble_eq_true rfl) d_MO_enters_6 9 rfl (zc_MO_spot (m.2.1 27 i1) m ?_)
  refine ax_istore_n (ls1 := [(2, .int (f_MO_spot (m.2.1 27 i1))), (0, .ref 0), (1, .int v1)]) d_MO_enters_9 rfl (Nat.le_of_ble_eq_true rfl) rfl 10 rfl ?_
  exact ax_sub [1, 2, 0] rfl (c_MO_enters_L10 v1 (f_MO_spot (m.2.1 27 i1)) m (fun p hp => hR p hp) h)
set_option maxRecDepth 4000 in
theorem zc_MO_comes (v1 : Int64) (v3 : Int32) (m : zM)  {Q : Option Value → zM → Prop} (h : ok (f_MO_comes v1 v3 m) (fun p => Q none p)) : zc gM s_MO_comes [.ref 0, .long v1, .int v3] m Q := by
  refine zc_of rfl (Nat.le_of_ble_eq_true rfl) ?_
  show AX gM s_MO_comes 0 [(0, .ref 0), (1, .long v1), (3, .int v3)] [] m Q
  obtain ⟨K, hK⟩ : ∃ K : zM → Prop, K = (fun p : zM => Q none p) := ⟨_, rfl⟩
  have hR : ∀ p : zM, K p → Q none p := fun p hp => by rw [hK] at hp; exact hp
  replace h : ok (f_MO_comes v1 v3 m) (fun p : zM => Q none p) := h
  rw [← hK] at h
  unfold f_MO_comes at h
  refine ax_aload_n 0 d_MO_comes_0 rfl rfl 1 rfl ?_
  refine ax_getI fl_MO_380 m_0 rfl d_MO_comes_1 4 rfl ?_
  refine ax_sipush 600 d_MO_comes_4 sp_600 7 rfl ?_
  refine ax_icmp_gt 19 10 d_MO_comes_7 rfl rfl (fun hc => ?_) (fun hc => ?_)
  · have h := ok_t hc h
    exact ax_vret rfl d_MO_comes_19 (hR m (ok_some h))
  · have h := ok_f hc h
    refine ax_aload_n 0 d_MO_comes_10 rfl rfl 11 rfl ?_
    refine ax_lload_n 1 d_MO_comes_11 rfl rfl 12 rfl ?_
    refine ax_callV mv_MO_383 ⟨Nat.le_of_ble_eq_true rfl, Nat.le_of_ble_eq_true rfl⟩ ⟨rfl, rfl⟩ [.long v1] [.long v1, .ref 0] rfl rfl (rc_m_0 _) (Nat.le_of_ble_eq_true rfl) d_MO_comes_12 15 rfl (zc_MO_found v1 m (ok_b h (fun r1 h => ?_)))
    refine ax_iconst (-1) d_MO_comes_15 ic_m1 16 rfl ?_
    refine ax_icmp_eq 20 19 d_MO_comes_16 rfl rfl (fun hc => ?_) (fun hc => ?_)
    · have h := ok_t hc h
      refine ax_aload_n 0 d_MO_comes_20 rfl rfl 21 rfl ?_
      refine ax_getR fl_MO_96 m_0 rfl (rm_0_42 _) d_MO_comes_21 24 rfl ?_
      refine ax_aload_n 0 d_MO_comes_24 rfl rfl 25 rfl ?_
      refine ax_getI fl_MO_380 m_0 rfl d_MO_comes_25 28 rfl ?_
      refine ax_lload_n 1 d_MO_comes_28 rfl rfl 29 rfl ?_
      refine ax_lastore m_27 d_MO_comes_29 30 rfl h (fun i2 m3 h => ?_)
      refine ax_aload_n 0 d_MO_comes_30 rfl rfl 31 rfl ?_
      refine ax_getR fl_MO_100 m_0 rfl (rm_0_43 _) d_MO_comes_31 34 rfl ?_
      refine ax_aload_n 0 d_MO_comes_34 rfl rfl 35 rfl ?_
      refine ax_getI fl_MO_380 m_0 rfl d_MO_comes_35 38 rfl ?_
      refine ax_iload_n 2 d_MO_comes_38 rfl rfl 39 rfl ?_
      refine ax_iastore m_28 d_MO_comes_39 40 rfl h (fun i4 m5 h => ?_)
      refine ax_aload_n 0 d_MO_comes_40 rfl rfl 41 rfl ?_
      refine ax_aload_n 0 d_MO_comes_41 rfl rfl 42 rfl ?_
      refine ax_getI fl_MO_380 m_0 rfl d_MO_comes_42 45 rfl ?_
      refine ax_callV mv_MO_386 ⟨Nat.le_of_ble_eq_true rfl, Nat.le_of_ble_eq_true rfl⟩ ⟨rfl, rfl⟩ [.int (m5.1 0 41)] [.int (m5.1 0 41), .ref 0] rfl rfl (rc_m_0 _) (Nat.le_of_ble_eq_true rfl) d_MO_comes_45 48 rfl (zc_MO_enters (m5.1 0 41) m5 (ok_b h (fun p6 h => ?_)))
      refine ax_aload_n 0 d_MO_comes_48 rfl rfl 49 rfl ?_
      refine ax_dup d_MO_comes_49 rfl 50 rfl ?_
      refine ax_getI fl_MO_380 m_0 rfl d_MO_comes_50 53 rfl ?_
      refine ax_iconst 1 d_MO_comes_53 ic_1 54 rfl ?_
      refine ax_iadd d_MO_comes_54 55 rfl ?_
      refine ax_putI (K := K) fl_MO_380 m_0 rfl rfl rfl (Nat.le_of_ble_eq_true rfl) d_MO_comes_55 58 rfl h (fun m7 h => ?_)
      exact ax_vret rfl d_MO_comes_58 (hR m7 (ok_some h))
    · have h := ok_f hc h
      exact ax_vret rfl d_MO_comes_19 (hR m (ok_some h))
set_option maxRecDepth 4000 in
theorem zc_MO_rules  (m : zM)  {Q : Option Value → zM → Prop} (h : ok (f_MO_rules m) (fun p => Q (some (.int p)) m)) : zc gM s_MO_rules [.ref 0] m Q := by
  refine zc_of rfl (Nat.le_of_ble_eq_true rfl) ?_
  show AX gM s_MO_rules 0 [(0, .ref 0)] [] m Q
  obtain ⟨K, hK⟩ : ∃ K : Int32 → Prop, K = (fun p : Int32 => Q (some (.int p)) m) := ⟨_, rfl⟩
  have hR : ∀ p : Int32, K p → Q (some (.int p)) m := fun p hp => by rw [hK] at hp; exact hp
  replace h : ok (f_MO_rules m) (fun p : Int32 => Q (some (.int p)) m) := h
  rw [← hK] at h
  unfold f_MO_rules at h
  refine ax_aload_n 0 d_MO_rules_0 rfl rfl 1 rfl ?_
  refine ax_getR fl_MO_81 m_0 rfl (rm_0_31 _) d_MO_rules_1 4 rfl ?_
  refine ax_bipush 8 d_MO_rules_4 bp_8 6 rfl ?_
  refine ax_iaload m_23 d_MO_rules_6 7 rfl h (fun i1 h => ?_)
  exact ax_iret rfl d_MO_rules_7 (hR (m.1 23 i1) (ok_some h))
set_option maxRecDepth 4000 in
theorem c_MO_opens_B13 (v1 : Int64) (v3 : Int32) (m : zM)  {Q : Option Value → zM → Prop} {K : ((zM) ⊕ (Int32 × zM)) → Prop} (hR : ∀ p : zM, K (.inl p) → Q none p) (h0 : ∀ s : Int32 × zM, K (.inr s) → AX gM s_MO_opens 13 [(0, .ref 0), (1, .long v1), (3, .int s.1)] [] s.2 Q) (h : ok (f_MO_opens_B13 v1 v3 m) K) : AX gM s_MO_opens 13 [(0, .ref 0), (1, .long v1), (3, .int v3)] [] m Q := by
  unfold f_MO_opens_B13 at h
  refine ax_iload_n 2 d_MO_opens_13 rfl rfl 14 rfl ?_
  refine ax_iconst 4 d_MO_opens_14 ic_4 15 rfl ?_
  refine ax_icmp_ge 44 18 d_MO_opens_15 rfl rfl (fun hc => ?_) (fun hc => ?_)
  · have h := ok_t hc h
    exact ax_vret rfl d_MO_opens_44 (hR m (ok_some h))
  · have h := ok_f hc h
    refine ax_aload_n 0 d_MO_opens_18 rfl rfl 19 rfl ?_
    refine ax_getR fl_MO_87 m_0 rfl (rm_0_37 _) d_MO_opens_19 22 rfl ?_
    refine ax_iload_n 2 d_MO_opens_22 rfl rfl 23 rfl ?_
    refine ax_lload_n 1 d_MO_opens_23 rfl rfl 24 rfl ?_
    refine ax_bipush 36 d_MO_opens_24 bp_36 26 rfl ?_
    refine ax_bipush 12 d_MO_opens_26 bp_12 28 rfl ?_
    refine ax_iload_n 2 d_MO_opens_28 rfl rfl 29 rfl ?_
    refine ax_imul d_MO_opens_29 30 rfl ?_
    refine ax_isub d_MO_opens_30 31 rfl ?_
    refine ax_lshr d_MO_opens_31 32 rfl ?_
    refine ax_l2i d_MO_opens_32 33 rfl ?_
    refine ax_sipush 4095 d_MO_opens_33 sp_4095 36 rfl ?_
    refine ax_iand d_MO_opens_36 37 rfl ?_
    refine ax_iastore m_25 d_MO_opens_37 38 rfl h (fun i2 m3 h => ?_)
    refine ax_iinc (ls1 := [(3, .int (v3 + 1)), (0, .ref 0), (1, .long v1)]) 2 1 d_MO_opens_38 rfl ic_1 (Nat.le_of_ble_eq_true rfl) rfl 41 rfl ?_
    refine ax_goto 13 d_MO_opens_41 rfl ?_
    exact ax_sub [1, 2, 0] rfl (h0 ((v3 + 1), m3) (ok_some h))
theorem c_MO_opens_L13 (v1 : Int64) (v3 : Int32) (m : zM)  {Q : Option Value → zM → Prop} {K : zM → Prop} (hR : ∀ p : zM, K (p) → Q none p)  (h : ok (f_MO_opens_L13 v1 v3 m) K) : AX gM s_MO_opens 13 [(0, .ref 0), (1, .long v1), (3, .int v3)] [] m Q :=
  ok_lp (K := K) (G := fun s : Int32 × zM => AX gM s_MO_opens 13 [(0, .ref 0), (1, .long v1), (3, .int s.1)] [] s.2 Q) (fun s h => c_MO_opens_B13 v1 s.1 s.2  (fun p hp => hR p hp) (fun s hs => hs) h) FU (v3, m) h
set_option maxRecDepth 4000 in
theorem zc_MO_opens (v1 : Int64) (m : zM)  {Q : Option Value → zM → Prop} (h : ok (f_MO_opens v1 m) (fun p => Q none p)) : zc gM s_MO_opens [.ref 0, .long v1] m Q := by
  refine zc_of rfl (Nat.le_of_ble_eq_true rfl) ?_
  show AX gM s_MO_opens 0 [(0, .ref 0), (1, .long v1)] [] m Q
  obtain ⟨K, hK⟩ : ∃ K : zM → Prop, K = (fun p : zM => Q none p) := ⟨_, rfl⟩
  have hR : ∀ p : zM, K p → Q none p := fun p hp => by rw [hK] at hp; exact hp
  replace h : ok (f_MO_opens v1 m) (fun p : zM => Q none p) := h
  rw [← hK] at h
  unfold f_MO_opens at h
  refine ax_aload_n 0 d_MO_opens_0 rfl rfl 1 rfl ?_
  refine ax_lload_n 1 d_MO_opens_1 rfl rfl 2 rfl ?_
  refine ax_bipush 48 d_MO_opens_2 bp_48 4 rfl ?_
  refine ax_lshr d_MO_opens_4 5 rfl ?_
  refine ax_l2i d_MO_opens_5 6 rfl ?_
  refine ax_iconst 1 d_MO_opens_6 ic_1 7 rfl ?_
  refine ax_isub d_MO_opens_7 8 rfl ?_
  refine ax_putI (K := K) fl_MO_334 m_0 rfl rfl rfl (Nat.le_of_ble_eq_true rfl) d_MO_opens_8 11 rfl h (fun m1 h => ?_)
  refine ax_iconst 0 d_MO_opens_11 ic_0 12 rfl ?_
  refine ax_istore_n (ls1 := [(3, .int 0), (0, .ref 0), (1, .long v1)]) d_MO_opens_12 rfl (Nat.le_of_ble_eq_true rfl) rfl 13 rfl ?_
  exact ax_sub [1, 2, 0] rfl (c_MO_opens_L13 v1 0 m1 (fun p hp => hR p hp) h)
set_option maxRecDepth 4000 in
theorem zc_MO_agents  (m : zM)  {Q : Option Value → zM → Prop} (h : ok (f_MO_agents m) (fun p => Q (some (.int p)) m)) : zc gM s_MO_agents [.ref 0] m Q := by
  refine zc_of rfl (Nat.le_of_ble_eq_true rfl) ?_
  show AX gM s_MO_agents 0 [(0, .ref 0)] [] m Q
  obtain ⟨K, hK⟩ : ∃ K : Int32 → Prop, K = (fun p : Int32 => Q (some (.int p)) m) := ⟨_, rfl⟩
  have hR : ∀ p : Int32, K p → Q (some (.int p)) m := fun p hp => by rw [hK] at hp; exact hp
  replace h : ok (f_MO_agents m) (fun p : Int32 => Q (some (.int p)) m) := h
  rw [← hK] at h
  unfold f_MO_agents at h
  refine ax_aload_n 0 d_MO_agents_0 rfl rfl 1 rfl ?_
  refine ax_getR fl_MO_81 m_0 rfl (rm_0_31 _) d_MO_agents_1 4 rfl ?_
  refine ax_iconst 3 d_MO_agents_4 ic_3 5 rfl ?_
  refine ax_iaload m_23 d_MO_agents_5 6 rfl h (fun i1 h => ?_)
  exact ax_iret rfl d_MO_agents_6 (hR (m.1 23 i1) (ok_some h))
set_option maxRecDepth 4000 in
theorem zc_MO_ruleOf (v1 : Int32) (v2 : Int32) (m : zM)  {Q : Option Value → zM → Prop} (h : ok (f_MO_ruleOf v1 v2 m) (fun p => Q (some (.int p)) m)) : zc gM s_MO_ruleOf [.ref 0, .int v1, .int v2] m Q := by
  refine zc_of rfl (Nat.le_of_ble_eq_true rfl) ?_
  show AX gM s_MO_ruleOf 0 [(0, .ref 0), (1, .int v1), (2, .int v2)] [] m Q
  obtain ⟨K, hK⟩ : ∃ K : Int32 → Prop, K = (fun p : Int32 => Q (some (.int p)) m) := ⟨_, rfl⟩
  have hR : ∀ p : Int32, K p → Q (some (.int p)) m := fun p hp => by rw [hK] at hp; exact hp
  replace h : ok (f_MO_ruleOf v1 v2 m) (fun p : Int32 => Q (some (.int p)) m) := h
  rw [← hK] at h
  unfold f_MO_ruleOf at h
  refine ax_aload_n 0 d_MO_ruleOf_0 rfl rfl 1 rfl ?_
  refine ax_getR fl_MO_81 m_0 rfl (rm_0_31 _) d_MO_ruleOf_1 4 rfl ?_
  refine ax_bipush 56 d_MO_ruleOf_4 bp_56 6 rfl ?_
  refine ax_bipush 8 d_MO_ruleOf_6 bp_8 8 rfl ?_
  refine ax_iload_n 1 d_MO_ruleOf_8 rfl rfl 9 rfl ?_
  refine ax_imul d_MO_ruleOf_9 10 rfl ?_
  refine ax_iadd d_MO_ruleOf_10 11 rfl ?_
  refine ax_iload_n 2 d_MO_ruleOf_11 rfl rfl 12 rfl ?_
  refine ax_iadd d_MO_ruleOf_12 13 rfl ?_
  refine ax_iaload m_23 d_MO_ruleOf_13 14 rfl h (fun i1 h => ?_)
  exact ax_iret rfl d_MO_ruleOf_14 (hR (m.1 23 i1) (ok_some h))
set_option maxRecDepth 4000 in
theorem zc_MO_stateOf (v0 : Int32) (m : zM)  {Q : Option Value → zM → Prop} (h : Q (some (.int (f_MO_stateOf v0))) m) : zc gM s_MO_stateOf [.int v0] m Q := by
  refine zc_of rfl (Nat.le_of_ble_eq_true rfl) ?_
  show AX gM s_MO_stateOf 0 [(0, .int v0)] [] m Q
  obtain ⟨K, hK⟩ : ∃ K : Int32 → Prop, K = (fun p : Int32 => Q (some (.int p)) m) := ⟨_, rfl⟩
  have hR : ∀ p : Int32, K p → Q (some (.int p)) m := fun p hp => by rw [hK] at hp; exact hp
  replace h : (fun p : Int32 => Q (some (.int p)) m) (f_MO_stateOf v0) := h
  rw [← hK] at h
  unfold f_MO_stateOf at h
  refine ax_iload_n 0 d_MO_stateOf_0 rfl rfl 1 rfl ?_
  refine ax_bipush 9 d_MO_stateOf_1 bp_9 3 rfl ?_
  refine ax_ishr d_MO_stateOf_3 4 rfl ?_
  exact ax_iret rfl d_MO_stateOf_4 (hR (shr v0 9) h)
set_option maxRecDepth 4000 in
theorem zc_MO_firstIn (v0 : Int32) (m : zM)  {Q : Option Value → zM → Prop} (h : Q (some (.int (f_MO_firstIn v0))) m) : zc gM s_MO_firstIn [.int v0] m Q := by
  refine zc_of rfl (Nat.le_of_ble_eq_true rfl) ?_
  show AX gM s_MO_firstIn 0 [(0, .int v0)] [] m Q
  obtain ⟨K, hK⟩ : ∃ K : Int32 → Prop, K = (fun p : Int32 => Q (some (.int p)) m) := ⟨_, rfl⟩
  have hR : ∀ p : Int32, K p → Q (some (.int p)) m := fun p hp => by rw [hK] at hp; exact hp
  replace h : (fun p : Int32 => Q (some (.int p)) m) (f_MO_firstIn v0) := h
  rw [← hK] at h
  unfold f_MO_firstIn at h
  refine ax_iload_n 0 d_MO_firstIn_0 rfl rfl 1 rfl ?_
  refine ax_bipush 6 d_MO_firstIn_1 bp_6 3 rfl ?_
  refine ax_ishr d_MO_firstIn_3 4 rfl ?_
  refine ax_bipush 7 d_MO_firstIn_4 bp_7 6 rfl ?_
  refine ax_iand d_MO_firstIn_6 7 rfl ?_
  exact ax_iret rfl d_MO_firstIn_7 (hR ((shr v0 6) &&& 7) h)
set_option maxRecDepth 4000 in
theorem zc_MO_secondIn (v0 : Int32) (m : zM)  {Q : Option Value → zM → Prop} (h : Q (some (.int (f_MO_secondIn v0))) m) : zc gM s_MO_secondIn [.int v0] m Q := by
  refine zc_of rfl (Nat.le_of_ble_eq_true rfl) ?_
  show AX gM s_MO_secondIn 0 [(0, .int v0)] [] m Q
  obtain ⟨K, hK⟩ : ∃ K : Int32 → Prop, K = (fun p : Int32 => Q (some (.int p)) m) := ⟨_, rfl⟩
  have hR : ∀ p : Int32, K p → Q (some (.int p)) m := fun p hp => by rw [hK] at hp; exact hp
  replace h : (fun p : Int32 => Q (some (.int p)) m) (f_MO_secondIn v0) := h
  rw [← hK] at h
  unfold f_MO_secondIn at h
  refine ax_iload_n 0 d_MO_secondIn_0 rfl rfl 1 rfl ?_
  refine ax_iconst 3 d_MO_secondIn_1 ic_3 2 rfl ?_
  refine ax_ishr d_MO_secondIn_2 3 rfl ?_
  refine ax_bipush 7 d_MO_secondIn_3 bp_7 5 rfl ?_
  refine ax_iand d_MO_secondIn_5 6 rfl ?_
  exact ax_iret rfl d_MO_secondIn_6 (hR ((shr v0 3) &&& 7) h)
set_option maxRecDepth 4000 in
theorem zc_MO_without0 (v1 : Int32) (v2 : Int32) (m : zM)  {Q : Option Value → zM → Prop} (h : ok (f_MO_without0 v1 v2 m) (fun p => Q (some (.int p)) m)) : zc gM s_MO_without0 [.ref 0, .int v1, .int v2] m Q := by
  refine zc_of rfl (Nat.le_of_ble_eq_true rfl) ?_
  show AX gM s_MO_without0 0 [(0, .ref 0), (1, .int v1), (2, .int v2)] [] m Q
  obtain ⟨K, hK⟩ : ∃ K : Int32 → Prop, K = (fun p : Int32 => Q (some (.int p)) m) := ⟨_, rfl⟩
  have hR : ∀ p : Int32, K p → Q (some (.int p)) m := fun p hp => by rw [hK] at hp; exact hp
  replace h : ok (f_MO_without0 v1 v2 m) (fun p : Int32 => Q (some (.int p)) m) := h
  rw [← hK] at h
  unfold f_MO_without0 at h
  refine ax_iload_n 1 d_MO_without0_0 rfl rfl 1 rfl ?_
  refine ax_sipush (-505) d_MO_without0_1 sp_m505 4 rfl ?_
  refine ax_iand d_MO_without0_4 5 rfl ?_
  refine ax_istore_n (ls1 := [(3, .int (v1 &&& (-505))), (0, .ref 0), (1, .int v1), (2, .int v2)]) d_MO_without0_5 rfl (Nat.le_of_ble_eq_true rfl) rfl 6 rfl ?_
  refine ax_iload_n 2 d_MO_without0_6 rfl rfl 7 rfl ?_
  refine ax_callS mv_MO_340 ⟨Nat.le_of_ble_eq_true rfl, Nat.le_of_ble_eq_true rfl⟩ ⟨rfl, rfl⟩ [.int v1] [.int v1] rfl rfl (Nat.le_of_ble_eq_true rfl) d_MO_without0_7 10 rfl (zc_MO_firstIn v1 m ?_)
  refine ax_iload_n 3 d_MO_without0_10 rfl rfl 11 rfl ?_
  refine ax_icmp_ne 24 14 d_MO_without0_11 rfl rfl (fun hc => ?_) (fun hc => ?_)
  · have h := ok_f hc h
    refine ax_aload_n 1 d_MO_without0_24 rfl rfl 25 rfl ?_
    refine ax_getR fl_MO_81 m_0 rfl (rm_0_31 _) d_MO_without0_25 28 rfl ?_
    refine ax_iconst 4 d_MO_without0_28 ic_4 29 rfl ?_
    refine ax_iaload m_23 d_MO_without0_29 30 rfl h (fun i1 h => ?_)
    refine ax_iconst 1 d_MO_without0_30 ic_1 31 rfl ?_
    refine ax_icmp_ne 52 34 d_MO_without0_31 rfl rfl (fun hc => ?_) (fun hc => ?_)
    · have h := ok_f hc h
      refine ax_iconst (-1) d_MO_without0_52 ic_m1 53 rfl ?_
      exact ax_iret rfl d_MO_without0_53 (hR (-1) (ok_some h))
    · have h := ok_t hc h
      refine ax_iload_n 2 d_MO_without0_34 rfl rfl 35 rfl ?_
      refine ax_callS mv_MO_343 ⟨Nat.le_of_ble_eq_true rfl, Nat.le_of_ble_eq_true rfl⟩ ⟨rfl, rfl⟩ [.int v1] [.int v1] rfl rfl (Nat.le_of_ble_eq_true rfl) d_MO_without0_35 38 rfl (zc_MO_secondIn v1 m ?_)
      refine ax_iload_n 3 d_MO_without0_38 rfl rfl 39 rfl ?_
      refine ax_icmp_ne 52 42 d_MO_without0_39 rfl rfl (fun hc => ?_) (fun hc => ?_)
      · have h := ok_f hc h
        refine ax_iconst (-1) d_MO_without0_52 ic_m1 53 rfl ?_
        exact ax_iret rfl d_MO_without0_53 (hR (-1) (ok_some h))
      · have h := ok_t hc h
        refine ax_iload_n 0 d_MO_without0_42 rfl rfl 43 rfl ?_
        refine ax_iload_n 2 d_MO_without0_43 rfl rfl 44 rfl ?_
        refine ax_callS mv_MO_340 ⟨Nat.le_of_ble_eq_true rfl, Nat.le_of_ble_eq_true rfl⟩ ⟨rfl, rfl⟩ [.int v1] [.int v1, .int (v1 &&& (-505))] rfl rfl (Nat.le_of_ble_eq_true rfl) d_MO_without0_44 47 rfl (zc_MO_firstIn v1 m ?_)
        refine ax_bipush 6 d_MO_without0_47 bp_6 49 rfl ?_
        refine ax_ishl d_MO_without0_49 50 rfl ?_
        refine ax_ior d_MO_without0_50 51 rfl ?_
        exact ax_iret rfl d_MO_without0_51 (hR ((v1 &&& (-505)) ||| (shl (f_MO_firstIn v1) 6)) (ok_some h))
  · have h := ok_t hc h
    refine ax_iload_n 0 d_MO_without0_14 rfl rfl 15 rfl ?_
    refine ax_iload_n 2 d_MO_without0_15 rfl rfl 16 rfl ?_
    refine ax_callS mv_MO_343 ⟨Nat.le_of_ble_eq_true rfl, Nat.le_of_ble_eq_true rfl⟩ ⟨rfl, rfl⟩ [.int v1] [.int v1, .int (v1 &&& (-505))] rfl rfl (Nat.le_of_ble_eq_true rfl) d_MO_without0_16 19 rfl (zc_MO_secondIn v1 m ?_)
    refine ax_bipush 6 d_MO_without0_19 bp_6 21 rfl ?_
    refine ax_ishl d_MO_without0_21 22 rfl ?_
    refine ax_ior d_MO_without0_22 23 rfl ?_
    exact ax_iret rfl d_MO_without0_23 (hR ((v1 &&& (-505)) ||| (shl (f_MO_secondIn v1) 6)) (ok_some h))
set_option maxRecDepth 4000 in
theorem zc_MO_outOf (v0 : Int32) (m : zM)  {Q : Option Value → zM → Prop} (h : Q (some (.int (f_MO_outOf v0))) m) : zc gM s_MO_outOf [.int v0] m Q := by
  refine zc_of rfl (Nat.le_of_ble_eq_true rfl) ?_
  show AX gM s_MO_outOf 0 [(0, .int v0)] [] m Q
  obtain ⟨K, hK⟩ : ∃ K : Int32 → Prop, K = (fun p : Int32 => Q (some (.int p)) m) := ⟨_, rfl⟩
  have hR : ∀ p : Int32, K p → Q (some (.int p)) m := fun p hp => by rw [hK] at hp; exact hp
  replace h : (fun p : Int32 => Q (some (.int p)) m) (f_MO_outOf v0) := h
  rw [← hK] at h
  unfold f_MO_outOf at h
  refine ax_iload_n 0 d_MO_outOf_0 rfl rfl 1 rfl ?_
  refine ax_bipush 7 d_MO_outOf_1 bp_7 3 rfl ?_
  refine ax_iand d_MO_outOf_3 4 rfl ?_
  exact ax_iret rfl d_MO_outOf_4 (hR (v0 &&& 7) h)
set_option maxRecDepth 4000 in
theorem c_MO_isMovedOn_J69 (v1 : Int32) (v2 : Int32) (v3 : Int32) (m : zM)  {Q : Option Value → zM → Prop} {K : (Bool × zM) → Prop} (hR : ∀ p : Bool × zM, K (p) → Q (some (.int (b2i p.1))) p.2)  (h : ok (f_MO_isMovedOn_J69 v1 v2 v3 m) K) : AX gM s_MO_isMovedOn 69 [(0, .ref 0), (1, .int v1), (2, .int v2), (3, .int v3)] [] m Q := by
  unfold f_MO_isMovedOn_J69 at h
  refine ax_aload_n 0 d_MO_isMovedOn_69 rfl rfl 70 rfl ?_
  refine ax_getR fl_MO_90 m_0 rfl (rm_0_39 _) d_MO_isMovedOn_70 73 rfl ?_
  refine ax_iload_n 2 d_MO_isMovedOn_73 rfl rfl 74 rfl ?_
  refine ax_iload_n 3 d_MO_isMovedOn_74 rfl rfl 75 rfl ?_
  refine ax_sipush 511 d_MO_isMovedOn_75 sp_511 78 rfl ?_
  refine ax_iand d_MO_isMovedOn_78 79 rfl ?_
  refine ax_aload_n 0 d_MO_isMovedOn_79 rfl rfl 80 rfl ?_
  refine ax_iload_n 1 d_MO_isMovedOn_80 rfl rfl 81 rfl ?_
  refine ax_iconst 3 d_MO_isMovedOn_81 ic_3 82 rfl ?_
  refine ax_callV mv_MO_349 ⟨Nat.le_of_ble_eq_true rfl, Nat.le_of_ble_eq_true rfl⟩ ⟨rfl, rfl⟩ [.int v1, .int 3] [.int 3, .int v1, .ref 0, .int (v3 &&& 511), .int v2, .ref 26] rfl rfl (rc_m_0 _) (Nat.le_of_ble_eq_true rfl) d_MO_isMovedOn_82 85 rfl (zc_MO_ruleOf v1 3 m (ok_b h (fun r7 h => ?_)))
  refine ax_bipush 9 d_MO_isMovedOn_85 bp_9 87 rfl ?_
  refine ax_ishl d_MO_isMovedOn_87 88 rfl ?_
  refine ax_ior d_MO_isMovedOn_88 89 rfl ?_
  refine ax_aload_n 0 d_MO_isMovedOn_89 rfl rfl 90 rfl ?_
  refine ax_iload_n 1 d_MO_isMovedOn_90 rfl rfl 91 rfl ?_
  refine ax_iconst 4 d_MO_isMovedOn_91 ic_4 92 rfl ?_
  refine ax_callV mv_MO_349 ⟨Nat.le_of_ble_eq_true rfl, Nat.le_of_ble_eq_true rfl⟩ ⟨rfl, rfl⟩ [.int v1, .int 4] [.int 4, .int v1, .ref 0, .int ((v3 &&& 511) ||| (shl r7 9)), .int v2, .ref 26] rfl rfl (rc_m_0 _) (Nat.le_of_ble_eq_true rfl) d_MO_isMovedOn_92 95 rfl (zc_MO_ruleOf v1 4 m (ok_b h (fun r8 h => ?_)))
  refine ax_iconst 1 d_MO_isMovedOn_95 ic_1 96 rfl ?_
  refine ax_iadd d_MO_isMovedOn_96 97 rfl ?_
  refine ax_ior d_MO_isMovedOn_97 98 rfl ?_
  refine ax_iastore m_26 d_MO_isMovedOn_98 99 rfl h (fun i9 m10 h => ?_)
  refine ax_iconst 1 d_MO_isMovedOn_99 ic_1 100 rfl ?_
  exact ax_zret (b := true) rfl d_MO_isMovedOn_100 (hR (true, m10) (ok_some h))
set_option maxRecDepth 4000 in
theorem c_MO_isMovedOn_J46 (v1 : Int32) (v2 : Int32) (v3 : Int32) (m : zM)  {Q : Option Value → zM → Prop} {K : (Bool × zM) → Prop} (hR : ∀ p : Bool × zM, K (p) → Q (some (.int (b2i p.1))) p.2)  (h : ok (f_MO_isMovedOn_J46 v1 v2 v3 m) K) : AX gM s_MO_isMovedOn 46 [(0, .ref 0), (1, .int v1), (2, .int v2), (3, .int v3)] [] m Q := by
  unfold f_MO_isMovedOn_J46 at h
  refine ax_iload_n 3 d_MO_isMovedOn_46 rfl rfl 47 rfl ?_
  refine ax_if_lt 67 50 d_MO_isMovedOn_47 rfl rfl (fun hc => ?_) (fun hc => ?_)
  · have h := ok_t hc h
    refine ax_iconst 0 d_MO_isMovedOn_67 ic_0 68 rfl ?_
    exact ax_zret (b := false) rfl d_MO_isMovedOn_68 (hR (false, m) (ok_some h))
  · have h := ok_f hc h
    refine ax_aload_n 0 d_MO_isMovedOn_50 rfl rfl 51 rfl ?_
    refine ax_iload_n 1 d_MO_isMovedOn_51 rfl rfl 52 rfl ?_
    refine ax_iconst 4 d_MO_isMovedOn_52 ic_4 53 rfl ?_
    refine ax_callV mv_MO_349 ⟨Nat.le_of_ble_eq_true rfl, Nat.le_of_ble_eq_true rfl⟩ ⟨rfl, rfl⟩ [.int v1, .int 4] [.int 4, .int v1, .ref 0] rfl rfl (rc_m_0 _) (Nat.le_of_ble_eq_true rfl) d_MO_isMovedOn_53 56 rfl (zc_MO_ruleOf v1 4 m (ok_b h (fun r6 h => ?_)))
    refine ax_iconst (-1) d_MO_isMovedOn_56 ic_m1 57 rfl ?_
    refine ax_icmp_eq 69 60 d_MO_isMovedOn_57 rfl rfl (fun hc => ?_) (fun hc => ?_)
    · have h := ok_t hc h
      exact ax_sub [0, 1, 2, 3] rfl (c_MO_isMovedOn_J69 v1 v2 v3 m (fun p hp => hR p hp) h)
    · have h := ok_f hc h
      refine ax_iload_n 3 d_MO_isMovedOn_60 rfl rfl 61 rfl ?_
      refine ax_callS mv_MO_355 ⟨Nat.le_of_ble_eq_true rfl, Nat.le_of_ble_eq_true rfl⟩ ⟨rfl, rfl⟩ [.int v3] [.int v3] rfl rfl (Nat.le_of_ble_eq_true rfl) d_MO_isMovedOn_61 64 rfl (zc_MO_outOf v3 m ?_)
      refine ax_if_eq 69 67 d_MO_isMovedOn_64 rfl rfl (fun hc => ?_) (fun hc => ?_)
      · have h := ok_t hc h
        exact ax_sub [0, 1, 2, 3] rfl (c_MO_isMovedOn_J69 v1 v2 v3 m (fun p hp => hR p hp) h)
      · have h := ok_f hc h
        refine ax_iconst 0 d_MO_isMovedOn_67 ic_0 68 rfl ?_
        exact ax_zret (b := false) rfl d_MO_isMovedOn_68 (hR (false, m) (ok_some h))
set_option maxRecDepth 4000 in
theorem zc_MO_isMovedOn (v1 : Int32) (v2 : Int32) (m : zM)  {Q : Option Value → zM → Prop} (h : ok (f_MO_isMovedOn v1 v2 m) (fun p => Q (some (.int (b2i p.1))) p.2)) : zc gM s_MO_isMovedOn [.ref 0, .int v1, .int v2] m Q := by
  refine zc_of rfl (Nat.le_of_ble_eq_true rfl) ?_
  show AX gM s_MO_isMovedOn 0 [(0, .ref 0), (1, .int v1), (2, .int v2)] [] m Q
  obtain ⟨K, hK⟩ : ∃ K : (Bool × zM) → Prop, K = (fun p : Bool × zM => Q (some (.int (b2i p.1))) p.2) := ⟨_, rfl⟩
  have hR : ∀ p : Bool × zM, K p → Q (some (.int (b2i p.1))) p.2 := fun p hp => by rw [hK] at hp; exact hp
  replace h : ok (f_MO_isMovedOn v1 v2 m) (fun p : Bool × zM => Q (some (.int (b2i p.1))) p.2) := h
  rw [← hK] at h
  unfold f_MO_isMovedOn at h
  refine ax_aload_n 0 d_MO_isMovedOn_0 rfl rfl 1 rfl ?_
  refine ax_getR fl_MO_87 m_0 rfl (rm_0_37 _) d_MO_isMovedOn_1 4 rfl ?_
  refine ax_iload_n 2 d_MO_isMovedOn_4 rfl rfl 5 rfl ?_
  refine ax_iaload m_25 d_MO_isMovedOn_5 6 rfl h (fun i1 h => ?_)
  refine ax_istore_n (ls1 := [(3, .int (m.1 25 i1)), (0, .ref 0), (1, .int v1), (2, .int v2)]) d_MO_isMovedOn_6 rfl (Nat.le_of_ble_eq_true rfl) rfl 7 rfl ?_
  refine ax_iload_n 0 d_MO_isMovedOn_7 rfl rfl 8 rfl ?_
  refine ax_callS mv_MO_346 ⟨Nat.le_of_ble_eq_true rfl, Nat.le_of_ble_eq_true rfl⟩ ⟨rfl, rfl⟩ [.int (m.1 25 i1)] [.int (m.1 25 i1)] rfl rfl (Nat.le_of_ble_eq_true rfl) d_MO_isMovedOn_8 11 rfl (zc_MO_stateOf (m.1 25 i1) m ?_)
  refine ax_aload_n 1 d_MO_isMovedOn_11 rfl rfl 12 rfl ?_
  refine ax_iload_n 2 d_MO_isMovedOn_12 rfl rfl 13 rfl ?_
  refine ax_iconst 1 d_MO_isMovedOn_13 ic_1 14 rfl ?_
  refine ax_callV mv_MO_349 ⟨Nat.le_of_ble_eq_true rfl, Nat.le_of_ble_eq_true rfl⟩ ⟨rfl, rfl⟩ [.int v1, .int 1] [.int 1, .int v1, .ref 0, .int (f_MO_stateOf (m.1 25 i1))] rfl rfl (rc_m_0 _) (Nat.le_of_ble_eq_true rfl) d_MO_isMovedOn_14 17 rfl (zc_MO_ruleOf v1 1 m (ok_b h (fun r2 h => ?_)))
  refine ax_icmp_eq 22 20 d_MO_isMovedOn_17 rfl rfl (fun hc => ?_) (fun hc => ?_)
  · have h := ok_t hc h
    refine ax_aload_n 1 d_MO_isMovedOn_22 rfl rfl 23 rfl ?_
    refine ax_iload_n 2 d_MO_isMovedOn_23 rfl rfl 24 rfl ?_
    refine ax_iconst 2 d_MO_isMovedOn_24 ic_2 25 rfl ?_
    refine ax_callV mv_MO_349 ⟨Nat.le_of_ble_eq_true rfl, Nat.le_of_ble_eq_true rfl⟩ ⟨rfl, rfl⟩ [.int v1, .int 2] [.int 2, .int v1, .ref 0] rfl rfl (rc_m_0 _) (Nat.le_of_ble_eq_true rfl) d_MO_isMovedOn_25 28 rfl (zc_MO_ruleOf v1 2 m (ok_b h (fun r3 h => ?_)))
    refine ax_iconst (-1) d_MO_isMovedOn_28 ic_m1 29 rfl ?_
    refine ax_icmp_eq 46 32 d_MO_isMovedOn_29 rfl rfl (fun hc => ?_) (fun hc => ?_)
    · have h := ok_t hc h
      exact ax_sub [1, 2, 3, 0] rfl (c_MO_isMovedOn_J46 v1 v2 (m.1 25 i1) m (fun p hp => hR p hp) h)
    · have h := ok_f hc h
      refine ax_aload_n 1 d_MO_isMovedOn_32 rfl rfl 33 rfl ?_
      refine ax_iload_n 0 d_MO_isMovedOn_33 rfl rfl 34 rfl ?_
      refine ax_aload_n 1 d_MO_isMovedOn_34 rfl rfl 35 rfl ?_
      refine ax_iload_n 2 d_MO_isMovedOn_35 rfl rfl 36 rfl ?_
      refine ax_iconst 2 d_MO_isMovedOn_36 ic_2 37 rfl ?_
      refine ax_callV mv_MO_349 ⟨Nat.le_of_ble_eq_true rfl, Nat.le_of_ble_eq_true rfl⟩ ⟨rfl, rfl⟩ [.int v1, .int 2] [.int 2, .int v1, .ref 0, .int (m.1 25 i1), .ref 0] rfl rfl (rc_m_0 _) (Nat.le_of_ble_eq_true rfl) d_MO_isMovedOn_37 40 rfl (zc_MO_ruleOf v1 2 m (ok_b h (fun r4 h => ?_)))
      refine ax_iconst 1 d_MO_isMovedOn_40 ic_1 41 rfl ?_
      refine ax_iadd d_MO_isMovedOn_41 42 rfl ?_
      refine ax_callV mv_MO_352 ⟨Nat.le_of_ble_eq_true rfl, Nat.le_of_ble_eq_true rfl⟩ ⟨rfl, rfl⟩ [.int (m.1 25 i1), .int (r4 + 1)] [.int (r4 + 1), .int (m.1 25 i1), .ref 0] rfl rfl (rc_m_0 _) (Nat.le_of_ble_eq_true rfl) d_MO_isMovedOn_42 45 rfl (zc_MO_without0 (m.1 25 i1) (r4 + 1) m (ok_b h (fun r5 h => ?_)))
      refine ax_istore_n (ls1 := [(3, .int r5), (0, .ref 0), (1, .int v1), (2, .int v2)]) d_MO_isMovedOn_45 rfl (Nat.le_of_ble_eq_true rfl) rfl 46 rfl ?_
      exact ax_sub [1, 2, 3, 0] rfl (c_MO_isMovedOn_J46 v1 v2 r5 m (fun p hp => hR p hp) h)
  · have h := ok_f hc h
    refine ax_iconst 0 d_MO_isMovedOn_20 ic_0 21 rfl ?_
    exact ax_zret (b := false) rfl d_MO_isMovedOn_21 (hR (false, m) (ok_some h))
set_option maxRecDepth 4000 in
theorem c_MO_isOther_J30 (v1 : Int32) (v2 : Int32) (v3 : Int32) (m : zM)  {Q : Option Value → zM → Prop} {K : ((Bool) ⊕ (Int32)) → Prop} (hR : ∀ p : Bool, K (.inl p) → Q (some (.int (b2i p))) m) (h0 : ∀ s : Int32, K (.inr s) → AX gM s_MO_isOther 2 [(0, .ref 0), (1, .int v1), (2, .int v2), (3, .int s)] [] m Q) (h : ok (f_MO_isOther_J30 v1 v2 v3 m) K) : AX gM s_MO_isOther 30 [(0, .ref 0), (1, .int v1), (2, .int v2), (3, .int v3)] [] m Q := by
  unfold f_MO_isOther_J30 at h
  refine ax_iinc (ls1 := [(3, .int (v3 + 1)), (0, .ref 0), (1, .int v1), (2, .int v2)]) 3 1 d_MO_isOther_30 rfl ic_1 (Nat.le_of_ble_eq_true rfl) rfl 33 rfl ?_
  refine ax_goto 2 d_MO_isOther_33 rfl ?_
  exact ax_sub [1, 2, 3, 0] rfl (h0 (v3 + 1) (ok_some h))
set_option maxRecDepth 4000 in
theorem c_MO_isOther_B2 (v1 : Int32) (v2 : Int32) (v3 : Int32) (m : zM)  {Q : Option Value → zM → Prop} {K : ((Bool) ⊕ (Int32)) → Prop} (hR : ∀ p : Bool, K (.inl p) → Q (some (.int (b2i p))) m) (h0 : ∀ s : Int32, K (.inr s) → AX gM s_MO_isOther 2 [(0, .ref 0), (1, .int v1), (2, .int v2), (3, .int s)] [] m Q) (h : ok (f_MO_isOther_B2 v1 v2 v3 m) K) : AX gM s_MO_isOther 2 [(0, .ref 0), (1, .int v1), (2, .int v2), (3, .int v3)] [] m Q := by
  unfold f_MO_isOther_B2 at h
  refine ax_iload_n 3 d_MO_isOther_2 rfl rfl 3 rfl ?_
  refine ax_aload_n 0 d_MO_isOther_3 rfl rfl 4 rfl ?_
  refine ax_callV mv_MO_358 ⟨Nat.le_of_ble_eq_true rfl, Nat.le_of_ble_eq_true rfl⟩ ⟨rfl, rfl⟩ [] [.ref 0, .int v3] rfl rfl (rc_m_0 _) (Nat.le_of_ble_eq_true rfl) d_MO_isOther_4 7 rfl (zc_MO_agents m (ok_b h (fun r1 h => ?_)))
  refine ax_icmp_ge 36 10 d_MO_isOther_7 rfl rfl (fun hc => ?_) (fun hc => ?_)
  · have h := ok_t hc h
    refine ax_iconst 0 d_MO_isOther_36 ic_0 37 rfl ?_
    exact ax_zret (b := false) rfl d_MO_isOther_37 (hR false (ok_some h))
  · have h := ok_f hc h
    refine ax_iload_n 3 d_MO_isOther_10 rfl rfl 11 rfl ?_
    refine ax_iload_n 2 d_MO_isOther_11 rfl rfl 12 rfl ?_
    refine ax_icmp_eq 30 15 d_MO_isOther_12 rfl rfl (fun hc => ?_) (fun hc => ?_)
    · have h := ok_t hc h
      exact ax_sub [0, 1, 2, 3] rfl (c_MO_isOther_J30 v1 v2 v3 m (fun p hp => hR p hp) (fun s hs => h0 s hs) h)
    · have h := ok_f hc h
      refine ax_aload_n 0 d_MO_isOther_15 rfl rfl 16 rfl ?_
      refine ax_getR fl_MO_87 m_0 rfl (rm_0_37 _) d_MO_isOther_16 19 rfl ?_
      refine ax_iload_n 3 d_MO_isOther_19 rfl rfl 20 rfl ?_
      refine ax_iaload m_25 d_MO_isOther_20 21 rfl h (fun i2 h => ?_)
      refine ax_callS mv_MO_346 ⟨Nat.le_of_ble_eq_true rfl, Nat.le_of_ble_eq_true rfl⟩ ⟨rfl, rfl⟩ [.int (m.1 25 i2)] [.int (m.1 25 i2)] rfl rfl (Nat.le_of_ble_eq_true rfl) d_MO_isOther_21 24 rfl (zc_MO_stateOf (m.1 25 i2) m ?_)
      refine ax_iload_n 1 d_MO_isOther_24 rfl rfl 25 rfl ?_
      refine ax_icmp_ne 30 28 d_MO_isOther_25 rfl rfl (fun hc => ?_) (fun hc => ?_)
      · have h := ok_f hc h
        exact ax_sub [0, 1, 2, 3] rfl (c_MO_isOther_J30 v1 v2 v3 m (fun p hp => hR p hp) (fun s hs => h0 s hs) h)
      · have h := ok_t hc h
        refine ax_iconst 1 d_MO_isOther_28 ic_1 29 rfl ?_
        exact ax_zret (b := true) rfl d_MO_isOther_29 (hR true (ok_some h))
theorem c_MO_isOther_L2 (v1 : Int32) (v2 : Int32) (v3 : Int32) (m : zM)  {Q : Option Value → zM → Prop} {K : Bool → Prop} (hR : ∀ p : Bool, K (p) → Q (some (.int (b2i p))) m)  (h : ok (f_MO_isOther_L2 v1 v2 v3 m) K) : AX gM s_MO_isOther 2 [(0, .ref 0), (1, .int v1), (2, .int v2), (3, .int v3)] [] m Q :=
  ok_lp (K := K) (G := fun s : Int32 => AX gM s_MO_isOther 2 [(0, .ref 0), (1, .int v1), (2, .int v2), (3, .int s)] [] m Q) (fun s h => c_MO_isOther_B2 v1 v2 s m  (fun p hp => hR p hp) (fun s hs => hs) h) FU v3 h
set_option maxRecDepth 4000 in
theorem zc_MO_isOther (v1 : Int32) (v2 : Int32) (m : zM)  {Q : Option Value → zM → Prop} (h : ok (f_MO_isOther v1 v2 m) (fun p => Q (some (.int (b2i p))) m)) : zc gM s_MO_isOther [.ref 0, .int v1, .int v2] m Q := by
  refine zc_of rfl (Nat.le_of_ble_eq_true rfl) ?_
  show AX gM s_MO_isOther 0 [(0, .ref 0), (1, .int v1), (2, .int v2)] [] m Q
  obtain ⟨K, hK⟩ : ∃ K : Bool → Prop, K = (fun p : Bool => Q (some (.int (b2i p))) m) := ⟨_, rfl⟩
  have hR : ∀ p : Bool, K p → Q (some (.int (b2i p))) m := fun p hp => by rw [hK] at hp; exact hp
  replace h : ok (f_MO_isOther v1 v2 m) (fun p : Bool => Q (some (.int (b2i p))) m) := h
  rw [← hK] at h
  unfold f_MO_isOther at h
  refine ax_iconst 0 d_MO_isOther_0 ic_0 1 rfl ?_
  refine ax_istore_n (ls1 := [(3, .int 0), (0, .ref 0), (1, .int v1), (2, .int v2)]) d_MO_isOther_1 rfl (Nat.le_of_ble_eq_true rfl) rfl 2 rfl ?_
  exact ax_sub [1, 2, 3, 0] rfl (c_MO_isOther_L2 v1 v2 0 m (fun p hp => hR p hp) h)
set_option maxRecDepth 4000 in
theorem c_MO_with0_J39 (v1 : Int32) (v2 : Int32) (m : zM)  {Q : Option Value → zM → Prop} {K : Int32 → Prop} (hR : ∀ p : Int32, K (p) → Q (some (.int p)) m)  (h : ok (f_MO_with0_J39 v1 v2 m) K) : AX gM s_MO_with0 39 [(1, .int v1), (2, .int v2)] [] m Q := by
  unfold f_MO_with0_J39 at h
  refine ax_iload_n 0 d_MO_with0_39 rfl rfl 40 rfl ?_
  refine ax_iload_n 1 d_MO_with0_40 rfl rfl 41 rfl ?_
  refine ax_iconst 3 d_MO_with0_41 ic_3 42 rfl ?_
  refine ax_ishl d_MO_with0_42 43 rfl ?_
  refine ax_ior d_MO_with0_43 44 rfl ?_
  exact ax_iret rfl d_MO_with0_44 (hR (v1 ||| (shl v2 3)) (ok_some h))
set_option maxRecDepth 4000 in
theorem zc_MO_with0 (v1 : Int32) (v2 : Int32) (m : zM)  {Q : Option Value → zM → Prop} (h : ok (f_MO_with0 v1 v2 m) (fun p => Q (some (.int p)) m)) : zc gM s_MO_with0 [.ref 0, .int v1, .int v2] m Q := by
  refine zc_of rfl (Nat.le_of_ble_eq_true rfl) ?_
  show AX gM s_MO_with0 0 [(0, .ref 0), (1, .int v1), (2, .int v2)] [] m Q
  obtain ⟨K, hK⟩ : ∃ K : Int32 → Prop, K = (fun p : Int32 => Q (some (.int p)) m) := ⟨_, rfl⟩
  have hR : ∀ p : Int32, K p → Q (some (.int p)) m := fun p hp => by rw [hK] at hp; exact hp
  replace h : ok (f_MO_with0 v1 v2 m) (fun p : Int32 => Q (some (.int p)) m) := h
  rw [← hK] at h
  unfold f_MO_with0 at h
  refine ax_iload_n 1 d_MO_with0_0 rfl rfl 1 rfl ?_
  refine ax_callS mv_MO_340 ⟨Nat.le_of_ble_eq_true rfl, Nat.le_of_ble_eq_true rfl⟩ ⟨rfl, rfl⟩ [.int v1] [.int v1] rfl rfl (Nat.le_of_ble_eq_true rfl) d_MO_with0_1 4 rfl (zc_MO_firstIn v1 m ?_)
  refine ax_istore_n (ls1 := [(3, .int (f_MO_firstIn v1)), (0, .ref 0), (1, .int v1), (2, .int v2)]) d_MO_with0_4 rfl (Nat.le_of_ble_eq_true rfl) rfl 5 rfl ?_
  refine ax_iload_n 2 d_MO_with0_5 rfl rfl 6 rfl ?_
  refine ax_callS mv_MO_343 ⟨Nat.le_of_ble_eq_true rfl, Nat.le_of_ble_eq_true rfl⟩ ⟨rfl, rfl⟩ [.int v1] [.int v1] rfl rfl (Nat.le_of_ble_eq_true rfl) d_MO_with0_6 9 rfl (zc_MO_secondIn v1 m ?_)
  refine ax_if_eq 14 12 d_MO_with0_9 rfl rfl (fun hc => ?_) (fun hc => ?_)
  · have h := ok_t hc h
    refine ax_iload_n 0 d_MO_with0_14 rfl rfl 15 rfl ?_
    refine ax_if_ne 25 18 d_MO_with0_15 rfl rfl (fun hc => ?_) (fun hc => ?_)
    · have h := ok_f hc h
      refine ax_aload_n 1 d_MO_with0_25 rfl rfl 26 rfl ?_
      refine ax_getR fl_MO_81 m_0 rfl (rm_0_31 _) d_MO_with0_26 29 rfl ?_
      refine ax_iconst 4 d_MO_with0_29 ic_4 30 rfl ?_
      refine ax_iaload m_23 d_MO_with0_30 31 rfl h (fun i1 h => ?_)
      refine ax_if_eq 39 34 d_MO_with0_31 rfl rfl (fun hc => ?_) (fun hc => ?_)
      · have h := ok_t hc h
        exact ax_sub [2, 3] rfl (c_MO_with0_J39 v1 v2 m (fun p hp => hR p hp) h)
      · have h := ok_f hc h
        refine ax_iload_n 0 d_MO_with0_34 rfl rfl 35 rfl ?_
        refine ax_iload_n 3 d_MO_with0_35 rfl rfl 36 rfl ?_
        refine ax_icmp_gt 45 39 d_MO_with0_36 rfl rfl (fun hc => ?_) (fun hc => ?_)
        · have h := ok_t hc h
          refine ax_iload_n 2 d_MO_with0_45 rfl rfl 46 rfl ?_
          refine ax_sipush (-505) d_MO_with0_46 sp_m505 49 rfl ?_
          refine ax_iand d_MO_with0_49 50 rfl ?_
          refine ax_iload_n 3 d_MO_with0_50 rfl rfl 51 rfl ?_
          refine ax_bipush 6 d_MO_with0_51 bp_6 53 rfl ?_
          refine ax_ishl d_MO_with0_53 54 rfl ?_
          refine ax_ior d_MO_with0_54 55 rfl ?_
          refine ax_iload_n 0 d_MO_with0_55 rfl rfl 56 rfl ?_
          refine ax_iconst 3 d_MO_with0_56 ic_3 57 rfl ?_
          refine ax_ishl d_MO_with0_57 58 rfl ?_
          refine ax_ior d_MO_with0_58 59 rfl ?_
          exact ax_iret rfl d_MO_with0_59 (hR (((v1 &&& (-505)) ||| (shl v2 6)) ||| (shl (f_MO_firstIn v1) 3)) (ok_some h))
        · have h := ok_f hc h
          exact ax_sub [2, 3] rfl (c_MO_with0_J39 v1 v2 m (fun p hp => hR p hp) h)
    · have h := ok_t hc h
      refine ax_iload_n 2 d_MO_with0_18 rfl rfl 19 rfl ?_
      refine ax_iload_n 3 d_MO_with0_19 rfl rfl 20 rfl ?_
      refine ax_bipush 6 d_MO_with0_20 bp_6 22 rfl ?_
      refine ax_ishl d_MO_with0_22 23 rfl ?_
      refine ax_ior d_MO_with0_23 24 rfl ?_
      exact ax_iret rfl d_MO_with0_24 (hR (v1 ||| (shl v2 6)) (ok_some h))
  · have h := ok_f hc h
    refine ax_iconst (-1) d_MO_with0_12 ic_m1 13 rfl ?_
    exact ax_iret rfl d_MO_with0_13 (hR (-1) (ok_some h))
set_option maxRecDepth 4000 in
theorem c_MO_isMovedAt_J164 (v1 : Int32) (m : zM)  {Q : Option Value → zM → Prop} {K : (Bool × zM) → Prop} (hR : ∀ p : Bool × zM, K (p) → Q (some (.int (b2i p.1))) p.2)  (h : ok (f_MO_isMovedAt_J164 v1 m) K) : AX gM s_MO_isMovedAt 164 [(0, .ref 0), (1, .int v1)] [] m Q := by
  unfold f_MO_isMovedAt_J164 at h
  refine ax_aload_n 0 d_MO_isMovedAt_164 rfl rfl 165 rfl ?_
  refine ax_aload_n 0 d_MO_isMovedAt_165 rfl rfl 166 rfl ?_
  refine ax_iload_n 1 d_MO_isMovedAt_166 rfl rfl 167 rfl ?_
  refine ax_iconst 3 d_MO_isMovedAt_167 ic_3 168 rfl ?_
  refine ax_callV mv_MO_349 ⟨Nat.le_of_ble_eq_true rfl, Nat.le_of_ble_eq_true rfl⟩ ⟨rfl, rfl⟩ [.int v1, .int 3] [.int 3, .int v1, .ref 0, .ref 0] rfl rfl (rc_m_0 _) (Nat.le_of_ble_eq_true rfl) d_MO_isMovedAt_168 171 rfl (zc_MO_ruleOf v1 3 m (ok_b h (fun r12 h => ?_)))
  refine ax_putI (K := K) fl_MO_337 m_0 rfl rfl rfl (Nat.le_of_ble_eq_true rfl) d_MO_isMovedAt_171 174 rfl h (fun m13 h => ?_)
  refine ax_iconst 1 d_MO_isMovedAt_174 ic_1 175 rfl ?_
  exact ax_zret (b := true) rfl d_MO_isMovedAt_175 (hR (true, m13) (ok_some h))
set_option maxRecDepth 4000 in
theorem c_MO_isMovedAt_J147 (v1 : Int32) (v2 : Int32) (v3 : Int32) (m : zM)  {Q : Option Value → zM → Prop} {K : ((Bool × zM) ⊕ (Int32 × zM)) → Prop} (hR : ∀ p : Bool × zM, K (.inl p) → Q (some (.int (b2i p.1))) p.2) (h0 : ∀ s : Int32 × zM, K (.inr s) → AX gM s_MO_isMovedAt 96 [(0, .ref 0), (1, .int v1), (2, .int v2), (3, .int s.1)] [] s.2 Q) (h : ok (f_MO_isMovedAt_J147 v1 v2 v3 m) K) : AX gM s_MO_isMovedAt 147 [(0, .ref 0), (1, .int v1), (2, .int v2), (3, .int v3)] [] m Q := by
  unfold f_MO_isMovedAt_J147 at h
  refine ax_aload_n 0 d_MO_isMovedAt_147 rfl rfl 148 rfl ?_
  refine ax_getR fl_MO_90 m_0 rfl (rm_0_39 _) d_MO_isMovedAt_148 151 rfl ?_
  refine ax_iload_n 3 d_MO_isMovedAt_151 rfl rfl 152 rfl ?_
  refine ax_iaload m_26 d_MO_isMovedAt_152 153 rfl h (fun i19 h => ?_)
  refine ax_if_ge 158 156 d_MO_isMovedAt_153 rfl rfl (fun hc => ?_) (fun hc => ?_)
  · have h := ok_t hc h
    refine ax_iinc (ls1 := [(3, .int (v3 + 1)), (0, .ref 0), (1, .int v1), (2, .int v2)]) 3 1 d_MO_isMovedAt_158 rfl ic_1 (Nat.le_of_ble_eq_true rfl) rfl 161 rfl ?_
    refine ax_goto 96 d_MO_isMovedAt_161 rfl ?_
    exact ax_sub [1, 2, 3, 0] rfl (h0 ((v3 + 1), m) (ok_some h))
  · have h := ok_f hc h
    refine ax_iconst 0 d_MO_isMovedAt_156 ic_0 157 rfl ?_
    exact ax_zret (b := false) rfl d_MO_isMovedAt_157 (hR (false, m) (ok_some h))
set_option maxRecDepth 4000 in
theorem c_MO_isMovedAt_J116 (v1 : Int32) (v2 : Int32) (v3 : Int32) (t1 : Int32) (t2 : Int32) (m : zM)  {Q : Option Value → zM → Prop} {K : ((Bool × zM) ⊕ (Int32 × zM)) → Prop} (hR : ∀ p : Bool × zM, K (.inl p) → Q (some (.int (b2i p.1))) p.2) (h0 : ∀ s : Int32 × zM, K (.inr s) → AX gM s_MO_isMovedAt 96 [(0, .ref 0), (1, .int v1), (2, .int v2), (3, .int s.1)] [] s.2 Q) (h : ok (f_MO_isMovedAt_J116 v1 v2 v3 t1 t2 m) K) : AX gM s_MO_isMovedAt 116 [(0, .ref 0), (1, .int v1), (2, .int v2), (3, .int v3)] [.int t2, .int t1, .ref 0] m Q := by
  unfold f_MO_isMovedAt_J116 at h
  refine ax_callV mv_MO_349 ⟨Nat.le_of_ble_eq_true rfl, Nat.le_of_ble_eq_true rfl⟩ ⟨rfl, rfl⟩ [.int t1, .int t2] [.int t2, .int t1, .ref 0] rfl rfl (rc_m_0 _) (Nat.le_of_ble_eq_true rfl) d_MO_isMovedAt_116 119 rfl (zc_MO_ruleOf t1 t2 m (ok_b h (fun r14 h => ?_)))
  refine ax_istore (ls1 := [(4, .int r14), (0, .ref 0), (1, .int v1), (2, .int v2), (3, .int v3)]) d_MO_isMovedAt_119 (Nat.le_of_ble_eq_true rfl) rfl 121 rfl ?_
  refine ax_iload 0 d_MO_isMovedAt_121 rfl 123 rfl ?_
  refine ax_iconst (-1) d_MO_isMovedAt_123 ic_m1 124 rfl ?_
  refine ax_icmp_eq 147 127 d_MO_isMovedAt_124 rfl rfl (fun hc => ?_) (fun hc => ?_)
  · have h := ok_t hc h
    exact ax_sub [1, 2, 3, 4] rfl (c_MO_isMovedAt_J147 v1 v2 v3 m (fun p hp => hR p hp) (fun s hs => h0 s hs) h)
  · have h := ok_f hc h
    refine ax_aload_n 1 d_MO_isMovedAt_127 rfl rfl 128 rfl ?_
    refine ax_getR fl_MO_90 m_0 rfl (rm_0_39 _) d_MO_isMovedAt_128 131 rfl ?_
    refine ax_iload_n 4 d_MO_isMovedAt_131 rfl rfl 132 rfl ?_
    refine ax_aload_n 1 d_MO_isMovedAt_132 rfl rfl 133 rfl ?_
    refine ax_aload_n 1 d_MO_isMovedAt_133 rfl rfl 134 rfl ?_
    refine ax_getR fl_MO_90 m_0 rfl (rm_0_39 _) d_MO_isMovedAt_134 137 rfl ?_
    refine ax_iload_n 4 d_MO_isMovedAt_137 rfl rfl 138 rfl ?_
    refine ax_iaload m_26 d_MO_isMovedAt_138 139 rfl h (fun i15 h => ?_)
    refine ax_iload 0 d_MO_isMovedAt_139 rfl 141 rfl ?_
    refine ax_iconst 1 d_MO_isMovedAt_141 ic_1 142 rfl ?_
    refine ax_iadd d_MO_isMovedAt_142 143 rfl ?_
    refine ax_callV mv_MO_365 ⟨Nat.le_of_ble_eq_true rfl, Nat.le_of_ble_eq_true rfl⟩ ⟨rfl, rfl⟩ [.int (m.1 26 i15), .int (r14 + 1)] [.int (r14 + 1), .int (m.1 26 i15), .ref 0, .int v3, .ref 26] rfl rfl (rc_m_0 _) (Nat.le_of_ble_eq_true rfl) d_MO_isMovedAt_143 146 rfl (zc_MO_with0 (m.1 26 i15) (r14 + 1) m (ok_b h (fun r16 h => ?_)))
    refine ax_iastore m_26 d_MO_isMovedAt_146 147 rfl h (fun i17 m18 h => ?_)
    exact ax_sub [1, 2, 3, 4] rfl (c_MO_isMovedAt_J147 v1 v2 v3 m18 (fun p hp => hR p hp) (fun s hs => h0 s hs) h)
set_option maxRecDepth 4000 in
theorem c_MO_isMovedAt_B96 (v1 : Int32) (v2 : Int32) (v3 : Int32) (m : zM)  {Q : Option Value → zM → Prop} {K : ((Bool × zM) ⊕ (Int32 × zM)) → Prop} (hR : ∀ p : Bool × zM, K (.inl p) → Q (some (.int (b2i p.1))) p.2) (h0 : ∀ s : Int32 × zM, K (.inr s) → AX gM s_MO_isMovedAt 96 [(0, .ref 0), (1, .int v1), (2, .int v2), (3, .int s.1)] [] s.2 Q) (h : ok (f_MO_isMovedAt_B96 v1 v2 v3 m) K) : AX gM s_MO_isMovedAt 96 [(0, .ref 0), (1, .int v1), (2, .int v2), (3, .int v3)] [] m Q := by
  unfold f_MO_isMovedAt_B96 at h
  refine ax_iload_n 3 d_MO_isMovedAt_96 rfl rfl 97 rfl ?_
  refine ax_aload_n 0 d_MO_isMovedAt_97 rfl rfl 98 rfl ?_
  refine ax_callV mv_MO_358 ⟨Nat.le_of_ble_eq_true rfl, Nat.le_of_ble_eq_true rfl⟩ ⟨rfl, rfl⟩ [] [.ref 0, .int v3] rfl rfl (rc_m_0 _) (Nat.le_of_ble_eq_true rfl) d_MO_isMovedAt_98 101 rfl (zc_MO_agents m (ok_b h (fun r11 h => ?_)))
  refine ax_icmp_ge 164 104 d_MO_isMovedAt_101 rfl rfl (fun hc => ?_) (fun hc => ?_)
  · have h := ok_t hc h
    exact ax_sub [0, 1] rfl (c_MO_isMovedAt_J164 v1 m (fun p hp => hR p hp) (ok_z h))
  · have h := ok_f hc h
    refine ax_aload_n 0 d_MO_isMovedAt_104 rfl rfl 105 rfl ?_
    refine ax_iload_n 1 d_MO_isMovedAt_105 rfl rfl 106 rfl ?_
    refine ax_iload_n 3 d_MO_isMovedAt_106 rfl rfl 107 rfl ?_
    refine ax_iload_n 2 d_MO_isMovedAt_107 rfl rfl 108 rfl ?_
    refine ax_icmp_ne 115 111 d_MO_isMovedAt_108 rfl rfl (fun hc => ?_) (fun hc => ?_)
    · have h := ok_f hc h
      refine ax_iconst 5 d_MO_isMovedAt_115 ic_5 116 rfl ?_
      exact ax_sub [0, 1, 2, 3] rfl (c_MO_isMovedAt_J116 v1 v2 v3 v1 5 m (fun p hp => hR p hp) (fun s hs => h0 s hs) h)
    · have h := ok_t hc h
      refine ax_iconst 4 d_MO_isMovedAt_111 ic_4 112 rfl ?_
      refine ax_goto 116 d_MO_isMovedAt_112 rfl ?_
      exact ax_sub [0, 1, 2, 3] rfl (c_MO_isMovedAt_J116 v1 v2 v3 v1 4 m (fun p hp => hR p hp) (fun s hs => h0 s hs) h)
theorem c_MO_isMovedAt_L96 (v1 : Int32) (v2 : Int32) (v3 : Int32) (m : zM)  {Q : Option Value → zM → Prop} {K : (Bool × zM) → Prop} (hR : ∀ p : Bool × zM, K (p) → Q (some (.int (b2i p.1))) p.2)  (h : ok (f_MO_isMovedAt_L96 v1 v2 v3 m) K) : AX gM s_MO_isMovedAt 96 [(0, .ref 0), (1, .int v1), (2, .int v2), (3, .int v3)] [] m Q :=
  ok_lp (K := K) (G := fun s : Int32 × zM => AX gM s_MO_isMovedAt 96 [(0, .ref 0), (1, .int v1), (2, .int v2), (3, .int s.1)] [] s.2 Q) (fun s h => c_MO_isMovedAt_B96 v1 v2 s.1 s.2  (fun p hp => hR p hp) (fun s hs => hs) h) FU (v3, m) h
set_option maxRecDepth 4000 in
theorem c_MO_isMovedAt_J79 (v1 : Int32) (v2 : Int32) (m : zM)  {Q : Option Value → zM → Prop} {K : (Bool × zM) → Prop} (hR : ∀ p : Bool × zM, K (p) → Q (some (.int (b2i p.1))) p.2)  (h : ok (f_MO_isMovedAt_J79 v1 v2 m) K) : AX gM s_MO_isMovedAt 79 [(0, .ref 0), (1, .int v1), (2, .int v2)] [] m Q := by
  unfold f_MO_isMovedAt_J79 at h
  refine ax_aload_n 0 d_MO_isMovedAt_79 rfl rfl 80 rfl ?_
  refine ax_getR fl_MO_90 m_0 rfl (rm_0_39 _) d_MO_isMovedAt_80 83 rfl ?_
  refine ax_iload_n 2 d_MO_isMovedAt_83 rfl rfl 84 rfl ?_
  refine ax_aload_n 0 d_MO_isMovedAt_84 rfl rfl 85 rfl ?_
  refine ax_getR fl_MO_87 m_0 rfl (rm_0_37 _) d_MO_isMovedAt_85 88 rfl ?_
  refine ax_iload_n 2 d_MO_isMovedAt_88 rfl rfl 89 rfl ?_
  refine ax_iaload m_25 d_MO_isMovedAt_89 90 rfl h (fun i8 h => ?_)
  refine ax_bipush (-8) d_MO_isMovedAt_90 bp_m8 92 rfl ?_
  refine ax_iand d_MO_isMovedAt_92 93 rfl ?_
  refine ax_iastore m_26 d_MO_isMovedAt_93 94 rfl h (fun i9 m10 h => ?_)
  refine ax_iconst 0 d_MO_isMovedAt_94 ic_0 95 rfl ?_
  refine ax_istore_n (ls1 := [(3, .int 0), (0, .ref 0), (1, .int v1), (2, .int v2)]) d_MO_isMovedAt_95 rfl (Nat.le_of_ble_eq_true rfl) rfl 96 rfl ?_
  exact ax_sub [1, 2, 3, 0] rfl (c_MO_isMovedAt_L96 v1 v2 0 m10 (fun p hp => hR p hp) h)
set_option maxRecDepth 4000 in
theorem c_MO_isMovedAt_J74 (v1 : Int32) (v2 : Int32) (t0 : Bool) (t1 : Bool) (m : zM)  {Q : Option Value → zM → Prop} {K : (Bool × zM) → Prop} (hR : ∀ p : Bool × zM, K (p) → Q (some (.int (b2i p.1))) p.2)  (h : ok (f_MO_isMovedAt_J74 v1 v2 t0 t1 m) K) : AX gM s_MO_isMovedAt 74 [(0, .ref 0), (1, .int v1), (2, .int v2)] [.int (b2i t1), .int (b2i t0)] m Q := by
  unfold f_MO_isMovedAt_J74 at h
  refine ax_icmp_eq 79 77 d_MO_isMovedAt_74 rfl rfl (fun hc => ?_) (fun hc => ?_)
  · have h := ok_t hc h
    exact ax_sub [0, 1, 2] rfl (c_MO_isMovedAt_J79 v1 v2 m (fun p hp => hR p hp) h)
  · have h := ok_f hc h
    refine ax_iconst 0 d_MO_isMovedAt_77 ic_0 78 rfl ?_
    exact ax_zret (b := false) rfl d_MO_isMovedAt_78 (hR (false, m) (ok_some h))
set_option maxRecDepth 4000 in
theorem zc_MO_isMovedAt (v1 : Int32) (v2 : Int32) (m : zM)  {Q : Option Value → zM → Prop} (h : ok (f_MO_isMovedAt v1 v2 m) (fun p => Q (some (.int (b2i p.1))) p.2)) : zc gM s_MO_isMovedAt [.ref 0, .int v1, .int v2] m Q := by
  refine zc_of rfl (Nat.le_of_ble_eq_true rfl) ?_
  show AX gM s_MO_isMovedAt 0 [(0, .ref 0), (1, .int v1), (2, .int v2)] [] m Q
  obtain ⟨K, hK⟩ : ∃ K : (Bool × zM) → Prop, K = (fun p : Bool × zM => Q (some (.int (b2i p.1))) p.2) := ⟨_, rfl⟩
  have hR : ∀ p : Bool × zM, K p → Q (some (.int (b2i p.1))) p.2 := fun p hp => by rw [hK] at hp; exact hp
  replace h : ok (f_MO_isMovedAt v1 v2 m) (fun p : Bool × zM => Q (some (.int (b2i p.1))) p.2) := h
  rw [← hK] at h
  unfold f_MO_isMovedAt at h
  refine ax_aload_n 0 d_MO_isMovedAt_0 rfl rfl 1 rfl ?_
  refine ax_getI fl_MO_334 m_0 rfl d_MO_isMovedAt_1 4 rfl ?_
  refine ax_aload_n 0 d_MO_isMovedAt_4 rfl rfl 5 rfl ?_
  refine ax_iload_n 1 d_MO_isMovedAt_5 rfl rfl 6 rfl ?_
  refine ax_iconst 1 d_MO_isMovedAt_6 ic_1 7 rfl ?_
  refine ax_callV mv_MO_349 ⟨Nat.le_of_ble_eq_true rfl, Nat.le_of_ble_eq_true rfl⟩ ⟨rfl, rfl⟩ [.int v1, .int 1] [.int 1, .int v1, .ref 0, .int (m.1 0 36)] rfl rfl (rc_m_0 _) (Nat.le_of_ble_eq_true rfl) d_MO_isMovedAt_7 10 rfl (zc_MO_ruleOf v1 1 m (ok_b h (fun r1 h => ?_)))
  refine ax_icmp_ne 33 13 d_MO_isMovedAt_10 rfl rfl (fun hc => ?_) (fun hc => ?_)
  · have h := ok_f hc h
    refine ax_iconst 0 d_MO_isMovedAt_33 ic_0 34 rfl ?_
    exact ax_zret (b := false) rfl d_MO_isMovedAt_34 (hR (false, m) (ok_some h))
  · have h := ok_t hc h
    refine ax_aload_n 0 d_MO_isMovedAt_13 rfl rfl 14 rfl ?_
    refine ax_getR fl_MO_87 m_0 rfl (rm_0_37 _) d_MO_isMovedAt_14 17 rfl ?_
    refine ax_iload_n 2 d_MO_isMovedAt_17 rfl rfl 18 rfl ?_
    refine ax_iaload m_25 d_MO_isMovedAt_18 19 rfl h (fun i2 h => ?_)
    refine ax_callS mv_MO_355 ⟨Nat.le_of_ble_eq_true rfl, Nat.le_of_ble_eq_true rfl⟩ ⟨rfl, rfl⟩ [.int (m.1 25 i2)] [.int (m.1 25 i2)] rfl rfl (Nat.le_of_ble_eq_true rfl) d_MO_isMovedAt_19 22 rfl (zc_MO_outOf (m.1 25 i2) m ?_)
    refine ax_aload_n 0 d_MO_isMovedAt_22 rfl rfl 23 rfl ?_
    refine ax_iload_n 1 d_MO_isMovedAt_23 rfl rfl 24 rfl ?_
    refine ax_iconst 2 d_MO_isMovedAt_24 ic_2 25 rfl ?_
    refine ax_callV mv_MO_349 ⟨Nat.le_of_ble_eq_true rfl, Nat.le_of_ble_eq_true rfl⟩ ⟨rfl, rfl⟩ [.int v1, .int 2] [.int 2, .int v1, .ref 0, .int (f_MO_outOf (m.1 25 i2))] rfl rfl (rc_m_0 _) (Nat.le_of_ble_eq_true rfl) d_MO_isMovedAt_25 28 rfl (zc_MO_ruleOf v1 2 m (ok_b h (fun r3 h => ?_)))
    refine ax_iconst 1 d_MO_isMovedAt_28 ic_1 29 rfl ?_
    refine ax_iadd d_MO_isMovedAt_29 30 rfl ?_
    refine ax_icmp_eq 35 33 d_MO_isMovedAt_30 rfl rfl (fun hc => ?_) (fun hc => ?_)
    · have h := ok_t hc h
      refine ax_aload_n 0 d_MO_isMovedAt_35 rfl rfl 36 rfl ?_
      refine ax_iload_n 1 d_MO_isMovedAt_36 rfl rfl 37 rfl ?_
      refine ax_bipush 6 d_MO_isMovedAt_37 bp_6 39 rfl ?_
      refine ax_callV mv_MO_349 ⟨Nat.le_of_ble_eq_true rfl, Nat.le_of_ble_eq_true rfl⟩ ⟨rfl, rfl⟩ [.int v1, .int 6] [.int 6, .int v1, .ref 0] rfl rfl (rc_m_0 _) (Nat.le_of_ble_eq_true rfl) d_MO_isMovedAt_39 42 rfl (zc_MO_ruleOf v1 6 m (ok_b h (fun r4 h => ?_)))
      refine ax_iconst (-1) d_MO_isMovedAt_42 ic_m1 43 rfl ?_
      refine ax_icmp_eq 79 46 d_MO_isMovedAt_43 rfl rfl (fun hc => ?_) (fun hc => ?_)
      · have h := ok_t hc h
        exact ax_sub [0, 1, 2] rfl (c_MO_isMovedAt_J79 v1 v2 m (fun p hp => hR p hp) h)
      · have h := ok_f hc h
        refine ax_aload_n 0 d_MO_isMovedAt_46 rfl rfl 47 rfl ?_
        refine ax_aload_n 0 d_MO_isMovedAt_47 rfl rfl 48 rfl ?_
        refine ax_iload_n 1 d_MO_isMovedAt_48 rfl rfl 49 rfl ?_
        refine ax_bipush 6 d_MO_isMovedAt_49 bp_6 51 rfl ?_
        refine ax_callV mv_MO_349 ⟨Nat.le_of_ble_eq_true rfl, Nat.le_of_ble_eq_true rfl⟩ ⟨rfl, rfl⟩ [.int v1, .int 6] [.int 6, .int v1, .ref 0, .ref 0] rfl rfl (rc_m_0 _) (Nat.le_of_ble_eq_true rfl) d_MO_isMovedAt_51 54 rfl (zc_MO_ruleOf v1 6 m (ok_b h (fun r5 h => ?_)))
        refine ax_iload_n 2 d_MO_isMovedAt_54 rfl rfl 55 rfl ?_
        refine ax_callV mv_MO_361 ⟨Nat.le_of_ble_eq_true rfl, Nat.le_of_ble_eq_true rfl⟩ ⟨rfl, rfl⟩ [.int r5, .int v2] [.int v2, .int r5, .ref 0] rfl rfl (rc_m_0 _) (Nat.le_of_ble_eq_true rfl) d_MO_isMovedAt_55 58 rfl (zc_MO_isOther r5 v2 m (ok_b h (fun r6 h => ?_)))
        refine ax_aload_n 0 d_MO_isMovedAt_58 rfl rfl 59 rfl ?_
        refine ax_iload_n 1 d_MO_isMovedAt_59 rfl rfl 60 rfl ?_
        refine ax_bipush 7 d_MO_isMovedAt_60 bp_7 62 rfl ?_
        refine ax_callV mv_MO_349 ⟨Nat.le_of_ble_eq_true rfl, Nat.le_of_ble_eq_true rfl⟩ ⟨rfl, rfl⟩ [.int v1, .int 7] [.int 7, .int v1, .ref 0, .int (b2i r6)] rfl rfl (rc_m_0 _) (Nat.le_of_ble_eq_true rfl) d_MO_isMovedAt_62 65 rfl (zc_MO_ruleOf v1 7 m (ok_b h (fun r7 h => ?_)))
        refine ax_iconst 1 d_MO_isMovedAt_65 ic_1 66 rfl ?_
        refine ax_icmp_ne 73 69 d_MO_isMovedAt_66 rfl rfl (fun hc => ?_) (fun hc => ?_)
        · have h := ok_f hc h
          refine ax_iconst 0 d_MO_isMovedAt_73 ic_0 74 rfl ?_
          exact ax_sub [0, 1, 2] rfl (c_MO_isMovedAt_J74 v1 v2 r6 false m (fun p hp => hR p hp) h)
        · have h := ok_t hc h
          refine ax_iconst 1 d_MO_isMovedAt_69 ic_1 70 rfl ?_
          refine ax_goto 74 d_MO_isMovedAt_70 rfl ?_
          exact ax_sub [0, 1, 2] rfl (c_MO_isMovedAt_J74 v1 v2 r6 true m (fun p hp => hR p hp) h)
    · have h := ok_f hc h
      refine ax_iconst 0 d_MO_isMovedAt_33 ic_0 34 rfl ?_
      exact ax_zret (b := false) rfl d_MO_isMovedAt_34 (hR (false, m) (ok_some h))
set_option maxRecDepth 4000 in
theorem c_MO_isMoved_J33 (v1 : Int32) (v2 : Int32) (m : zM)  {Q : Option Value → zM → Prop} {K : (Bool × zM) → Prop} (hR : ∀ p : Bool × zM, K (p) → Q (some (.int (b2i p.1))) p.2)  (h : ok (f_MO_isMoved_J33 v1 v2 m) K) : AX gM s_MO_isMoved 33 [(0, .ref 0), (1, .int v1), (2, .int v2)] [] m Q := by
  unfold f_MO_isMoved_J33 at h
  refine ax_aload_n 0 d_MO_isMoved_33 rfl rfl 34 rfl ?_
  refine ax_iload_n 1 d_MO_isMoved_34 rfl rfl 35 rfl ?_
  refine ax_iconst 0 d_MO_isMoved_35 ic_0 36 rfl ?_
  refine ax_callV mv_MO_349 ⟨Nat.le_of_ble_eq_true rfl, Nat.le_of_ble_eq_true rfl⟩ ⟨rfl, rfl⟩ [.int v1, .int 0] [.int 0, .int v1, .ref 0] rfl rfl (rc_m_0 _) (Nat.le_of_ble_eq_true rfl) d_MO_isMoved_36 39 rfl (zc_MO_ruleOf v1 0 m (ok_b h (fun r5 h => ?_)))
  refine ax_if_ne 51 42 d_MO_isMoved_39 rfl rfl (fun hc => ?_) (fun hc => ?_)
  · have h := ok_f hc h
    refine ax_aload_n 0 d_MO_isMoved_51 rfl rfl 52 rfl ?_
    refine ax_iload_n 1 d_MO_isMoved_52 rfl rfl 53 rfl ?_
    refine ax_iload_n 2 d_MO_isMoved_53 rfl rfl 54 rfl ?_
    refine ax_callV mv_MO_371 ⟨Nat.le_of_ble_eq_true rfl, Nat.le_of_ble_eq_true rfl⟩ ⟨rfl, rfl⟩ [.int v1, .int v2] [.int v2, .int v1, .ref 0] rfl rfl (rc_m_0 _) (Nat.le_of_ble_eq_true rfl) d_MO_isMoved_54 57 rfl (zc_MO_isMovedAt v1 v2 m (ok_b h (fun p6 h => ?_)))
    exact ax_zret (b := p6.1) rfl d_MO_isMoved_57 (hR (p6.1, p6.2) (ok_some h))
  · have h := ok_t hc h
    refine ax_aload_n 0 d_MO_isMoved_42 rfl rfl 43 rfl ?_
    refine ax_iload_n 1 d_MO_isMoved_43 rfl rfl 44 rfl ?_
    refine ax_iload_n 2 d_MO_isMoved_44 rfl rfl 45 rfl ?_
    refine ax_callV mv_MO_368 ⟨Nat.le_of_ble_eq_true rfl, Nat.le_of_ble_eq_true rfl⟩ ⟨rfl, rfl⟩ [.int v1, .int v2] [.int v2, .int v1, .ref 0] rfl rfl (rc_m_0 _) (Nat.le_of_ble_eq_true rfl) d_MO_isMoved_45 48 rfl (zc_MO_isMovedOn v1 v2 m (ok_b h (fun p7 h => ?_)))
    refine ax_goto 57 d_MO_isMoved_48 rfl ?_
    exact ax_zret (b := p7.1) rfl d_MO_isMoved_57 (hR (p7.1, p7.2) (ok_some h))
set_option maxRecDepth 4000 in
theorem c_MO_isMoved_B10 (v1 : Int32) (v2 : Int32) (v3 : Int32) (m : zM)  {Q : Option Value → zM → Prop} {K : ((Bool × zM) ⊕ (Int32 × zM)) → Prop} (hR : ∀ p : Bool × zM, K (.inl p) → Q (some (.int (b2i p.1))) p.2) (h0 : ∀ s : Int32 × zM, K (.inr s) → AX gM s_MO_isMoved 10 [(0, .ref 0), (1, .int v1), (2, .int v2), (3, .int s.1)] [] s.2 Q) (h : ok (f_MO_isMoved_B10 v1 v2 v3 m) K) : AX gM s_MO_isMoved 10 [(0, .ref 0), (1, .int v1), (2, .int v2), (3, .int v3)] [] m Q := by
  unfold f_MO_isMoved_B10 at h
  refine ax_iload_n 3 d_MO_isMoved_10 rfl rfl 11 rfl ?_
  refine ax_iconst 4 d_MO_isMoved_11 ic_4 12 rfl ?_
  refine ax_icmp_ge 33 15 d_MO_isMoved_12 rfl rfl (fun hc => ?_) (fun hc => ?_)
  · have h := ok_t hc h
    exact ax_sub [0, 1, 2] rfl (c_MO_isMoved_J33 v1 v2 m (fun p hp => hR p hp) (ok_z h))
  · have h := ok_f hc h
    refine ax_aload_n 0 d_MO_isMoved_15 rfl rfl 16 rfl ?_
    refine ax_getR fl_MO_90 m_0 rfl (rm_0_39 _) d_MO_isMoved_16 19 rfl ?_
    refine ax_iload_n 3 d_MO_isMoved_19 rfl rfl 20 rfl ?_
    refine ax_aload_n 0 d_MO_isMoved_20 rfl rfl 21 rfl ?_
    refine ax_getR fl_MO_87 m_0 rfl (rm_0_37 _) d_MO_isMoved_21 24 rfl ?_
    refine ax_iload_n 3 d_MO_isMoved_24 rfl rfl 25 rfl ?_
    refine ax_iaload m_25 d_MO_isMoved_25 26 rfl h (fun i2 h => ?_)
    refine ax_iastore m_26 d_MO_isMoved_26 27 rfl h (fun i3 m4 h => ?_)
    refine ax_iinc (ls1 := [(3, .int (v3 + 1)), (0, .ref 0), (1, .int v1), (2, .int v2)]) 3 1 d_MO_isMoved_27 rfl ic_1 (Nat.le_of_ble_eq_true rfl) rfl 30 rfl ?_
    refine ax_goto 10 d_MO_isMoved_30 rfl ?_
    exact ax_sub [1, 2, 3, 0] rfl (h0 ((v3 + 1), m4) (ok_some h))
theorem c_MO_isMoved_L10 (v1 : Int32) (v2 : Int32) (v3 : Int32) (m : zM)  {Q : Option Value → zM → Prop} {K : (Bool × zM) → Prop} (hR : ∀ p : Bool × zM, K (p) → Q (some (.int (b2i p.1))) p.2)  (h : ok (f_MO_isMoved_L10 v1 v2 v3 m) K) : AX gM s_MO_isMoved 10 [(0, .ref 0), (1, .int v1), (2, .int v2), (3, .int v3)] [] m Q :=
  ok_lp (K := K) (G := fun s : Int32 × zM => AX gM s_MO_isMoved 10 [(0, .ref 0), (1, .int v1), (2, .int v2), (3, .int s.1)] [] s.2 Q) (fun s h => c_MO_isMoved_B10 v1 v2 s.1 s.2  (fun p hp => hR p hp) (fun s hs => hs) h) FU (v3, m) h
set_option maxRecDepth 4000 in
theorem zc_MO_isMoved (v1 : Int32) (v2 : Int32) (m : zM)  {Q : Option Value → zM → Prop} (h : ok (f_MO_isMoved v1 v2 m) (fun p => Q (some (.int (b2i p.1))) p.2)) : zc gM s_MO_isMoved [.ref 0, .int v1, .int v2] m Q := by
  refine zc_of rfl (Nat.le_of_ble_eq_true rfl) ?_
  show AX gM s_MO_isMoved 0 [(0, .ref 0), (1, .int v1), (2, .int v2)] [] m Q
  obtain ⟨K, hK⟩ : ∃ K : (Bool × zM) → Prop, K = (fun p : Bool × zM => Q (some (.int (b2i p.1))) p.2) := ⟨_, rfl⟩
  have hR : ∀ p : Bool × zM, K p → Q (some (.int (b2i p.1))) p.2 := fun p hp => by rw [hK] at hp; exact hp
  replace h : ok (f_MO_isMoved v1 v2 m) (fun p : Bool × zM => Q (some (.int (b2i p.1))) p.2) := h
  rw [← hK] at h
  unfold f_MO_isMoved at h
  refine ax_aload_n 0 d_MO_isMoved_0 rfl rfl 1 rfl ?_
  refine ax_aload_n 0 d_MO_isMoved_1 rfl rfl 2 rfl ?_
  refine ax_getI fl_MO_334 m_0 rfl d_MO_isMoved_2 5 rfl ?_
  refine ax_putI (K := K) fl_MO_337 m_0 rfl rfl rfl (Nat.le_of_ble_eq_true rfl) d_MO_isMoved_5 8 rfl h (fun m1 h => ?_)
  refine ax_iconst 0 d_MO_isMoved_8 ic_0 9 rfl ?_
  refine ax_istore_n (ls1 := [(3, .int 0), (0, .ref 0), (1, .int v1), (2, .int v2)]) d_MO_isMoved_9 rfl (Nat.le_of_ble_eq_true rfl) rfl 10 rfl ?_
  exact ax_sub [1, 2, 3, 0] rfl (c_MO_isMoved_L10 v1 v2 0 m1 (fun p hp => hR p hp) h)
set_option maxRecDepth 4000 in
theorem c_MO_folds_J69 (v1 : Int32) (m : zM)  {Q : Option Value → zM → Prop} {K : ((zM) ⊕ (Int32 × zM)) → Prop} (hR : ∀ p : zM, K (.inl p) → Q none p) (h0 : ∀ s : Int32 × zM, K (.inr s) → AX gM s_MO_folds 2 [(0, .ref 0), (1, .int s.1)] [] s.2 Q) (h : ok (f_MO_folds_J69 v1 m) K) : AX gM s_MO_folds 69 [(0, .ref 0), (1, .int v1)] [] m Q := by
  unfold f_MO_folds_J69 at h
  refine ax_iinc (ls1 := [(1, .int (v1 + 1)), (0, .ref 0)]) 1 1 d_MO_folds_69 rfl ic_1 (Nat.le_of_ble_eq_true rfl) rfl 72 rfl ?_
  refine ax_goto 2 d_MO_folds_72 rfl ?_
  exact ax_sub [1, 0] rfl (h0 ((v1 + 1), m) (ok_some h))
set_option maxRecDepth 4000 in
theorem c_MO_folds_B12 (v1 : Int32) (v2 : Int32) (m : zM)  {Q : Option Value → zM → Prop} {K : (((zM) ⊕ (Int32 × zM)) ⊕ (Int32 × zM)) → Prop} (hR : ∀ p : zM, K (.inl (.inl p)) → Q none p) (h0 : ∀ s : Int32 × zM, K (.inl (.inr s)) → AX gM s_MO_folds 2 [(0, .ref 0), (1, .int s.1)] [] s.2 Q) (h1 : ∀ s : Int32 × zM, K (.inr s) → AX gM s_MO_folds 12 [(0, .ref 0), (1, .int v1), (2, .int s.1)] [] s.2 Q) (h : ok (f_MO_folds_B12 v1 v2 m) K) : AX gM s_MO_folds 12 [(0, .ref 0), (1, .int v1), (2, .int v2)] [] m Q := by
  unfold f_MO_folds_B12 at h
  refine ax_iload_n 2 d_MO_folds_12 rfl rfl 13 rfl ?_
  refine ax_if_le 69 16 d_MO_folds_13 rfl rfl (fun hc => ?_) (fun hc => ?_)
  · have h := ok_t hc h
    exact ax_sub [0, 1] rfl (c_MO_folds_J69 v1 m (fun p hp => hR p hp) (fun s hs => h0 s hs) (ok_z h))
  · have h := ok_f hc h
    refine ax_aload_n 0 d_MO_folds_16 rfl rfl 17 rfl ?_
    refine ax_getR fl_MO_90 m_0 rfl (rm_0_39 _) d_MO_folds_17 20 rfl ?_
    refine ax_iload_n 2 d_MO_folds_20 rfl rfl 21 rfl ?_
    refine ax_iconst 1 d_MO_folds_21 ic_1 22 rfl ?_
    refine ax_isub d_MO_folds_22 23 rfl ?_
    refine ax_iaload m_26 d_MO_folds_23 24 rfl h (fun i2 h => ?_)
    refine ax_aload_n 0 d_MO_folds_24 rfl rfl 25 rfl ?_
    refine ax_getR fl_MO_90 m_0 rfl (rm_0_39 _) d_MO_folds_25 28 rfl ?_
    refine ax_iload_n 2 d_MO_folds_28 rfl rfl 29 rfl ?_
    refine ax_iaload m_26 d_MO_folds_29 30 rfl h (fun i3 h => ?_)
    refine ax_icmp_le 69 33 d_MO_folds_30 rfl rfl (fun hc => ?_) (fun hc => ?_)
    · have h := ok_t hc h
      exact ax_sub [0, 1] rfl (c_MO_folds_J69 v1 m (fun p hp => hR p hp) (fun s hs => h0 s hs) (ok_z h))
    · have h := ok_f hc h
      refine ax_aload_n 0 d_MO_folds_33 rfl rfl 34 rfl ?_
      refine ax_getR fl_MO_90 m_0 rfl (rm_0_39 _) d_MO_folds_34 37 rfl ?_
      refine ax_iload_n 2 d_MO_folds_37 rfl rfl 38 rfl ?_
      refine ax_iaload m_26 d_MO_folds_38 39 rfl h (fun i4 h => ?_)
      refine ax_istore_n (ls1 := [(3, .int (m.1 26 i4)), (0, .ref 0), (1, .int v1), (2, .int v2)]) d_MO_folds_39 rfl (Nat.le_of_ble_eq_true rfl) rfl 40 rfl ?_
      refine ax_aload_n 1 d_MO_folds_40 rfl rfl 41 rfl ?_
      refine ax_getR fl_MO_90 m_0 rfl (rm_0_39 _) d_MO_folds_41 44 rfl ?_
      refine ax_iload_n 3 d_MO_folds_44 rfl rfl 45 rfl ?_
      refine ax_aload_n 1 d_MO_folds_45 rfl rfl 46 rfl ?_
      refine ax_getR fl_MO_90 m_0 rfl (rm_0_39 _) d_MO_folds_46 49 rfl ?_
      refine ax_iload_n 3 d_MO_folds_49 rfl rfl 50 rfl ?_
      refine ax_iconst 1 d_MO_folds_50 ic_1 51 rfl ?_
      refine ax_isub d_MO_folds_51 52 rfl ?_
      refine ax_iaload m_26 d_MO_folds_52 53 rfl h (fun i5 h => ?_)
      refine ax_iastore m_26 d_MO_folds_53 54 rfl h (fun i6 m7 h => ?_)
      refine ax_aload_n 1 d_MO_folds_54 rfl rfl 55 rfl ?_
      refine ax_getR fl_MO_90 m_0 rfl (rm_0_39 _) d_MO_folds_55 58 rfl ?_
      refine ax_iload_n 3 d_MO_folds_58 rfl rfl 59 rfl ?_
      refine ax_iconst 1 d_MO_folds_59 ic_1 60 rfl ?_
      refine ax_isub d_MO_folds_60 61 rfl ?_
      refine ax_iload_n 0 d_MO_folds_61 rfl rfl 62 rfl ?_
      refine ax_iastore m_26 d_MO_folds_62 63 rfl h (fun i8 m9 h => ?_)
      refine ax_iinc (ls1 := [(2, .int (v2 + (-1))), (3, .int (m.1 26 i4)), (0, .ref 0), (1, .int v1)]) 3 (-1) d_MO_folds_63 rfl ic_m1 (Nat.le_of_ble_eq_true rfl) rfl 66 rfl ?_
      refine ax_goto 12 d_MO_folds_66 rfl ?_
      exact ax_sub [2, 3, 0] rfl (h1 ((v2 + (-1)), m9) (ok_some h))
theorem c_MO_folds_L12 (v1 : Int32) (v2 : Int32) (m : zM)  {Q : Option Value → zM → Prop} {K : ((zM) ⊕ (Int32 × zM)) → Prop} (hR : ∀ p : zM, K (.inl p) → Q none p) (h0 : ∀ s : Int32 × zM, K (.inr s) → AX gM s_MO_folds 2 [(0, .ref 0), (1, .int s.1)] [] s.2 Q) (h : ok (f_MO_folds_L12 v1 v2 m) K) : AX gM s_MO_folds 12 [(0, .ref 0), (1, .int v1), (2, .int v2)] [] m Q :=
  ok_lp (K := K) (G := fun s : Int32 × zM => AX gM s_MO_folds 12 [(0, .ref 0), (1, .int v1), (2, .int s.1)] [] s.2 Q) (fun s h => c_MO_folds_B12 v1 s.1 s.2  (fun p hp => hR p hp) (fun s hs => h0 s hs) (fun s hs => hs) h) FU (v2, m) h
set_option maxRecDepth 4000 in
theorem c_MO_folds_B2 (v1 : Int32) (m : zM)  {Q : Option Value → zM → Prop} {K : ((zM) ⊕ (Int32 × zM)) → Prop} (hR : ∀ p : zM, K (.inl p) → Q none p) (h0 : ∀ s : Int32 × zM, K (.inr s) → AX gM s_MO_folds 2 [(0, .ref 0), (1, .int s.1)] [] s.2 Q) (h : ok (f_MO_folds_B2 v1 m) K) : AX gM s_MO_folds 2 [(0, .ref 0), (1, .int v1)] [] m Q := by
  unfold f_MO_folds_B2 at h
  refine ax_iload_n 1 d_MO_folds_2 rfl rfl 3 rfl ?_
  refine ax_aload_n 0 d_MO_folds_3 rfl rfl 4 rfl ?_
  refine ax_callV mv_MO_358 ⟨Nat.le_of_ble_eq_true rfl, Nat.le_of_ble_eq_true rfl⟩ ⟨rfl, rfl⟩ [] [.ref 0, .int v1] rfl rfl (rc_m_0 _) (Nat.le_of_ble_eq_true rfl) d_MO_folds_4 7 rfl (zc_MO_agents m (ok_b h (fun r1 h => ?_)))
  refine ax_icmp_ge 75 10 d_MO_folds_7 rfl rfl (fun hc => ?_) (fun hc => ?_)
  · have h := ok_t hc h
    exact ax_vret rfl d_MO_folds_75 (hR m (ok_some h))
  · have h := ok_f hc h
    refine ax_iload_n 1 d_MO_folds_10 rfl rfl 11 rfl ?_
    refine ax_istore_n (ls1 := [(2, .int v1), (0, .ref 0), (1, .int v1)]) d_MO_folds_11 rfl (Nat.le_of_ble_eq_true rfl) rfl 12 rfl ?_
    exact ax_sub [1, 2, 0] rfl (c_MO_folds_L12 v1 v1 m (fun p hp => hR p hp) (fun s hs => h0 s hs) h)
theorem c_MO_folds_L2 (v1 : Int32) (m : zM)  {Q : Option Value → zM → Prop} {K : zM → Prop} (hR : ∀ p : zM, K (p) → Q none p)  (h : ok (f_MO_folds_L2 v1 m) K) : AX gM s_MO_folds 2 [(0, .ref 0), (1, .int v1)] [] m Q :=
  ok_lp (K := K) (G := fun s : Int32 × zM => AX gM s_MO_folds 2 [(0, .ref 0), (1, .int s.1)] [] s.2 Q) (fun s h => c_MO_folds_B2 s.1 s.2  (fun p hp => hR p hp) (fun s hs => hs) h) FU (v1, m) h
set_option maxRecDepth 4000 in
theorem zc_MO_folds  (m : zM)  {Q : Option Value → zM → Prop} (h : ok (f_MO_folds m) (fun p => Q none p)) : zc gM s_MO_folds [.ref 0] m Q := by
  refine zc_of rfl (Nat.le_of_ble_eq_true rfl) ?_
  show AX gM s_MO_folds 0 [(0, .ref 0)] [] m Q
  obtain ⟨K, hK⟩ : ∃ K : zM → Prop, K = (fun p : zM => Q none p) := ⟨_, rfl⟩
  have hR : ∀ p : zM, K p → Q none p := fun p hp => by rw [hK] at hp; exact hp
  replace h : ok (f_MO_folds m) (fun p : zM => Q none p) := h
  rw [← hK] at h
  unfold f_MO_folds at h
  refine ax_iconst 1 d_MO_folds_0 ic_1 1 rfl ?_
  refine ax_istore_n (ls1 := [(1, .int 1), (0, .ref 0)]) d_MO_folds_1 rfl (Nat.le_of_ble_eq_true rfl) rfl 2 rfl ?_
  exact ax_sub [1, 0] rfl (c_MO_folds_L2 1 m (fun p hp => hR p hp) h)
set_option maxRecDepth 4000 in
theorem c_MO_comesBy_J52 (v1 : Int32) (v2 : Int32) (v3 : Int32) (m : zM)  {Q : Option Value → zM → Prop} {K : ((zM) ⊕ (Int32 × zM)) → Prop} (hR : ∀ p : zM, K (.inl p) → Q none p) (h0 : ∀ s : Int32 × zM, K (.inr s) → AX gM s_MO_comesBy 12 [(0, .ref 0), (1, .int v1), (2, .int v2), (3, .int s.1)] [] s.2 Q) (h : ok (f_MO_comesBy_J52 v1 v2 v3 m) K) : AX gM s_MO_comesBy 52 [(0, .ref 0), (1, .int v1), (2, .int v2), (3, .int v3)] [] m Q := by
  unfold f_MO_comesBy_J52 at h
  refine ax_iinc (ls1 := [(3, .int (v3 + 1)), (0, .ref 0), (1, .int v1), (2, .int v2)]) 3 1 d_MO_comesBy_52 rfl ic_1 (Nat.le_of_ble_eq_true rfl) rfl 55 rfl ?_
  refine ax_goto 12 d_MO_comesBy_55 rfl ?_
  exact ax_sub [1, 2, 3, 0] rfl (h0 ((v3 + 1), m) (ok_some h))
set_option maxRecDepth 4000 in
theorem c_MO_comesBy_B12 (v1 : Int32) (v2 : Int32) (v3 : Int32) (m : zM)  {Q : Option Value → zM → Prop} {K : ((zM) ⊕ (Int32 × zM)) → Prop} (hR : ∀ p : zM, K (.inl p) → Q none p) (h0 : ∀ s : Int32 × zM, K (.inr s) → AX gM s_MO_comesBy 12 [(0, .ref 0), (1, .int v1), (2, .int v2), (3, .int s.1)] [] s.2 Q) (h : ok (f_MO_comesBy_B12 v1 v2 v3 m) K) : AX gM s_MO_comesBy 12 [(0, .ref 0), (1, .int v1), (2, .int v2), (3, .int v3)] [] m Q := by
  unfold f_MO_comesBy_B12 at h
  refine ax_iload_n 3 d_MO_comesBy_12 rfl rfl 13 rfl ?_
  refine ax_aload_n 0 d_MO_comesBy_13 rfl rfl 14 rfl ?_
  refine ax_callV mv_MO_358 ⟨Nat.le_of_ble_eq_true rfl, Nat.le_of_ble_eq_true rfl⟩ ⟨rfl, rfl⟩ [] [.ref 0, .int v3] rfl rfl (rc_m_0 _) (Nat.le_of_ble_eq_true rfl) d_MO_comesBy_14 17 rfl (zc_MO_agents m (ok_b h (fun r3 h => ?_)))
  refine ax_icmp_ge 58 20 d_MO_comesBy_17 rfl rfl (fun hc => ?_) (fun hc => ?_)
  · have h := ok_t hc h
    exact ax_vret rfl d_MO_comesBy_58 (hR m (ok_some h))
  · have h := ok_f hc h
    refine ax_aload_n 0 d_MO_comesBy_20 rfl rfl 21 rfl ?_
    refine ax_iload_n 2 d_MO_comesBy_21 rfl rfl 22 rfl ?_
    refine ax_iload_n 3 d_MO_comesBy_22 rfl rfl 23 rfl ?_
    refine ax_callV mv_MO_419 ⟨Nat.le_of_ble_eq_true rfl, Nat.le_of_ble_eq_true rfl⟩ ⟨rfl, rfl⟩ [.int v2, .int v3] [.int v3, .int v2, .ref 0] rfl rfl (rc_m_0 _) (Nat.le_of_ble_eq_true rfl) d_MO_comesBy_23 26 rfl (zc_MO_isMoved v2 v3 m (ok_b h (fun p4 h => ?_)))
    refine ax_ifb_ne 32 29 d_MO_comesBy_26 rfl rfl (fun hc => ?_) (fun hc => ?_)
    · have h := ok_t hc h
      refine ax_aload_n 0 d_MO_comesBy_32 rfl rfl 33 rfl ?_
      refine ax_callV mv_MO_422 ⟨Nat.le_of_ble_eq_true rfl, Nat.le_of_ble_eq_true rfl⟩ ⟨rfl, rfl⟩ [] [.ref 0] rfl rfl (rc_m_0 _) (Nat.le_of_ble_eq_true rfl) d_MO_comesBy_33 36 rfl (zc_MO_folds p4.2 (ok_b h (fun p5 h => ?_)))
      refine ax_aload_n 0 d_MO_comesBy_36 rfl rfl 37 rfl ?_
      refine ax_aload_n 0 d_MO_comesBy_37 rfl rfl 38 rfl ?_
      refine ax_callV mv_MO_392 ⟨Nat.le_of_ble_eq_true rfl, Nat.le_of_ble_eq_true rfl⟩ ⟨rfl, rfl⟩ [] [.ref 0, .ref 0] rfl rfl (rc_m_0 _) (Nat.le_of_ble_eq_true rfl) d_MO_comesBy_38 41 rfl (zc_MO_shut p5 (ok_b h (fun r6 h => ?_)))
      refine ax_aload_n 0 d_MO_comesBy_41 rfl rfl 42 rfl ?_
      refine ax_getR fl_MO_100 m_0 rfl (rm_0_43 _) d_MO_comesBy_42 45 rfl ?_
      refine ax_iload_n 1 d_MO_comesBy_45 rfl rfl 46 rfl ?_
      refine ax_iaload m_28 d_MO_comesBy_46 47 rfl h (fun i7 h => ?_)
      refine ax_iconst 1 d_MO_comesBy_47 ic_1 48 rfl ?_
      refine ax_iadd d_MO_comesBy_48 49 rfl ?_
      refine ax_callV mv_MO_396 ⟨Nat.le_of_ble_eq_true rfl, Nat.le_of_ble_eq_true rfl⟩ ⟨rfl, rfl⟩ [.long r6, .int ((p5.1 28 i7) + 1)] [.int ((p5.1 28 i7) + 1), .long r6, .ref 0] rfl rfl (rc_m_0 _) (Nat.le_of_ble_eq_true rfl) d_MO_comesBy_49 52 rfl (zc_MO_comes r6 ((p5.1 28 i7) + 1) p5 (ok_b h (fun p8 h => ?_)))
      exact ax_sub [0, 1, 2, 3] rfl (c_MO_comesBy_J52 v1 v2 v3 p8 (fun p hp => hR p hp) (fun s hs => h0 s hs) h)
    · have h := ok_f (bf hc) h
      refine ax_goto 52 d_MO_comesBy_29 rfl ?_
      exact ax_sub [0, 1, 2, 3] rfl (c_MO_comesBy_J52 v1 v2 v3 p4.2 (fun p hp => hR p hp) (fun s hs => h0 s hs) h)
theorem c_MO_comesBy_L12 (v1 : Int32) (v2 : Int32) (v3 : Int32) (m : zM)  {Q : Option Value → zM → Prop} {K : zM → Prop} (hR : ∀ p : zM, K (p) → Q none p)  (h : ok (f_MO_comesBy_L12 v1 v2 v3 m) K) : AX gM s_MO_comesBy 12 [(0, .ref 0), (1, .int v1), (2, .int v2), (3, .int v3)] [] m Q :=
  ok_lp (K := K) (G := fun s : Int32 × zM => AX gM s_MO_comesBy 12 [(0, .ref 0), (1, .int v1), (2, .int v2), (3, .int s.1)] [] s.2 Q) (fun s h => c_MO_comesBy_B12 v1 v2 s.1 s.2  (fun p hp => hR p hp) (fun s hs => hs) h) FU (v3, m) h
set_option maxRecDepth 4000 in
theorem zc_MO_comesBy (v1 : Int32) (v2 : Int32) (m : zM)  {Q : Option Value → zM → Prop} (h : ok (f_MO_comesBy v1 v2 m) (fun p => Q none p)) : zc gM s_MO_comesBy [.ref 0, .int v1, .int v2] m Q := by
  refine zc_of rfl (Nat.le_of_ble_eq_true rfl) ?_
  show AX gM s_MO_comesBy 0 [(0, .ref 0), (1, .int v1), (2, .int v2)] [] m Q
  obtain ⟨K, hK⟩ : ∃ K : zM → Prop, K = (fun p : zM => Q none p) := ⟨_, rfl⟩
  have hR : ∀ p : zM, K p → Q none p := fun p hp => by rw [hK] at hp; exact hp
  replace h : ok (f_MO_comesBy v1 v2 m) (fun p : zM => Q none p) := h
  rw [← hK] at h
  unfold f_MO_comesBy at h
  refine ax_aload_n 0 d_MO_comesBy_0 rfl rfl 1 rfl ?_
  refine ax_aload_n 0 d_MO_comesBy_1 rfl rfl 2 rfl ?_
  refine ax_getR fl_MO_96 m_0 rfl (rm_0_42 _) d_MO_comesBy_2 5 rfl ?_
  refine ax_iload_n 1 d_MO_comesBy_5 rfl rfl 6 rfl ?_
  refine ax_laload m_27 d_MO_comesBy_6 7 rfl h (fun i1 h => ?_)
  refine ax_callV mv_MO_415 ⟨Nat.le_of_ble_eq_true rfl, Nat.le_of_ble_eq_true rfl⟩ ⟨rfl, rfl⟩ [.long (m.2.1 27 i1)] [.long (m.2.1 27 i1), .ref 0] rfl rfl (rc_m_0 _) (Nat.le_of_ble_eq_true rfl) d_MO_comesBy_7 10 rfl (zc_MO_opens (m.2.1 27 i1) m (ok_b h (fun p2 h => ?_)))
  refine ax_iconst 0 d_MO_comesBy_10 ic_0 11 rfl ?_
  refine ax_istore_n (ls1 := [(3, .int 0), (0, .ref 0), (1, .int v1), (2, .int v2)]) d_MO_comesBy_11 rfl (Nat.le_of_ble_eq_true rfl) rfl 12 rfl ?_
  exact ax_sub [1, 2, 3, 0] rfl (c_MO_comesBy_L12 v1 v2 0 p2 (fun p hp => hR p hp) h)
set_option maxRecDepth 4000 in
theorem c_MO_sorts_B160 (v1 : Int32) (m : zM)  {Q : Option Value → zM → Prop} {K : ((zM) ⊕ (Int32 × zM)) → Prop} (hR : ∀ p : zM, K (.inl p) → Q none p) (h0 : ∀ s : Int32 × zM, K (.inr s) → AX gM s_MO_sorts 160 [(0, .ref 0), (1, .int s.1)] [] s.2 Q) (h : ok (f_MO_sorts_B160 v1 m) K) : AX gM s_MO_sorts 160 [(0, .ref 0), (1, .int v1)] [] m Q := by
  unfold f_MO_sorts_B160 at h
  refine ax_iload_n 1 d_MO_sorts_160 rfl rfl 161 rfl ?_
  refine ax_aload_n 0 d_MO_sorts_161 rfl rfl 162 rfl ?_
  refine ax_getI fl_MO_380 m_0 rfl d_MO_sorts_162 165 rfl ?_
  refine ax_icmp_ge 179 168 d_MO_sorts_165 rfl rfl (fun hc => ?_) (fun hc => ?_)
  · have h := ok_t hc h
    exact ax_vret rfl d_MO_sorts_179 (hR m (ok_some h))
  · have h := ok_f hc h
    refine ax_aload_n 0 d_MO_sorts_168 rfl rfl 169 rfl ?_
    refine ax_iload_n 1 d_MO_sorts_169 rfl rfl 170 rfl ?_
    refine ax_callV mv_MO_386 ⟨Nat.le_of_ble_eq_true rfl, Nat.le_of_ble_eq_true rfl⟩ ⟨rfl, rfl⟩ [.int v1] [.int v1, .ref 0] rfl rfl (rc_m_0 _) (Nat.le_of_ble_eq_true rfl) d_MO_sorts_170 173 rfl (zc_MO_enters v1 m (ok_b h (fun p5 h => ?_)))
    refine ax_iinc (ls1 := [(1, .int (v1 + 1)), (0, .ref 0)]) 1 1 d_MO_sorts_173 rfl ic_1 (Nat.le_of_ble_eq_true rfl) rfl 176 rfl ?_
    refine ax_goto 160 d_MO_sorts_176 rfl ?_
    exact ax_sub [1, 0] rfl (h0 ((v1 + 1), p5) (ok_some h))
theorem c_MO_sorts_L160 (v1 : Int32) (m : zM)  {Q : Option Value → zM → Prop} {K : zM → Prop} (hR : ∀ p : zM, K (p) → Q none p)  (h : ok (f_MO_sorts_L160 v1 m) K) : AX gM s_MO_sorts 160 [(0, .ref 0), (1, .int v1)] [] m Q :=
  ok_lp (K := K) (G := fun s : Int32 × zM => AX gM s_MO_sorts 160 [(0, .ref 0), (1, .int s.1)] [] s.2 Q) (fun s h => c_MO_sorts_B160 s.1 s.2  (fun p hp => hR p hp) (fun s hs => hs) h) FU (v1, m) h
set_option maxRecDepth 4000 in
theorem c_MO_sorts_J158  (m : zM)  {Q : Option Value → zM → Prop} {K : zM → Prop} (hR : ∀ p : zM, K (p) → Q none p)  (h : ok (f_MO_sorts_J158  m) K) : AX gM s_MO_sorts 158 [(0, .ref 0)] [] m Q := by
  unfold f_MO_sorts_J158 at h
  refine ax_iconst 0 d_MO_sorts_158 ic_0 159 rfl ?_
  refine ax_istore_n (ls1 := [(1, .int 0), (0, .ref 0)]) d_MO_sorts_159 rfl (Nat.le_of_ble_eq_true rfl) rfl 160 rfl ?_
  exact ax_sub [1, 0] rfl (c_MO_sorts_L160 0 m (fun p hp => hR p hp) h)
set_option maxRecDepth 4000 in
theorem c_MO_sorts_B138 (v1 : Int32) (m : zM)  {Q : Option Value → zM → Prop} {K : ((zM) ⊕ (Int32 × zM)) → Prop} (hR : ∀ p : zM, K (.inl p) → Q none p) (h0 : ∀ s : Int32 × zM, K (.inr s) → AX gM s_MO_sorts 138 [(0, .ref 0), (1, .int s.1)] [] s.2 Q) (h : ok (f_MO_sorts_B138 v1 m) K) : AX gM s_MO_sorts 138 [(0, .ref 0), (1, .int v1)] [] m Q := by
  unfold f_MO_sorts_B138 at h
  refine ax_iload_n 1 d_MO_sorts_138 rfl rfl 139 rfl ?_
  refine ax_sipush 2048 d_MO_sorts_139 sp_2048 142 rfl ?_
  refine ax_icmp_ge 158 145 d_MO_sorts_142 rfl rfl (fun hc => ?_) (fun hc => ?_)
  · have h := ok_t hc h
    exact ax_sub [0] rfl (c_MO_sorts_J158 m (fun p hp => hR p hp) (ok_z h))
  · have h := ok_f hc h
    refine ax_aload_n 0 d_MO_sorts_145 rfl rfl 146 rfl ?_
    refine ax_getR fl_MO_103 m_0 rfl (rm_0_44 _) d_MO_sorts_146 149 rfl ?_
    refine ax_iload_n 1 d_MO_sorts_149 rfl rfl 150 rfl ?_
    refine ax_iconst (-1) d_MO_sorts_150 ic_m1 151 rfl ?_
    refine ax_iastore m_29 d_MO_sorts_151 152 rfl h (fun i3 m4 h => ?_)
    refine ax_iinc (ls1 := [(1, .int (v1 + 1)), (0, .ref 0)]) 1 1 d_MO_sorts_152 rfl ic_1 (Nat.le_of_ble_eq_true rfl) rfl 155 rfl ?_
    refine ax_goto 138 d_MO_sorts_155 rfl ?_
    exact ax_sub [1, 0] rfl (h0 ((v1 + 1), m4) (ok_some h))
theorem c_MO_sorts_L138 (v1 : Int32) (m : zM)  {Q : Option Value → zM → Prop} {K : zM → Prop} (hR : ∀ p : zM, K (p) → Q none p)  (h : ok (f_MO_sorts_L138 v1 m) K) : AX gM s_MO_sorts 138 [(0, .ref 0), (1, .int v1)] [] m Q :=
  ok_lp (K := K) (G := fun s : Int32 × zM => AX gM s_MO_sorts 138 [(0, .ref 0), (1, .int s.1)] [] s.2 Q) (fun s h => c_MO_sorts_B138 s.1 s.2  (fun p hp => hR p hp) (fun s hs => hs) h) FU (v1, m) h
set_option maxRecDepth 4000 in
theorem c_MO_sorts_J136  (m : zM)  {Q : Option Value → zM → Prop} {K : zM → Prop} (hR : ∀ p : zM, K (p) → Q none p)  (h : ok (f_MO_sorts_J136  m) K) : AX gM s_MO_sorts 136 [(0, .ref 0)] [] m Q := by
  unfold f_MO_sorts_J136 at h
  refine ax_iconst 0 d_MO_sorts_136 ic_0 137 rfl ?_
  refine ax_istore_n (ls1 := [(1, .int 0), (0, .ref 0)]) d_MO_sorts_137 rfl (Nat.le_of_ble_eq_true rfl) rfl 138 rfl ?_
  exact ax_sub [1, 0] rfl (c_MO_sorts_L138 0 m (fun p hp => hR p hp) h)
set_option maxRecDepth 4000 in
theorem c_MO_sorts_J113 (v1 : Int32) (v2 : Int64) (v4 : Int32) (v5 : Int32) (m : zM)  {Q : Option Value → zM → Prop} {K : ((zM) ⊕ (Int32 × zM)) → Prop} (hR : ∀ p : zM, K (.inl p) → Q none p) (h0 : ∀ s : Int32 × zM, K (.inr s) → AX gM s_MO_sorts 2 [(0, .ref 0), (1, .int s.1)] [] s.2 Q) (h : ok (f_MO_sorts_J113 v1 v2 v4 v5 m) K) : AX gM s_MO_sorts 113 [(0, .ref 0), (1, .int v1), (2, .long v2), (4, .int v4), (5, .int v5)] [] m Q := by
  unfold f_MO_sorts_J113 at h
  refine ax_aload_n 0 d_MO_sorts_113 rfl rfl 114 rfl ?_
  refine ax_getR fl_MO_96 m_0 rfl (rm_0_42 _) d_MO_sorts_114 117 rfl ?_
  refine ax_iload 4 d_MO_sorts_117 rfl 119 rfl ?_
  refine ax_lload_n 2 d_MO_sorts_119 rfl rfl 120 rfl ?_
  refine ax_lastore m_27 d_MO_sorts_120 121 rfl h (fun i9 m10 h => ?_)
  refine ax_aload_n 0 d_MO_sorts_121 rfl rfl 122 rfl ?_
  refine ax_getR fl_MO_100 m_0 rfl (rm_0_43 _) d_MO_sorts_122 125 rfl ?_
  refine ax_iload 4 d_MO_sorts_125 rfl 127 rfl ?_
  refine ax_iload 3 d_MO_sorts_127 rfl 129 rfl ?_
  refine ax_iastore m_28 d_MO_sorts_129 130 rfl h (fun i11 m12 h => ?_)
  refine ax_iinc (ls1 := [(1, .int (v1 + 1)), (0, .ref 0), (2, .long v2), (4, .int v4), (5, .int v5)]) 1 1 d_MO_sorts_130 rfl ic_1 (Nat.le_of_ble_eq_true rfl) rfl 133 rfl ?_
  refine ax_goto 2 d_MO_sorts_133 rfl ?_
  exact ax_sub [1, 0] rfl (h0 ((v1 + 1), m12) (ok_some h))
set_option maxRecDepth 4000 in
theorem c_MO_sorts_J75 (v1 : Int32) (v2 : Int64) (v4 : Int32) (v5 : Int32) (m : zM)  {Q : Option Value → zM → Prop} {K : (((zM) ⊕ (Int32 × zM)) ⊕ (Int32 × zM)) → Prop} (hR : ∀ p : zM, K (.inl (.inl p)) → Q none p) (h0 : ∀ s : Int32 × zM, K (.inl (.inr s)) → AX gM s_MO_sorts 2 [(0, .ref 0), (1, .int s.1)] [] s.2 Q) (h1 : ∀ s : Int32 × zM, K (.inr s) → AX gM s_MO_sorts 28 [(0, .ref 0), (1, .int v1), (2, .long v2), (4, .int v4), (5, .int s.1)] [] s.2 Q) (h : ok (f_MO_sorts_J75 v1 v2 v4 v5 m) K) : AX gM s_MO_sorts 75 [(0, .ref 0), (1, .int v1), (2, .long v2), (4, .int v4), (5, .int v5)] [] m Q := by
  unfold f_MO_sorts_J75 at h
  refine ax_aload_n 0 d_MO_sorts_75 rfl rfl 76 rfl ?_
  refine ax_getR fl_MO_96 m_0 rfl (rm_0_42 _) d_MO_sorts_76 79 rfl ?_
  refine ax_iload 4 d_MO_sorts_79 rfl 81 rfl ?_
  refine ax_aload_n 0 d_MO_sorts_81 rfl rfl 82 rfl ?_
  refine ax_getR fl_MO_96 m_0 rfl (rm_0_42 _) d_MO_sorts_82 85 rfl ?_
  refine ax_iload 4 d_MO_sorts_85 rfl 87 rfl ?_
  refine ax_iconst 1 d_MO_sorts_87 ic_1 88 rfl ?_
  refine ax_isub d_MO_sorts_88 89 rfl ?_
  refine ax_laload m_27 d_MO_sorts_89 90 rfl h (fun i13 h => ?_)
  refine ax_lastore m_27 d_MO_sorts_90 91 rfl h (fun i14 m15 h => ?_)
  refine ax_aload_n 0 d_MO_sorts_91 rfl rfl 92 rfl ?_
  refine ax_getR fl_MO_100 m_0 rfl (rm_0_43 _) d_MO_sorts_92 95 rfl ?_
  refine ax_iload 4 d_MO_sorts_95 rfl 97 rfl ?_
  refine ax_aload_n 0 d_MO_sorts_97 rfl rfl 98 rfl ?_
  refine ax_getR fl_MO_100 m_0 rfl (rm_0_43 _) d_MO_sorts_98 101 rfl ?_
  refine ax_iload 4 d_MO_sorts_101 rfl 103 rfl ?_
  refine ax_iconst 1 d_MO_sorts_103 ic_1 104 rfl ?_
  refine ax_isub d_MO_sorts_104 105 rfl ?_
  refine ax_iaload m_28 d_MO_sorts_105 106 rfl h (fun i16 h => ?_)
  refine ax_iastore m_28 d_MO_sorts_106 107 rfl h (fun i17 m18 h => ?_)
  refine ax_iinc (ls1 := [(5, .int (v5 + (-1))), (0, .ref 0), (1, .int v1), (2, .long v2), (4, .int v4)]) 4 (-1) d_MO_sorts_107 rfl ic_m1 (Nat.le_of_ble_eq_true rfl) rfl 110 rfl ?_
  refine ax_goto 28 d_MO_sorts_110 rfl ?_
  exact ax_sub [1, 2, 3, 4, 0] rfl (h1 ((v5 + (-1)), m18) (ok_some h))
set_option maxRecDepth 4000 in
theorem c_MO_sorts_B28 (v1 : Int32) (v2 : Int64) (v4 : Int32) (v5 : Int32) (m : zM)  {Q : Option Value → zM → Prop} {K : (((zM) ⊕ (Int32 × zM)) ⊕ (Int32 × zM)) → Prop} (hR : ∀ p : zM, K (.inl (.inl p)) → Q none p) (h0 : ∀ s : Int32 × zM, K (.inl (.inr s)) → AX gM s_MO_sorts 2 [(0, .ref 0), (1, .int s.1)] [] s.2 Q) (h1 : ∀ s : Int32 × zM, K (.inr s) → AX gM s_MO_sorts 28 [(0, .ref 0), (1, .int v1), (2, .long v2), (4, .int v4), (5, .int s.1)] [] s.2 Q) (h : ok (f_MO_sorts_B28 v1 v2 v4 v5 m) K) : AX gM s_MO_sorts 28 [(0, .ref 0), (1, .int v1), (2, .long v2), (4, .int v4), (5, .int v5)] [] m Q := by
  unfold f_MO_sorts_B28 at h
  refine ax_iload 4 d_MO_sorts_28 rfl 30 rfl ?_
  refine ax_if_le 113 33 d_MO_sorts_30 rfl rfl (fun hc => ?_) (fun hc => ?_)
  · have h := ok_t hc h
    exact ax_sub [0, 1, 2, 3, 4] rfl (c_MO_sorts_J113 v1 v2 v4 v5 m (fun p hp => hR p hp) (fun s hs => h0 s hs) (ok_z h))
  · have h := ok_f hc h
    refine ax_aload_n 0 d_MO_sorts_33 rfl rfl 34 rfl ?_
    refine ax_getR fl_MO_100 m_0 rfl (rm_0_43 _) d_MO_sorts_34 37 rfl ?_
    refine ax_iload 4 d_MO_sorts_37 rfl 39 rfl ?_
    refine ax_iconst 1 d_MO_sorts_39 ic_1 40 rfl ?_
    refine ax_isub d_MO_sorts_40 41 rfl ?_
    refine ax_iaload m_28 d_MO_sorts_41 42 rfl h (fun i6 h => ?_)
    refine ax_iload 3 d_MO_sorts_42 rfl 44 rfl ?_
    refine ax_icmp_gt 75 47 d_MO_sorts_44 rfl rfl (fun hc => ?_) (fun hc => ?_)
    · have h := ok_t hc h
      exact ax_sub [0, 1, 2, 3, 4] rfl (c_MO_sorts_J75 v1 v2 v4 v5 m (fun p hp => hR p hp) (fun s hs => h0 s hs) (fun s hs => h1 s hs) h)
    · have h := ok_f hc h
      refine ax_aload_n 0 d_MO_sorts_47 rfl rfl 48 rfl ?_
      refine ax_getR fl_MO_100 m_0 rfl (rm_0_43 _) d_MO_sorts_48 51 rfl ?_
      refine ax_iload 4 d_MO_sorts_51 rfl 53 rfl ?_
      refine ax_iconst 1 d_MO_sorts_53 ic_1 54 rfl ?_
      refine ax_isub d_MO_sorts_54 55 rfl ?_
      refine ax_iaload m_28 d_MO_sorts_55 56 rfl h (fun i7 h => ?_)
      refine ax_iload 3 d_MO_sorts_56 rfl 58 rfl ?_
      refine ax_icmp_ne 113 61 d_MO_sorts_58 rfl rfl (fun hc => ?_) (fun hc => ?_)
      · have h := ok_f hc h
        exact ax_sub [0, 1, 2, 3, 4] rfl (c_MO_sorts_J113 v1 v2 v4 v5 m (fun p hp => hR p hp) (fun s hs => h0 s hs) (ok_z h))
      · have h := ok_t hc h
        refine ax_aload_n 0 d_MO_sorts_61 rfl rfl 62 rfl ?_
        refine ax_getR fl_MO_96 m_0 rfl (rm_0_42 _) d_MO_sorts_62 65 rfl ?_
        refine ax_iload 4 d_MO_sorts_65 rfl 67 rfl ?_
        refine ax_iconst 1 d_MO_sorts_67 ic_1 68 rfl ?_
        refine ax_isub d_MO_sorts_68 69 rfl ?_
        refine ax_laload m_27 d_MO_sorts_69 70 rfl h (fun i8 h => ?_)
        refine ax_lload_n 2 d_MO_sorts_70 rfl rfl 71 rfl ?_
        refine ax_lcmp d_MO_sorts_71 72 rfl ?_
        refine ax_if_le 113 75 d_MO_sorts_72 rfl rfl (fun hc => ?_) (fun hc => ?_)
        · have h := ok_t hc h
          exact ax_sub [0, 1, 2, 3, 4] rfl (c_MO_sorts_J113 v1 v2 v4 v5 m (fun p hp => hR p hp) (fun s hs => h0 s hs) (ok_z h))
        · have h := ok_f hc h
          exact ax_sub [0, 1, 2, 3, 4] rfl (c_MO_sorts_J75 v1 v2 v4 v5 m (fun p hp => hR p hp) (fun s hs => h0 s hs) (fun s hs => h1 s hs) h)
theorem c_MO_sorts_L28 (v1 : Int32) (v2 : Int64) (v4 : Int32) (v5 : Int32) (m : zM)  {Q : Option Value → zM → Prop} {K : ((zM) ⊕ (Int32 × zM)) → Prop} (hR : ∀ p : zM, K (.inl p) → Q none p) (h0 : ∀ s : Int32 × zM, K (.inr s) → AX gM s_MO_sorts 2 [(0, .ref 0), (1, .int s.1)] [] s.2 Q) (h : ok (f_MO_sorts_L28 v1 v2 v4 v5 m) K) : AX gM s_MO_sorts 28 [(0, .ref 0), (1, .int v1), (2, .long v2), (4, .int v4), (5, .int v5)] [] m Q :=
  ok_lp (K := K) (G := fun s : Int32 × zM => AX gM s_MO_sorts 28 [(0, .ref 0), (1, .int v1), (2, .long v2), (4, .int v4), (5, .int s.1)] [] s.2 Q) (fun s h => c_MO_sorts_B28 v1 v2 v4 s.1 s.2  (fun p hp => hR p hp) (fun s hs => h0 s hs) (fun s hs => hs) h) FU (v5, m) h
set_option maxRecDepth 4000 in
theorem c_MO_sorts_B2 (v1 : Int32) (m : zM)  {Q : Option Value → zM → Prop} {K : ((zM) ⊕ (Int32 × zM)) → Prop} (hR : ∀ p : zM, K (.inl p) → Q none p) (h0 : ∀ s : Int32 × zM, K (.inr s) → AX gM s_MO_sorts 2 [(0, .ref 0), (1, .int s.1)] [] s.2 Q) (h : ok (f_MO_sorts_B2 v1 m) K) : AX gM s_MO_sorts 2 [(0, .ref 0), (1, .int v1)] [] m Q := by
  unfold f_MO_sorts_B2 at h
  refine ax_iload_n 1 d_MO_sorts_2 rfl rfl 3 rfl ?_
  refine ax_aload_n 0 d_MO_sorts_3 rfl rfl 4 rfl ?_
  refine ax_getI fl_MO_380 m_0 rfl d_MO_sorts_4 7 rfl ?_
  refine ax_icmp_ge 136 10 d_MO_sorts_7 rfl rfl (fun hc => ?_) (fun hc => ?_)
  · have h := ok_t hc h
    exact ax_sub [0] rfl (c_MO_sorts_J136 m (fun p hp => hR p hp) (ok_z h))
  · have h := ok_f hc h
    refine ax_aload_n 0 d_MO_sorts_10 rfl rfl 11 rfl ?_
    refine ax_getR fl_MO_96 m_0 rfl (rm_0_42 _) d_MO_sorts_11 14 rfl ?_
    refine ax_iload_n 1 d_MO_sorts_14 rfl rfl 15 rfl ?_
    refine ax_laload m_27 d_MO_sorts_15 16 rfl h (fun i1 h => ?_)
    refine ax_lstore_n (ls1 := [(2, .long (m.2.1 27 i1)), (0, .ref 0), (1, .int v1)]) d_MO_sorts_16 rfl (Nat.le_of_ble_eq_true rfl) rfl 17 rfl ?_
    refine ax_aload_n 1 d_MO_sorts_17 rfl rfl 18 rfl ?_
    refine ax_getR fl_MO_100 m_0 rfl (rm_0_43 _) d_MO_sorts_18 21 rfl ?_
    refine ax_iload_n 2 d_MO_sorts_21 rfl rfl 22 rfl ?_
    refine ax_iaload m_28 d_MO_sorts_22 23 rfl h (fun i2 h => ?_)
    refine ax_istore (ls1 := [(4, .int (m.1 28 i2)), (2, .long (m.2.1 27 i1)), (0, .ref 0), (1, .int v1)]) d_MO_sorts_23 (Nat.le_of_ble_eq_true rfl) rfl 25 rfl ?_
    refine ax_iload_n 3 d_MO_sorts_25 rfl rfl 26 rfl ?_
    refine ax_istore (ls1 := [(5, .int v1), (4, .int (m.1 28 i2)), (2, .long (m.2.1 27 i1)), (0, .ref 0), (1, .int v1)]) d_MO_sorts_26 (Nat.le_of_ble_eq_true rfl) rfl 28 rfl ?_
    exact ax_sub [3, 4, 2, 1, 0] rfl (c_MO_sorts_L28 v1 (m.2.1 27 i1) (m.1 28 i2) v1 m (fun p hp => hR p hp) (fun s hs => h0 s hs) h)
theorem c_MO_sorts_L2 (v1 : Int32) (m : zM)  {Q : Option Value → zM → Prop} {K : zM → Prop} (hR : ∀ p : zM, K (p) → Q none p)  (h : ok (f_MO_sorts_L2 v1 m) K) : AX gM s_MO_sorts 2 [(0, .ref 0), (1, .int v1)] [] m Q :=
  ok_lp (K := K) (G := fun s : Int32 × zM => AX gM s_MO_sorts 2 [(0, .ref 0), (1, .int s.1)] [] s.2 Q) (fun s h => c_MO_sorts_B2 s.1 s.2  (fun p hp => hR p hp) (fun s hs => hs) h) FU (v1, m) h
set_option maxRecDepth 4000 in
theorem zc_MO_sorts  (m : zM)  {Q : Option Value → zM → Prop} (h : ok (f_MO_sorts m) (fun p => Q none p)) : zc gM s_MO_sorts [.ref 0] m Q := by
  refine zc_of rfl (Nat.le_of_ble_eq_true rfl) ?_
  show AX gM s_MO_sorts 0 [(0, .ref 0)] [] m Q
  obtain ⟨K, hK⟩ : ∃ K : zM → Prop, K = (fun p : zM => Q none p) := ⟨_, rfl⟩
  have hR : ∀ p : zM, K p → Q none p := fun p hp => by rw [hK] at hp; exact hp
  replace h : ok (f_MO_sorts m) (fun p : zM => Q none p) := h
  rw [← hK] at h
  unfold f_MO_sorts at h
  refine ax_iconst 1 d_MO_sorts_0 ic_1 1 rfl ?_
  refine ax_istore_n (ls1 := [(1, .int 1), (0, .ref 0)]) d_MO_sorts_1 rfl (Nat.le_of_ble_eq_true rfl) rfl 2 rfl ?_
  exact ax_sub [1, 0] rfl (c_MO_sorts_L2 1 m (fun p hp => hR p hp) h)
set_option maxRecDepth 4000 in
theorem c_MO_leads0_J112 (v1 : Int32) (v2 : Int32) (m : zM)  {Q : Option Value → zM → Prop} {K : ((zM) ⊕ (Int32 × zM)) → Prop} (hR : ∀ p : zM, K (.inl p) → Q none p) (h0 : ∀ s : Int32 × zM, K (.inr s) → AX gM s_MO_leads0 2 [(0, .ref 0), (1, .int v1), (2, .int s.1)] [] s.2 Q) (h : ok (f_MO_leads0_J112 v1 v2 m) K) : AX gM s_MO_leads0 112 [(0, .ref 0), (1, .int v1), (2, .int v2)] [] m Q := by
  unfold f_MO_leads0_J112 at h
  refine ax_iinc (ls1 := [(2, .int (v2 + 1)), (0, .ref 0), (1, .int v1)]) 2 1 d_MO_leads0_112 rfl ic_1 (Nat.le_of_ble_eq_true rfl) rfl 115 rfl ?_
  refine ax_goto 2 d_MO_leads0_115 rfl ?_
  exact ax_sub [1, 2, 0] rfl (h0 ((v2 + 1), m) (ok_some h))
set_option maxRecDepth 4000 in
theorem c_MO_leads0_J106 (v1 : Int32) (v2 : Int32) (v3 : Int32) (m : zM)  {Q : Option Value → zM → Prop} {K : (((zM) ⊕ (Int32 × zM)) ⊕ (Int32 × zM)) → Prop} (hR : ∀ p : zM, K (.inl (.inl p)) → Q none p) (h0 : ∀ s : Int32 × zM, K (.inl (.inr s)) → AX gM s_MO_leads0 2 [(0, .ref 0), (1, .int v1), (2, .int s.1)] [] s.2 Q) (h1 : ∀ s : Int32 × zM, K (.inr s) → AX gM s_MO_leads0 22 [(0, .ref 0), (1, .int v1), (2, .int v2), (3, .int s.1)] [] s.2 Q) (h : ok (f_MO_leads0_J106 v1 v2 v3 m) K) : AX gM s_MO_leads0 106 [(0, .ref 0), (1, .int v1), (2, .int v2), (3, .int v3)] [] m Q := by
  unfold f_MO_leads0_J106 at h
  refine ax_iinc (ls1 := [(3, .int (v3 + 1)), (0, .ref 0), (1, .int v1), (2, .int v2)]) 3 1 d_MO_leads0_106 rfl ic_1 (Nat.le_of_ble_eq_true rfl) rfl 109 rfl ?_
  refine ax_goto 22 d_MO_leads0_109 rfl ?_
  exact ax_sub [1, 2, 3, 0] rfl (h1 ((v3 + 1), m) (ok_some h))
set_option maxRecDepth 4000 in
theorem c_MO_leads0_B22 (v1 : Int32) (v2 : Int32) (v3 : Int32) (m : zM)  {Q : Option Value → zM → Prop} {K : (((zM) ⊕ (Int32 × zM)) ⊕ (Int32 × zM)) → Prop} (hR : ∀ p : zM, K (.inl (.inl p)) → Q none p) (h0 : ∀ s : Int32 × zM, K (.inl (.inr s)) → AX gM s_MO_leads0 2 [(0, .ref 0), (1, .int v1), (2, .int s.1)] [] s.2 Q) (h1 : ∀ s : Int32 × zM, K (.inr s) → AX gM s_MO_leads0 22 [(0, .ref 0), (1, .int v1), (2, .int v2), (3, .int s.1)] [] s.2 Q) (h : ok (f_MO_leads0_B22 v1 v2 v3 m) K) : AX gM s_MO_leads0 22 [(0, .ref 0), (1, .int v1), (2, .int v2), (3, .int v3)] [] m Q := by
  unfold f_MO_leads0_B22 at h
  refine ax_iload_n 3 d_MO_leads0_22 rfl rfl 23 rfl ?_
  refine ax_bipush 64 d_MO_leads0_23 bp_64 25 rfl ?_
  refine ax_icmp_ge 112 28 d_MO_leads0_25 rfl rfl (fun hc => ?_) (fun hc => ?_)
  · have h := ok_t hc h
    exact ax_sub [0, 1, 2] rfl (c_MO_leads0_J112 v1 v2 m (fun p hp => hR p hp) (fun s hs => h0 s hs) (ok_z h))
  · have h := ok_f hc h
    refine ax_aload_n 0 d_MO_leads0_28 rfl rfl 29 rfl ?_
    refine ax_getR fl_MO_107 m_0 rfl (rm_0_45 _) d_MO_leads0_29 32 rfl ?_
    refine ax_bipush 64 d_MO_leads0_32 bp_64 34 rfl ?_
    refine ax_iload_n 2 d_MO_leads0_34 rfl rfl 35 rfl ?_
    refine ax_imul d_MO_leads0_35 36 rfl ?_
    refine ax_iload_n 3 d_MO_leads0_36 rfl rfl 37 rfl ?_
    refine ax_iadd d_MO_leads0_37 38 rfl ?_
    refine ax_iconst (-1) d_MO_leads0_38 ic_m1 39 rfl ?_
    refine ax_iastore m_30 d_MO_leads0_39 40 rfl h (fun i3 m4 h => ?_)
    refine ax_iload_n 3 d_MO_leads0_40 rfl rfl 41 rfl ?_
    refine ax_iconst 4 d_MO_leads0_41 ic_4 42 rfl ?_
    refine ax_idiv d_MO_leads0_42 (by decide) 43 rfl ?_
    refine ax_aload_n 0 d_MO_leads0_43 rfl rfl 44 rfl ?_
    refine ax_callV mv_MO_400 ⟨Nat.le_of_ble_eq_true rfl, Nat.le_of_ble_eq_true rfl⟩ ⟨rfl, rfl⟩ [] [.ref 0, .int (v3 / 4)] rfl rfl (rc_m_0 _) (Nat.le_of_ble_eq_true rfl) d_MO_leads0_44 47 rfl (zc_MO_rules m4 (ok_b h (fun r5 h => ?_)))
    refine ax_icmp_ge 106 50 d_MO_leads0_47 rfl rfl (fun hc => ?_) (fun hc => ?_)
    · have h := ok_t hc h
      exact ax_sub [0, 1, 2, 3] rfl (c_MO_leads0_J106 v1 v2 v3 m4 (fun p hp => hR p hp) (fun s hs => h0 s hs) (fun s hs => h1 s hs) h)
    · have h := ok_f hc h
      refine ax_iload_n 3 d_MO_leads0_50 rfl rfl 51 rfl ?_
      refine ax_iconst 4 d_MO_leads0_51 ic_4 52 rfl ?_
      refine ax_idiv d_MO_leads0_52 (by decide) 53 rfl ?_
      refine ax_iload_n 1 d_MO_leads0_53 rfl rfl 54 rfl ?_
      refine ax_icmp_eq 106 57 d_MO_leads0_54 rfl rfl (fun hc => ?_) (fun hc => ?_)
      · have h := ok_t hc h
        exact ax_sub [0, 1, 2, 3] rfl (c_MO_leads0_J106 v1 v2 v3 m4 (fun p hp => hR p hp) (fun s hs => h0 s hs) (fun s hs => h1 s hs) h)
      · have h := ok_f hc h
        refine ax_iload_n 3 d_MO_leads0_57 rfl rfl 58 rfl ?_
        refine ax_iconst 4 d_MO_leads0_58 ic_4 59 rfl ?_
        refine ax_irem d_MO_leads0_59 (by decide) 60 rfl ?_
        refine ax_aload_n 0 d_MO_leads0_60 rfl rfl 61 rfl ?_
        refine ax_callV mv_MO_358 ⟨Nat.le_of_ble_eq_true rfl, Nat.le_of_ble_eq_true rfl⟩ ⟨rfl, rfl⟩ [] [.ref 0, .int (ir v3 4)] rfl rfl (rc_m_0 _) (Nat.le_of_ble_eq_true rfl) d_MO_leads0_61 64 rfl (zc_MO_agents m4 (ok_b h (fun r6 h => ?_)))
        refine ax_icmp_ge 106 67 d_MO_leads0_64 rfl rfl (fun hc => ?_) (fun hc => ?_)
        · have h := ok_t hc h
          exact ax_sub [0, 1, 2, 3] rfl (c_MO_leads0_J106 v1 v2 v3 m4 (fun p hp => hR p hp) (fun s hs => h0 s hs) (fun s hs => h1 s hs) h)
        · have h := ok_f hc h
          refine ax_aload_n 0 d_MO_leads0_67 rfl rfl 68 rfl ?_
          refine ax_iload_n 3 d_MO_leads0_68 rfl rfl 69 rfl ?_
          refine ax_iconst 4 d_MO_leads0_69 ic_4 70 rfl ?_
          refine ax_idiv d_MO_leads0_70 (by decide) 71 rfl ?_
          refine ax_iload_n 3 d_MO_leads0_71 rfl rfl 72 rfl ?_
          refine ax_iconst 4 d_MO_leads0_72 ic_4 73 rfl ?_
          refine ax_irem d_MO_leads0_73 (by decide) 74 rfl ?_
          refine ax_callV mv_MO_419 ⟨Nat.le_of_ble_eq_true rfl, Nat.le_of_ble_eq_true rfl⟩ ⟨rfl, rfl⟩ [.int (v3 / 4), .int (ir v3 4)] [.int (ir v3 4), .int (v3 / 4), .ref 0] rfl rfl (rc_m_0 _) (Nat.le_of_ble_eq_true rfl) d_MO_leads0_74 77 rfl (zc_MO_isMoved (v3 / 4) (ir v3 4) m4 (ok_b h (fun p7 h => ?_)))
          refine ax_ifb_ne 83 80 d_MO_leads0_77 rfl rfl (fun hc => ?_) (fun hc => ?_)
          · have h := ok_t hc h
            refine ax_aload_n 0 d_MO_leads0_83 rfl rfl 84 rfl ?_
            refine ax_callV mv_MO_422 ⟨Nat.le_of_ble_eq_true rfl, Nat.le_of_ble_eq_true rfl⟩ ⟨rfl, rfl⟩ [] [.ref 0] rfl rfl (rc_m_0 _) (Nat.le_of_ble_eq_true rfl) d_MO_leads0_84 87 rfl (zc_MO_folds p7.2 (ok_b h (fun p8 h => ?_)))
            refine ax_aload_n 0 d_MO_leads0_87 rfl rfl 88 rfl ?_
            refine ax_getR fl_MO_107 m_0 rfl (rm_0_45 _) d_MO_leads0_88 91 rfl ?_
            refine ax_bipush 64 d_MO_leads0_91 bp_64 93 rfl ?_
            refine ax_iload_n 2 d_MO_leads0_93 rfl rfl 94 rfl ?_
            refine ax_imul d_MO_leads0_94 95 rfl ?_
            refine ax_iload_n 3 d_MO_leads0_95 rfl rfl 96 rfl ?_
            refine ax_iadd d_MO_leads0_96 97 rfl ?_
            refine ax_aload_n 0 d_MO_leads0_97 rfl rfl 98 rfl ?_
            refine ax_aload_n 0 d_MO_leads0_98 rfl rfl 99 rfl ?_
            refine ax_callV mv_MO_392 ⟨Nat.le_of_ble_eq_true rfl, Nat.le_of_ble_eq_true rfl⟩ ⟨rfl, rfl⟩ [] [.ref 0, .ref 0, .int ((64 * v2) + v3), .ref 30] rfl rfl (rc_m_0 _) (Nat.le_of_ble_eq_true rfl) d_MO_leads0_99 102 rfl (zc_MO_shut p8 (ok_b h (fun r9 h => ?_)))
            refine ax_callV mv_MO_383 ⟨Nat.le_of_ble_eq_true rfl, Nat.le_of_ble_eq_true rfl⟩ ⟨rfl, rfl⟩ [.long r9] [.long r9, .ref 0, .int ((64 * v2) + v3), .ref 30] rfl rfl (rc_m_0 _) (Nat.le_of_ble_eq_true rfl) d_MO_leads0_102 105 rfl (zc_MO_found r9 p8 (ok_b h (fun r10 h => ?_)))
            refine ax_iastore m_30 d_MO_leads0_105 106 rfl h (fun i11 m12 h => ?_)
            exact ax_sub [0, 1, 2, 3] rfl (c_MO_leads0_J106 v1 v2 v3 m12 (fun p hp => hR p hp) (fun s hs => h0 s hs) (fun s hs => h1 s hs) h)
          · have h := ok_f (bf hc) h
            refine ax_goto 106 d_MO_leads0_80 rfl ?_
            exact ax_sub [0, 1, 2, 3] rfl (c_MO_leads0_J106 v1 v2 v3 p7.2 (fun p hp => hR p hp) (fun s hs => h0 s hs) (fun s hs => h1 s hs) h)
theorem c_MO_leads0_L22 (v1 : Int32) (v2 : Int32) (v3 : Int32) (m : zM)  {Q : Option Value → zM → Prop} {K : ((zM) ⊕ (Int32 × zM)) → Prop} (hR : ∀ p : zM, K (.inl p) → Q none p) (h0 : ∀ s : Int32 × zM, K (.inr s) → AX gM s_MO_leads0 2 [(0, .ref 0), (1, .int v1), (2, .int s.1)] [] s.2 Q) (h : ok (f_MO_leads0_L22 v1 v2 v3 m) K) : AX gM s_MO_leads0 22 [(0, .ref 0), (1, .int v1), (2, .int v2), (3, .int v3)] [] m Q :=
  ok_lp (K := K) (G := fun s : Int32 × zM => AX gM s_MO_leads0 22 [(0, .ref 0), (1, .int v1), (2, .int v2), (3, .int s.1)] [] s.2 Q) (fun s h => c_MO_leads0_B22 v1 v2 s.1 s.2  (fun p hp => hR p hp) (fun s hs => h0 s hs) (fun s hs => hs) h) FU (v3, m) h
set_option maxRecDepth 4000 in
theorem c_MO_leads0_B2 (v1 : Int32) (v2 : Int32) (m : zM)  {Q : Option Value → zM → Prop} {K : ((zM) ⊕ (Int32 × zM)) → Prop} (hR : ∀ p : zM, K (.inl p) → Q none p) (h0 : ∀ s : Int32 × zM, K (.inr s) → AX gM s_MO_leads0 2 [(0, .ref 0), (1, .int v1), (2, .int s.1)] [] s.2 Q) (h : ok (f_MO_leads0_B2 v1 v2 m) K) : AX gM s_MO_leads0 2 [(0, .ref 0), (1, .int v1), (2, .int v2)] [] m Q := by
  unfold f_MO_leads0_B2 at h
  refine ax_iload_n 2 d_MO_leads0_2 rfl rfl 3 rfl ?_
  refine ax_aload_n 0 d_MO_leads0_3 rfl rfl 4 rfl ?_
  refine ax_getI fl_MO_380 m_0 rfl d_MO_leads0_4 7 rfl ?_
  refine ax_icmp_ge 118 10 d_MO_leads0_7 rfl rfl (fun hc => ?_) (fun hc => ?_)
  · have h := ok_t hc h
    exact ax_vret rfl d_MO_leads0_118 (hR m (ok_some h))
  · have h := ok_f hc h
    refine ax_aload_n 0 d_MO_leads0_10 rfl rfl 11 rfl ?_
    refine ax_aload_n 0 d_MO_leads0_11 rfl rfl 12 rfl ?_
    refine ax_getR fl_MO_96 m_0 rfl (rm_0_42 _) d_MO_leads0_12 15 rfl ?_
    refine ax_iload_n 2 d_MO_leads0_15 rfl rfl 16 rfl ?_
    refine ax_laload m_27 d_MO_leads0_16 17 rfl h (fun i1 h => ?_)
    refine ax_callV mv_MO_415 ⟨Nat.le_of_ble_eq_true rfl, Nat.le_of_ble_eq_true rfl⟩ ⟨rfl, rfl⟩ [.long (m.2.1 27 i1)] [.long (m.2.1 27 i1), .ref 0] rfl rfl (rc_m_0 _) (Nat.le_of_ble_eq_true rfl) d_MO_leads0_17 20 rfl (zc_MO_opens (m.2.1 27 i1) m (ok_b h (fun p2 h => ?_)))
    refine ax_iconst 0 d_MO_leads0_20 ic_0 21 rfl ?_
    refine ax_istore_n (ls1 := [(3, .int 0), (0, .ref 0), (1, .int v1), (2, .int v2)]) d_MO_leads0_21 rfl (Nat.le_of_ble_eq_true rfl) rfl 22 rfl ?_
    exact ax_sub [1, 2, 3, 0] rfl (c_MO_leads0_L22 v1 v2 0 p2 (fun p hp => hR p hp) (fun s hs => h0 s hs) h)
theorem c_MO_leads0_L2 (v1 : Int32) (v2 : Int32) (m : zM)  {Q : Option Value → zM → Prop} {K : zM → Prop} (hR : ∀ p : zM, K (p) → Q none p)  (h : ok (f_MO_leads0_L2 v1 v2 m) K) : AX gM s_MO_leads0 2 [(0, .ref 0), (1, .int v1), (2, .int v2)] [] m Q :=
  ok_lp (K := K) (G := fun s : Int32 × zM => AX gM s_MO_leads0 2 [(0, .ref 0), (1, .int v1), (2, .int s.1)] [] s.2 Q) (fun s h => c_MO_leads0_B2 v1 s.1 s.2  (fun p hp => hR p hp) (fun s hs => hs) h) FU (v2, m) h
set_option maxRecDepth 4000 in
theorem zc_MO_leads0 (v1 : Int32) (m : zM)  {Q : Option Value → zM → Prop} (h : ok (f_MO_leads0 v1 m) (fun p => Q none p)) : zc gM s_MO_leads0 [.ref 0, .int v1] m Q := by
  refine zc_of rfl (Nat.le_of_ble_eq_true rfl) ?_
  show AX gM s_MO_leads0 0 [(0, .ref 0), (1, .int v1)] [] m Q
  obtain ⟨K, hK⟩ : ∃ K : zM → Prop, K = (fun p : zM => Q none p) := ⟨_, rfl⟩
  have hR : ∀ p : zM, K p → Q none p := fun p hp => by rw [hK] at hp; exact hp
  replace h : ok (f_MO_leads0 v1 m) (fun p : zM => Q none p) := h
  rw [← hK] at h
  unfold f_MO_leads0 at h
  refine ax_iconst 0 d_MO_leads0_0 ic_0 1 rfl ?_
  refine ax_istore_n (ls1 := [(2, .int 0), (0, .ref 0), (1, .int v1)]) d_MO_leads0_1 rfl (Nat.le_of_ble_eq_true rfl) rfl 2 rfl ?_
  exact ax_sub [1, 2, 0] rfl (c_MO_leads0_L2 v1 0 m (fun p hp => hR p hp) h)
set_option maxRecDepth 4000 in
theorem c_MO_goesThrough_J93 (v1 : Int32) (m : zM)  {Q : Option Value → zM → Prop} {K : (Bool × zM) → Prop} (hR : ∀ p : Bool × zM, K (p) → Q (some (.int (b2i p.1))) p.2)  (h : ok (f_MO_goesThrough_J93 v1 m) K) : AX gM s_MO_goesThrough 93 [(0, .ref 0), (1, .int v1)] [] m Q := by
  unfold f_MO_goesThrough_J93 at h
  refine ax_aload_n 0 d_MO_goesThrough_93 rfl rfl 94 rfl ?_
  refine ax_getI fl_MO_380 m_0 rfl d_MO_goesThrough_94 97 rfl ?_
  refine ax_sipush 600 d_MO_goesThrough_97 sp_600 100 rfl ?_
  refine ax_icmp_le 105 103 d_MO_goesThrough_100 rfl rfl (fun hc => ?_) (fun hc => ?_)
  · have h := ok_t hc h
    refine ax_aload_n 0 d_MO_goesThrough_105 rfl rfl 106 rfl ?_
    refine ax_callV mv_MO_406 ⟨Nat.le_of_ble_eq_true rfl, Nat.le_of_ble_eq_true rfl⟩ ⟨rfl, rfl⟩ [] [.ref 0] rfl rfl (rc_m_0 _) (Nat.le_of_ble_eq_true rfl) d_MO_goesThrough_106 109 rfl (zc_MO_sorts m (ok_b h (fun p7 h => ?_)))
    refine ax_aload_n 0 d_MO_goesThrough_109 rfl rfl 110 rfl ?_
    refine ax_iload_n 1 d_MO_goesThrough_110 rfl rfl 111 rfl ?_
    refine ax_callV mv_MO_409 ⟨Nat.le_of_ble_eq_true rfl, Nat.le_of_ble_eq_true rfl⟩ ⟨rfl, rfl⟩ [.int v1] [.int v1, .ref 0] rfl rfl (rc_m_0 _) (Nat.le_of_ble_eq_true rfl) d_MO_goesThrough_111 114 rfl (zc_MO_leads0 v1 p7 (ok_b h (fun p8 h => ?_)))
    refine ax_aload_n 0 d_MO_goesThrough_114 rfl rfl 115 rfl ?_
    refine ax_iload_n 1 d_MO_goesThrough_115 rfl rfl 116 rfl ?_
    refine ax_putI (K := K) fl_MO_93 m_0 rfl rfl rfl (Nat.le_of_ble_eq_true rfl) d_MO_goesThrough_116 119 rfl h (fun m9 h => ?_)
    refine ax_aload_n 0 d_MO_goesThrough_119 rfl rfl 120 rfl ?_
    refine ax_iconst 0 d_MO_goesThrough_120 ic_0 121 rfl ?_
    refine ax_putZ (K := K) fl_MO_412 m_0 (Or.inl rfl) rfl rfl rfl (Nat.le_of_ble_eq_true rfl) d_MO_goesThrough_121 124 rfl h (fun m10 h => ?_)
    refine ax_iconst 1 d_MO_goesThrough_124 ic_1 125 rfl ?_
    exact ax_zret (b := true) rfl d_MO_goesThrough_125 (hR (true, m10) (ok_some h))
  · have h := ok_f hc h
    refine ax_iconst 0 d_MO_goesThrough_103 ic_0 104 rfl ?_
    exact ax_zret (b := false) rfl d_MO_goesThrough_104 (hR (false, m) (ok_some h))
set_option maxRecDepth 4000 in
theorem c_MO_goesThrough_J87 (v1 : Int32) (v2 : Int32) (m : zM)  {Q : Option Value → zM → Prop} {K : ((Bool × zM) ⊕ (Int32 × zM)) → Prop} (hR : ∀ p : Bool × zM, K (.inl p) → Q (some (.int (b2i p.1))) p.2) (h0 : ∀ s : Int32 × zM, K (.inr s) → AX gM s_MO_goesThrough 42 [(0, .ref 0), (1, .int v1), (2, .int s.1)] [] s.2 Q) (h : ok (f_MO_goesThrough_J87 v1 v2 m) K) : AX gM s_MO_goesThrough 87 [(0, .ref 0), (1, .int v1), (2, .int v2)] [] m Q := by
  unfold f_MO_goesThrough_J87 at h
  refine ax_iinc (ls1 := [(2, .int (v2 + 1)), (0, .ref 0), (1, .int v1)]) 2 1 d_MO_goesThrough_87 rfl ic_1 (Nat.le_of_ble_eq_true rfl) rfl 90 rfl ?_
  refine ax_goto 42 d_MO_goesThrough_90 rfl ?_
  exact ax_sub [1, 2, 0] rfl (h0 ((v2 + 1), m) (ok_some h))
set_option maxRecDepth 4000 in
theorem c_MO_goesThrough_J81 (v1 : Int32) (v2 : Int32) (v3 : Int32) (m : zM)  {Q : Option Value → zM → Prop} {K : (((Bool × zM) ⊕ (Int32 × zM)) ⊕ (Int32 × zM)) → Prop} (hR : ∀ p : Bool × zM, K (.inl (.inl p)) → Q (some (.int (b2i p.1))) p.2) (h0 : ∀ s : Int32 × zM, K (.inl (.inr s)) → AX gM s_MO_goesThrough 42 [(0, .ref 0), (1, .int v1), (2, .int s.1)] [] s.2 Q) (h1 : ∀ s : Int32 × zM, K (.inr s) → AX gM s_MO_goesThrough 62 [(0, .ref 0), (1, .int v1), (2, .int v2), (3, .int s.1)] [] s.2 Q) (h : ok (f_MO_goesThrough_J81 v1 v2 v3 m) K) : AX gM s_MO_goesThrough 81 [(0, .ref 0), (1, .int v1), (2, .int v2), (3, .int v3)] [] m Q := by
  unfold f_MO_goesThrough_J81 at h
  refine ax_iinc (ls1 := [(3, .int (v3 + 1)), (0, .ref 0), (1, .int v1), (2, .int v2)]) 3 1 d_MO_goesThrough_81 rfl ic_1 (Nat.le_of_ble_eq_true rfl) rfl 84 rfl ?_
  refine ax_goto 62 d_MO_goesThrough_84 rfl ?_
  exact ax_sub [1, 2, 3, 0] rfl (h1 ((v3 + 1), m) (ok_some h))
set_option maxRecDepth 4000 in
theorem c_MO_goesThrough_B62 (v1 : Int32) (v2 : Int32) (v3 : Int32) (m : zM)  {Q : Option Value → zM → Prop} {K : (((Bool × zM) ⊕ (Int32 × zM)) ⊕ (Int32 × zM)) → Prop} (hR : ∀ p : Bool × zM, K (.inl (.inl p)) → Q (some (.int (b2i p.1))) p.2) (h0 : ∀ s : Int32 × zM, K (.inl (.inr s)) → AX gM s_MO_goesThrough 42 [(0, .ref 0), (1, .int v1), (2, .int s.1)] [] s.2 Q) (h1 : ∀ s : Int32 × zM, K (.inr s) → AX gM s_MO_goesThrough 62 [(0, .ref 0), (1, .int v1), (2, .int v2), (3, .int s.1)] [] s.2 Q) (h : ok (f_MO_goesThrough_B62 v1 v2 v3 m) K) : AX gM s_MO_goesThrough 62 [(0, .ref 0), (1, .int v1), (2, .int v2), (3, .int v3)] [] m Q := by
  unfold f_MO_goesThrough_B62 at h
  refine ax_iload_n 3 d_MO_goesThrough_62 rfl rfl 63 rfl ?_
  refine ax_aload_n 0 d_MO_goesThrough_63 rfl rfl 64 rfl ?_
  refine ax_callV mv_MO_400 ⟨Nat.le_of_ble_eq_true rfl, Nat.le_of_ble_eq_true rfl⟩ ⟨rfl, rfl⟩ [] [.ref 0, .int v3] rfl rfl (rc_m_0 _) (Nat.le_of_ble_eq_true rfl) d_MO_goesThrough_64 67 rfl (zc_MO_rules m (ok_b h (fun r11 h => ?_)))
  refine ax_icmp_ge 87 70 d_MO_goesThrough_67 rfl rfl (fun hc => ?_) (fun hc => ?_)
  · have h := ok_t hc h
    exact ax_sub [0, 1, 2] rfl (c_MO_goesThrough_J87 v1 v2 m (fun p hp => hR p hp) (fun s hs => h0 s hs) (ok_z h))
  · have h := ok_f hc h
    refine ax_iload_n 3 d_MO_goesThrough_70 rfl rfl 71 rfl ?_
    refine ax_iload_n 1 d_MO_goesThrough_71 rfl rfl 72 rfl ?_
    refine ax_icmp_eq 81 75 d_MO_goesThrough_72 rfl rfl (fun hc => ?_) (fun hc => ?_)
    · have h := ok_t hc h
      exact ax_sub [0, 1, 2, 3] rfl (c_MO_goesThrough_J81 v1 v2 v3 m (fun p hp => hR p hp) (fun s hs => h0 s hs) (fun s hs => h1 s hs) h)
    · have h := ok_f hc h
      refine ax_aload_n 0 d_MO_goesThrough_75 rfl rfl 76 rfl ?_
      refine ax_iload_n 2 d_MO_goesThrough_76 rfl rfl 77 rfl ?_
      refine ax_iload_n 3 d_MO_goesThrough_77 rfl rfl 78 rfl ?_
      refine ax_callV mv_MO_403 ⟨Nat.le_of_ble_eq_true rfl, Nat.le_of_ble_eq_true rfl⟩ ⟨rfl, rfl⟩ [.int v2, .int v3] [.int v3, .int v2, .ref 0] rfl rfl (rc_m_0 _) (Nat.le_of_ble_eq_true rfl) d_MO_goesThrough_78 81 rfl (zc_MO_comesBy v2 v3 m (ok_b h (fun p12 h => ?_)))
      exact ax_sub [0, 1, 2, 3] rfl (c_MO_goesThrough_J81 v1 v2 v3 p12 (fun p hp => hR p hp) (fun s hs => h0 s hs) (fun s hs => h1 s hs) h)
theorem c_MO_goesThrough_L62 (v1 : Int32) (v2 : Int32) (v3 : Int32) (m : zM)  {Q : Option Value → zM → Prop} {K : ((Bool × zM) ⊕ (Int32 × zM)) → Prop} (hR : ∀ p : Bool × zM, K (.inl p) → Q (some (.int (b2i p.1))) p.2) (h0 : ∀ s : Int32 × zM, K (.inr s) → AX gM s_MO_goesThrough 42 [(0, .ref 0), (1, .int v1), (2, .int s.1)] [] s.2 Q) (h : ok (f_MO_goesThrough_L62 v1 v2 v3 m) K) : AX gM s_MO_goesThrough 62 [(0, .ref 0), (1, .int v1), (2, .int v2), (3, .int v3)] [] m Q :=
  ok_lp (K := K) (G := fun s : Int32 × zM => AX gM s_MO_goesThrough 62 [(0, .ref 0), (1, .int v1), (2, .int v2), (3, .int s.1)] [] s.2 Q) (fun s h => c_MO_goesThrough_B62 v1 v2 s.1 s.2  (fun p hp => hR p hp) (fun s hs => h0 s hs) (fun s hs => hs) h) FU (v3, m) h
set_option maxRecDepth 4000 in
theorem c_MO_goesThrough_B42 (v1 : Int32) (v2 : Int32) (m : zM)  {Q : Option Value → zM → Prop} {K : ((Bool × zM) ⊕ (Int32 × zM)) → Prop} (hR : ∀ p : Bool × zM, K (.inl p) → Q (some (.int (b2i p.1))) p.2) (h0 : ∀ s : Int32 × zM, K (.inr s) → AX gM s_MO_goesThrough 42 [(0, .ref 0), (1, .int v1), (2, .int s.1)] [] s.2 Q) (h : ok (f_MO_goesThrough_B42 v1 v2 m) K) : AX gM s_MO_goesThrough 42 [(0, .ref 0), (1, .int v1), (2, .int v2)] [] m Q := by
  unfold f_MO_goesThrough_B42 at h
  refine ax_iload_n 2 d_MO_goesThrough_42 rfl rfl 43 rfl ?_
  refine ax_aload_n 0 d_MO_goesThrough_43 rfl rfl 44 rfl ?_
  refine ax_getI fl_MO_380 m_0 rfl d_MO_goesThrough_44 47 rfl ?_
  refine ax_icmp_ge 93 50 d_MO_goesThrough_47 rfl rfl (fun hc => ?_) (fun hc => ?_)
  · have h := ok_t hc h
    exact ax_sub [0, 1] rfl (c_MO_goesThrough_J93 v1 m (fun p hp => hR p hp) (ok_z h))
  · have h := ok_f hc h
    refine ax_aload_n 0 d_MO_goesThrough_50 rfl rfl 51 rfl ?_
    refine ax_getI fl_MO_380 m_0 rfl d_MO_goesThrough_51 54 rfl ?_
    refine ax_sipush 600 d_MO_goesThrough_54 sp_600 57 rfl ?_
    refine ax_icmp_gt 93 60 d_MO_goesThrough_57 rfl rfl (fun hc => ?_) (fun hc => ?_)
    · have h := ok_t hc h
      exact ax_sub [0, 1] rfl (c_MO_goesThrough_J93 v1 m (fun p hp => hR p hp) (ok_z h))
    · have h := ok_f hc h
      refine ax_iconst 0 d_MO_goesThrough_60 ic_0 61 rfl ?_
      refine ax_istore_n (ls1 := [(3, .int 0), (0, .ref 0), (1, .int v1), (2, .int v2)]) d_MO_goesThrough_61 rfl (Nat.le_of_ble_eq_true rfl) rfl 62 rfl ?_
      exact ax_sub [1, 2, 3, 0] rfl (c_MO_goesThrough_L62 v1 v2 0 m (fun p hp => hR p hp) (fun s hs => h0 s hs) h)
theorem c_MO_goesThrough_L42 (v1 : Int32) (v2 : Int32) (m : zM)  {Q : Option Value → zM → Prop} {K : (Bool × zM) → Prop} (hR : ∀ p : Bool × zM, K (p) → Q (some (.int (b2i p.1))) p.2)  (h : ok (f_MO_goesThrough_L42 v1 v2 m) K) : AX gM s_MO_goesThrough 42 [(0, .ref 0), (1, .int v1), (2, .int v2)] [] m Q :=
  ok_lp (K := K) (G := fun s : Int32 × zM => AX gM s_MO_goesThrough 42 [(0, .ref 0), (1, .int v1), (2, .int s.1)] [] s.2 Q) (fun s h => c_MO_goesThrough_B42 v1 s.1 s.2  (fun p hp => hR p hp) (fun s hs => hs) h) FU (v2, m) h
set_option maxRecDepth 4000 in
theorem c_MO_goesThrough_J27 (v1 : Int32) (m : zM)  {Q : Option Value → zM → Prop} {K : (Bool × zM) → Prop} (hR : ∀ p : Bool × zM, K (p) → Q (some (.int (b2i p.1))) p.2)  (h : ok (f_MO_goesThrough_J27 v1 m) K) : AX gM s_MO_goesThrough 27 [(0, .ref 0), (1, .int v1)] [] m Q := by
  unfold f_MO_goesThrough_J27 at h
  refine ax_aload_n 0 d_MO_goesThrough_27 rfl rfl 28 rfl ?_
  refine ax_callV mv_MO_389 ⟨Nat.le_of_ble_eq_true rfl, Nat.le_of_ble_eq_true rfl⟩ ⟨rfl, rfl⟩ [] [.ref 0] rfl rfl (rc_m_0 _) (Nat.le_of_ble_eq_true rfl) d_MO_goesThrough_28 31 rfl (zc_MO_opensFirst m (ok_b h (fun p4 h => ?_)))
  refine ax_aload_n 0 d_MO_goesThrough_31 rfl rfl 32 rfl ?_
  refine ax_aload_n 0 d_MO_goesThrough_32 rfl rfl 33 rfl ?_
  refine ax_callV mv_MO_392 ⟨Nat.le_of_ble_eq_true rfl, Nat.le_of_ble_eq_true rfl⟩ ⟨rfl, rfl⟩ [] [.ref 0, .ref 0] rfl rfl (rc_m_0 _) (Nat.le_of_ble_eq_true rfl) d_MO_goesThrough_33 36 rfl (zc_MO_shut p4 (ok_b h (fun r5 h => ?_)))
  refine ax_iconst 0 d_MO_goesThrough_36 ic_0 37 rfl ?_
  refine ax_callV mv_MO_396 ⟨Nat.le_of_ble_eq_true rfl, Nat.le_of_ble_eq_true rfl⟩ ⟨rfl, rfl⟩ [.long r5, .int 0] [.int 0, .long r5, .ref 0] rfl rfl (rc_m_0 _) (Nat.le_of_ble_eq_true rfl) d_MO_goesThrough_37 40 rfl (zc_MO_comes r5 0 p4 (ok_b h (fun p6 h => ?_)))
  refine ax_iconst 0 d_MO_goesThrough_40 ic_0 41 rfl ?_
  refine ax_istore_n (ls1 := [(2, .int 0), (0, .ref 0), (1, .int v1)]) d_MO_goesThrough_41 rfl (Nat.le_of_ble_eq_true rfl) rfl 42 rfl ?_
  exact ax_sub [1, 2, 0] rfl (c_MO_goesThrough_L42 v1 0 p6 (fun p hp => hR p hp) h)
set_option maxRecDepth 4000 in
theorem c_MO_goesThrough_B7 (v1 : Int32) (v2 : Int32) (m : zM)  {Q : Option Value → zM → Prop} {K : ((Bool × zM) ⊕ (Int32 × zM)) → Prop} (hR : ∀ p : Bool × zM, K (.inl p) → Q (some (.int (b2i p.1))) p.2) (h0 : ∀ s : Int32 × zM, K (.inr s) → AX gM s_MO_goesThrough 7 [(0, .ref 0), (1, .int v1), (2, .int s.1)] [] s.2 Q) (h : ok (f_MO_goesThrough_B7 v1 v2 m) K) : AX gM s_MO_goesThrough 7 [(0, .ref 0), (1, .int v1), (2, .int v2)] [] m Q := by
  unfold f_MO_goesThrough_B7 at h
  refine ax_iload_n 2 d_MO_goesThrough_7 rfl rfl 8 rfl ?_
  refine ax_sipush 2048 d_MO_goesThrough_8 sp_2048 11 rfl ?_
  refine ax_icmp_ge 27 14 d_MO_goesThrough_11 rfl rfl (fun hc => ?_) (fun hc => ?_)
  · have h := ok_t hc h
    exact ax_sub [0, 1] rfl (c_MO_goesThrough_J27 v1 m (fun p hp => hR p hp) (ok_z h))
  · have h := ok_f hc h
    refine ax_aload_n 0 d_MO_goesThrough_14 rfl rfl 15 rfl ?_
    refine ax_getR fl_MO_103 m_0 rfl (rm_0_44 _) d_MO_goesThrough_15 18 rfl ?_
    refine ax_iload_n 2 d_MO_goesThrough_18 rfl rfl 19 rfl ?_
    refine ax_iconst (-1) d_MO_goesThrough_19 ic_m1 20 rfl ?_
    refine ax_iastore m_29 d_MO_goesThrough_20 21 rfl h (fun i2 m3 h => ?_)
    refine ax_iinc (ls1 := [(2, .int (v2 + 1)), (0, .ref 0), (1, .int v1)]) 2 1 d_MO_goesThrough_21 rfl ic_1 (Nat.le_of_ble_eq_true rfl) rfl 24 rfl ?_
    refine ax_goto 7 d_MO_goesThrough_24 rfl ?_
    exact ax_sub [1, 2, 0] rfl (h0 ((v2 + 1), m3) (ok_some h))
theorem c_MO_goesThrough_L7 (v1 : Int32) (v2 : Int32) (m : zM)  {Q : Option Value → zM → Prop} {K : (Bool × zM) → Prop} (hR : ∀ p : Bool × zM, K (p) → Q (some (.int (b2i p.1))) p.2)  (h : ok (f_MO_goesThrough_L7 v1 v2 m) K) : AX gM s_MO_goesThrough 7 [(0, .ref 0), (1, .int v1), (2, .int v2)] [] m Q :=
  ok_lp (K := K) (G := fun s : Int32 × zM => AX gM s_MO_goesThrough 7 [(0, .ref 0), (1, .int v1), (2, .int s.1)] [] s.2 Q) (fun s h => c_MO_goesThrough_B7 v1 s.1 s.2  (fun p hp => hR p hp) (fun s hs => hs) h) FU (v2, m) h
set_option maxRecDepth 4000 in
theorem zc_MO_goesThrough (v1 : Int32) (m : zM)  {Q : Option Value → zM → Prop} (h : ok (f_MO_goesThrough v1 m) (fun p => Q (some (.int (b2i p.1))) p.2)) : zc gM s_MO_goesThrough [.ref 0, .int v1] m Q := by
  refine zc_of rfl (Nat.le_of_ble_eq_true rfl) ?_
  show AX gM s_MO_goesThrough 0 [(0, .ref 0), (1, .int v1)] [] m Q
  obtain ⟨K, hK⟩ : ∃ K : (Bool × zM) → Prop, K = (fun p : Bool × zM => Q (some (.int (b2i p.1))) p.2) := ⟨_, rfl⟩
  have hR : ∀ p : Bool × zM, K p → Q (some (.int (b2i p.1))) p.2 := fun p hp => by rw [hK] at hp; exact hp
  replace h : ok (f_MO_goesThrough v1 m) (fun p : Bool × zM => Q (some (.int (b2i p.1))) p.2) := h
  rw [← hK] at h
  unfold f_MO_goesThrough at h
  refine ax_aload_n 0 d_MO_goesThrough_0 rfl rfl 1 rfl ?_
  refine ax_iconst 0 d_MO_goesThrough_1 ic_0 2 rfl ?_
  refine ax_putI (K := K) fl_MO_380 m_0 rfl rfl rfl (Nat.le_of_ble_eq_true rfl) d_MO_goesThrough_2 5 rfl h (fun m1 h => ?_)
  refine ax_iconst 0 d_MO_goesThrough_5 ic_0 6 rfl ?_
  refine ax_istore_n (ls1 := [(2, .int 0), (0, .ref 0), (1, .int v1)]) d_MO_goesThrough_6 rfl (Nat.le_of_ble_eq_true rfl) rfl 7 rfl ?_
  exact ax_sub [1, 2, 0] rfl (c_MO_goesThrough_L7 v1 0 m1 (fun p hp => hR p hp) h)
set_option maxRecDepth 4000 in
theorem c_MO_stands_B97 (v1 : Int32) (m : zM)  {Q : Option Value → zM → Prop} {K : ((zM) ⊕ (Int32 × zM)) → Prop} (hR : ∀ p : zM, K (.inl p) → Q none p) (h0 : ∀ s : Int32 × zM, K (.inr s) → AX gM s_MO_stands 97 [(0, .ref 0), (1, .int s.1)] [] s.2 Q) (h : ok (f_MO_stands_B97 v1 m) K) : AX gM s_MO_stands 97 [(0, .ref 0), (1, .int v1)] [] m Q := by
  unfold f_MO_stands_B97 at h
  refine ax_iload_n 1 d_MO_stands_97 rfl rfl 98 rfl ?_
  refine ax_sipush 184 d_MO_stands_98 sp_184 101 rfl ?_
  refine ax_icmp_ge 122 104 d_MO_stands_101 rfl rfl (fun hc => ?_) (fun hc => ?_)
  · have h := ok_t hc h
    exact ax_vret rfl d_MO_stands_122 (hR m (ok_some h))
  · have h := ok_f hc h
    refine ax_aload_n 0 d_MO_stands_104 rfl rfl 105 rfl ?_
    refine ax_getR fl_MO_81 m_0 rfl (rm_0_31 _) d_MO_stands_105 108 rfl ?_
    refine ax_iload_n 1 d_MO_stands_108 rfl rfl 109 rfl ?_
    refine ax_aload_n 0 d_MO_stands_109 rfl rfl 110 rfl ?_
    refine ax_getR fl_MO_84 m_0 rfl (rm_0_32 _) d_MO_stands_110 113 rfl ?_
    refine ax_iload_n 1 d_MO_stands_113 rfl rfl 114 rfl ?_
    refine ax_iaload m_24 d_MO_stands_114 115 rfl h (fun i16 h => ?_)
    refine ax_iastore m_23 d_MO_stands_115 116 rfl h (fun i17 m18 h => ?_)
    refine ax_iinc (ls1 := [(1, .int (v1 + 1)), (0, .ref 0)]) 1 1 d_MO_stands_116 rfl ic_1 (Nat.le_of_ble_eq_true rfl) rfl 119 rfl ?_
    refine ax_goto 97 d_MO_stands_119 rfl ?_
    exact ax_sub [1, 0] rfl (h0 ((v1 + 1), m18) (ok_some h))
theorem c_MO_stands_L97 (v1 : Int32) (m : zM)  {Q : Option Value → zM → Prop} {K : zM → Prop} (hR : ∀ p : zM, K (p) → Q none p)  (h : ok (f_MO_stands_L97 v1 m) K) : AX gM s_MO_stands 97 [(0, .ref 0), (1, .int v1)] [] m Q :=
  ok_lp (K := K) (G := fun s : Int32 × zM => AX gM s_MO_stands 97 [(0, .ref 0), (1, .int s.1)] [] s.2 Q) (fun s h => c_MO_stands_B97 s.1 s.2  (fun p hp => hR p hp) (fun s hs => hs) h) FU (v1, m) h
set_option maxRecDepth 4000 in
theorem c_MO_stands_J39  (m : zM)  {Q : Option Value → zM → Prop} {K : zM → Prop} (hR : ∀ p : zM, K (p) → Q none p)  (h : ok (f_MO_stands_J39  m) K) : AX gM s_MO_stands 39 [(0, .ref 0)] [] m Q := by
  unfold f_MO_stands_J39 at h
  refine ax_aload_n 0 d_MO_stands_39 rfl rfl 40 rfl ?_
  refine ax_bipush (-2) d_MO_stands_40 bp_m2 42 rfl ?_
  refine ax_putI (K := K) fl_MO_93 m_0 rfl rfl rfl (Nat.le_of_ble_eq_true rfl) d_MO_stands_42 45 rfl h (fun m7 h => ?_)
  refine ax_aload_n 0 d_MO_stands_45 rfl rfl 46 rfl ?_
  refine ax_iconst (-1) d_MO_stands_46 ic_m1 47 rfl ?_
  refine ax_callV mv_MO_318 ⟨Nat.le_of_ble_eq_true rfl, Nat.le_of_ble_eq_true rfl⟩ ⟨rfl, rfl⟩ [.int (-1)] [.int (-1), .ref 0] rfl rfl (rc_m_0 _) (Nat.le_of_ble_eq_true rfl) d_MO_stands_47 50 rfl (zc_MO_goesThrough (-1) m7 (ok_b h (fun p8 h => ?_)))
  refine ax_ifb_eq 79 53 d_MO_stands_50 rfl rfl (fun hc => ?_) (fun hc => ?_)
  · have h := ok_f (bf hc) h
    refine ax_aload_n 0 d_MO_stands_79 rfl rfl 80 rfl ?_
    refine ax_bipush 6 d_MO_stands_80 bp_6 82 rfl ?_
    refine ax_aload_n 0 d_MO_stands_82 rfl rfl 83 rfl ?_
    refine ax_getI fl_MO_226 m_0 rfl d_MO_stands_83 86 rfl ?_
    refine ax_callV mv_MO_246 ⟨Nat.le_of_ble_eq_true rfl, Nat.le_of_ble_eq_true rfl⟩ ⟨rfl, rfl⟩ [.int 6, .int (p8.2.1 0 3)] [.int (p8.2.1 0 3), .int 6, .ref 0] rfl rfl (rc_m_0 _) (Nat.le_of_ble_eq_true rfl) d_MO_stands_86 89 rfl (zc_MO_fail 6 (p8.2.1 0 3) p8.2 ?_)
    refine ok_l (G := fun p => AX gM s_MO_stands 89 [(0, .ref 0)] [] p Q) h (fun p9 h => ?_)
    refine ax_aload_n 0 d_MO_stands_89 rfl rfl 90 rfl ?_
    refine ax_bipush (-2) d_MO_stands_90 bp_m2 92 rfl ?_
    refine ax_putI (K := K) fl_MO_93 m_0 rfl rfl rfl (Nat.le_of_ble_eq_true rfl) d_MO_stands_92 95 rfl h (fun m10 h => ?_)
    refine ax_iconst 0 d_MO_stands_95 ic_0 96 rfl ?_
    refine ax_istore_n (ls1 := [(1, .int 0), (0, .ref 0)]) d_MO_stands_96 rfl (Nat.le_of_ble_eq_true rfl) rfl 97 rfl ?_
    exact ax_sub [1, 0] rfl (c_MO_stands_L97 0 m10 (fun p hp => hR p hp) h)
  · have h := ok_t hc h
    refine ax_aload_n 0 d_MO_stands_53 rfl rfl 54 rfl ?_
    refine ax_iconst 1 d_MO_stands_54 ic_1 55 rfl ?_
    refine ax_putZ (K := K) fl_MO_321 m_0 (Or.inr rfl) rfl rfl rfl (Nat.le_of_ble_eq_true rfl) d_MO_stands_55 58 rfl h (fun m11 h => ?_)
    refine ax_aload_n 0 d_MO_stands_58 rfl rfl 59 rfl ?_
    refine ax_aload_n 0 d_MO_stands_59 rfl rfl 60 rfl ?_
    refine ax_getR fl_MO_96 m_0 rfl (rm_0_42 _) d_MO_stands_60 63 rfl ?_
    refine ax_iconst 0 d_MO_stands_63 ic_0 64 rfl ?_
    refine ax_laload m_27 d_MO_stands_64 65 rfl h (fun i12 h => ?_)
    refine ax_putJ (K := K) fl_MO_325 m_0 rfl rfl rfl (Nat.le_of_ble_eq_true rfl) d_MO_stands_65 68 rfl h (fun m13 h => ?_)
    refine ax_aload_n 0 d_MO_stands_68 rfl rfl 69 rfl ?_
    refine ax_iconst 0 d_MO_stands_69 ic_0 70 rfl ?_
    refine ax_putI (K := K) fl_MO_328 m_0 rfl rfl rfl (Nat.le_of_ble_eq_true rfl) d_MO_stands_70 73 rfl h (fun m14 h => ?_)
    refine ax_aload_n 0 d_MO_stands_73 rfl rfl 74 rfl ?_
    refine ax_iconst 0 d_MO_stands_74 ic_0 75 rfl ?_
    refine ax_putI (K := K) fl_MO_331 m_0 rfl rfl rfl (Nat.le_of_ble_eq_true rfl) d_MO_stands_75 78 rfl h (fun m15 h => ?_)
    exact ax_vret rfl d_MO_stands_78 (hR m15 (ok_some h))
set_option maxRecDepth 4000 in
theorem c_MO_stands_B2 (v1 : Int32) (m : zM)  {Q : Option Value → zM → Prop} {K : ((zM) ⊕ (Int32 × zM)) → Prop} (hR : ∀ p : zM, K (.inl p) → Q none p) (h0 : ∀ s : Int32 × zM, K (.inr s) → AX gM s_MO_stands 2 [(0, .ref 0), (1, .int s.1)] [] s.2 Q) (h : ok (f_MO_stands_B2 v1 m) K) : AX gM s_MO_stands 2 [(0, .ref 0), (1, .int v1)] [] m Q := by
  unfold f_MO_stands_B2 at h
  refine ax_iload_n 1 d_MO_stands_2 rfl rfl 3 rfl ?_
  refine ax_sipush 184 d_MO_stands_3 sp_184 6 rfl ?_
  refine ax_icmp_ge 39 9 d_MO_stands_6 rfl rfl (fun hc => ?_) (fun hc => ?_)
  · have h := ok_t hc h
    exact ax_sub [0] rfl (c_MO_stands_J39 m (fun p hp => hR p hp) (ok_z h))
  · have h := ok_f hc h
    refine ax_aload_n 0 d_MO_stands_9 rfl rfl 10 rfl ?_
    refine ax_getR fl_MO_84 m_0 rfl (rm_0_32 _) d_MO_stands_10 13 rfl ?_
    refine ax_iload_n 1 d_MO_stands_13 rfl rfl 14 rfl ?_
    refine ax_aload_n 0 d_MO_stands_14 rfl rfl 15 rfl ?_
    refine ax_getR fl_MO_81 m_0 rfl (rm_0_31 _) d_MO_stands_15 18 rfl ?_
    refine ax_iload_n 1 d_MO_stands_18 rfl rfl 19 rfl ?_
    refine ax_iaload m_23 d_MO_stands_19 20 rfl h (fun i1 h => ?_)
    refine ax_iastore m_24 d_MO_stands_20 21 rfl h (fun i2 m3 h => ?_)
    refine ax_aload_n 0 d_MO_stands_21 rfl rfl 22 rfl ?_
    refine ax_getR fl_MO_81 m_0 rfl (rm_0_31 _) d_MO_stands_22 25 rfl ?_
    refine ax_iload_n 1 d_MO_stands_25 rfl rfl 26 rfl ?_
    refine ax_aload_n 0 d_MO_stands_26 rfl rfl 27 rfl ?_
    refine ax_getR fl_MO_78 m_0 rfl (rm_0_30 _) d_MO_stands_27 30 rfl ?_
    refine ax_iload_n 1 d_MO_stands_30 rfl rfl 31 rfl ?_
    refine ax_iaload m_22 d_MO_stands_31 32 rfl h (fun i4 h => ?_)
    refine ax_iastore m_23 d_MO_stands_32 33 rfl h (fun i5 m6 h => ?_)
    refine ax_iinc (ls1 := [(1, .int (v1 + 1)), (0, .ref 0)]) 1 1 d_MO_stands_33 rfl ic_1 (Nat.le_of_ble_eq_true rfl) rfl 36 rfl ?_
    refine ax_goto 2 d_MO_stands_36 rfl ?_
    exact ax_sub [1, 0] rfl (h0 ((v1 + 1), m6) (ok_some h))
theorem c_MO_stands_L2 (v1 : Int32) (m : zM)  {Q : Option Value → zM → Prop} {K : zM → Prop} (hR : ∀ p : zM, K (p) → Q none p)  (h : ok (f_MO_stands_L2 v1 m) K) : AX gM s_MO_stands 2 [(0, .ref 0), (1, .int v1)] [] m Q :=
  ok_lp (K := K) (G := fun s : Int32 × zM => AX gM s_MO_stands 2 [(0, .ref 0), (1, .int s.1)] [] s.2 Q) (fun s h => c_MO_stands_B2 s.1 s.2  (fun p hp => hR p hp) (fun s hs => hs) h) FU (v1, m) h
