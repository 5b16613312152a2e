set_option maxRecDepth 4000 in
theorem zc_MO_stands  (m : zM)  {Q : Option Value → zM → Prop} (h : ok (f_MO_stands m) (fun p => Q none p)) : zc gM s_MO_stands [.ref 0] m Q := by
  refine zc_of rfl (Nat.le_of_ble_eq_true rfl) ?_
  show AX gM s_MO_stands 0 [(0, .ref 0)] [] m Q
  obtain ⟨K, hK⟩ : ∃ K : zM → Prop, K = (fun p : zM => Q none p) := ⟨_, rfl⟩
  have hR : ∀ p : zM, K p → Q none p := fun p hp => by rw [hK] at hp; exact hp
  replace h : ok (f_MO_stands m) (fun p : zM => Q none p) := h
  rw [← hK] at h
  unfold f_MO_stands at h
  refine ax_iconst 0 d_MO_stands_0 ic_0 1 rfl ?_
  refine ax_istore_n (ls1 := [(1, .int 0), (0, .ref 0)]) d_MO_stands_1 rfl (Nat.le_of_ble_eq_true rfl) rfl 2 rfl ?_
  exact ax_sub [1, 0] rfl (c_MO_stands_L2 0 m (fun p hp => hR p hp) h)
set_option maxRecDepth 4000 in
theorem c_MO_table_J153  (m : zM)  {Q : Option Value → zM → Prop} {K : (Int32 × zM) → Prop} (hR : ∀ p : Int32 × zM, K (p) → Q (some (.int p.1)) p.2)  (h : ok (f_MO_table_J153  m) K) : AX gM s_MO_table 153 [(0, .ref 0)] [] m Q := by
  unfold f_MO_table_J153 at h
  refine ax_aload_n 0 d_MO_table_153 rfl rfl 154 rfl ?_
  refine ax_aload_n 0 d_MO_table_154 rfl rfl 155 rfl ?_
  refine ax_getI fl_MO_217 m_0 rfl d_MO_table_155 158 rfl ?_
  refine ax_putI (K := K) fl_MO_214 m_0 rfl rfl rfl (Nat.le_of_ble_eq_true rfl) d_MO_table_158 161 rfl h (fun m25 h => ?_)
  refine ax_aload_n 0 d_MO_table_161 rfl rfl 162 rfl ?_
  refine ax_aload_n 0 d_MO_table_162 rfl rfl 163 rfl ?_
  refine ax_getI fl_MO_220 m_0 rfl d_MO_table_163 166 rfl ?_
  refine ax_putI (K := K) fl_MO_13 m_0 rfl rfl rfl (Nat.le_of_ble_eq_true rfl) d_MO_table_166 169 rfl h (fun m26 h => ?_)
  refine ax_aload_n 0 d_MO_table_169 rfl rfl 170 rfl ?_
  refine ax_getI fl_MO_217 m_0 rfl d_MO_table_170 173 rfl ?_
  refine ax_if_ne 183 176 d_MO_table_173 rfl rfl (fun hc => ?_) (fun hc => ?_)
  · have h := ok_f hc h
    refine ax_aload_n 0 d_MO_table_183 rfl rfl 184 rfl ?_
    refine ax_iconst 1 d_MO_table_184 ic_1 185 rfl ?_
    refine ax_callV mv_MO_200 ⟨Nat.le_of_ble_eq_true rfl, Nat.le_of_ble_eq_true rfl⟩ ⟨rfl, rfl⟩ [.int 1] [.int 1, .ref 0] rfl rfl (rc_m_0 _) (Nat.le_of_ble_eq_true rfl) d_MO_table_185 188 rfl (zc_MO_refuses 1 m26 (ok_b h (fun p27 h => ?_)))
    exact ax_iret rfl d_MO_table_188 (hR (p27.1, p27.2) (ok_some h))
  · have h := ok_t hc h
    refine ax_aload_n 0 d_MO_table_176 rfl rfl 177 rfl ?_
    refine ax_getI fl_MO_289 m_0 rfl d_MO_table_177 180 rfl ?_
    refine ax_goto 188 d_MO_table_180 rfl ?_
    exact ax_iret rfl d_MO_table_188 (hR ((m26.1 0 34), m26) (ok_some h))
set_option maxRecDepth 4000 in
theorem c_MO_table_J142  (m : zM)  {Q : Option Value → zM → Prop} {K : (Int32 × zM) → Prop} (hR : ∀ p : Int32 × zM, K (p) → Q (some (.int p.1)) p.2)  (h : ok (f_MO_table_J142  m) K) : AX gM s_MO_table 142 [(0, .ref 0)] [] m Q := by
  unfold f_MO_table_J142 at h
  refine ax_aload_n 0 d_MO_table_142 rfl rfl 143 rfl ?_
  refine ax_getI fl_MO_217 m_0 rfl d_MO_table_143 146 rfl ?_
  refine ax_if_ne 153 149 d_MO_table_146 rfl rfl (fun hc => ?_) (fun hc => ?_)
  · have h := ok_f hc h
    exact ax_sub [0] rfl (c_MO_table_J153 m (fun p hp => hR p hp) h)
  · have h := ok_t hc h
    refine ax_aload_n 0 d_MO_table_149 rfl rfl 150 rfl ?_
    refine ax_callV mv_MO_315 ⟨Nat.le_of_ble_eq_true rfl, Nat.le_of_ble_eq_true rfl⟩ ⟨rfl, rfl⟩ [] [.ref 0] rfl rfl (rc_m_0 _) (Nat.le_of_ble_eq_true rfl) d_MO_table_150 153 rfl (zc_MO_stands m (ok_b h (fun p24 h => ?_)))
    exact ax_sub [0] rfl (c_MO_table_J153 p24 (fun p hp => hR p hp) h)
set_option maxRecDepth 4000 in
theorem c_MO_table_B120  (m : zM)  {Q : Option Value → zM → Prop} {K : ((Int32 × zM) ⊕ (zM)) → Prop} (hR : ∀ p : Int32 × zM, K (.inl p) → Q (some (.int p.1)) p.2) (h0 : ∀ s : zM, K (.inr s) → AX gM s_MO_table 120 [(0, .ref 0)] [] s Q) (h : ok (f_MO_table_B120  m) K) : AX gM s_MO_table 120 [(0, .ref 0)] [] m Q := by
  unfold f_MO_table_B120 at h
  refine ax_aload_n 0 d_MO_table_120 rfl rfl 121 rfl ?_
  refine ax_getI fl_MO_217 m_0 rfl d_MO_table_121 124 rfl ?_
  refine ax_if_ne 142 127 d_MO_table_124 rfl rfl (fun hc => ?_) (fun hc => ?_)
  · have h := ok_f hc h
    exact ax_sub [0] rfl (c_MO_table_J142 m (fun p hp => hR p hp) (ok_z h))
  · have h := ok_t hc h
    refine ax_aload_n 0 d_MO_table_127 rfl rfl 128 rfl ?_
    refine ax_callV mv_MO_229 ⟨Nat.le_of_ble_eq_true rfl, Nat.le_of_ble_eq_true rfl⟩ ⟨rfl, rfl⟩ [] [.ref 0] rfl rfl (rc_m_0 _) (Nat.le_of_ble_eq_true rfl) d_MO_table_128 131 rfl (zc_MO_look m (ok_b h (fun p22 h => ?_)))
    refine ax_iconst (-1) d_MO_table_131 ic_m1 132 rfl ?_
    refine ax_icmp_eq 142 135 d_MO_table_132 rfl rfl (fun hc => ?_) (fun hc => ?_)
    · have h := ok_t hc h
      exact ax_sub [0] rfl (c_MO_table_J142 p22.2 (fun p hp => hR p hp) (ok_z h))
    · have h := ok_f hc h
      refine ax_aload_n 0 d_MO_table_135 rfl rfl 136 rfl ?_
      refine ax_callV mv_MO_312 ⟨Nat.le_of_ble_eq_true rfl, Nat.le_of_ble_eq_true rfl⟩ ⟨rfl, rfl⟩ [] [.ref 0] rfl rfl (rc_m_0 _) (Nat.le_of_ble_eq_true rfl) d_MO_table_136 139 rfl (zc_MO_statementTold p22.2 (ok_b h (fun p23 h => ?_)))
      refine ax_goto 120 d_MO_table_139 rfl ?_
      exact ax_sub [0] rfl (h0 p23 (ok_some h))
theorem c_MO_table_L120  (m : zM)  {Q : Option Value → zM → Prop} {K : (Int32 × zM) → Prop} (hR : ∀ p : Int32 × zM, K (p) → Q (some (.int p.1)) p.2)  (h : ok (f_MO_table_L120  m) K) : AX gM s_MO_table 120 [(0, .ref 0)] [] m Q :=
  ok_lp (K := K) (G := fun s : zM => AX gM s_MO_table 120 [(0, .ref 0)] [] s Q) (fun s h => c_MO_table_B120  s  (fun p hp => hR p hp) (fun s hs => hs) h) FU m h
set_option maxRecDepth 4000 in
theorem c_MO_table_J60  (m : zM)  {Q : Option Value → zM → Prop} {K : (Int32 × zM) → Prop} (hR : ∀ p : Int32 × zM, K (p) → Q (some (.int p.1)) p.2)  (h : ok (f_MO_table_J60  m) K) : AX gM s_MO_table 60 [(0, .ref 0)] [] m Q := by
  unfold f_MO_table_J60 at h
  refine ax_aload_n 0 d_MO_table_60 rfl rfl 61 rfl ?_
  refine ax_getR fl_MO_78 m_0 rfl (rm_0_30 _) d_MO_table_61 64 rfl ?_
  refine ax_bipush 6 d_MO_table_64 bp_6 66 rfl ?_
  refine ax_iconst (-1) d_MO_table_66 ic_m1 67 rfl ?_
  refine ax_iastore m_22 d_MO_table_67 68 rfl h (fun i10 m11 h => ?_)
  refine ax_aload_n 0 d_MO_table_68 rfl rfl 69 rfl ?_
  refine ax_getR fl_MO_78 m_0 rfl (rm_0_30 _) d_MO_table_69 72 rfl ?_
  refine ax_bipush 7 d_MO_table_72 bp_7 74 rfl ?_
  refine ax_iconst (-1) d_MO_table_74 ic_m1 75 rfl ?_
  refine ax_iastore m_22 d_MO_table_75 76 rfl h (fun i12 m13 h => ?_)
  refine ax_aload_n 0 d_MO_table_76 rfl rfl 77 rfl ?_
  refine ax_aload_n 0 d_MO_table_77 rfl rfl 78 rfl ?_
  refine ax_getR fl_MO_20 m_0 rfl (rm_0_10 _) d_MO_table_78 81 rfl ?_
  refine ax_callV mv_MO_282 ⟨Nat.le_of_ble_eq_true rfl, Nat.le_of_ble_eq_true rfl⟩ ⟨rfl, rfl⟩ [.ref 3] [.ref 3, .ref 0] rfl rfl (rc_m_0 _) (Nat.le_of_ble_eq_true rfl) d_MO_table_81 84 rfl (zc_MO_asks 3 m13 m_3z (ok_b h (fun p14 h => ?_)))
  refine ax_aload_n 0 d_MO_table_84 rfl rfl 85 rfl ?_
  refine ax_getR fl_MO_78 m_0 rfl (rm_0_30 _) d_MO_table_85 88 rfl ?_
  refine ax_iconst 3 d_MO_table_88 ic_3 89 rfl ?_
  refine ax_aload_n 0 d_MO_table_89 rfl rfl 90 rfl ?_
  refine ax_iconst 2 d_MO_table_90 ic_2 91 rfl ?_
  refine ax_iconst 4 d_MO_table_91 ic_4 92 rfl ?_
  refine ax_callV mv_MO_273 ⟨Nat.le_of_ble_eq_true rfl, Nat.le_of_ble_eq_true rfl⟩ ⟨rfl, rfl⟩ [.int 2, .int 4] [.int 4, .int 2, .ref 0, .int 3, .ref 22] rfl rfl (rc_m_0 _) (Nat.le_of_ble_eq_true rfl) d_MO_table_92 95 rfl (zc_MO_number 2 4 p14 (ok_b h (fun p15 h => ?_)))
  refine ax_iastore m_22 d_MO_table_95 96 rfl h (fun i16 m17 h => ?_)
  refine ax_aload_n 0 d_MO_table_96 rfl rfl 97 rfl ?_
  refine ax_aload_n 0 d_MO_table_97 rfl rfl 98 rfl ?_
  refine ax_getR fl_MO_24 m_0 rfl (rm_0_11 _) d_MO_table_98 101 rfl ?_
  refine ax_callV mv_MO_282 ⟨Nat.le_of_ble_eq_true rfl, Nat.le_of_ble_eq_true rfl⟩ ⟨rfl, rfl⟩ [.ref 4] [.ref 4, .ref 0] rfl rfl (rc_m_0 _) (Nat.le_of_ble_eq_true rfl) d_MO_table_101 104 rfl (zc_MO_asks 4 m17 m_4z (ok_b h (fun p18 h => ?_)))
  refine ax_aload_n 0 d_MO_table_104 rfl rfl 105 rfl ?_
  refine ax_iconst 0 d_MO_table_105 ic_0 106 rfl ?_
  refine ax_callV mv_MO_296 ⟨Nat.le_of_ble_eq_true rfl, Nat.le_of_ble_eq_true rfl⟩ ⟨rfl, rfl⟩ [.int 0] [.int 0, .ref 0] rfl rfl (rc_m_0 _) (Nat.le_of_ble_eq_true rfl) d_MO_table_106 109 rfl (zc_MO_newNames 0 p18 (ok_b h (fun p19 h => ?_)))
  refine ax_aload_n 0 d_MO_table_109 rfl rfl 110 rfl ?_
  refine ax_bipush 59 d_MO_table_110 bp_59 112 rfl ?_
  refine ax_callV mv_MO_309 ⟨Nat.le_of_ble_eq_true rfl, Nat.le_of_ble_eq_true rfl⟩ ⟨rfl, rfl⟩ [.int 59] [.int 59, .ref 0] rfl rfl (rc_m_0 _) (Nat.le_of_ble_eq_true rfl) d_MO_table_112 115 rfl (zc_MO_asksSign 59 p19 (ok_b h (fun p20 h => ?_)))
  refine ax_aload_n 0 d_MO_table_115 rfl rfl 116 rfl ?_
  refine ax_iconst 1 d_MO_table_116 ic_1 117 rfl ?_
  refine ax_putI (K := K) fl_MO_289 m_0 rfl rfl rfl (Nat.le_of_ble_eq_true rfl) d_MO_table_117 120 rfl h (fun m21 h => ?_)
  exact ax_sub [0] rfl (c_MO_table_L120 m21 (fun p hp => hR p hp) h)
set_option maxRecDepth 4000 in
theorem c_MO_table_B40 (v1 : Int32) (m : zM)  {Q : Option Value → zM → Prop} {K : ((Int32 × zM) ⊕ (Int32 × zM)) → Prop} (hR : ∀ p : Int32 × zM, K (.inl p) → Q (some (.int p.1)) p.2) (h0 : ∀ s : Int32 × zM, K (.inr s) → AX gM s_MO_table 40 [(0, .ref 0), (1, .int s.1)] [] s.2 Q) (h : ok (f_MO_table_B40 v1 m) K) : AX gM s_MO_table 40 [(0, .ref 0), (1, .int v1)] [] m Q := by
  unfold f_MO_table_B40 at h
  refine ax_iload_n 1 d_MO_table_40 rfl rfl 41 rfl ?_
  refine ax_sipush 184 d_MO_table_41 sp_184 44 rfl ?_
  refine ax_icmp_ge 60 47 d_MO_table_44 rfl rfl (fun hc => ?_) (fun hc => ?_)
  · have h := ok_t hc h
    exact ax_sub [0] rfl (c_MO_table_J60 m (fun p hp => hR p hp) (ok_z h))
  · have h := ok_f hc h
    refine ax_aload_n 0 d_MO_table_47 rfl rfl 48 rfl ?_
    refine ax_getR fl_MO_78 m_0 rfl (rm_0_30 _) d_MO_table_48 51 rfl ?_
    refine ax_iload_n 1 d_MO_table_51 rfl rfl 52 rfl ?_
    refine ax_iconst 0 d_MO_table_52 ic_0 53 rfl ?_
    refine ax_iastore m_22 d_MO_table_53 54 rfl h (fun i8 m9 h => ?_)
    refine ax_iinc (ls1 := [(1, .int (v1 + 1)), (0, .ref 0)]) 1 1 d_MO_table_54 rfl ic_1 (Nat.le_of_ble_eq_true rfl) rfl 57 rfl ?_
    refine ax_goto 40 d_MO_table_57 rfl ?_
    exact ax_sub [1, 0] rfl (h0 ((v1 + 1), m9) (ok_some h))
theorem c_MO_table_L40 (v1 : Int32) (m : zM)  {Q : Option Value → zM → Prop} {K : (Int32 × zM) → Prop} (hR : ∀ p : Int32 × zM, K (p) → Q (some (.int p.1)) p.2)  (h : ok (f_MO_table_L40 v1 m) K) : AX gM s_MO_table 40 [(0, .ref 0), (1, .int v1)] [] m Q :=
  ok_lp (K := K) (G := fun s : Int32 × zM => AX gM s_MO_table 40 [(0, .ref 0), (1, .int s.1)] [] s.2 Q) (fun s h => c_MO_table_B40 s.1 s.2  (fun p hp => hR p hp) (fun s hs => hs) h) FU (v1, m) h
set_option maxRecDepth 4000 in
theorem zc_MO_table  (m : zM)  {Q : Option Value → zM → Prop} (h : ok (f_MO_table m) (fun p => Q (some (.int p.1)) p.2)) : zc gM s_MO_table [.ref 0] m Q := by
  refine zc_of rfl (Nat.le_of_ble_eq_true rfl) ?_
  show AX gM s_MO_table 0 [(0, .ref 0)] [] m Q
  obtain ⟨K, hK⟩ : ∃ K : (Int32 × zM) → Prop, K = (fun p : Int32 × zM => Q (some (.int p.1)) p.2) := ⟨_, rfl⟩
  have hR : ∀ p : Int32 × zM, K p → Q (some (.int p.1)) p.2 := fun p hp => by rw [hK] at hp; exact hp
  replace h : ok (f_MO_table m) (fun p : Int32 × zM => Q (some (.int p.1)) p.2) := h
  rw [← hK] at h
  unfold f_MO_table at h
  refine ax_aload_n 0 d_MO_table_0 rfl rfl 1 rfl ?_
  refine ax_aload_n 0 d_MO_table_1 rfl rfl 2 rfl ?_
  refine ax_getI fl_MO_197 m_0 rfl d_MO_table_2 5 rfl ?_
  refine ax_putI (K := K) fl_MO_226 m_0 rfl rfl rfl (Nat.le_of_ble_eq_true rfl) d_MO_table_5 8 rfl h (fun m1 h => ?_)
  refine ax_aload_n 0 d_MO_table_8 rfl rfl 9 rfl ?_
  refine ax_iconst 0 d_MO_table_9 ic_0 10 rfl ?_
  refine ax_putI (K := K) fl_MO_197 m_0 rfl rfl rfl (Nat.le_of_ble_eq_true rfl) d_MO_table_10 13 rfl h (fun m2 h => ?_)
  refine ax_aload_n 0 d_MO_table_13 rfl rfl 14 rfl ?_
  refine ax_iconst 0 d_MO_table_14 ic_0 15 rfl ?_
  refine ax_putI (K := K) fl_MO_223 m_0 rfl rfl rfl (Nat.le_of_ble_eq_true rfl) d_MO_table_15 18 rfl h (fun m3 h => ?_)
  refine ax_aload_n 0 d_MO_table_18 rfl rfl 19 rfl ?_
  refine ax_iconst (-1) d_MO_table_19 ic_m1 20 rfl ?_
  refine ax_putI (K := K) fl_MO_236 m_0 rfl rfl rfl (Nat.le_of_ble_eq_true rfl) d_MO_table_20 23 rfl h (fun m4 h => ?_)
  refine ax_aload_n 0 d_MO_table_23 rfl rfl 24 rfl ?_
  refine ax_iconst 0 d_MO_table_24 ic_0 25 rfl ?_
  refine ax_putI (K := K) fl_MO_217 m_0 rfl rfl rfl (Nat.le_of_ble_eq_true rfl) d_MO_table_25 28 rfl h (fun m5 h => ?_)
  refine ax_aload_n 0 d_MO_table_28 rfl rfl 29 rfl ?_
  refine ax_iconst (-1) d_MO_table_29 ic_m1 30 rfl ?_
  refine ax_putI (K := K) fl_MO_220 m_0 rfl rfl rfl (Nat.le_of_ble_eq_true rfl) d_MO_table_30 33 rfl h (fun m6 h => ?_)
  refine ax_aload_n 0 d_MO_table_33 rfl rfl 34 rfl ?_
  refine ax_iconst 0 d_MO_table_34 ic_0 35 rfl ?_
  refine ax_putI (K := K) fl_MO_286 m_0 rfl rfl rfl (Nat.le_of_ble_eq_true rfl) d_MO_table_35 38 rfl h (fun m7 h => ?_)
  refine ax_iconst 0 d_MO_table_38 ic_0 39 rfl ?_
  refine ax_istore_n (ls1 := [(1, .int 0), (0, .ref 0)]) d_MO_table_39 rfl (Nat.le_of_ble_eq_true rfl) rfl 40 rfl ?_
  exact ax_sub [1, 0] rfl (c_MO_table_L40 0 m7 (fun p hp => hR p hp) h)
set_option maxRecDepth 4000 in
theorem zc_MO_atlas (v1 : Int32) (m : zM)  {Q : Option Value → zM → Prop} (h : ok (f_MO_atlas v1 m) (fun p => Q none p)) : zc gM s_MO_atlas [.ref 0, .int v1] m Q := by
  refine zc_of rfl (Nat.le_of_ble_eq_true rfl) ?_
  show AX gM s_MO_atlas 0 [(0, .ref 0), (1, .int v1)] [] m Q
  obtain ⟨K, hK⟩ : ∃ K : zM → Prop, K = (fun p : zM => Q none p) := ⟨_, rfl⟩
  have hR : ∀ p : zM, K p → Q none p := fun p hp => by rw [hK] at hp; exact hp
  replace h : ok (f_MO_atlas v1 m) (fun p : zM => Q none p) := h
  rw [← hK] at h
  unfold f_MO_atlas at h
  refine ax_aload_n 0 d_MO_atlas_0 rfl rfl 1 rfl ?_
  refine ax_getI fl_MO_93 m_0 rfl d_MO_atlas_1 4 rfl ?_
  refine ax_iload_n 1 d_MO_atlas_4 rfl rfl 5 rfl ?_
  refine ax_icmp_eq 14 8 d_MO_atlas_5 rfl rfl (fun hc => ?_) (fun hc => ?_)
  · have h := ok_t hc h
    exact ax_vret rfl d_MO_atlas_14 (hR m (ok_some h))
  · have h := ok_f hc h
    refine ax_aload_n 0 d_MO_atlas_8 rfl rfl 9 rfl ?_
    refine ax_iload_n 1 d_MO_atlas_9 rfl rfl 10 rfl ?_
    refine ax_callV mv_MO_318 ⟨Nat.le_of_ble_eq_true rfl, Nat.le_of_ble_eq_true rfl⟩ ⟨rfl, rfl⟩ [.int v1] [.int v1, .ref 0] rfl rfl (rc_m_0 _) (Nat.le_of_ble_eq_true rfl) d_MO_atlas_10 13 rfl (zc_MO_goesThrough v1 m (ok_b h (fun p1 h => ?_)))
    refine ax_pop d_MO_atlas_13 rfl 14 rfl ?_
    exact ax_vret rfl d_MO_atlas_14 (hR p1.2 (ok_some h))
set_option maxRecDepth 4000 in
theorem zc_MO_isAsked  (m : zM)  {Q : Option Value → zM → Prop} (h : ok (f_MO_isAsked m) (fun p => Q (some (.int (b2i p.1))) p.2)) : zc gM s_MO_isAsked [.ref 0] m Q := by
  refine zc_of rfl (Nat.le_of_ble_eq_true rfl) ?_
  show AX gM s_MO_isAsked 0 [(0, .ref 0)] [] m Q
  obtain ⟨K, hK⟩ : ∃ K : (Bool × zM) → Prop, K = (fun p : Bool × zM => Q (some (.int (b2i p.1))) p.2) := ⟨_, rfl⟩
  have hR : ∀ p : Bool × zM, K p → Q (some (.int (b2i p.1))) p.2 := fun p hp => by rw [hK] at hp; exact hp
  replace h : ok (f_MO_isAsked m) (fun p : Bool × zM => Q (some (.int (b2i p.1))) p.2) := h
  rw [← hK] at h
  unfold f_MO_isAsked at h
  refine ax_aload_n 0 d_MO_isAsked_0 rfl rfl 1 rfl ?_
  refine ax_getI fl_MO_321 m_0 rfl d_MO_isAsked_1 4 rfl ?_
  refine ax_if_ne 9 7 d_MO_isAsked_4 rfl rfl (fun hc => ?_) (fun hc => ?_)
  · have h := ok_f hc h
    refine ax_aload_n 0 d_MO_isAsked_9 rfl rfl 10 rfl ?_
    refine ax_iconst (-1) d_MO_isAsked_10 ic_m1 11 rfl ?_
    refine ax_callV mv_MO_502 ⟨Nat.le_of_ble_eq_true rfl, Nat.le_of_ble_eq_true rfl⟩ ⟨rfl, rfl⟩ [.int (-1)] [.int (-1), .ref 0] rfl rfl (rc_m_0 _) (Nat.le_of_ble_eq_true rfl) d_MO_isAsked_11 14 rfl (zc_MO_atlas (-1) m (ok_b h (fun p1 h => ?_)))
    refine ax_iconst 1 d_MO_isAsked_14 ic_1 15 rfl ?_
    exact ax_zret (b := true) rfl d_MO_isAsked_15 (hR (true, p1) (ok_some h))
  · have h := ok_t hc h
    refine ax_iconst 0 d_MO_isAsked_7 ic_0 8 rfl ?_
    exact ax_zret (b := false) rfl d_MO_isAsked_8 (hR (false, m) (ok_some h))
set_option maxRecDepth 4000 in
theorem c_MO_copies_J57 (v2 : Int32) (v4 : Int32) (t0 : Int32) (m : zM)  {Q : Option Value → zM → Prop} {K : ((Int32 × zM) ⊕ (Int32 × Int32 × Int32)) → Prop} (hR : ∀ p : Int32 × zM, K (.inl p) → Q (some (.int p.1)) p.2) (h0 : ∀ s : Int32 × Int32 × Int32, K (.inr s) → AX gM s_MO_copies 17 [(0, .ref 0), (2, .int s.1), (3, .int s.2.1), (4, .int s.2.2)] [] m Q) (h : ok (f_MO_copies_J57 v2 v4 t0 m) K) : AX gM s_MO_copies 57 [(0, .ref 0), (2, .int v2), (4, .int v4)] [.int t0] m Q := by
  unfold f_MO_copies_J57 at h
  refine ax_istore_n (ls1 := [(3, .int t0), (0, .ref 0), (2, .int v2), (4, .int v4)]) d_MO_copies_57 rfl (Nat.le_of_ble_eq_true rfl) rfl 58 rfl ?_
  refine ax_iload_n 2 d_MO_copies_58 rfl rfl 59 rfl ?_
  refine ax_iload 3 d_MO_copies_59 rfl 61 rfl ?_
  refine ax_iconst 1 d_MO_copies_61 ic_1 62 rfl ?_
  refine ax_iadd d_MO_copies_62 63 rfl ?_
  refine ax_imul d_MO_copies_63 64 rfl ?_
  refine ax_iload_n 0 d_MO_copies_64 rfl rfl 65 rfl ?_
  refine ok_nz h (fun hn h => ?_)
  refine ax_idiv d_MO_copies_65 hn 66 rfl ?_
  refine ax_istore_n (ls1 := [(2, .int ((v2 * (v4 + 1)) / t0)), (3, .int t0), (0, .ref 0), (4, .int v4)]) d_MO_copies_66 rfl (Nat.le_of_ble_eq_true rfl) rfl 67 rfl ?_
  refine ax_iinc (ls1 := [(4, .int (v4 + 1)), (2, .int ((v2 * (v4 + 1)) / t0)), (3, .int t0), (0, .ref 0)]) 3 1 d_MO_copies_67 rfl ic_1 (Nat.le_of_ble_eq_true rfl) rfl 70 rfl ?_
  refine ax_goto 17 d_MO_copies_70 rfl ?_
  exact ax_sub [3, 1, 2, 0] rfl (h0 (((v2 * (v4 + 1)) / t0), t0, (v4 + 1)) (ok_some h))
set_option maxRecDepth 4000 in
theorem c_MO_copies_J56 (v2 : Int32) (v4 : Int32) (m : zM)  {Q : Option Value → zM → Prop} {K : ((Int32 × zM) ⊕ (Int32 × Int32 × Int32)) → Prop} (hR : ∀ p : Int32 × zM, K (.inl p) → Q (some (.int p.1)) p.2) (h0 : ∀ s : Int32 × Int32 × Int32, K (.inr s) → AX gM s_MO_copies 17 [(0, .ref 0), (2, .int s.1), (3, .int s.2.1), (4, .int s.2.2)] [] m Q) (h : ok (f_MO_copies_J56 v2 v4 m) K) : AX gM s_MO_copies 56 [(0, .ref 0), (2, .int v2), (4, .int v4)] [] m Q := by
  unfold f_MO_copies_J56 at h
  refine ax_iconst 1 d_MO_copies_56 ic_1 57 rfl ?_
  exact ax_sub [0, 1, 2] rfl (c_MO_copies_J57 v2 v4 1 m (fun p hp => hR p hp) (fun s hs => h0 s hs) h)
set_option maxRecDepth 4000 in
theorem c_MO_copies_B17 (v2 : Int32) (v3 : Int32) (v4 : Int32) (m : zM)  {Q : Option Value → zM → Prop} {K : ((Int32 × zM) ⊕ (Int32 × Int32 × Int32)) → Prop} (hR : ∀ p : Int32 × zM, K (.inl p) → Q (some (.int p.1)) p.2) (h0 : ∀ s : Int32 × Int32 × Int32, K (.inr s) → AX gM s_MO_copies 17 [(0, .ref 0), (2, .int s.1), (3, .int s.2.1), (4, .int s.2.2)] [] m Q) (h : ok (f_MO_copies_B17 v2 v3 v4 m) K) : AX gM s_MO_copies 17 [(0, .ref 0), (2, .int v2), (3, .int v3), (4, .int v4)] [] m Q := by
  unfold f_MO_copies_B17 at h
  refine ax_iload 3 d_MO_copies_17 rfl 19 rfl ?_
  refine ax_aload_n 0 d_MO_copies_19 rfl rfl 20 rfl ?_
  refine ax_callV mv_MO_358 ⟨Nat.le_of_ble_eq_true rfl, Nat.le_of_ble_eq_true rfl⟩ ⟨rfl, rfl⟩ [] [.ref 0, .int v4] rfl rfl (rc_m_0 _) (Nat.le_of_ble_eq_true rfl) d_MO_copies_20 23 rfl (zc_MO_agents m (ok_b h (fun r3 h => ?_)))
  refine ax_icmp_ge 73 26 d_MO_copies_23 rfl rfl (fun hc => ?_) (fun hc => ?_)
  · have h := ok_t hc h
    refine ax_iload_n 1 d_MO_copies_73 rfl rfl 74 rfl ?_
    exact ax_iret rfl d_MO_copies_74 (hR (v2, m) (ok_some h))
  · have h := ok_f hc h
    refine ax_iload 3 d_MO_copies_26 rfl 28 rfl ?_
    refine ax_if_le 56 31 d_MO_copies_28 rfl rfl (fun hc => ?_) (fun hc => ?_)
    · have h := ok_t hc h
      exact ax_sub [0, 1, 3] rfl (c_MO_copies_J56 v2 v4 m (fun p hp => hR p hp) (fun s hs => h0 s hs) h)
    · have h := ok_f hc h
      refine ax_aload_n 0 d_MO_copies_31 rfl rfl 32 rfl ?_
      refine ax_getR fl_MO_87 m_0 rfl (rm_0_37 _) d_MO_copies_32 35 rfl ?_
      refine ax_iload 3 d_MO_copies_35 rfl 37 rfl ?_
      refine ax_iaload m_25 d_MO_copies_37 38 rfl h (fun i4 h => ?_)
      refine ax_aload_n 0 d_MO_copies_38 rfl rfl 39 rfl ?_
      refine ax_getR fl_MO_87 m_0 rfl (rm_0_37 _) d_MO_copies_39 42 rfl ?_
      refine ax_iload 3 d_MO_copies_42 rfl 44 rfl ?_
      refine ax_iconst 1 d_MO_copies_44 ic_1 45 rfl ?_
      refine ax_isub d_MO_copies_45 46 rfl ?_
      refine ax_iaload m_25 d_MO_copies_46 47 rfl h (fun i5 h => ?_)
      refine ax_icmp_ne 56 50 d_MO_copies_47 rfl rfl (fun hc => ?_) (fun hc => ?_)
      · have h := ok_f hc h
        exact ax_sub [0, 1, 3] rfl (c_MO_copies_J56 v2 v4 m (fun p hp => hR p hp) (fun s hs => h0 s hs) h)
      · have h := ok_t hc h
        refine ax_iload_n 2 d_MO_copies_50 rfl rfl 51 rfl ?_
        refine ax_iconst 1 d_MO_copies_51 ic_1 52 rfl ?_
        refine ax_iadd d_MO_copies_52 53 rfl ?_
        refine ax_goto 57 d_MO_copies_53 rfl ?_
        exact ax_sub [0, 1, 3] rfl (c_MO_copies_J57 v2 v4 (v3 + 1) m (fun p hp => hR p hp) (fun s hs => h0 s hs) h)
theorem c_MO_copies_L17 (v2 : Int32) (v3 : Int32) (v4 : Int32) (m : zM)  {Q : Option Value → zM → Prop} {K : (Int32 × zM) → Prop} (hR : ∀ p : Int32 × zM, K (p) → Q (some (.int p.1)) p.2)  (h : ok (f_MO_copies_L17 v2 v3 v4 m) K) : AX gM s_MO_copies 17 [(0, .ref 0), (2, .int v2), (3, .int v3), (4, .int v4)] [] m Q :=
  ok_lp (K := K) (G := fun s : Int32 × Int32 × Int32 => AX gM s_MO_copies 17 [(0, .ref 0), (2, .int s.1), (3, .int s.2.1), (4, .int s.2.2)] [] m Q) (fun s h => c_MO_copies_B17 s.1 s.2.1 s.2.2 m  (fun p hp => hR p hp) (fun s hs => hs) h) FU (v2, v3, v4) h
set_option maxRecDepth 4000 in
theorem zc_MO_copies (v1 : Int32) (m : zM)  {Q : Option Value → zM → Prop} (h : ok (f_MO_copies v1 m) (fun p => Q (some (.int p.1)) p.2)) : zc gM s_MO_copies [.ref 0, .int v1] m Q := by
  refine zc_of rfl (Nat.le_of_ble_eq_true rfl) ?_
  show AX gM s_MO_copies 0 [(0, .ref 0), (1, .int v1)] [] m Q
  obtain ⟨K, hK⟩ : ∃ K : (Int32 × zM) → Prop, K = (fun p : Int32 × zM => Q (some (.int p.1)) p.2) := ⟨_, rfl⟩
  have hR : ∀ p : Int32 × zM, K p → Q (some (.int p.1)) p.2 := fun p hp => by rw [hK] at hp; exact hp
  replace h : ok (f_MO_copies v1 m) (fun p : Int32 × zM => Q (some (.int p.1)) p.2) := h
  rw [← hK] at h
  unfold f_MO_copies at h
  refine ax_aload_n 0 d_MO_copies_0 rfl rfl 1 rfl ?_
  refine ax_aload_n 0 d_MO_copies_1 rfl rfl 2 rfl ?_
  refine ax_getR fl_MO_96 m_0 rfl (rm_0_42 _) d_MO_copies_2 5 rfl ?_
  refine ax_iload_n 1 d_MO_copies_5 rfl rfl 6 rfl ?_
  refine ax_laload m_27 d_MO_copies_6 7 rfl h (fun i1 h => ?_)
  refine ax_callV mv_MO_415 ⟨Nat.le_of_ble_eq_true rfl, Nat.le_of_ble_eq_true rfl⟩ ⟨rfl, rfl⟩ [.long (m.2.1 27 i1)] [.long (m.2.1 27 i1), .ref 0] rfl rfl (rc_m_0 _) (Nat.le_of_ble_eq_true rfl) d_MO_copies_7 10 rfl (zc_MO_opens (m.2.1 27 i1) m (ok_b h (fun p2 h => ?_)))
  refine ax_iconst 1 d_MO_copies_10 ic_1 11 rfl ?_
  refine ax_istore_n (ls1 := [(2, .int 1), (0, .ref 0), (1, .int v1)]) d_MO_copies_11 rfl (Nat.le_of_ble_eq_true rfl) rfl 12 rfl ?_
  refine ax_iconst 0 d_MO_copies_12 ic_0 13 rfl ?_
  refine ax_istore_n (ls1 := [(3, .int 0), (2, .int 1), (0, .ref 0), (1, .int v1)]) d_MO_copies_13 rfl (Nat.le_of_ble_eq_true rfl) rfl 14 rfl ?_
  refine ax_iconst 0 d_MO_copies_14 ic_0 15 rfl ?_
  refine ax_istore (ls1 := [(4, .int 0), (3, .int 0), (2, .int 1), (0, .ref 0), (1, .int v1)]) d_MO_copies_15 (Nat.le_of_ble_eq_true rfl) rfl 17 rfl ?_
  exact ax_sub [3, 2, 1, 0] rfl (c_MO_copies_L17 1 0 0 p2 (fun p hp => hR p hp) h)
set_option maxRecDepth 4000 in
theorem c_MO_movesFrom_J28 (v1 : Int32) (v2 : Int32) (v3 : Int32) (m : zM)  {Q : Option Value → zM → Prop} {K : ((Int32) ⊕ (Int32 × Int32)) → Prop} (hR : ∀ p : Int32, K (.inl p) → Q (some (.int p)) m) (h0 : ∀ s : Int32 × Int32, K (.inr s) → AX gM s_MO_movesFrom 4 [(0, .ref 0), (1, .int v1), (2, .int s.1), (3, .int s.2)] [] m Q) (h : ok (f_MO_movesFrom_J28 v1 v2 v3 m) K) : AX gM s_MO_movesFrom 28 [(0, .ref 0), (1, .int v1), (2, .int v2), (3, .int v3)] [] m Q := by
  unfold f_MO_movesFrom_J28 at h
  refine ax_iinc (ls1 := [(3, .int (v3 + 1)), (0, .ref 0), (1, .int v1), (2, .int v2)]) 3 1 d_MO_movesFrom_28 rfl ic_1 (Nat.le_of_ble_eq_true rfl) rfl 31 rfl ?_
  refine ax_goto 4 d_MO_movesFrom_31 rfl ?_
  exact ax_sub [1, 2, 3, 0] rfl (h0 (v2, (v3 + 1)) (ok_some h))
set_option maxRecDepth 4000 in
theorem c_MO_movesFrom_B4 (v1 : Int32) (v2 : Int32) (v3 : Int32) (m : zM)  {Q : Option Value → zM → Prop} {K : ((Int32) ⊕ (Int32 × Int32)) → Prop} (hR : ∀ p : Int32, K (.inl p) → Q (some (.int p)) m) (h0 : ∀ s : Int32 × Int32, K (.inr s) → AX gM s_MO_movesFrom 4 [(0, .ref 0), (1, .int v1), (2, .int s.1), (3, .int s.2)] [] m Q) (h : ok (f_MO_movesFrom_B4 v1 v2 v3 m) K) : AX gM s_MO_movesFrom 4 [(0, .ref 0), (1, .int v1), (2, .int v2), (3, .int v3)] [] m Q := by
  unfold f_MO_movesFrom_B4 at h
  refine ax_iload_n 3 d_MO_movesFrom_4 rfl rfl 5 rfl ?_
  refine ax_bipush 64 d_MO_movesFrom_5 bp_64 7 rfl ?_
  refine ax_icmp_ge 34 10 d_MO_movesFrom_7 rfl rfl (fun hc => ?_) (fun hc => ?_)
  · have h := ok_t hc h
    refine ax_iload_n 2 d_MO_movesFrom_34 rfl rfl 35 rfl ?_
    exact ax_iret rfl d_MO_movesFrom_35 (hR v2 (ok_some h))
  · have h := ok_f hc h
    refine ax_aload_n 0 d_MO_movesFrom_10 rfl rfl 11 rfl ?_
    refine ax_getR fl_MO_107 m_0 rfl (rm_0_45 _) d_MO_movesFrom_11 14 rfl ?_
    refine ax_bipush 64 d_MO_movesFrom_14 bp_64 16 rfl ?_
    refine ax_iload_n 1 d_MO_movesFrom_16 rfl rfl 17 rfl ?_
    refine ax_imul d_MO_movesFrom_17 18 rfl ?_
    refine ax_iload_n 3 d_MO_movesFrom_18 rfl rfl 19 rfl ?_
    refine ax_iadd d_MO_movesFrom_19 20 rfl ?_
    refine ax_iaload m_30 d_MO_movesFrom_20 21 rfl h (fun i1 h => ?_)
    refine ax_iconst (-1) d_MO_movesFrom_21 ic_m1 22 rfl ?_
    refine ax_icmp_eq 28 25 d_MO_movesFrom_22 rfl rfl (fun hc => ?_) (fun hc => ?_)
    · have h := ok_t hc h
      exact ax_sub [0, 1, 2, 3] rfl (c_MO_movesFrom_J28 v1 v2 v3 m (fun p hp => hR p hp) (fun s hs => h0 s hs) h)
    · have h := ok_f hc h
      refine ax_iinc (ls1 := [(2, .int (v2 + 1)), (0, .ref 0), (1, .int v1), (3, .int v3)]) 2 1 d_MO_movesFrom_25 rfl ic_1 (Nat.le_of_ble_eq_true rfl) rfl 28 rfl ?_
      exact ax_sub [1, 2, 0, 3] rfl (c_MO_movesFrom_J28 v1 (v2 + 1) v3 m (fun p hp => hR p hp) (fun s hs => h0 s hs) h)
theorem c_MO_movesFrom_L4 (v1 : Int32) (v2 : Int32) (v3 : Int32) (m : zM)  {Q : Option Value → zM → Prop} {K : Int32 → Prop} (hR : ∀ p : Int32, K (p) → Q (some (.int p)) m)  (h : ok (f_MO_movesFrom_L4 v1 v2 v3 m) K) : AX gM s_MO_movesFrom 4 [(0, .ref 0), (1, .int v1), (2, .int v2), (3, .int v3)] [] m Q :=
  ok_lp (K := K) (G := fun s : Int32 × Int32 => AX gM s_MO_movesFrom 4 [(0, .ref 0), (1, .int v1), (2, .int s.1), (3, .int s.2)] [] m Q) (fun s h => c_MO_movesFrom_B4 v1 s.1 s.2 m  (fun p hp => hR p hp) (fun s hs => hs) h) FU (v2, v3) h
set_option maxRecDepth 4000 in
theorem zc_MO_movesFrom (v1 : Int32) (m : zM)  {Q : Option Value → zM → Prop} (h : ok (f_MO_movesFrom v1 m) (fun p => Q (some (.int p)) m)) : zc gM s_MO_movesFrom [.ref 0, .int v1] m Q := by
  refine zc_of rfl (Nat.le_of_ble_eq_true rfl) ?_
  show AX gM s_MO_movesFrom 0 [(0, .ref 0), (1, .int v1)] [] m Q
  obtain ⟨K, hK⟩ : ∃ K : Int32 → Prop, K = (fun p : Int32 => Q (some (.int p)) m) := ⟨_, rfl⟩
  have hR : ∀ p : Int32, K p → Q (some (.int p)) m := fun p hp => by rw [hK] at hp; exact hp
  replace h : ok (f_MO_movesFrom v1 m) (fun p : Int32 => Q (some (.int p)) m) := h
  rw [← hK] at h
  unfold f_MO_movesFrom at h
  refine ax_iconst 0 d_MO_movesFrom_0 ic_0 1 rfl ?_
  refine ax_istore_n (ls1 := [(2, .int 0), (0, .ref 0), (1, .int v1)]) d_MO_movesFrom_1 rfl (Nat.le_of_ble_eq_true rfl) rfl 2 rfl ?_
  refine ax_iconst 0 d_MO_movesFrom_2 ic_0 3 rfl ?_
  refine ax_istore_n (ls1 := [(3, .int 0), (2, .int 0), (0, .ref 0), (1, .int v1)]) d_MO_movesFrom_3 rfl (Nat.le_of_ble_eq_true rfl) rfl 4 rfl ?_
  exact ax_sub [2, 3, 1, 0] rfl (c_MO_movesFrom_L4 v1 0 0 m (fun p hp => hR p hp) h)
set_option maxRecDepth 4000 in
theorem c_MO_isNever_J69 (v2 : Int32) (v3 : Int32) (v4 : Int32) (m : zM)  {Q : Option Value → zM → Prop} {K : ((Bool) ⊕ (Int32)) → Prop} (hR : ∀ p : Bool, K (.inl p) → Q (some (.int (b2i p))) m) (h0 : ∀ s : Int32, K (.inr s) → AX gM s_MO_isNever 10 [(0, .ref 0), (2, .int v2), (3, .int s)] [] m Q) (h : ok (f_MO_isNever_J69 v2 v3 v4 m) K) : AX gM s_MO_isNever 69 [(0, .ref 0), (2, .int v2), (3, .int v3), (4, .int v4)] [] m Q := by
  unfold f_MO_isNever_J69 at h
  refine ax_iload 3 d_MO_isNever_69 rfl 71 rfl ?_
  refine ax_aload_n 0 d_MO_isNever_71 rfl rfl 72 rfl ?_
  refine ax_getR fl_MO_81 m_0 rfl (rm_0_31 _) d_MO_isNever_72 75 rfl ?_
  refine ax_iload_n 1 d_MO_isNever_75 rfl rfl 76 rfl ?_
  refine ax_iconst 1 d_MO_isNever_76 ic_1 77 rfl ?_
  refine ax_iadd d_MO_isNever_77 78 rfl ?_
  refine ax_iconst 2 d_MO_isNever_78 ic_2 79 rfl ?_
  refine ax_iload_n 2 d_MO_isNever_79 rfl rfl 80 rfl ?_
  refine ax_imul d_MO_isNever_80 81 rfl ?_
  refine ax_iadd d_MO_isNever_81 82 rfl ?_
  refine ax_iaload m_23 d_MO_isNever_82 83 rfl h (fun i5 h => ?_)
  refine ax_icmp_ge 88 86 d_MO_isNever_83 rfl rfl (fun hc => ?_) (fun hc => ?_)
  · have h := ok_t hc h
    refine ax_iinc (ls1 := [(3, .int (v3 + 1)), (0, .ref 0), (2, .int v2), (4, .int v4)]) 2 1 d_MO_isNever_88 rfl ic_1 (Nat.le_of_ble_eq_true rfl) rfl 91 rfl ?_
    refine ax_goto 10 d_MO_isNever_91 rfl ?_
    exact ax_sub [1, 2, 0] rfl (h0 (v3 + 1) (ok_some h))
  · have h := ok_f hc h
    refine ax_iconst 0 d_MO_isNever_86 ic_0 87 rfl ?_
    exact ax_zret (b := false) rfl d_MO_isNever_87 (hR false (ok_some h))
set_option maxRecDepth 4000 in
theorem c_MO_isNever_J63 (v2 : Int32) (v3 : Int32) (v4 : Int32) (v5 : Int32) (m : zM)  {Q : Option Value → zM → Prop} {K : (((Bool) ⊕ (Int32)) ⊕ (Int32 × Int32)) → Prop} (hR : ∀ p : Bool, K (.inl (.inl p)) → Q (some (.int (b2i p))) m) (h0 : ∀ s : Int32, K (.inl (.inr s)) → AX gM s_MO_isNever 10 [(0, .ref 0), (2, .int v2), (3, .int s)] [] m Q) (h1 : ∀ s : Int32 × Int32, K (.inr s) → AX gM s_MO_isNever 26 [(0, .ref 0), (2, .int v2), (3, .int v3), (4, .int s.1), (5, .int s.2)] [] m Q) (h : ok (f_MO_isNever_J63 v2 v3 v4 v5 m) K) : AX gM s_MO_isNever 63 [(0, .ref 0), (2, .int v2), (3, .int v3), (4, .int v4), (5, .int v5)] [] m Q := by
  unfold f_MO_isNever_J63 at h
  refine ax_iinc (ls1 := [(5, .int (v5 + 1)), (0, .ref 0), (2, .int v2), (3, .int v3), (4, .int v4)]) 4 1 d_MO_isNever_63 rfl ic_1 (Nat.le_of_ble_eq_true rfl) rfl 66 rfl ?_
  refine ax_goto 26 d_MO_isNever_66 rfl ?_
  exact ax_sub [1, 2, 3, 4, 0] rfl (h1 (v4, (v5 + 1)) (ok_some h))
set_option maxRecDepth 4000 in
theorem c_MO_isNever_B26 (v2 : Int32) (v3 : Int32) (v4 : Int32) (v5 : Int32) (m : zM)  {Q : Option Value → zM → Prop} {K : (((Bool) ⊕ (Int32)) ⊕ (Int32 × Int32)) → Prop} (hR : ∀ p : Bool, K (.inl (.inl p)) → Q (some (.int (b2i p))) m) (h0 : ∀ s : Int32, K (.inl (.inr s)) → AX gM s_MO_isNever 10 [(0, .ref 0), (2, .int v2), (3, .int s)] [] m Q) (h1 : ∀ s : Int32 × Int32, K (.inr s) → AX gM s_MO_isNever 26 [(0, .ref 0), (2, .int v2), (3, .int v3), (4, .int s.1), (5, .int s.2)] [] m Q) (h : ok (f_MO_isNever_B26 v2 v3 v4 v5 m) K) : AX gM s_MO_isNever 26 [(0, .ref 0), (2, .int v2), (3, .int v3), (4, .int v4), (5, .int v5)] [] m Q := by
  unfold f_MO_isNever_B26 at h
  refine ax_iload 4 d_MO_isNever_26 rfl 28 rfl ?_
  refine ax_aload_n 0 d_MO_isNever_28 rfl rfl 29 rfl ?_
  refine ax_callV mv_MO_358 ⟨Nat.le_of_ble_eq_true rfl, Nat.le_of_ble_eq_true rfl⟩ ⟨rfl, rfl⟩ [] [.ref 0, .int v5] rfl rfl (rc_m_0 _) (Nat.le_of_ble_eq_true rfl) d_MO_isNever_29 32 rfl (zc_MO_agents m (ok_b h (fun r2 h => ?_)))
  refine ax_icmp_ge 69 35 d_MO_isNever_32 rfl rfl (fun hc => ?_) (fun hc => ?_)
  · have h := ok_t hc h
    exact ax_sub [0, 1, 2, 3] rfl (c_MO_isNever_J69 v2 v3 v4 m (fun p hp => hR p hp) (fun s hs => h0 s hs) (ok_z h))
  · have h := ok_f hc h
    refine ax_aload_n 0 d_MO_isNever_35 rfl rfl 36 rfl ?_
    refine ax_getR fl_MO_87 m_0 rfl (rm_0_37 _) d_MO_isNever_36 39 rfl ?_
    refine ax_iload 4 d_MO_isNever_39 rfl 41 rfl ?_
    refine ax_iaload m_25 d_MO_isNever_41 42 rfl h (fun i3 h => ?_)
    refine ax_callS mv_MO_346 ⟨Nat.le_of_ble_eq_true rfl, Nat.le_of_ble_eq_true rfl⟩ ⟨rfl, rfl⟩ [.int (m.1 25 i3)] [.int (m.1 25 i3)] rfl rfl (Nat.le_of_ble_eq_true rfl) d_MO_isNever_42 45 rfl (zc_MO_stateOf (m.1 25 i3) m ?_)
    refine ax_aload_n 0 d_MO_isNever_45 rfl rfl 46 rfl ?_
    refine ax_getR fl_MO_81 m_0 rfl (rm_0_31 _) d_MO_isNever_46 49 rfl ?_
    refine ax_iload_n 1 d_MO_isNever_49 rfl rfl 50 rfl ?_
    refine ax_iconst 2 d_MO_isNever_50 ic_2 51 rfl ?_
    refine ax_iadd d_MO_isNever_51 52 rfl ?_
    refine ax_iconst 2 d_MO_isNever_52 ic_2 53 rfl ?_
    refine ax_iload_n 2 d_MO_isNever_53 rfl rfl 54 rfl ?_
    refine ax_imul d_MO_isNever_54 55 rfl ?_
    refine ax_iadd d_MO_isNever_55 56 rfl ?_
    refine ax_iaload m_23 d_MO_isNever_56 57 rfl h (fun i4 h => ?_)
    refine ax_icmp_ne 63 60 d_MO_isNever_57 rfl rfl (fun hc => ?_) (fun hc => ?_)
    · have h := ok_f hc h
      exact ax_sub [0, 1, 2, 3, 4] rfl (c_MO_isNever_J63 v2 v3 v4 v5 m (fun p hp => hR p hp) (fun s hs => h0 s hs) (fun s hs => h1 s hs) h)
    · have h := ok_t hc h
      refine ax_iinc (ls1 := [(4, .int (v4 + 1)), (0, .ref 0), (2, .int v2), (3, .int v3), (5, .int v5)]) 3 1 d_MO_isNever_60 rfl ic_1 (Nat.le_of_ble_eq_true rfl) rfl 63 rfl ?_
      exact ax_sub [1, 2, 3, 0, 4] rfl (c_MO_isNever_J63 v2 v3 (v4 + 1) v5 m (fun p hp => hR p hp) (fun s hs => h0 s hs) (fun s hs => h1 s hs) h)
theorem c_MO_isNever_L26 (v2 : Int32) (v3 : Int32) (v4 : Int32) (v5 : Int32) (m : zM)  {Q : Option Value → zM → Prop} {K : ((Bool) ⊕ (Int32)) → Prop} (hR : ∀ p : Bool, K (.inl p) → Q (some (.int (b2i p))) m) (h0 : ∀ s : Int32, K (.inr s) → AX gM s_MO_isNever 10 [(0, .ref 0), (2, .int v2), (3, .int s)] [] m Q) (h : ok (f_MO_isNever_L26 v2 v3 v4 v5 m) K) : AX gM s_MO_isNever 26 [(0, .ref 0), (2, .int v2), (3, .int v3), (4, .int v4), (5, .int v5)] [] m Q :=
  ok_lp (K := K) (G := fun s : Int32 × Int32 => AX gM s_MO_isNever 26 [(0, .ref 0), (2, .int v2), (3, .int v3), (4, .int s.1), (5, .int s.2)] [] m Q) (fun s h => c_MO_isNever_B26 v2 v3 s.1 s.2 m  (fun p hp => hR p hp) (fun s hs => h0 s hs) (fun s hs => hs) h) FU (v4, v5) h
set_option maxRecDepth 4000 in
theorem c_MO_isNever_B10 (v2 : Int32) (v3 : Int32) (m : zM)  {Q : Option Value → zM → Prop} {K : ((Bool) ⊕ (Int32)) → Prop} (hR : ∀ p : Bool, K (.inl p) → Q (some (.int (b2i p))) m) (h0 : ∀ s : Int32, K (.inr s) → AX gM s_MO_isNever 10 [(0, .ref 0), (2, .int v2), (3, .int s)] [] m Q) (h : ok (f_MO_isNever_B10 v2 v3 m) K) : AX gM s_MO_isNever 10 [(0, .ref 0), (2, .int v2), (3, .int v3)] [] m Q := by
  unfold f_MO_isNever_B10 at h
  refine ax_iload_n 2 d_MO_isNever_10 rfl rfl 11 rfl ?_
  refine ax_aload_n 0 d_MO_isNever_11 rfl rfl 12 rfl ?_
  refine ax_getR fl_MO_81 m_0 rfl (rm_0_31 _) d_MO_isNever_12 15 rfl ?_
  refine ax_iload_n 1 d_MO_isNever_15 rfl rfl 16 rfl ?_
  refine ax_iaload m_23 d_MO_isNever_16 17 rfl h (fun i1 h => ?_)
  refine ax_icmp_ge 94 20 d_MO_isNever_17 rfl rfl (fun hc => ?_) (fun hc => ?_)
  · have h := ok_t hc h
    refine ax_iconst 1 d_MO_isNever_94 ic_1 95 rfl ?_
    exact ax_zret (b := true) rfl d_MO_isNever_95 (hR true (ok_some h))
  · have h := ok_f hc h
    refine ax_iconst 0 d_MO_isNever_20 ic_0 21 rfl ?_
    refine ax_istore (ls1 := [(4, .int 0), (0, .ref 0), (2, .int v2), (3, .int v3)]) d_MO_isNever_21 (Nat.le_of_ble_eq_true rfl) rfl 23 rfl ?_
    refine ax_iconst 0 d_MO_isNever_23 ic_0 24 rfl ?_
    refine ax_istore (ls1 := [(5, .int 0), (4, .int 0), (0, .ref 0), (2, .int v2), (3, .int v3)]) d_MO_isNever_24 (Nat.le_of_ble_eq_true rfl) rfl 26 rfl ?_
    exact ax_sub [2, 3, 4, 1, 0] rfl (c_MO_isNever_L26 v2 v3 0 0 m (fun p hp => hR p hp) (fun s hs => h0 s hs) h)
theorem c_MO_isNever_L10 (v2 : Int32) (v3 : Int32) (m : zM)  {Q : Option Value → zM → Prop} {K : Bool → Prop} (hR : ∀ p : Bool, K (p) → Q (some (.int (b2i p))) m)  (h : ok (f_MO_isNever_L10 v2 v3 m) K) : AX gM s_MO_isNever 10 [(0, .ref 0), (2, .int v2), (3, .int v3)] [] m Q :=
  ok_lp (K := K) (G := fun s : Int32 => AX gM s_MO_isNever 10 [(0, .ref 0), (2, .int v2), (3, .int s)] [] m Q) (fun s h => c_MO_isNever_B10 v2 s m  (fun p hp => hR p hp) (fun s hs => hs) h) FU v3 h
set_option maxRecDepth 4000 in
theorem zc_MO_isNever (v1 : Int32) (m : zM)  {Q : Option Value → zM → Prop} (h : ok (f_MO_isNever v1 m) (fun p => Q (some (.int (b2i p))) m)) : zc gM s_MO_isNever [.ref 0, .int v1] m Q := by
  refine zc_of rfl (Nat.le_of_ble_eq_true rfl) ?_
  show AX gM s_MO_isNever 0 [(0, .ref 0), (1, .int v1)] [] m Q
  obtain ⟨K, hK⟩ : ∃ K : Bool → Prop, K = (fun p : Bool => Q (some (.int (b2i p))) m) := ⟨_, rfl⟩
  have hR : ∀ p : Bool, K p → Q (some (.int (b2i p))) m := fun p hp => by rw [hK] at hp; exact hp
  replace h : ok (f_MO_isNever v1 m) (fun p : Bool => Q (some (.int (b2i p))) m) := h
  rw [← hK] at h
  unfold f_MO_isNever at h
  refine ax_bipush 28 d_MO_isNever_0 bp_28 2 rfl ?_
  refine ax_bipush 7 d_MO_isNever_2 bp_7 4 rfl ?_
  refine ax_iload_n 1 d_MO_isNever_4 rfl rfl 5 rfl ?_
  refine ax_imul d_MO_isNever_5 6 rfl ?_
  refine ax_iadd d_MO_isNever_6 7 rfl ?_
  refine ax_istore_n (ls1 := [(2, .int (28 + (7 * v1))), (0, .ref 0), (1, .int v1)]) d_MO_isNever_7 rfl (Nat.le_of_ble_eq_true rfl) rfl 8 rfl ?_
  refine ax_iconst 0 d_MO_isNever_8 ic_0 9 rfl ?_
  refine ax_istore_n (ls1 := [(3, .int 0), (2, .int (28 + (7 * v1))), (0, .ref 0), (1, .int v1)]) d_MO_isNever_9 rfl (Nat.le_of_ble_eq_true rfl) rfl 10 rfl ?_
  exact ax_sub [2, 1, 0] rfl (c_MO_isNever_L10 (28 + (7 * v1)) 0 m (fun p hp => hR p hp) h)
set_option maxRecDepth 4000 in
theorem c_MO_isBad_B7 (v3 : Int32) (m : zM)  {Q : Option Value → zM → Prop} {K : ((Bool × zM) ⊕ (Int32)) → Prop} (hR : ∀ p : Bool × zM, K (.inl p) → Q (some (.int (b2i p.1))) p.2) (h0 : ∀ s : Int32, K (.inr s) → AX gM s_MO_isBad 7 [(0, .ref 0), (3, .int s)] [] m Q) (h : ok (f_MO_isBad_B7 v3 m) K) : AX gM s_MO_isBad 7 [(0, .ref 0), (3, .int v3)] [] m Q := by
  unfold f_MO_isBad_B7 at h
  refine ax_iload_n 1 d_MO_isBad_7 rfl rfl 8 rfl ?_
  refine ax_aload_n 0 d_MO_isBad_8 rfl rfl 9 rfl ?_
  refine ax_getR fl_MO_81 m_0 rfl (rm_0_31 _) d_MO_isBad_9 12 rfl ?_
  refine ax_iconst 5 d_MO_isBad_12 ic_5 13 rfl ?_
  refine ax_iaload m_23 d_MO_isBad_13 14 rfl h (fun i2 h => ?_)
  refine ax_icmp_ge 33 17 d_MO_isBad_14 rfl rfl (fun hc => ?_) (fun hc => ?_)
  · have h := ok_t hc h
    refine ax_iconst 0 d_MO_isBad_33 ic_0 34 rfl ?_
    exact ax_zret (b := false) rfl d_MO_isBad_34 (hR (false, m) (ok_some h))
  · have h := ok_f hc h
    refine ax_aload_n 0 d_MO_isBad_17 rfl rfl 18 rfl ?_
    refine ax_iload_n 1 d_MO_isBad_18 rfl rfl 19 rfl ?_
    refine ax_callV mv_MO_425 ⟨Nat.le_of_ble_eq_true rfl, Nat.le_of_ble_eq_true rfl⟩ ⟨rfl, rfl⟩ [.int v3] [.int v3, .ref 0] rfl rfl (rc_m_0 _) (Nat.le_of_ble_eq_true rfl) d_MO_isBad_19 22 rfl (zc_MO_isNever v3 m (ok_b h (fun r3 h => ?_)))
    refine ax_ifb_eq 27 25 d_MO_isBad_22 rfl rfl (fun hc => ?_) (fun hc => ?_)
    · have h := ok_f (bf hc) h
      refine ax_iinc (ls1 := [(3, .int (v3 + 1)), (0, .ref 0)]) 1 1 d_MO_isBad_27 rfl ic_1 (Nat.le_of_ble_eq_true rfl) rfl 30 rfl ?_
      refine ax_goto 7 d_MO_isBad_30 rfl ?_
      exact ax_sub [1, 0] rfl (h0 (v3 + 1) (ok_some h))
    · have h := ok_t hc h
      refine ax_iconst 1 d_MO_isBad_25 ic_1 26 rfl ?_
      exact ax_zret (b := true) rfl d_MO_isBad_26 (hR (true, m) (ok_some h))
theorem c_MO_isBad_L7 (v3 : Int32) (m : zM)  {Q : Option Value → zM → Prop} {K : (Bool × zM) → Prop} (hR : ∀ p : Bool × zM, K (p) → Q (some (.int (b2i p.1))) p.2)  (h : ok (f_MO_isBad_L7 v3 m) K) : AX gM s_MO_isBad 7 [(0, .ref 0), (3, .int v3)] [] m Q :=
  ok_lp (K := K) (G := fun s : Int32 => AX gM s_MO_isBad 7 [(0, .ref 0), (3, .int s)] [] m Q) (fun s h => c_MO_isBad_B7 s m  (fun p hp => hR p hp) (fun s hs => hs) h) FU v3 h
set_option maxRecDepth 4000 in
theorem zc_MO_isBad (v1 : Int64) (m : zM)  {Q : Option Value → zM → Prop} (h : ok (f_MO_isBad v1 m) (fun p => Q (some (.int (b2i p.1))) p.2)) : zc gM s_MO_isBad [.ref 0, .long v1] m Q := by
  refine zc_of rfl (Nat.le_of_ble_eq_true rfl) ?_
  show AX gM s_MO_isBad 0 [(0, .ref 0), (1, .long v1)] [] m Q
  obtain ⟨K, hK⟩ : ∃ K : (Bool × zM) → Prop, K = (fun p : Bool × zM => Q (some (.int (b2i p.1))) p.2) := ⟨_, rfl⟩
  have hR : ∀ p : Bool × zM, K p → Q (some (.int (b2i p.1))) p.2 := fun p hp => by rw [hK] at hp; exact hp
  replace h : ok (f_MO_isBad v1 m) (fun p : Bool × zM => Q (some (.int (b2i p.1))) p.2) := h
  rw [← hK] at h
  unfold f_MO_isBad at h
  refine ax_aload_n 0 d_MO_isBad_0 rfl rfl 1 rfl ?_
  refine ax_lload_n 1 d_MO_isBad_1 rfl rfl 2 rfl ?_
  refine ax_callV mv_MO_415 ⟨Nat.le_of_ble_eq_true rfl, Nat.le_of_ble_eq_true rfl⟩ ⟨rfl, rfl⟩ [.long v1] [.long v1, .ref 0] rfl rfl (rc_m_0 _) (Nat.le_of_ble_eq_true rfl) d_MO_isBad_2 5 rfl (zc_MO_opens v1 m (ok_b h (fun p1 h => ?_)))
  refine ax_iconst 0 d_MO_isBad_5 ic_0 6 rfl ?_
  refine ax_istore_n (ls1 := [(3, .int 0), (0, .ref 0), (1, .long v1)]) d_MO_isBad_6 rfl (Nat.le_of_ble_eq_true rfl) rfl 7 rfl ?_
  exact ax_sub [1, 0] rfl (c_MO_isBad_L7 0 p1 (fun p hp => hR p hp) h)
set_option maxRecDepth 4000 in
theorem c_MO_sumOf_J85 (v1 : Int32) (v2 : Int32) (v3 : Int32) (m : zM)  {Q : Option Value → zM → Prop} {K : ((Int32 × zM) ⊕ (Int32 × Int32 × zM)) → Prop} (hR : ∀ p : Int32 × zM, K (.inl p) → Q (some (.int p.1)) p.2) (h0 : ∀ s : Int32 × Int32 × zM, K (.inr s) → AX gM s_MO_sumOf 4 [(0, .ref 0), (1, .int v1), (2, .int s.1), (3, .int s.2.1)] [] s.2.2 Q) (h : ok (f_MO_sumOf_J85 v1 v2 v3 m) K) : AX gM s_MO_sumOf 85 [(0, .ref 0), (1, .int v1), (2, .int v2), (3, .int v3)] [] m Q := by
  unfold f_MO_sumOf_J85 at h
  refine ax_iinc (ls1 := [(3, .int (v3 + 1)), (0, .ref 0), (1, .int v1), (2, .int v2)]) 3 1 d_MO_sumOf_85 rfl ic_1 (Nat.le_of_ble_eq_true rfl) rfl 88 rfl ?_
  refine ax_goto 4 d_MO_sumOf_88 rfl ?_
  exact ax_sub [1, 2, 3, 0] rfl (h0 (v2, (v3 + 1), m) (ok_some h))
set_option maxRecDepth 4000 in
theorem c_MO_sumOf_J67 (v1 : Int32) (v2 : Int32) (v3 : Int32) (v4 : Int32) (m : zM)  {Q : Option Value → zM → Prop} {K : ((Int32 × zM) ⊕ (Int32 × Int32 × zM)) → Prop} (hR : ∀ p : Int32 × zM, K (.inl p) → Q (some (.int p.1)) p.2) (h0 : ∀ s : Int32 × Int32 × zM, K (.inr s) → AX gM s_MO_sumOf 4 [(0, .ref 0), (1, .int v1), (2, .int s.1), (3, .int s.2.1)] [] s.2.2 Q) (h : ok (f_MO_sumOf_J67 v1 v2 v3 v4 m) K) : AX gM s_MO_sumOf 67 [(0, .ref 0), (1, .int v1), (2, .int v2), (3, .int v3), (4, .int v4)] [] m Q := by
  unfold f_MO_sumOf_J67 at h
  refine ax_iload_n 1 d_MO_sumOf_67 rfl rfl 68 rfl ?_
  refine ax_iconst 3 d_MO_sumOf_68 ic_3 69 rfl ?_
  refine ax_icmp_ne 85 72 d_MO_sumOf_69 rfl rfl (fun hc => ?_) (fun hc => ?_)
  · have h := ok_f hc h
    exact ax_sub [0, 1, 2, 3] rfl (c_MO_sumOf_J85 v1 v2 v3 m (fun p hp => hR p hp) (fun s hs => h0 s hs) h)
  · have h := ok_t hc h
    refine ax_aload_n 0 d_MO_sumOf_72 rfl rfl 73 rfl ?_
    refine ax_iload_n 3 d_MO_sumOf_73 rfl rfl 74 rfl ?_
    refine ax_callV mv_MO_431 ⟨Nat.le_of_ble_eq_true rfl, Nat.le_of_ble_eq_true rfl⟩ ⟨rfl, rfl⟩ [.int v3] [.int v3, .ref 0] rfl rfl (rc_m_0 _) (Nat.le_of_ble_eq_true rfl) d_MO_sumOf_74 77 rfl (zc_MO_movesFrom v3 m (ok_b h (fun r5 h => ?_)))
    refine ax_if_ne 85 80 d_MO_sumOf_77 rfl rfl (fun hc => ?_) (fun hc => ?_)
    · have h := ok_f hc h
      exact ax_sub [0, 1, 2, 3] rfl (c_MO_sumOf_J85 v1 v2 v3 m (fun p hp => hR p hp) (fun s hs => h0 s hs) h)
    · have h := ok_t hc h
      refine ax_iload_n 2 d_MO_sumOf_80 rfl rfl 81 rfl ?_
      refine ax_iload 4 d_MO_sumOf_81 rfl 83 rfl ?_
      refine ax_iadd d_MO_sumOf_83 84 rfl ?_
      refine ax_istore_n (ls1 := [(2, .int (v2 + v4)), (0, .ref 0), (1, .int v1), (3, .int v3), (4, .int v4)]) d_MO_sumOf_84 rfl (Nat.le_of_ble_eq_true rfl) rfl 85 rfl ?_
      exact ax_sub [1, 2, 0, 3] rfl (c_MO_sumOf_J85 v1 (v2 + v4) v3 m (fun p hp => hR p hp) (fun s hs => h0 s hs) h)
set_option maxRecDepth 4000 in
theorem c_MO_sumOf_J44 (v1 : Int32) (v2 : Int32) (v3 : Int32) (v4 : Int32) (m : zM)  {Q : Option Value → zM → Prop} {K : ((Int32 × zM) ⊕ (Int32 × Int32 × zM)) → Prop} (hR : ∀ p : Int32 × zM, K (.inl p) → Q (some (.int p.1)) p.2) (h0 : ∀ s : Int32 × Int32 × zM, K (.inr s) → AX gM s_MO_sumOf 4 [(0, .ref 0), (1, .int v1), (2, .int s.1), (3, .int s.2.1)] [] s.2.2 Q) (h : ok (f_MO_sumOf_J44 v1 v2 v3 v4 m) K) : AX gM s_MO_sumOf 44 [(0, .ref 0), (1, .int v1), (2, .int v2), (3, .int v3), (4, .int v4)] [] m Q := by
  unfold f_MO_sumOf_J44 at h
  refine ax_iload_n 1 d_MO_sumOf_44 rfl rfl 45 rfl ?_
  refine ax_iconst 2 d_MO_sumOf_45 ic_2 46 rfl ?_
  refine ax_icmp_ne 67 49 d_MO_sumOf_46 rfl rfl (fun hc => ?_) (fun hc => ?_)
  · have h := ok_f hc h
    exact ax_sub [0, 1, 2, 3, 4] rfl (c_MO_sumOf_J67 v1 v2 v3 v4 m (fun p hp => hR p hp) (fun s hs => h0 s hs) h)
  · have h := ok_t hc h
    refine ax_aload_n 0 d_MO_sumOf_49 rfl rfl 50 rfl ?_
    refine ax_aload_n 0 d_MO_sumOf_50 rfl rfl 51 rfl ?_
    refine ax_getR fl_MO_96 m_0 rfl (rm_0_42 _) d_MO_sumOf_51 54 rfl ?_
    refine ax_iload_n 3 d_MO_sumOf_54 rfl rfl 55 rfl ?_
    refine ax_laload m_27 d_MO_sumOf_55 56 rfl h (fun i3 h => ?_)
    refine ax_callV mv_MO_434 ⟨Nat.le_of_ble_eq_true rfl, Nat.le_of_ble_eq_true rfl⟩ ⟨rfl, rfl⟩ [.long (m.2.1 27 i3)] [.long (m.2.1 27 i3), .ref 0] rfl rfl (rc_m_0 _) (Nat.le_of_ble_eq_true rfl) d_MO_sumOf_56 59 rfl (zc_MO_isBad (m.2.1 27 i3) m (ok_b h (fun p4 h => ?_)))
    refine ax_ifb_eq 67 62 d_MO_sumOf_59 rfl rfl (fun hc => ?_) (fun hc => ?_)
    · have h := ok_f (bf hc) h
      exact ax_sub [0, 1, 2, 3, 4] rfl (c_MO_sumOf_J67 v1 v2 v3 v4 p4.2 (fun p hp => hR p hp) (fun s hs => h0 s hs) h)
    · have h := ok_t hc h
      refine ax_iload_n 2 d_MO_sumOf_62 rfl rfl 63 rfl ?_
      refine ax_iload 4 d_MO_sumOf_63 rfl 65 rfl ?_
      refine ax_iadd d_MO_sumOf_65 66 rfl ?_
      refine ax_istore_n (ls1 := [(2, .int (v2 + v4)), (0, .ref 0), (1, .int v1), (3, .int v3), (4, .int v4)]) d_MO_sumOf_66 rfl (Nat.le_of_ble_eq_true rfl) rfl 67 rfl ?_
      exact ax_sub [1, 2, 0, 3, 4] rfl (c_MO_sumOf_J67 v1 (v2 + v4) v3 v4 p4.2 (fun p hp => hR p hp) (fun s hs => h0 s hs) h)
set_option maxRecDepth 4000 in
theorem c_MO_sumOf_J28 (v1 : Int32) (v2 : Int32) (v3 : Int32) (v4 : Int32) (m : zM)  {Q : Option Value → zM → Prop} {K : ((Int32 × zM) ⊕ (Int32 × Int32 × zM)) → Prop} (hR : ∀ p : Int32 × zM, K (.inl p) → Q (some (.int p.1)) p.2) (h0 : ∀ s : Int32 × Int32 × zM, K (.inr s) → AX gM s_MO_sumOf 4 [(0, .ref 0), (1, .int v1), (2, .int s.1), (3, .int s.2.1)] [] s.2.2 Q) (h : ok (f_MO_sumOf_J28 v1 v2 v3 v4 m) K) : AX gM s_MO_sumOf 28 [(0, .ref 0), (1, .int v1), (2, .int v2), (3, .int v3), (4, .int v4)] [] m Q := by
  unfold f_MO_sumOf_J28 at h
  refine ax_iload_n 1 d_MO_sumOf_28 rfl rfl 29 rfl ?_
  refine ax_iconst 1 d_MO_sumOf_29 ic_1 30 rfl ?_
  refine ax_icmp_ne 44 33 d_MO_sumOf_30 rfl rfl (fun hc => ?_) (fun hc => ?_)
  · have h := ok_f hc h
    exact ax_sub [0, 1, 2, 3, 4] rfl (c_MO_sumOf_J44 v1 v2 v3 v4 m (fun p hp => hR p hp) (fun s hs => h0 s hs) h)
  · have h := ok_t hc h
    refine ax_iload_n 2 d_MO_sumOf_33 rfl rfl 34 rfl ?_
    refine ax_iload 4 d_MO_sumOf_34 rfl 36 rfl ?_
    refine ax_aload_n 0 d_MO_sumOf_36 rfl rfl 37 rfl ?_
    refine ax_iload_n 3 d_MO_sumOf_37 rfl rfl 38 rfl ?_
    refine ax_callV mv_MO_431 ⟨Nat.le_of_ble_eq_true rfl, Nat.le_of_ble_eq_true rfl⟩ ⟨rfl, rfl⟩ [.int v3] [.int v3, .ref 0, .int v4, .int v2] rfl rfl (rc_m_0 _) (Nat.le_of_ble_eq_true rfl) d_MO_sumOf_38 41 rfl (zc_MO_movesFrom v3 m (ok_b h (fun r2 h => ?_)))
    refine ax_imul d_MO_sumOf_41 42 rfl ?_
    refine ax_iadd d_MO_sumOf_42 43 rfl ?_
    refine ax_istore_n (ls1 := [(2, .int (v2 + (v4 * r2))), (0, .ref 0), (1, .int v1), (3, .int v3), (4, .int v4)]) d_MO_sumOf_43 rfl (Nat.le_of_ble_eq_true rfl) rfl 44 rfl ?_
    exact ax_sub [1, 2, 0, 3, 4] rfl (c_MO_sumOf_J44 v1 (v2 + (v4 * r2)) v3 v4 m (fun p hp => hR p hp) (fun s hs => h0 s hs) h)
set_option maxRecDepth 4000 in
theorem c_MO_sumOf_B4 (v1 : Int32) (v2 : Int32) (v3 : Int32) (m : zM)  {Q : Option Value → zM → Prop} {K : ((Int32 × zM) ⊕ (Int32 × Int32 × zM)) → Prop} (hR : ∀ p : Int32 × zM, K (.inl p) → Q (some (.int p.1)) p.2) (h0 : ∀ s : Int32 × Int32 × zM, K (.inr s) → AX gM s_MO_sumOf 4 [(0, .ref 0), (1, .int v1), (2, .int s.1), (3, .int s.2.1)] [] s.2.2 Q) (h : ok (f_MO_sumOf_B4 v1 v2 v3 m) K) : AX gM s_MO_sumOf 4 [(0, .ref 0), (1, .int v1), (2, .int v2), (3, .int v3)] [] m Q := by
  unfold f_MO_sumOf_B4 at h
  refine ax_iload_n 3 d_MO_sumOf_4 rfl rfl 5 rfl ?_
  refine ax_aload_n 0 d_MO_sumOf_5 rfl rfl 6 rfl ?_
  refine ax_getI fl_MO_380 m_0 rfl d_MO_sumOf_6 9 rfl ?_
  refine ax_icmp_ge 91 12 d_MO_sumOf_9 rfl rfl (fun hc => ?_) (fun hc => ?_)
  · have h := ok_t hc h
    refine ax_iload_n 2 d_MO_sumOf_91 rfl rfl 92 rfl ?_
    exact ax_iret rfl d_MO_sumOf_92 (hR (v2, m) (ok_some h))
  · have h := ok_f hc h
    refine ax_aload_n 0 d_MO_sumOf_12 rfl rfl 13 rfl ?_
    refine ax_iload_n 3 d_MO_sumOf_13 rfl rfl 14 rfl ?_
    refine ax_callV mv_MO_428 ⟨Nat.le_of_ble_eq_true rfl, Nat.le_of_ble_eq_true rfl⟩ ⟨rfl, rfl⟩ [.int v3] [.int v3, .ref 0] rfl rfl (rc_m_0 _) (Nat.le_of_ble_eq_true rfl) d_MO_sumOf_14 17 rfl (zc_MO_copies v3 m (ok_b h (fun p1 h => ?_)))
    refine ax_istore (ls1 := [(4, .int p1.1), (0, .ref 0), (1, .int v1), (2, .int v2), (3, .int v3)]) d_MO_sumOf_17 (Nat.le_of_ble_eq_true rfl) rfl 19 rfl ?_
    refine ax_iload_n 2 d_MO_sumOf_19 rfl rfl 20 rfl ?_
    refine ax_if_ne 28 23 d_MO_sumOf_20 rfl rfl (fun hc => ?_) (fun hc => ?_)
    · have h := ok_f hc h
      exact ax_sub [1, 2, 3, 4, 0] rfl (c_MO_sumOf_J28 v1 v2 v3 p1.1 p1.2 (fun p hp => hR p hp) (fun s hs => h0 s hs) h)
    · have h := ok_t hc h
      refine ax_iload_n 3 d_MO_sumOf_23 rfl rfl 24 rfl ?_
      refine ax_iload 0 d_MO_sumOf_24 rfl 26 rfl ?_
      refine ax_iadd d_MO_sumOf_26 27 rfl ?_
      refine ax_istore_n (ls1 := [(2, .int (v2 + p1.1)), (4, .int p1.1), (0, .ref 0), (1, .int v1), (3, .int v3)]) d_MO_sumOf_27 rfl (Nat.le_of_ble_eq_true rfl) rfl 28 rfl ?_
      exact ax_sub [2, 3, 0, 4, 1] rfl (c_MO_sumOf_J28 v1 (v2 + p1.1) v3 p1.1 p1.2 (fun p hp => hR p hp) (fun s hs => h0 s hs) h)
theorem c_MO_sumOf_L4 (v1 : Int32) (v2 : Int32) (v3 : Int32) (m : zM)  {Q : Option Value → zM → Prop} {K : (Int32 × zM) → Prop} (hR : ∀ p : Int32 × zM, K (p) → Q (some (.int p.1)) p.2)  (h : ok (f_MO_sumOf_L4 v1 v2 v3 m) K) : AX gM s_MO_sumOf 4 [(0, .ref 0), (1, .int v1), (2, .int v2), (3, .int v3)] [] m Q :=
  ok_lp (K := K) (G := fun s : Int32 × Int32 × zM => AX gM s_MO_sumOf 4 [(0, .ref 0), (1, .int v1), (2, .int s.1), (3, .int s.2.1)] [] s.2.2 Q) (fun s h => c_MO_sumOf_B4 v1 s.1 s.2.1 s.2.2  (fun p hp => hR p hp) (fun s hs => hs) h) FU (v2, v3, m) h
set_option maxRecDepth 4000 in
theorem zc_MO_sumOf (v1 : Int32) (m : zM)  {Q : Option Value → zM → Prop} (h : ok (f_MO_sumOf v1 m) (fun p => Q (some (.int p.1)) p.2)) : zc gM s_MO_sumOf [.ref 0, .int v1] m Q := by
  refine zc_of rfl (Nat.le_of_ble_eq_true rfl) ?_
  show AX gM s_MO_sumOf 0 [(0, .ref 0), (1, .int v1)] [] m Q
  obtain ⟨K, hK⟩ : ∃ K : (Int32 × zM) → Prop, K = (fun p : Int32 × zM => Q (some (.int p.1)) p.2) := ⟨_, rfl⟩
  have hR : ∀ p : Int32 × zM, K p → Q (some (.int p.1)) p.2 := fun p hp => by rw [hK] at hp; exact hp
  replace h : ok (f_MO_sumOf v1 m) (fun p : Int32 × zM => Q (some (.int p.1)) p.2) := h
  rw [← hK] at h
  unfold f_MO_sumOf at h
  refine ax_iconst 0 d_MO_sumOf_0 ic_0 1 rfl ?_
  refine ax_istore_n (ls1 := [(2, .int 0), (0, .ref 0), (1, .int v1)]) d_MO_sumOf_1 rfl (Nat.le_of_ble_eq_true rfl) rfl 2 rfl ?_
  refine ax_iconst 0 d_MO_sumOf_2 ic_0 3 rfl ?_
  refine ax_istore_n (ls1 := [(3, .int 0), (2, .int 0), (0, .ref 0), (1, .int v1)]) d_MO_sumOf_3 rfl (Nat.le_of_ble_eq_true rfl) rfl 4 rfl ?_
  exact ax_sub [2, 3, 1, 0] rfl (c_MO_sumOf_L4 v1 0 0 m (fun p hp => hR p hp) h)
set_option maxRecDepth 4000 in
theorem zc_MO_enters0 (v1 : Int32) (m : zM)  {Q : Option Value → zM → Prop} (h : ok (f_MO_enters0 v1 m) (fun p => Q none p)) : zc gM s_MO_enters0 [.ref 0, .int v1] m Q := by
  refine zc_of rfl (Nat.le_of_ble_eq_true rfl) ?_
  show AX gM s_MO_enters0 0 [(0, .ref 0), (1, .int v1)] [] m Q
  obtain ⟨K, hK⟩ : ∃ K : zM → Prop, K = (fun p : zM => Q none p) := ⟨_, rfl⟩
  have hR : ∀ p : zM, K p → Q none p := fun p hp => by rw [hK] at hp; exact hp
  replace h : ok (f_MO_enters0 v1 m) (fun p : zM => Q none p) := h
  rw [← hK] at h
  unfold f_MO_enters0 at h
  refine ax_aload_n 0 d_MO_enters0_0 rfl rfl 1 rfl ?_
  refine ax_dup d_MO_enters0_1 rfl 2 rfl ?_
  refine ax_getI fl_MO_463 m_0 rfl d_MO_enters0_2 5 rfl ?_
  refine ax_iconst 1 d_MO_enters0_5 ic_1 6 rfl ?_
  refine ax_iadd d_MO_enters0_6 7 rfl ?_
  refine ax_putI (K := K) fl_MO_463 m_0 rfl rfl rfl (Nat.le_of_ble_eq_true rfl) d_MO_enters0_7 10 rfl h (fun m1 h => ?_)
  refine ax_aload_n 0 d_MO_enters0_10 rfl rfl 11 rfl ?_
  refine ax_getR fl_MO_133 m_0 rfl (rm_0_54 _) d_MO_enters0_11 14 rfl ?_
  refine ax_iload_n 1 d_MO_enters0_14 rfl rfl 15 rfl ?_
  refine ax_aload_n 0 d_MO_enters0_15 rfl rfl 16 rfl ?_
  refine ax_getI fl_MO_463 m_0 rfl d_MO_enters0_16 19 rfl ?_
  refine ax_iastore m_38 d_MO_enters0_19 20 rfl h (fun i2 m3 h => ?_)
  refine ax_aload_n 0 d_MO_enters0_20 rfl rfl 21 rfl ?_
  refine ax_getR fl_MO_136 m_0 rfl (rm_0_55 _) d_MO_enters0_21 24 rfl ?_
  refine ax_iload_n 1 d_MO_enters0_24 rfl rfl 25 rfl ?_
  refine ax_aload_n 0 d_MO_enters0_25 rfl rfl 26 rfl ?_
  refine ax_getI fl_MO_463 m_0 rfl d_MO_enters0_26 29 rfl ?_
  refine ax_iastore m_39 d_MO_enters0_29 30 rfl h (fun i4 m5 h => ?_)
  refine ax_aload_n 0 d_MO_enters0_30 rfl rfl 31 rfl ?_
  refine ax_getR fl_MO_142 m_0 rfl (rm_0_57 _) d_MO_enters0_31 34 rfl ?_
  refine ax_iload_n 1 d_MO_enters0_34 rfl rfl 35 rfl ?_
  refine ax_iconst 0 d_MO_enters0_35 ic_0 36 rfl ?_
  refine ax_iastore m_41 d_MO_enters0_36 37 rfl h (fun i6 m7 h => ?_)
  refine ax_aload_n 0 d_MO_enters0_37 rfl rfl 38 rfl ?_
  refine ax_getR fl_MO_139 m_0 rfl (rm_0_56 _) d_MO_enters0_38 41 rfl ?_
  refine ax_aload_n 0 d_MO_enters0_41 rfl rfl 42 rfl ?_
  refine ax_getI fl_MO_475 m_0 rfl d_MO_enters0_42 45 rfl ?_
  refine ax_iload_n 1 d_MO_enters0_45 rfl rfl 46 rfl ?_
  refine ax_iastore m_40 d_MO_enters0_46 47 rfl h (fun i8 m9 h => ?_)
  refine ax_aload_n 0 d_MO_enters0_47 rfl rfl 48 rfl ?_
  refine ax_dup d_MO_enters0_48 rfl 49 rfl ?_
  refine ax_getI fl_MO_475 m_0 rfl d_MO_enters0_49 52 rfl ?_
  refine ax_iconst 1 d_MO_enters0_52 ic_1 53 rfl ?_
  refine ax_iadd d_MO_enters0_53 54 rfl ?_
  refine ax_putI (K := K) fl_MO_475 m_0 rfl rfl rfl (Nat.le_of_ble_eq_true rfl) d_MO_enters0_54 57 rfl h (fun m10 h => ?_)
  refine ax_aload_n 0 d_MO_enters0_57 rfl rfl 58 rfl ?_
  refine ax_getR fl_MO_145 m_0 rfl (rm_0_58 _) d_MO_enters0_58 61 rfl ?_
  refine ax_aload_n 0 d_MO_enters0_61 rfl rfl 62 rfl ?_
  refine ax_getI fl_MO_469 m_0 rfl d_MO_enters0_62 65 rfl ?_
  refine ax_iload_n 1 d_MO_enters0_65 rfl rfl 66 rfl ?_
  refine ax_iastore m_42 d_MO_enters0_66 67 rfl h (fun i11 m12 h => ?_)
  refine ax_aload_n 0 d_MO_enters0_67 rfl rfl 68 rfl ?_
  refine ax_dup d_MO_enters0_68 rfl 69 rfl ?_
  refine ax_getI fl_MO_469 m_0 rfl d_MO_enters0_69 72 rfl ?_
  refine ax_iconst 1 d_MO_enters0_72 ic_1 73 rfl ?_
  refine ax_iadd d_MO_enters0_73 74 rfl ?_
  refine ax_putI (K := K) fl_MO_469 m_0 rfl rfl rfl (Nat.le_of_ble_eq_true rfl) d_MO_enters0_74 77 rfl h (fun m13 h => ?_)
  refine ax_aload_n 0 d_MO_enters0_77 rfl rfl 78 rfl ?_
  refine ax_getR fl_MO_148 m_0 rfl (rm_0_59 _) d_MO_enters0_78 81 rfl ?_
  refine ax_iload_n 1 d_MO_enters0_81 rfl rfl 82 rfl ?_
  refine ax_iconst 1 d_MO_enters0_82 ic_1 83 rfl ?_
  refine ax_zastore (y := true) m_43 d_MO_enters0_83 84 rfl h (fun i14 m15 h => ?_)
  exact ax_vret rfl d_MO_enters0_84 (hR m15 (ok_some h))
set_option maxRecDepth 4000 in
theorem c_MO_leaves_J47  (m : zM)  {Q : Option Value → zM → Prop} {K : zM → Prop} (hR : ∀ p : zM, K (p) → Q none p)  (h : ok (f_MO_leaves_J47  m) K) : AX gM s_MO_leaves 47 [(0, .ref 0)] [] m Q := by
  unfold f_MO_leaves_J47 at h
  refine ax_aload_n 0 d_MO_leaves_47 rfl rfl 48 rfl ?_
  refine ax_dup d_MO_leaves_48 rfl 49 rfl ?_
  refine ax_getI fl_MO_466 m_0 rfl d_MO_leaves_49 52 rfl ?_
  refine ax_iconst 1 d_MO_leaves_52 ic_1 53 rfl ?_
  refine ax_iadd d_MO_leaves_53 54 rfl ?_
  refine ax_putI (K := K) fl_MO_466 m_0 rfl rfl rfl (Nat.le_of_ble_eq_true rfl) d_MO_leaves_54 57 rfl h (fun m7 h => ?_)
  exact ax_vret rfl d_MO_leaves_57 (hR m7 (ok_some h))
set_option maxRecDepth 4000 in
theorem c_MO_leaves_B2 (v1 : Int32) (v2 : Int32) (m : zM)  {Q : Option Value → zM → Prop} {K : ((zM) ⊕ (Int32 × zM)) → Prop} (hR : ∀ p : zM, K (.inl p) → Q none p) (h0 : ∀ s : Int32 × zM, K (.inr s) → AX gM s_MO_leaves 2 [(0, .ref 0), (1, .int v1), (2, .int s.1)] [] s.2 Q) (h : ok (f_MO_leaves_B2 v1 v2 m) K) : AX gM s_MO_leaves 2 [(0, .ref 0), (1, .int v1), (2, .int v2)] [] m Q := by
  unfold f_MO_leaves_B2 at h
  refine ax_iload_n 2 d_MO_leaves_2 rfl rfl 3 rfl ?_
  refine ax_iload_n 1 d_MO_leaves_3 rfl rfl 4 rfl ?_
  refine ax_icmp_eq 47 7 d_MO_leaves_4 rfl rfl (fun hc => ?_) (fun hc => ?_)
  · have h := ok_t hc h
    exact ax_sub [0] rfl (c_MO_leaves_J47 m (fun p hp => hR p hp) (ok_z h))
  · have h := ok_f hc h
    refine ax_aload_n 0 d_MO_leaves_7 rfl rfl 8 rfl ?_
    refine ax_dup d_MO_leaves_8 rfl 9 rfl ?_
    refine ax_getI fl_MO_469 m_0 rfl d_MO_leaves_9 12 rfl ?_
    refine ax_iconst 1 d_MO_leaves_12 ic_1 13 rfl ?_
    refine ax_isub d_MO_leaves_13 14 rfl ?_
    refine ax_putI (K := K) fl_MO_469 m_0 rfl rfl rfl (Nat.le_of_ble_eq_true rfl) d_MO_leaves_14 17 rfl h (fun m1 h => ?_)
    refine ax_aload_n 0 d_MO_leaves_17 rfl rfl 18 rfl ?_
    refine ax_getR fl_MO_145 m_0 rfl (rm_0_58 _) d_MO_leaves_18 21 rfl ?_
    refine ax_aload_n 0 d_MO_leaves_21 rfl rfl 22 rfl ?_
    refine ax_getI fl_MO_469 m_0 rfl d_MO_leaves_22 25 rfl ?_
    refine ax_iaload m_42 d_MO_leaves_25 26 rfl h (fun i2 h => ?_)
    refine ax_istore_n (ls1 := [(2, .int (m1.1 42 i2)), (0, .ref 0), (1, .int v1)]) d_MO_leaves_26 rfl (Nat.le_of_ble_eq_true rfl) rfl 27 rfl ?_
    refine ax_aload_n 1 d_MO_leaves_27 rfl rfl 28 rfl ?_
    refine ax_getR fl_MO_148 m_0 rfl (rm_0_59 _) d_MO_leaves_28 31 rfl ?_
    refine ax_iload_n 0 d_MO_leaves_31 rfl rfl 32 rfl ?_
    refine ax_iconst 0 d_MO_leaves_32 ic_0 33 rfl ?_
    refine ax_zastore (y := false) m_43 d_MO_leaves_33 34 rfl h (fun i3 m4 h => ?_)
    refine ax_aload_n 1 d_MO_leaves_34 rfl rfl 35 rfl ?_
    refine ax_getR fl_MO_130 m_0 rfl (rm_0_53 _) d_MO_leaves_35 38 rfl ?_
    refine ax_iload_n 0 d_MO_leaves_38 rfl rfl 39 rfl ?_
    refine ax_aload_n 1 d_MO_leaves_39 rfl rfl 40 rfl ?_
    refine ax_getI fl_MO_466 m_0 rfl d_MO_leaves_40 43 rfl ?_
    refine ax_iastore m_37 d_MO_leaves_43 44 rfl h (fun i5 m6 h => ?_)
    refine ax_goto 2 d_MO_leaves_44 rfl ?_
    exact ax_sub [1, 2, 0] rfl (h0 ((m1.1 42 i2), m6) (ok_some h))
theorem c_MO_leaves_L2 (v1 : Int32) (v2 : Int32) (m : zM)  {Q : Option Value → zM → Prop} {K : zM → Prop} (hR : ∀ p : zM, K (p) → Q none p)  (h : ok (f_MO_leaves_L2 v1 v2 m) K) : AX gM s_MO_leaves 2 [(0, .ref 0), (1, .int v1), (2, .int v2)] [] m Q :=
  ok_lp (K := K) (G := fun s : Int32 × zM => AX gM s_MO_leaves 2 [(0, .ref 0), (1, .int v1), (2, .int s.1)] [] s.2 Q) (fun s h => c_MO_leaves_B2 v1 s.1 s.2  (fun p hp => hR p hp) (fun s hs => hs) h) FU (v2, m) h
set_option maxRecDepth 4000 in
theorem zc_MO_leaves (v1 : Int32) (m : zM)  {Q : Option Value → zM → Prop} (h : ok (f_MO_leaves v1 m) (fun p => Q none p)) : zc gM s_MO_leaves [.ref 0, .int v1] m Q := by
  refine zc_of rfl (Nat.le_of_ble_eq_true rfl) ?_
  show AX gM s_MO_leaves 0 [(0, .ref 0), (1, .int v1)] [] m Q
  obtain ⟨K, hK⟩ : ∃ K : zM → Prop, K = (fun p : zM => Q none p) := ⟨_, rfl⟩
  have hR : ∀ p : zM, K p → Q none p := fun p hp => by rw [hK] at hp; exact hp
  replace h : ok (f_MO_leaves v1 m) (fun p : zM => Q none p) := h
  rw [← hK] at h
  unfold f_MO_leaves at h
  refine ax_iconst (-1) d_MO_leaves_0 ic_m1 1 rfl ?_
  refine ax_istore_n (ls1 := [(2, .int (-1)), (0, .ref 0), (1, .int v1)]) d_MO_leaves_1 rfl (Nat.le_of_ble_eq_true rfl) rfl 2 rfl ?_
  exact ax_sub [1, 2, 0] rfl (c_MO_leaves_L2 v1 (-1) m (fun p hp => hR p hp) h)
set_option maxRecDepth 4000 in
theorem c_MO_goesDown_J229 (v1 : Nat) (m : zM) (hv1 : gM.1[v1]? = some (.inr (0, zlen gM v1))) {Q : Option Value → zM → Prop} {K : ((zM) ⊕ (zM)) → Prop} (hR : ∀ p : zM, K (.inl p) → Q none p) (h0 : ∀ s : zM, K (.inr s) → AX gM s_MO_goesDown 10 [(0, .ref 0), (1, .ref v1)] [] s Q) (h : ok (f_MO_goesDown_J229 v1 m) K) : AX gM s_MO_goesDown 229 [(0, .ref 0), (1, .ref v1)] [] m Q := by
  unfold f_MO_goesDown_J229 at h
  refine ax_goto 10 d_MO_goesDown_229 rfl ?_
  exact ax_sub [0, 1] rfl (h0 m (ok_some h))
set_option maxRecDepth 4000 in
theorem c_MO_goesDown_J209 (v1 : Nat) (v3 : Int32) (m : zM) (hv1 : gM.1[v1]? = some (.inr (0, zlen gM v1))) {Q : Option Value → zM → Prop} {K : ((zM) ⊕ (zM)) → Prop} (hR : ∀ p : zM, K (.inl p) → Q none p) (h0 : ∀ s : zM, K (.inr s) → AX gM s_MO_goesDown 10 [(0, .ref 0), (1, .ref v1)] [] s Q) (h : ok (f_MO_goesDown_J209 v1 v3 m) K) : AX gM s_MO_goesDown 209 [(0, .ref 0), (1, .ref v1), (3, .int v3)] [] m Q := by
  unfold f_MO_goesDown_J209 at h
  refine ax_aload_n 0 d_MO_goesDown_209 rfl rfl 210 rfl ?_
  refine ax_getR fl_MO_136 m_0 rfl (rm_0_55 _) d_MO_goesDown_210 213 rfl ?_
  refine ax_iload_n 2 d_MO_goesDown_213 rfl rfl 214 rfl ?_
  refine ax_iaload m_39 d_MO_goesDown_214 215 rfl h (fun i27 h => ?_)
  refine ax_aload_n 0 d_MO_goesDown_215 rfl rfl 216 rfl ?_
  refine ax_getR fl_MO_133 m_0 rfl (rm_0_54 _) d_MO_goesDown_216 219 rfl ?_
  refine ax_iload_n 2 d_MO_goesDown_219 rfl rfl 220 rfl ?_
  refine ax_iaload m_38 d_MO_goesDown_220 221 rfl h (fun i28 h => ?_)
  refine ax_icmp_ne 229 224 d_MO_goesDown_221 rfl rfl (fun hc => ?_) (fun hc => ?_)
  · have h := ok_f hc h
    exact ax_sub [0, 1] rfl (c_MO_goesDown_J229 v1 m hv1 (fun p hp => hR p hp) (fun s hs => h0 s hs) h)
  · have h := ok_t hc h
    refine ax_aload_n 0 d_MO_goesDown_224 rfl rfl 225 rfl ?_
    refine ax_iload_n 2 d_MO_goesDown_225 rfl rfl 226 rfl ?_
    refine ax_callV mv_MO_481 ⟨Nat.le_of_ble_eq_true rfl, Nat.le_of_ble_eq_true rfl⟩ ⟨rfl, rfl⟩ [.int v3] [.int v3, .ref 0] rfl rfl (rc_m_0 _) (Nat.le_of_ble_eq_true rfl) d_MO_goesDown_226 229 rfl (zc_MO_leaves v3 m (ok_b h (fun p29 h => ?_)))
    exact ax_sub [0, 1] rfl (c_MO_goesDown_J229 v1 p29 hv1 (fun p hp => hR p hp) (fun s hs => h0 s hs) h)
set_option maxRecDepth 4000 in
theorem c_MO_goesDown_B10 (v1 : Nat) (m : zM) (hv1 : gM.1[v1]? = some (.inr (0, zlen gM v1))) {Q : Option Value → zM → Prop} {K : ((zM) ⊕ (zM)) → Prop} (hR : ∀ p : zM, K (.inl p) → Q none p) (h0 : ∀ s : zM, K (.inr s) → AX gM s_MO_goesDown 10 [(0, .ref 0), (1, .ref v1)] [] s Q) (h : ok (f_MO_goesDown_B10 v1 m) K) : AX gM s_MO_goesDown 10 [(0, .ref 0), (1, .ref v1)] [] m Q := by
  unfold f_MO_goesDown_B10 at h
  refine ax_aload_n 0 d_MO_goesDown_10 rfl rfl 11 rfl ?_
  refine ax_getI fl_MO_475 m_0 rfl d_MO_goesDown_11 14 rfl ?_
  refine ax_if_le 232 17 d_MO_goesDown_14 rfl rfl (fun hc => ?_) (fun hc => ?_)
  · have h := ok_t hc h
    exact ax_vret rfl d_MO_goesDown_232 (hR m (ok_some h))
  · have h := ok_f hc h
    refine ax_aload_n 0 d_MO_goesDown_17 rfl rfl 18 rfl ?_
    refine ax_getR fl_MO_139 m_0 rfl (rm_0_56 _) d_MO_goesDown_18 21 rfl ?_
    refine ax_aload_n 0 d_MO_goesDown_21 rfl rfl 22 rfl ?_
    refine ax_getI fl_MO_475 m_0 rfl d_MO_goesDown_22 25 rfl ?_
    refine ax_iconst 1 d_MO_goesDown_25 ic_1 26 rfl ?_
    refine ax_isub d_MO_goesDown_26 27 rfl ?_
    refine ax_iaload m_40 d_MO_goesDown_27 28 rfl h (fun i3 h => ?_)
    refine ax_istore_n (ls1 := [(3, .int (m.1 40 i3)), (0, .ref 0), (1, .ref v1)]) d_MO_goesDown_28 rfl (Nat.le_of_ble_eq_true rfl) rfl 29 rfl ?_
    refine ax_aload_n 1 d_MO_goesDown_29 rfl rfl 30 rfl ?_
    refine ax_getR fl_MO_142 m_0 rfl (rm_0_57 _) d_MO_goesDown_30 33 rfl ?_
    refine ax_iload_n 0 d_MO_goesDown_33 rfl rfl 34 rfl ?_
    refine ax_iaload m_41 d_MO_goesDown_34 35 rfl h (fun i4 h => ?_)
    refine ax_bipush 64 d_MO_goesDown_35 bp_64 37 rfl ?_
    refine ax_icmp_ge 145 40 d_MO_goesDown_37 rfl rfl (fun hc => ?_) (fun hc => ?_)
    · have h := ok_t hc h
      refine ax_aload_n 1 d_MO_goesDown_145 rfl rfl 146 rfl ?_
      refine ax_dup d_MO_goesDown_146 rfl 147 rfl ?_
      refine ax_getI fl_MO_475 m_0 rfl d_MO_goesDown_147 150 rfl ?_
      refine ax_iconst 1 d_MO_goesDown_150 ic_1 151 rfl ?_
      refine ax_isub d_MO_goesDown_151 152 rfl ?_
      refine ax_putI (K := K) fl_MO_475 m_0 rfl rfl rfl (Nat.le_of_ble_eq_true rfl) d_MO_goesDown_152 155 rfl h (fun m5 h => ?_)
      refine ax_aload_n 1 d_MO_goesDown_155 rfl rfl 156 rfl ?_
      refine ax_getI fl_MO_475 m_0 rfl d_MO_goesDown_156 159 rfl ?_
      refine ax_if_le 209 162 d_MO_goesDown_159 rfl rfl (fun hc => ?_) (fun hc => ?_)
      · have h := ok_t hc h
        exact ax_sub [1, 2, 0] rfl (c_MO_goesDown_J209 v1 (m.1 40 i3) m5 hv1 (fun p hp => hR p hp) (fun s hs => h0 s hs) h)
      · have h := ok_f hc h
        refine ax_aload_n 1 d_MO_goesDown_162 rfl rfl 163 rfl ?_
        refine ax_getR fl_MO_136 m_0 rfl (rm_0_55 _) d_MO_goesDown_163 166 rfl ?_
        refine ax_iload_n 0 d_MO_goesDown_166 rfl rfl 167 rfl ?_
        refine ax_iaload m_39 d_MO_goesDown_167 168 rfl h (fun i6 h => ?_)
        refine ax_aload_n 1 d_MO_goesDown_168 rfl rfl 169 rfl ?_
        refine ax_getR fl_MO_136 m_0 rfl (rm_0_55 _) d_MO_goesDown_169 172 rfl ?_
        refine ax_aload_n 1 d_MO_goesDown_172 rfl rfl 173 rfl ?_
        refine ax_getR fl_MO_139 m_0 rfl (rm_0_56 _) d_MO_goesDown_173 176 rfl ?_
        refine ax_aload_n 1 d_MO_goesDown_176 rfl rfl 177 rfl ?_
        refine ax_getI fl_MO_475 m_0 rfl d_MO_goesDown_177 180 rfl ?_
        refine ax_iconst 1 d_MO_goesDown_180 ic_1 181 rfl ?_
        refine ax_isub d_MO_goesDown_181 182 rfl ?_
        refine ax_iaload m_40 d_MO_goesDown_182 183 rfl h (fun i7 h => ?_)
        refine ax_iaload m_39 d_MO_goesDown_183 184 rfl h (fun i8 h => ?_)
        refine ax_icmp_ge 209 187 d_MO_goesDown_184 rfl rfl (fun hc => ?_) (fun hc => ?_)
        · have h := ok_t hc h
          exact ax_sub [1, 2, 0] rfl (c_MO_goesDown_J209 v1 (m.1 40 i3) m5 hv1 (fun p hp => hR p hp) (fun s hs => h0 s hs) h)
        · have h := ok_f hc h
          refine ax_aload_n 1 d_MO_goesDown_187 rfl rfl 188 rfl ?_
          refine ax_getR fl_MO_136 m_0 rfl (rm_0_55 _) d_MO_goesDown_188 191 rfl ?_
          refine ax_aload_n 1 d_MO_goesDown_191 rfl rfl 192 rfl ?_
          refine ax_getR fl_MO_139 m_0 rfl (rm_0_56 _) d_MO_goesDown_192 195 rfl ?_
          refine ax_aload_n 1 d_MO_goesDown_195 rfl rfl 196 rfl ?_
          refine ax_getI fl_MO_475 m_0 rfl d_MO_goesDown_196 199 rfl ?_
          refine ax_iconst 1 d_MO_goesDown_199 ic_1 200 rfl ?_
          refine ax_isub d_MO_goesDown_200 201 rfl ?_
          refine ax_iaload m_40 d_MO_goesDown_201 202 rfl h (fun i9 h => ?_)
          refine ax_aload_n 1 d_MO_goesDown_202 rfl rfl 203 rfl ?_
          refine ax_getR fl_MO_136 m_0 rfl (rm_0_55 _) d_MO_goesDown_203 206 rfl ?_
          refine ax_iload_n 0 d_MO_goesDown_206 rfl rfl 207 rfl ?_
          refine ax_iaload m_39 d_MO_goesDown_207 208 rfl h (fun i10 h => ?_)
          refine ax_iastore m_39 d_MO_goesDown_208 209 rfl h (fun i11 m12 h => ?_)
          exact ax_sub [1, 2, 0] rfl (c_MO_goesDown_J209 v1 (m.1 40 i3) m12 hv1 (fun p hp => hR p hp) (fun s hs => h0 s hs) h)
    · have h := ok_f hc h
      refine ax_aload_n 2 d_MO_goesDown_40 rfl rfl 41 rfl ?_
      refine ax_bipush 64 d_MO_goesDown_41 bp_64 43 rfl ?_
      refine ax_iload_n 0 d_MO_goesDown_43 rfl rfl 44 rfl ?_
      refine ax_imul d_MO_goesDown_44 45 rfl ?_
      refine ax_aload_n 1 d_MO_goesDown_45 rfl rfl 46 rfl ?_
      refine ax_getR fl_MO_142 m_0 rfl (rm_0_57 _) d_MO_goesDown_46 49 rfl ?_
      refine ax_iload_n 0 d_MO_goesDown_49 rfl rfl 50 rfl ?_
      refine ax_iaload m_41 d_MO_goesDown_50 51 rfl h (fun i13 h => ?_)
      refine ax_iadd d_MO_goesDown_51 52 rfl ?_
      refine ax_iaload hv1 d_MO_goesDown_52 53 rfl h (fun i14 h => ?_)
      refine ax_istore (ls1 := [(4, .int (m.1 v1 i14)), (3, .int (m.1 40 i3)), (0, .ref 0), (1, .ref v1)]) d_MO_goesDown_53 (Nat.le_of_ble_eq_true rfl) rfl 55 rfl ?_
      refine ax_aload_n 2 d_MO_goesDown_55 rfl rfl 56 rfl ?_
      refine ax_getR fl_MO_142 m_0 rfl (rm_0_57 _) d_MO_goesDown_56 59 rfl ?_
      refine ax_iload_n 1 d_MO_goesDown_59 rfl rfl 60 rfl ?_
      refine ax_dup2 d_MO_goesDown_60 rfl rfl 61 rfl ?_
      refine ax_iaload m_41 d_MO_goesDown_61 62 rfl h (fun i15 h => ?_)
      refine ax_iconst 1 d_MO_goesDown_62 ic_1 63 rfl ?_
      refine ax_iadd d_MO_goesDown_63 64 rfl ?_
      refine ax_iastore m_41 d_MO_goesDown_64 65 rfl h (fun i16 m17 h => ?_)
      refine ax_iload 0 d_MO_goesDown_65 rfl 67 rfl ?_
      refine ax_iconst (-1) d_MO_goesDown_67 ic_m1 68 rfl ?_
      refine ax_icmp_eq 10 71 d_MO_goesDown_68 rfl rfl (fun hc => ?_) (fun hc => ?_)
      · have h := ok_t hc h
        exact ax_sub [2, 3] rfl (h0 m17 (ok_some h))
      · have h := ok_f hc h
        refine ax_aload_n 2 d_MO_goesDown_71 rfl rfl 72 rfl ?_
        refine ax_getR fl_MO_120 m_0 rfl (rm_0_50 _) d_MO_goesDown_72 75 rfl ?_
        refine ax_iload 0 d_MO_goesDown_75 rfl 77 rfl ?_
        refine ax_baload m_34 d_MO_goesDown_77 78 rfl h (fun i18 h => ?_)
        refine ax_if_ne 84 81 d_MO_goesDown_78 rfl rfl (fun hc => ?_) (fun hc => ?_)
        · have h := ok_f hc h
          refine ax_aload_n 2 d_MO_goesDown_84 rfl rfl 85 rfl ?_
          refine ax_getR fl_MO_133 m_0 rfl (rm_0_54 _) d_MO_goesDown_85 88 rfl ?_
          refine ax_iload 0 d_MO_goesDown_88 rfl 90 rfl ?_
          refine ax_iaload m_38 d_MO_goesDown_90 91 rfl h (fun i19 h => ?_)
          refine ax_if_ne 103 94 d_MO_goesDown_91 rfl rfl (fun hc => ?_) (fun hc => ?_)
          · have h := ok_f hc h
            refine ax_aload_n 2 d_MO_goesDown_103 rfl rfl 104 rfl ?_
            refine ax_getR fl_MO_148 m_0 rfl (rm_0_59 _) d_MO_goesDown_104 107 rfl ?_
            refine ax_iload 0 d_MO_goesDown_107 rfl 109 rfl ?_
            refine ax_baload m_43 d_MO_goesDown_109 110 rfl h (fun i20 h => ?_)
            refine ax_if_eq 10 113 d_MO_goesDown_110 rfl rfl (fun hc => ?_) (fun hc => ?_)
            · have h := ok_t hc h
              exact ax_sub [2, 3] rfl (h0 m17 (ok_some h))
            · have h := ok_f hc h
              refine ax_aload_n 2 d_MO_goesDown_113 rfl rfl 114 rfl ?_
              refine ax_getR fl_MO_133 m_0 rfl (rm_0_54 _) d_MO_goesDown_114 117 rfl ?_
              refine ax_iload 0 d_MO_goesDown_117 rfl 119 rfl ?_
              refine ax_iaload m_38 d_MO_goesDown_119 120 rfl h (fun i21 h => ?_)
              refine ax_aload_n 2 d_MO_goesDown_120 rfl rfl 121 rfl ?_
              refine ax_getR fl_MO_136 m_0 rfl (rm_0_55 _) d_MO_goesDown_121 124 rfl ?_
              refine ax_iload_n 1 d_MO_goesDown_124 rfl rfl 125 rfl ?_
              refine ax_iaload m_39 d_MO_goesDown_125 126 rfl h (fun i22 h => ?_)
              refine ax_icmp_ge 10 129 d_MO_goesDown_126 rfl rfl (fun hc => ?_) (fun hc => ?_)
              · have h := ok_t hc h
                exact ax_sub [2, 3] rfl (h0 m17 (ok_some h))
              · have h := ok_f hc h
                refine ax_aload_n 2 d_MO_goesDown_129 rfl rfl 130 rfl ?_
                refine ax_getR fl_MO_136 m_0 rfl (rm_0_55 _) d_MO_goesDown_130 133 rfl ?_
                refine ax_iload_n 1 d_MO_goesDown_133 rfl rfl 134 rfl ?_
                refine ax_aload_n 2 d_MO_goesDown_134 rfl rfl 135 rfl ?_
                refine ax_getR fl_MO_133 m_0 rfl (rm_0_54 _) d_MO_goesDown_135 138 rfl ?_
                refine ax_iload 0 d_MO_goesDown_138 rfl 140 rfl ?_
                refine ax_iaload m_38 d_MO_goesDown_140 141 rfl h (fun i23 h => ?_)
                refine ax_iastore m_39 d_MO_goesDown_141 142 rfl h (fun i24 m25 h => ?_)
                refine ax_goto 10 d_MO_goesDown_142 rfl ?_
                exact ax_sub [2, 3] rfl (h0 m25 (ok_some h))
          · have h := ok_t hc h
            refine ax_aload_n 2 d_MO_goesDown_94 rfl rfl 95 rfl ?_
            refine ax_iload 0 d_MO_goesDown_95 rfl 97 rfl ?_
            refine ax_callV mv_MO_478 ⟨Nat.le_of_ble_eq_true rfl, Nat.le_of_ble_eq_true rfl⟩ ⟨rfl, rfl⟩ [.int (m.1 v1 i14)] [.int (m.1 v1 i14), .ref 0] rfl rfl (rc_m_0 _) (Nat.le_of_ble_eq_true rfl) d_MO_goesDown_97 100 rfl (zc_MO_enters0 (m.1 v1 i14) m17 (ok_b h (fun p26 h => ?_)))
            refine ax_goto 10 d_MO_goesDown_100 rfl ?_
            exact ax_sub [2, 3] rfl (h0 p26 (ok_some h))
        · have h := ok_t hc h
          refine ax_goto 10 d_MO_goesDown_81 rfl ?_
          exact ax_sub [2, 3] rfl (h0 m17 (ok_some h))
theorem c_MO_goesDown_L10 (v1 : Nat) (m : zM) (hv1 : gM.1[v1]? = some (.inr (0, zlen gM v1))) {Q : Option Value → zM → Prop} {K : zM → Prop} (hR : ∀ p : zM, K (p) → Q none p)  (h : ok (f_MO_goesDown_L10 v1 m) K) : AX gM s_MO_goesDown 10 [(0, .ref 0), (1, .ref v1)] [] m Q :=
  ok_lp (K := K) (G := fun s : zM => AX gM s_MO_goesDown 10 [(0, .ref 0), (1, .ref v1)] [] s Q) (fun s h => c_MO_goesDown_B10 v1 s hv1 (fun p hp => hR p hp) (fun s hs => hs) h) FU m h
set_option maxRecDepth 4000 in
theorem zc_MO_goesDown (v1 : Nat) (v2 : Int32) (m : zM) (hv1 : gM.1[v1]? = some (.inr (0, zlen gM v1))) {Q : Option Value → zM → Prop} (h : ok (f_MO_goesDown v1 v2 m) (fun p => Q none p)) : zc gM s_MO_goesDown [.ref 0, .ref v1, .int v2] m Q := by
  refine zc_of rfl (Nat.le_of_ble_eq_true rfl) ?_
  show AX gM s_MO_goesDown 0 [(0, .ref 0), (1, .ref v1), (2, .int v2)] [] m Q
  obtain ⟨K, hK⟩ : ∃ K : zM → Prop, K = (fun p : zM => Q none p) := ⟨_, rfl⟩
  have hR : ∀ p : zM, K p → Q none p := fun p hp => by rw [hK] at hp; exact hp
  replace h : ok (f_MO_goesDown v1 v2 m) (fun p : zM => Q none p) := h
  rw [← hK] at h
  unfold f_MO_goesDown at h
  refine ax_aload_n 0 d_MO_goesDown_0 rfl rfl 1 rfl ?_
  refine ax_iconst 0 d_MO_goesDown_1 ic_0 2 rfl ?_
  refine ax_putI (K := K) fl_MO_475 m_0 rfl rfl rfl (Nat.le_of_ble_eq_true rfl) d_MO_goesDown_2 5 rfl h (fun m1 h => ?_)
  refine ax_aload_n 0 d_MO_goesDown_5 rfl rfl 6 rfl ?_
  refine ax_iload_n 2 d_MO_goesDown_6 rfl rfl 7 rfl ?_
  refine ax_callV mv_MO_478 ⟨Nat.le_of_ble_eq_true rfl, Nat.le_of_ble_eq_true rfl⟩ ⟨rfl, rfl⟩ [.int v2] [.int v2, .ref 0] rfl rfl (rc_m_0 _) (Nat.le_of_ble_eq_true rfl) d_MO_goesDown_7 10 rfl (zc_MO_enters0 v2 m1 (ok_b h (fun p2 h => ?_)))
  exact ax_sub [0, 1] rfl (c_MO_goesDown_L10 v1 p2 hv1 (fun p hp => hR p hp) h)
set_option maxRecDepth 4000 in
theorem c_MO_joins_J80 (v1 : Nat) (v2 : Int32) (v3 : Int32) (m : zM) (hv1 : gM.1[v1]? = some (.inr (0, zlen gM v1))) {Q : Option Value → zM → Prop} {K : ((zM) ⊕ (Int32 × zM)) → Prop} (hR : ∀ p : zM, K (.inl p) → Q none p) (h0 : ∀ s : Int32 × zM, K (.inr s) → AX gM s_MO_joins 51 [(0, .ref 0), (1, .ref v1), (2, .int v2), (3, .int s.1)] [] s.2 Q) (h : ok (f_MO_joins_J80 v1 v2 v3 m) K) : AX gM s_MO_joins 80 [(0, .ref 0), (1, .ref v1), (2, .int v2), (3, .int v3)] [] m Q := by
  unfold f_MO_joins_J80 at h
  refine ax_iinc (ls1 := [(3, .int (v3 + 1)), (0, .ref 0), (1, .ref v1), (2, .int v2)]) 3 1 d_MO_joins_80 rfl ic_1 (Nat.le_of_ble_eq_true rfl) rfl 83 rfl ?_
  refine ax_goto 51 d_MO_joins_83 rfl ?_
  exact ax_sub [1, 2, 3, 0] rfl (h0 ((v3 + 1), m) (ok_some h))
set_option maxRecDepth 4000 in
theorem c_MO_joins_B51 (v1 : Nat) (v2 : Int32) (v3 : Int32) (m : zM) (hv1 : gM.1[v1]? = some (.inr (0, zlen gM v1))) {Q : Option Value → zM → Prop} {K : ((zM) ⊕ (Int32 × zM)) → Prop} (hR : ∀ p : zM, K (.inl p) → Q none p) (h0 : ∀ s : Int32 × zM, K (.inr s) → AX gM s_MO_joins 51 [(0, .ref 0), (1, .ref v1), (2, .int v2), (3, .int s.1)] [] s.2 Q) (h : ok (f_MO_joins_B51 v1 v2 v3 m) K) : AX gM s_MO_joins 51 [(0, .ref 0), (1, .ref v1), (2, .int v2), (3, .int v3)] [] m Q := by
  unfold f_MO_joins_B51 at h
  refine ax_iload_n 3 d_MO_joins_51 rfl rfl 52 rfl ?_
  refine ax_iload_n 2 d_MO_joins_52 rfl rfl 53 rfl ?_
  refine ax_icmp_ge 86 56 d_MO_joins_53 rfl rfl (fun hc => ?_) (fun hc => ?_)
  · have h := ok_t hc h
    exact ax_vret rfl d_MO_joins_86 (hR m (ok_some h))
  · have h := ok_f hc h
    refine ax_aload_n 0 d_MO_joins_56 rfl rfl 57 rfl ?_
    refine ax_getR fl_MO_120 m_0 rfl (rm_0_50 _) d_MO_joins_57 60 rfl ?_
    refine ax_iload_n 3 d_MO_joins_60 rfl rfl 61 rfl ?_
    refine ax_baload m_34 d_MO_joins_61 62 rfl h (fun i10 h => ?_)
    refine ax_if_eq 80 65 d_MO_joins_62 rfl rfl (fun hc => ?_) (fun hc => ?_)
    · have h := ok_t hc h
      exact ax_sub [0, 1, 2, 3] rfl (c_MO_joins_J80 v1 v2 v3 m hv1 (fun p hp => hR p hp) (fun s hs => h0 s hs) h)
    · have h := ok_f hc h
      refine ax_aload_n 0 d_MO_joins_65 rfl rfl 66 rfl ?_
      refine ax_getR fl_MO_133 m_0 rfl (rm_0_54 _) d_MO_joins_66 69 rfl ?_
      refine ax_iload_n 3 d_MO_joins_69 rfl rfl 70 rfl ?_
      refine ax_iaload m_38 d_MO_joins_70 71 rfl h (fun i11 h => ?_)
      refine ax_if_ne 80 74 d_MO_joins_71 rfl rfl (fun hc => ?_) (fun hc => ?_)
      · have h := ok_f hc h
        exact ax_sub [0, 1, 2, 3] rfl (c_MO_joins_J80 v1 v2 v3 m hv1 (fun p hp => hR p hp) (fun s hs => h0 s hs) h)
      · have h := ok_t hc h
        refine ax_aload_n 0 d_MO_joins_74 rfl rfl 75 rfl ?_
        refine ax_aload_n 1 d_MO_joins_75 rfl rfl 76 rfl ?_
        refine ax_iload_n 3 d_MO_joins_76 rfl rfl 77 rfl ?_
        refine ax_callV mv_MO_472 ⟨Nat.le_of_ble_eq_true rfl, Nat.le_of_ble_eq_true rfl⟩ ⟨rfl, rfl⟩ [.ref v1, .int v3] [.int v3, .ref v1, .ref 0] rfl rfl (rc_m_0 _) (Nat.le_of_ble_eq_true rfl) d_MO_joins_77 80 rfl (zc_MO_goesDown v1 v3 m hv1 (ok_b h (fun p12 h => ?_)))
        exact ax_sub [0, 1, 2, 3] rfl (c_MO_joins_J80 v1 v2 v3 p12 hv1 (fun p hp => hR p hp) (fun s hs => h0 s hs) h)
theorem c_MO_joins_L51 (v1 : Nat) (v2 : Int32) (v3 : Int32) (m : zM) (hv1 : gM.1[v1]? = some (.inr (0, zlen gM v1))) {Q : Option Value → zM → Prop} {K : zM → Prop} (hR : ∀ p : zM, K (p) → Q none p)  (h : ok (f_MO_joins_L51 v1 v2 v3 m) K) : AX gM s_MO_joins 51 [(0, .ref 0), (1, .ref v1), (2, .int v2), (3, .int v3)] [] m Q :=
  ok_lp (K := K) (G := fun s : Int32 × zM => AX gM s_MO_joins 51 [(0, .ref 0), (1, .ref v1), (2, .int v2), (3, .int s.1)] [] s.2 Q) (fun s h => c_MO_joins_B51 v1 v2 s.1 s.2 hv1 (fun p hp => hR p hp) (fun s hs => hs) h) FU (v3, m) h
set_option maxRecDepth 4000 in
theorem c_MO_joins_J49 (v1 : Nat) (v2 : Int32) (m : zM) (hv1 : gM.1[v1]? = some (.inr (0, zlen gM v1))) {Q : Option Value → zM → Prop} {K : zM → Prop} (hR : ∀ p : zM, K (p) → Q none p)  (h : ok (f_MO_joins_J49 v1 v2 m) K) : AX gM s_MO_joins 49 [(0, .ref 0), (1, .ref v1), (2, .int v2)] [] m Q := by
  unfold f_MO_joins_J49 at h
  refine ax_iconst 0 d_MO_joins_49 ic_0 50 rfl ?_
  refine ax_istore_n (ls1 := [(3, .int 0), (0, .ref 0), (1, .ref v1), (2, .int v2)]) d_MO_joins_50 rfl (Nat.le_of_ble_eq_true rfl) rfl 51 rfl ?_
  exact ax_sub [1, 2, 3, 0] rfl (c_MO_joins_L51 v1 v2 0 m hv1 (fun p hp => hR p hp) h)
set_option maxRecDepth 4000 in
theorem c_MO_joins_B17 (v1 : Nat) (v2 : Int32) (v3 : Int32) (m : zM) (hv1 : gM.1[v1]? = some (.inr (0, zlen gM v1))) {Q : Option Value → zM → Prop} {K : ((zM) ⊕ (Int32 × zM)) → Prop} (hR : ∀ p : zM, K (.inl p) → Q none p) (h0 : ∀ s : Int32 × zM, K (.inr s) → AX gM s_MO_joins 17 [(0, .ref 0), (1, .ref v1), (2, .int v2), (3, .int s.1)] [] s.2 Q) (h : ok (f_MO_joins_B17 v1 v2 v3 m) K) : AX gM s_MO_joins 17 [(0, .ref 0), (1, .ref v1), (2, .int v2), (3, .int v3)] [] m Q := by
  unfold f_MO_joins_B17 at h
  refine ax_iload_n 3 d_MO_joins_17 rfl rfl 18 rfl ?_
  refine ax_iload_n 2 d_MO_joins_18 rfl rfl 19 rfl ?_
  refine ax_icmp_ge 49 22 d_MO_joins_19 rfl rfl (fun hc => ?_) (fun hc => ?_)
  · have h := ok_t hc h
    exact ax_sub [0, 1, 2] rfl (c_MO_joins_J49 v1 v2 m hv1 (fun p hp => hR p hp) (ok_z h))
  · have h := ok_f hc h
    refine ax_aload_n 0 d_MO_joins_22 rfl rfl 23 rfl ?_
    refine ax_getR fl_MO_133 m_0 rfl (rm_0_54 _) d_MO_joins_23 26 rfl ?_
    refine ax_iload_n 3 d_MO_joins_26 rfl rfl 27 rfl ?_
    refine ax_iconst 0 d_MO_joins_27 ic_0 28 rfl ?_
    refine ax_iastore m_38 d_MO_joins_28 29 rfl h (fun i4 m5 h => ?_)
    refine ax_aload_n 0 d_MO_joins_29 rfl rfl 30 rfl ?_
    refine ax_getR fl_MO_130 m_0 rfl (rm_0_53 _) d_MO_joins_30 33 rfl ?_
    refine ax_iload_n 3 d_MO_joins_33 rfl rfl 34 rfl ?_
    refine ax_iconst (-1) d_MO_joins_34 ic_m1 35 rfl ?_
    refine ax_iastore m_37 d_MO_joins_35 36 rfl h (fun i6 m7 h => ?_)
    refine ax_aload_n 0 d_MO_joins_36 rfl rfl 37 rfl ?_
    refine ax_getR fl_MO_148 m_0 rfl (rm_0_59 _) d_MO_joins_37 40 rfl ?_
    refine ax_iload_n 3 d_MO_joins_40 rfl rfl 41 rfl ?_
    refine ax_iconst 0 d_MO_joins_41 ic_0 42 rfl ?_
    refine ax_zastore (y := false) m_43 d_MO_joins_42 43 rfl h (fun i8 m9 h => ?_)
    refine ax_iinc (ls1 := [(3, .int (v3 + 1)), (0, .ref 0), (1, .ref v1), (2, .int v2)]) 3 1 d_MO_joins_43 rfl ic_1 (Nat.le_of_ble_eq_true rfl) rfl 46 rfl ?_
    refine ax_goto 17 d_MO_joins_46 rfl ?_
    exact ax_sub [1, 2, 3, 0] rfl (h0 ((v3 + 1), m9) (ok_some h))
theorem c_MO_joins_L17 (v1 : Nat) (v2 : Int32) (v3 : Int32) (m : zM) (hv1 : gM.1[v1]? = some (.inr (0, zlen gM v1))) {Q : Option Value → zM → Prop} {K : zM → Prop} (hR : ∀ p : zM, K (p) → Q none p)  (h : ok (f_MO_joins_L17 v1 v2 v3 m) K) : AX gM s_MO_joins 17 [(0, .ref 0), (1, .ref v1), (2, .int v2), (3, .int v3)] [] m Q :=
  ok_lp (K := K) (G := fun s : Int32 × zM => AX gM s_MO_joins 17 [(0, .ref 0), (1, .ref v1), (2, .int v2), (3, .int s.1)] [] s.2 Q) (fun s h => c_MO_joins_B17 v1 v2 s.1 s.2 hv1 (fun p hp => hR p hp) (fun s hs => hs) h) FU (v3, m) h
set_option maxRecDepth 4000 in
theorem zc_MO_joins (v1 : Nat) (v2 : Int32) (m : zM) (hv1 : gM.1[v1]? = some (.inr (0, zlen gM v1))) {Q : Option Value → zM → Prop} (h : ok (f_MO_joins v1 v2 m) (fun p => Q none p)) : zc gM s_MO_joins [.ref 0, .ref v1, .int v2] m Q := by
  refine zc_of rfl (Nat.le_of_ble_eq_true rfl) ?_
  show AX gM s_MO_joins 0 [(0, .ref 0), (1, .ref v1), (2, .int v2)] [] m Q
  obtain ⟨K, hK⟩ : ∃ K : zM → Prop, K = (fun p : zM => Q none p) := ⟨_, rfl⟩
  have hR : ∀ p : zM, K p → Q none p := fun p hp => by rw [hK] at hp; exact hp
  replace h : ok (f_MO_joins v1 v2 m) (fun p : zM => Q none p) := h
  rw [← hK] at h
  unfold f_MO_joins at h
  refine ax_aload_n 0 d_MO_joins_0 rfl rfl 1 rfl ?_
  refine ax_iconst 0 d_MO_joins_1 ic_0 2 rfl ?_
  refine ax_putI (K := K) fl_MO_463 m_0 rfl rfl rfl (Nat.le_of_ble_eq_true rfl) d_MO_joins_2 5 rfl h (fun m1 h => ?_)
  refine ax_aload_n 0 d_MO_joins_5 rfl rfl 6 rfl ?_
  refine ax_iconst 0 d_MO_joins_6 ic_0 7 rfl ?_
  refine ax_putI (K := K) fl_MO_466 m_0 rfl rfl rfl (Nat.le_of_ble_eq_true rfl) d_MO_joins_7 10 rfl h (fun m2 h => ?_)
  refine ax_aload_n 0 d_MO_joins_10 rfl rfl 11 rfl ?_
  refine ax_iconst 0 d_MO_joins_11 ic_0 12 rfl ?_
  refine ax_putI (K := K) fl_MO_469 m_0 rfl rfl rfl (Nat.le_of_ble_eq_true rfl) d_MO_joins_12 15 rfl h (fun m3 h => ?_)
  refine ax_iconst 0 d_MO_joins_15 ic_0 16 rfl ?_
  refine ax_istore_n (ls1 := [(3, .int 0), (0, .ref 0), (1, .ref v1), (2, .int v2)]) d_MO_joins_16 rfl (Nat.le_of_ble_eq_true rfl) rfl 17 rfl ?_
  exact ax_sub [1, 2, 3, 0] rfl (c_MO_joins_L17 v1 v2 0 m3 hv1 (fun p hp => hR p hp) h)
set_option maxRecDepth 4000 in
theorem c_MO_partMany_J107 (v1 : Int32) (v2 : Int32) (m : zM)  {Q : Option Value → zM → Prop} {K : ((Int32 × zM) ⊕ (Int32 × Int32 × zM)) → Prop} (hR : ∀ p : Int32 × zM, K (.inl p) → Q (some (.int p.1)) p.2) (h0 : ∀ s : Int32 × Int32 × zM, K (.inr s) → AX gM s_MO_partMany 62 [(0, .ref 0), (1, .int s.1), (2, .int s.2.1)] [] s.2.2 Q) (h : ok (f_MO_partMany_J107 v1 v2 m) K) : AX gM s_MO_partMany 107 [(0, .ref 0), (1, .int v1), (2, .int v2)] [] m Q := by
  unfold f_MO_partMany_J107 at h
  refine ax_aload_n 0 d_MO_partMany_107 rfl rfl 108 rfl ?_
  refine ax_getR fl_MO_160 m_0 rfl (rm_0_67 _) d_MO_partMany_108 111 rfl ?_
  refine ax_iload_n 2 d_MO_partMany_111 rfl rfl 112 rfl ?_
  refine ax_aload_n 0 d_MO_partMany_112 rfl rfl 113 rfl ?_
  refine ax_getR fl_MO_166 m_0 rfl (rm_0_69 _) d_MO_partMany_113 116 rfl ?_
  refine ax_aload_n 0 d_MO_partMany_116 rfl rfl 117 rfl ?_
  refine ax_getR fl_MO_130 m_0 rfl (rm_0_53 _) d_MO_partMany_117 120 rfl ?_
  refine ax_iload_n 2 d_MO_partMany_120 rfl rfl 121 rfl ?_
  refine ax_iaload m_37 d_MO_partMany_121 122 rfl h (fun i13 h => ?_)
  refine ax_iaload m_49 d_MO_partMany_122 123 rfl h (fun i14 h => ?_)
  refine ax_iastore m_47 d_MO_partMany_123 124 rfl h (fun i15 m16 h => ?_)
  refine ax_iinc (ls1 := [(2, .int (v2 + 1)), (0, .ref 0), (1, .int v1)]) 2 1 d_MO_partMany_124 rfl ic_1 (Nat.le_of_ble_eq_true rfl) rfl 127 rfl ?_
  refine ax_goto 62 d_MO_partMany_127 rfl ?_
  exact ax_sub [1, 2, 0] rfl (h0 (v1, (v2 + 1), m16) (ok_some h))
set_option maxRecDepth 4000 in
theorem c_MO_partMany_B62 (v1 : Int32) (v2 : Int32) (m : zM)  {Q : Option Value → zM → Prop} {K : ((Int32 × zM) ⊕ (Int32 × Int32 × zM)) → Prop} (hR : ∀ p : Int32 × zM, K (.inl p) → Q (some (.int p.1)) p.2) (h0 : ∀ s : Int32 × Int32 × zM, K (.inr s) → AX gM s_MO_partMany 62 [(0, .ref 0), (1, .int s.1), (2, .int s.2.1)] [] s.2.2 Q) (h : ok (f_MO_partMany_B62 v1 v2 m) K) : AX gM s_MO_partMany 62 [(0, .ref 0), (1, .int v1), (2, .int v2)] [] m Q := by
  unfold f_MO_partMany_B62 at h
  refine ax_iload_n 2 d_MO_partMany_62 rfl rfl 63 rfl ?_
  refine ax_aload_n 0 d_MO_partMany_63 rfl rfl 64 rfl ?_
  refine ax_getI fl_MO_380 m_0 rfl d_MO_partMany_64 67 rfl ?_
  refine ax_icmp_ge 130 70 d_MO_partMany_67 rfl rfl (fun hc => ?_) (fun hc => ?_)
  · have h := ok_t hc h
    refine ax_iload_n 1 d_MO_partMany_130 rfl rfl 131 rfl ?_
    exact ax_iret rfl d_MO_partMany_131 (hR (v1, m) (ok_some h))
  · have h := ok_f hc h
    refine ax_aload_n 0 d_MO_partMany_70 rfl rfl 71 rfl ?_
    refine ax_getR fl_MO_166 m_0 rfl (rm_0_69 _) d_MO_partMany_71 74 rfl ?_
    refine ax_aload_n 0 d_MO_partMany_74 rfl rfl 75 rfl ?_
    refine ax_getR fl_MO_130 m_0 rfl (rm_0_53 _) d_MO_partMany_75 78 rfl ?_
    refine ax_iload_n 2 d_MO_partMany_78 rfl rfl 79 rfl ?_
    refine ax_iaload m_37 d_MO_partMany_79 80 rfl h (fun i6 h => ?_)
    refine ax_iaload m_49 d_MO_partMany_80 81 rfl h (fun i7 h => ?_)
    refine ax_iconst (-1) d_MO_partMany_81 ic_m1 82 rfl ?_
    refine ax_icmp_ne 107 85 d_MO_partMany_82 rfl rfl (fun hc => ?_) (fun hc => ?_)
    · have h := ok_f hc h
      exact ax_sub [0, 1, 2] rfl (c_MO_partMany_J107 v1 v2 m (fun p hp => hR p hp) (fun s hs => h0 s hs) h)
    · have h := ok_t hc h
      refine ax_aload_n 0 d_MO_partMany_85 rfl rfl 86 rfl ?_
      refine ax_getR fl_MO_166 m_0 rfl (rm_0_69 _) d_MO_partMany_86 89 rfl ?_
      refine ax_aload_n 0 d_MO_partMany_89 rfl rfl 90 rfl ?_
      refine ax_getR fl_MO_130 m_0 rfl (rm_0_53 _) d_MO_partMany_90 93 rfl ?_
      refine ax_iload_n 2 d_MO_partMany_93 rfl rfl 94 rfl ?_
      refine ax_iaload m_37 d_MO_partMany_94 95 rfl h (fun i8 h => ?_)
      refine ax_iload_n 1 d_MO_partMany_95 rfl rfl 96 rfl ?_
      refine ax_iastore m_49 d_MO_partMany_96 97 rfl h (fun i9 m10 h => ?_)
      refine ax_aload_n 0 d_MO_partMany_97 rfl rfl 98 rfl ?_
      refine ax_getR fl_MO_163 m_0 rfl (rm_0_68 _) d_MO_partMany_98 101 rfl ?_
      refine ax_iload_n 1 d_MO_partMany_101 rfl rfl 102 rfl ?_
      refine ax_iload_n 2 d_MO_partMany_102 rfl rfl 103 rfl ?_
      refine ax_iastore m_48 d_MO_partMany_103 104 rfl h (fun i11 m12 h => ?_)
      refine ax_iinc (ls1 := [(1, .int (v1 + 1)), (0, .ref 0), (2, .int v2)]) 1 1 d_MO_partMany_104 rfl ic_1 (Nat.le_of_ble_eq_true rfl) rfl 107 rfl ?_
      exact ax_sub [1, 0, 2] rfl (c_MO_partMany_J107 (v1 + 1) v2 m12 (fun p hp => hR p hp) (fun s hs => h0 s hs) h)
theorem c_MO_partMany_L62 (v1 : Int32) (v2 : Int32) (m : zM)  {Q : Option Value → zM → Prop} {K : (Int32 × zM) → Prop} (hR : ∀ p : Int32 × zM, K (p) → Q (some (.int p.1)) p.2)  (h : ok (f_MO_partMany_L62 v1 v2 m) K) : AX gM s_MO_partMany 62 [(0, .ref 0), (1, .int v1), (2, .int v2)] [] m Q :=
  ok_lp (K := K) (G := fun s : Int32 × Int32 × zM => AX gM s_MO_partMany 62 [(0, .ref 0), (1, .int s.1), (2, .int s.2.1)] [] s.2.2 Q) (fun s h => c_MO_partMany_B62 s.1 s.2.1 s.2.2  (fun p hp => hR p hp) (fun s hs => hs) h) FU (v1, v2, m) h
set_option maxRecDepth 4000 in
theorem c_MO_partMany_J58  (m : zM)  {Q : Option Value → zM → Prop} {K : (Int32 × zM) → Prop} (hR : ∀ p : Int32 × zM, K (p) → Q (some (.int p.1)) p.2)  (h : ok (f_MO_partMany_J58  m) K) : AX gM s_MO_partMany 58 [(0, .ref 0)] [] m Q := by
  unfold f_MO_partMany_J58 at h
  refine ax_iconst 0 d_MO_partMany_58 ic_0 59 rfl ?_
  refine ax_istore_n (ls1 := [(1, .int 0), (0, .ref 0)]) d_MO_partMany_59 rfl (Nat.le_of_ble_eq_true rfl) rfl 60 rfl ?_
  refine ax_iconst 0 d_MO_partMany_60 ic_0 61 rfl ?_
  refine ax_istore_n (ls1 := [(2, .int 0), (1, .int 0), (0, .ref 0)]) d_MO_partMany_61 rfl (Nat.le_of_ble_eq_true rfl) rfl 62 rfl ?_
  exact ax_sub [2, 1, 0] rfl (c_MO_partMany_L62 0 0 m (fun p hp => hR p hp) h)
set_option maxRecDepth 4000 in
theorem c_MO_partMany_B37 (v1 : Int32) (m : zM)  {Q : Option Value → zM → Prop} {K : ((Int32 × zM) ⊕ (Int32 × zM)) → Prop} (hR : ∀ p : Int32 × zM, K (.inl p) → Q (some (.int p.1)) p.2) (h0 : ∀ s : Int32 × zM, K (.inr s) → AX gM s_MO_partMany 37 [(0, .ref 0), (1, .int s.1)] [] s.2 Q) (h : ok (f_MO_partMany_B37 v1 m) K) : AX gM s_MO_partMany 37 [(0, .ref 0), (1, .int v1)] [] m Q := by
  unfold f_MO_partMany_B37 at h
  refine ax_iload_n 1 d_MO_partMany_37 rfl rfl 38 rfl ?_
  refine ax_aload_n 0 d_MO_partMany_38 rfl rfl 39 rfl ?_
  refine ax_getI fl_MO_466 m_0 rfl d_MO_partMany_39 42 rfl ?_
  refine ax_icmp_ge 58 45 d_MO_partMany_42 rfl rfl (fun hc => ?_) (fun hc => ?_)
  · have h := ok_t hc h
    exact ax_sub [0] rfl (c_MO_partMany_J58 m (fun p hp => hR p hp) (ok_z h))
  · have h := ok_f hc h
    refine ax_aload_n 0 d_MO_partMany_45 rfl rfl 46 rfl ?_
    refine ax_getR fl_MO_166 m_0 rfl (rm_0_69 _) d_MO_partMany_46 49 rfl ?_
    refine ax_iload_n 1 d_MO_partMany_49 rfl rfl 50 rfl ?_
    refine ax_iconst (-1) d_MO_partMany_50 ic_m1 51 rfl ?_
    refine ax_iastore m_49 d_MO_partMany_51 52 rfl h (fun i4 m5 h => ?_)
    refine ax_iinc (ls1 := [(1, .int (v1 + 1)), (0, .ref 0)]) 1 1 d_MO_partMany_52 rfl ic_1 (Nat.le_of_ble_eq_true rfl) rfl 55 rfl ?_
    refine ax_goto 37 d_MO_partMany_55 rfl ?_
    exact ax_sub [1, 0] rfl (h0 ((v1 + 1), m5) (ok_some h))
theorem c_MO_partMany_L37 (v1 : Int32) (m : zM)  {Q : Option Value → zM → Prop} {K : (Int32 × zM) → Prop} (hR : ∀ p : Int32 × zM, K (p) → Q (some (.int p.1)) p.2)  (h : ok (f_MO_partMany_L37 v1 m) K) : AX gM s_MO_partMany 37 [(0, .ref 0), (1, .int v1)] [] m Q :=
  ok_lp (K := K) (G := fun s : Int32 × zM => AX gM s_MO_partMany 37 [(0, .ref 0), (1, .int s.1)] [] s.2 Q) (fun s h => c_MO_partMany_B37 s.1 s.2  (fun p hp => hR p hp) (fun s hs => hs) h) FU (v1, m) h
set_option maxRecDepth 4000 in
theorem c_MO_partMany_J23  (m : zM)  {Q : Option Value → zM → Prop} {K : (Int32 × zM) → Prop} (hR : ∀ p : Int32 × zM, K (p) → Q (some (.int p.1)) p.2)  (h : ok (f_MO_partMany_J23  m) K) : AX gM s_MO_partMany 23 [(0, .ref 0)] [] m Q := by
  unfold f_MO_partMany_J23 at h
  refine ax_aload_n 0 d_MO_partMany_23 rfl rfl 24 rfl ?_
  refine ax_aload_n 0 d_MO_partMany_24 rfl rfl 25 rfl ?_
  refine ax_getR fl_MO_107 m_0 rfl (rm_0_45 _) d_MO_partMany_25 28 rfl ?_
  refine ax_aload_n 0 d_MO_partMany_28 rfl rfl 29 rfl ?_
  refine ax_getI fl_MO_380 m_0 rfl d_MO_partMany_29 32 rfl ?_
  refine ax_callV mv_MO_456 ⟨Nat.le_of_ble_eq_true rfl, Nat.le_of_ble_eq_true rfl⟩ ⟨rfl, rfl⟩ [.ref 30, .int (m.1 0 41)] [.int (m.1 0 41), .ref 30, .ref 0] rfl rfl (rc_m_0 _) (Nat.le_of_ble_eq_true rfl) d_MO_partMany_32 35 rfl (zc_MO_joins 30 (m.1 0 41) m m_30z (ok_b h (fun p3 h => ?_)))
  refine ax_iconst 0 d_MO_partMany_35 ic_0 36 rfl ?_
  refine ax_istore_n (ls1 := [(1, .int 0), (0, .ref 0)]) d_MO_partMany_36 rfl (Nat.le_of_ble_eq_true rfl) rfl 37 rfl ?_
  exact ax_sub [1, 0] rfl (c_MO_partMany_L37 0 p3 (fun p hp => hR p hp) h)
set_option maxRecDepth 4000 in
theorem c_MO_partMany_B2 (v1 : Int32) (m : zM)  {Q : Option Value → zM → Prop} {K : ((Int32 × zM) ⊕ (Int32 × zM)) → Prop} (hR : ∀ p : Int32 × zM, K (.inl p) → Q (some (.int p.1)) p.2) (h0 : ∀ s : Int32 × zM, K (.inr s) → AX gM s_MO_partMany 2 [(0, .ref 0), (1, .int s.1)] [] s.2 Q) (h : ok (f_MO_partMany_B2 v1 m) K) : AX gM s_MO_partMany 2 [(0, .ref 0), (1, .int v1)] [] m Q := by
  unfold f_MO_partMany_B2 at h
  refine ax_iload_n 1 d_MO_partMany_2 rfl rfl 3 rfl ?_
  refine ax_aload_n 0 d_MO_partMany_3 rfl rfl 4 rfl ?_
  refine ax_getI fl_MO_380 m_0 rfl d_MO_partMany_4 7 rfl ?_
  refine ax_icmp_ge 23 10 d_MO_partMany_7 rfl rfl (fun hc => ?_) (fun hc => ?_)
  · have h := ok_t hc h
    exact ax_sub [0] rfl (c_MO_partMany_J23 m (fun p hp => hR p hp) (ok_z h))
  · have h := ok_f hc h
    refine ax_aload_n 0 d_MO_partMany_10 rfl rfl 11 rfl ?_
    refine ax_getR fl_MO_120 m_0 rfl (rm_0_50 _) d_MO_partMany_11 14 rfl ?_
    refine ax_iload_n 1 d_MO_partMany_14 rfl rfl 15 rfl ?_
    refine ax_iconst 1 d_MO_partMany_15 ic_1 16 rfl ?_
    refine ax_zastore (y := true) m_34 d_MO_partMany_16 17 rfl h (fun i1 m2 h => ?_)
    refine ax_iinc (ls1 := [(1, .int (v1 + 1)), (0, .ref 0)]) 1 1 d_MO_partMany_17 rfl ic_1 (Nat.le_of_ble_eq_true rfl) rfl 20 rfl ?_
    refine ax_goto 2 d_MO_partMany_20 rfl ?_
    exact ax_sub [1, 0] rfl (h0 ((v1 + 1), m2) (ok_some h))
theorem c_MO_partMany_L2 (v1 : Int32) (m : zM)  {Q : Option Value → zM → Prop} {K : (Int32 × zM) → Prop} (hR : ∀ p : Int32 × zM, K (p) → Q (some (.int p.1)) p.2)  (h : ok (f_MO_partMany_L2 v1 m) K) : AX gM s_MO_partMany 2 [(0, .ref 0), (1, .int v1)] [] m Q :=
  ok_lp (K := K) (G := fun s : Int32 × zM => AX gM s_MO_partMany 2 [(0, .ref 0), (1, .int s.1)] [] s.2 Q) (fun s h => c_MO_partMany_B2 s.1 s.2  (fun p hp => hR p hp) (fun s hs => hs) h) FU (v1, m) h
set_option maxRecDepth 4000 in
theorem zc_MO_partMany  (m : zM)  {Q : Option Value → zM → Prop} (h : ok (f_MO_partMany m) (fun p => Q (some (.int p.1)) p.2)) : zc gM s_MO_partMany [.ref 0] m Q := by
  refine zc_of rfl (Nat.le_of_ble_eq_true rfl) ?_
  show AX gM s_MO_partMany 0 [(0, .ref 0)] [] m Q
  obtain ⟨K, hK⟩ : ∃ K : (Int32 × zM) → Prop, K = (fun p : Int32 × zM => Q (some (.int p.1)) p.2) := ⟨_, rfl⟩
  have hR : ∀ p : Int32 × zM, K p → Q (some (.int p.1)) p.2 := fun p hp => by rw [hK] at hp; exact hp
  replace h : ok (f_MO_partMany m) (fun p : Int32 × zM => Q (some (.int p.1)) p.2) := h
  rw [← hK] at h
  unfold f_MO_partMany at h
  refine ax_iconst 0 d_MO_partMany_0 ic_0 1 rfl ?_
  refine ax_istore_n (ls1 := [(1, .int 0), (0, .ref 0)]) d_MO_partMany_1 rfl (Nat.le_of_ble_eq_true rfl) rfl 2 rfl ?_
  exact ax_sub [1, 0] rfl (c_MO_partMany_L2 0 m (fun p hp => hR p hp) h)
set_option maxRecDepth 4000 in
theorem c_MO_has_J97 (v1 : Int32) (m : zM)  {Q : Option Value → zM → Prop} {K : (Int32 × zM) → Prop} (hR : ∀ p : Int32 × zM, K (p) → Q (some (.int p.1)) p.2)  (h : ok (f_MO_has_J97 v1 m) K) : AX gM s_MO_has 97 [(0, .ref 0), (1, .int v1)] [] m Q := by
  unfold f_MO_has_J97 at h
  refine ax_aload_n 0 d_MO_has_97 rfl rfl 98 rfl ?_
  refine ax_getR fl_MO_81 m_0 rfl (rm_0_31 _) d_MO_has_98 101 rfl ?_
  refine ax_iconst 0 d_MO_has_101 ic_0 102 rfl ?_
  refine ax_iload_n 1 d_MO_has_102 rfl rfl 103 rfl ?_
  refine ax_iadd d_MO_has_103 104 rfl ?_
  refine ax_iconst 1 d_MO_has_104 ic_1 105 rfl ?_
  refine ax_isub d_MO_has_105 106 rfl ?_
  refine ax_iaload m_23 d_MO_has_106 107 rfl h (fun i7 h => ?_)
  exact ax_iret rfl d_MO_has_107 (hR ((m.1 23 i7), m) (ok_some h))
set_option maxRecDepth 4000 in
theorem c_MO_has_J136 (v1 : Int32) (m : zM)  {Q : Option Value → zM → Prop} {K : (Int32 × zM) → Prop} (hR : ∀ p : Int32 × zM, K (p) → Q (some (.int p.1)) p.2)  (h : ok (f_MO_has_J136 v1 m) K) : AX gM s_MO_has 136 [(0, .ref 0), (1, .int v1)] [] m Q := by
  unfold f_MO_has_J136 at h
  refine ax_aload_n 0 d_MO_has_136 rfl rfl 137 rfl ?_
  refine ax_iload_n 1 d_MO_has_137 rfl rfl 138 rfl ?_
  refine ax_bipush 7 d_MO_has_138 bp_7 140 rfl ?_
  refine ax_isub d_MO_has_140 141 rfl ?_
  refine ax_callV mv_MO_510 ⟨Nat.le_of_ble_eq_true rfl, Nat.le_of_ble_eq_true rfl⟩ ⟨rfl, rfl⟩ [.int (v1 - 7)] [.int (v1 - 7), .ref 0] rfl rfl (rc_m_0 _) (Nat.le_of_ble_eq_true rfl) d_MO_has_141 144 rfl (zc_MO_sumOf (v1 - 7) m (ok_b h (fun p8 h => ?_)))
  exact ax_iret rfl d_MO_has_144 (hR (p8.1, p8.2) (ok_some h))
set_option maxRecDepth 4000 in
theorem zc_MO_has (v1 : Int32) (m : zM)  {Q : Option Value → zM → Prop} (h : ok (f_MO_has v1 m) (fun p => Q (some (.int p.1)) p.2)) : zc gM s_MO_has [.ref 0, .int v1] m Q := by
  refine zc_of rfl (Nat.le_of_ble_eq_true rfl) ?_
  show AX gM s_MO_has 0 [(0, .ref 0), (1, .int v1)] [] m Q
  obtain ⟨K, hK⟩ : ∃ K : (Int32 × zM) → Prop, K = (fun p : Int32 × zM => Q (some (.int p.1)) p.2) := ⟨_, rfl⟩
  have hR : ∀ p : Int32 × zM, K p → Q (some (.int p.1)) p.2 := fun p hp => by rw [hK] at hp; exact hp
  replace h : ok (f_MO_has v1 m) (fun p : Int32 × zM => Q (some (.int p.1)) p.2) := h
  rw [← hK] at h
  unfold f_MO_has at h
  refine ax_iload_n 1 d_MO_has_0 rfl rfl 1 rfl ?_
  refine ax_i2l d_MO_has_1 2 rfl ?_
  refine ax_lconst 0 d_MO_has_2 lc_0 3 rfl ?_
  refine ax_ldc2 13 wk_MO_508 d_MO_has_3 6 rfl ?_
  refine ax_callS mv_MO_210 ⟨Nat.le_of_ble_eq_true rfl, Nat.le_of_ble_eq_true rfl⟩ ⟨rfl, rfl⟩ [.long v1.toInt64, .long 0, .long 13] [.long 13, .long 0, .long v1.toInt64] rfl rfl (Nat.le_of_ble_eq_true rfl) d_MO_has_6 9 rfl (zc_MO_isIn v1.toInt64 0 13 m ?_)
  refine ax_ifb_ne 14 12 d_MO_has_9 rfl rfl (fun hc => ?_) (fun hc => ?_)
  · have h := ok_t hc h
    refine ax_aload_n 0 d_MO_has_14 rfl rfl 15 rfl ?_
    refine ax_callV mv_MO_505 ⟨Nat.le_of_ble_eq_true rfl, Nat.le_of_ble_eq_true rfl⟩ ⟨rfl, rfl⟩ [] [.ref 0] rfl rfl (rc_m_0 _) (Nat.le_of_ble_eq_true rfl) d_MO_has_15 18 rfl (zc_MO_isAsked m (ok_b h (fun p1 h => ?_)))
    refine ax_ifb_ne 23 21 d_MO_has_18 rfl rfl (fun hc => ?_) (fun hc => ?_)
    · have h := ok_t hc h
      refine ax_iload_n 1 d_MO_has_23 rfl rfl 24 rfl ?_
      by_cases hc24_0 : v1 = 0
      · have h := ok_t hc24_0 h
        refine ax_tableIn (off := 68) 92 d_MO_has_24 (by rw [hc24_0]; decide) (by rw [hc24_0]; decide) (by rw [hc24_0]; rfl) rfl ?_
        refine ax_aload_n 0 d_MO_has_92 rfl rfl 93 rfl ?_
        refine ax_callV mv_MO_358 ⟨Nat.le_of_ble_eq_true rfl, Nat.le_of_ble_eq_true rfl⟩ ⟨rfl, rfl⟩ [] [.ref 0] rfl rfl (rc_m_0 _) (Nat.le_of_ble_eq_true rfl) d_MO_has_93 96 rfl (zc_MO_agents p1.2 (ok_b h (fun r2 h => ?_)))
        exact ax_iret rfl d_MO_has_96 (hR (r2, p1.2) (ok_some h))
      have h := ok_f hc24_0 h
      by_cases hc24_1 : v1 = 1
      · have h := ok_t hc24_1 h
        refine ax_tableIn (off := 73) 97 d_MO_has_24 (by rw [hc24_1]; decide) (by rw [hc24_1]; decide) (by rw [hc24_1]; rfl) rfl ?_
        exact ax_sub [0, 1] rfl (c_MO_has_J97 v1 p1.2 (fun p hp => hR p hp) h)
      have h := ok_f hc24_1 h
      by_cases hc24_2 : v1 = 2
      · have h := ok_t hc24_2 h
        refine ax_tableIn (off := 73) 97 d_MO_has_24 (by rw [hc24_2]; decide) (by rw [hc24_2]; decide) (by rw [hc24_2]; rfl) rfl ?_
        exact ax_sub [0, 1] rfl (c_MO_has_J97 v1 p1.2 (fun p hp => hR p hp) h)
      have h := ok_f hc24_2 h
      by_cases hc24_3 : v1 = 3
      · have h := ok_t hc24_3 h
        refine ax_tableIn (off := 73) 97 d_MO_has_24 (by rw [hc24_3]; decide) (by rw [hc24_3]; decide) (by rw [hc24_3]; rfl) rfl ?_
        exact ax_sub [0, 1] rfl (c_MO_has_J97 v1 p1.2 (fun p hp => hR p hp) h)
      have h := ok_f hc24_3 h
      by_cases hc24_4 : v1 = 4
      · have h := ok_t hc24_4 h
        refine ax_tableIn (off := 84) 108 d_MO_has_24 (by rw [hc24_4]; decide) (by rw [hc24_4]; decide) (by rw [hc24_4]; rfl) rfl ?_
        refine ax_aload_n 0 d_MO_has_108 rfl rfl 109 rfl ?_
        refine ax_callV mv_MO_400 ⟨Nat.le_of_ble_eq_true rfl, Nat.le_of_ble_eq_true rfl⟩ ⟨rfl, rfl⟩ [] [.ref 0] rfl rfl (rc_m_0 _) (Nat.le_of_ble_eq_true rfl) d_MO_has_109 112 rfl (zc_MO_rules p1.2 (ok_b h (fun r3 h => ?_)))
        exact ax_iret rfl d_MO_has_112 (hR (r3, p1.2) (ok_some h))
      have h := ok_f hc24_4 h
      by_cases hc24_5 : v1 = 5
      · have h := ok_t hc24_5 h
        refine ax_tableIn (off := 89) 113 d_MO_has_24 (by rw [hc24_5]; decide) (by rw [hc24_5]; decide) (by rw [hc24_5]; rfl) rfl ?_
        refine ax_aload_n 0 d_MO_has_113 rfl rfl 114 rfl ?_
        refine ax_getI fl_MO_380 m_0 rfl d_MO_has_114 117 rfl ?_
        exact ax_iret rfl d_MO_has_117 (hR ((p1.2.1 0 41), p1.2) (ok_some h))
      have h := ok_f hc24_5 h
      by_cases hc24_6 : v1 = 6
      · have h := ok_t hc24_6 h
        refine ax_tableIn (off := 94) 118 d_MO_has_24 (by rw [hc24_6]; decide) (by rw [hc24_6]; decide) (by rw [hc24_6]; rfl) rfl ?_
        refine ax_aload_n 0 d_MO_has_118 rfl rfl 119 rfl ?_
        refine ax_iconst 0 d_MO_has_119 ic_0 120 rfl ?_
        refine ax_callV mv_MO_510 ⟨Nat.le_of_ble_eq_true rfl, Nat.le_of_ble_eq_true rfl⟩ ⟨rfl, rfl⟩ [.int 0] [.int 0, .ref 0] rfl rfl (rc_m_0 _) (Nat.le_of_ble_eq_true rfl) d_MO_has_120 123 rfl (zc_MO_sumOf 0 p1.2 (ok_b h (fun p4 h => ?_)))
        exact ax_iret rfl d_MO_has_123 (hR (p4.1, p4.2) (ok_some h))
      have h := ok_f hc24_6 h
      by_cases hc24_7 : v1 = 7
      · have h := ok_t hc24_7 h
        refine ax_tableIn (off := 100) 124 d_MO_has_24 (by rw [hc24_7]; decide) (by rw [hc24_7]; decide) (by rw [hc24_7]; rfl) rfl ?_
        refine ax_aload_n 0 d_MO_has_124 rfl rfl 125 rfl ?_
        refine ax_getR fl_MO_100 m_0 rfl (rm_0_43 _) d_MO_has_125 128 rfl ?_
        refine ax_aload_n 0 d_MO_has_128 rfl rfl 129 rfl ?_
        refine ax_getI fl_MO_380 m_0 rfl d_MO_has_129 132 rfl ?_
        refine ax_iconst 1 d_MO_has_132 ic_1 133 rfl ?_
        refine ax_isub d_MO_has_133 134 rfl ?_
        refine ax_iaload m_28 d_MO_has_134 135 rfl h (fun i5 h => ?_)
        exact ax_iret rfl d_MO_has_135 (hR ((p1.2.1 28 i5), p1.2) (ok_some h))
      have h := ok_f hc24_7 h
      by_cases hc24_8 : v1 = 8
      · have h := ok_t hc24_8 h
        refine ax_tableIn (off := 112) 136 d_MO_has_24 (by rw [hc24_8]; decide) (by rw [hc24_8]; decide) (by rw [hc24_8]; rfl) rfl ?_
        exact ax_sub [0, 1] rfl (c_MO_has_J136 v1 p1.2 (fun p hp => hR p hp) h)
      have h := ok_f hc24_8 h
      by_cases hc24_9 : v1 = 9
      · have h := ok_t hc24_9 h
        refine ax_tableIn (off := 112) 136 d_MO_has_24 (by rw [hc24_9]; decide) (by rw [hc24_9]; decide) (by rw [hc24_9]; rfl) rfl ?_
        exact ax_sub [0, 1] rfl (c_MO_has_J136 v1 p1.2 (fun p hp => hR p hp) h)
      have h := ok_f hc24_9 h
      by_cases hc24_10 : v1 = 10
      · have h := ok_t hc24_10 h
        refine ax_tableIn (off := 112) 136 d_MO_has_24 (by rw [hc24_10]; decide) (by rw [hc24_10]; decide) (by rw [hc24_10]; rfl) rfl ?_
        exact ax_sub [0, 1] rfl (c_MO_has_J136 v1 p1.2 (fun p hp => hR p hp) h)
      have h := ok_f hc24_10 h
      by_cases hc24_11 : v1 = 11
      · have h := ok_t hc24_11 h
        refine ax_tableIn (off := 121) 145 d_MO_has_24 (by rw [hc24_11]; decide) (by rw [hc24_11]; decide) (by rw [hc24_11]; rfl) rfl ?_
        refine ax_aload_n 0 d_MO_has_145 rfl rfl 146 rfl ?_
        refine ax_callV mv_MO_513 ⟨Nat.le_of_ble_eq_true rfl, Nat.le_of_ble_eq_true rfl⟩ ⟨rfl, rfl⟩ [] [.ref 0] rfl rfl (rc_m_0 _) (Nat.le_of_ble_eq_true rfl) d_MO_has_146 149 rfl (zc_MO_partMany p1.2 (ok_b h (fun p6 h => ?_)))
        exact ax_iret rfl d_MO_has_149 (hR (p6.1, p6.2) (ok_some h))
      have h := ok_f hc24_11 h
      by_cases hc24_12 : v1 = 12
      · have h := ok_t hc24_12 h
        refine ax_tableIn (off := 126) 150 d_MO_has_24 (by rw [hc24_12]; decide) (by rw [hc24_12]; decide) (by rw [hc24_12]; rfl) rfl ?_
        refine ax_aload_n 0 d_MO_has_150 rfl rfl 151 rfl ?_
        refine ax_getI fl_MO_328 m_0 rfl d_MO_has_151 154 rfl ?_
        exact ax_iret rfl d_MO_has_154 (hR ((p1.2.1 0 74), p1.2) (ok_some h))
      have h := ok_f hc24_12 h
      have n0 := zne (n := 0) hc24_0 (by decide)
      have n1 := zne (n := 1) hc24_1 (by decide)
      have n2 := zne (n := 2) hc24_2 (by decide)
      have n3 := zne (n := 3) hc24_3 (by decide)
      have n4 := zne (n := 4) hc24_4 (by decide)
      have n5 := zne (n := 5) hc24_5 (by decide)
      have n6 := zne (n := 6) hc24_6 (by decide)
      have n7 := zne (n := 7) hc24_7 (by decide)
      have n8 := zne (n := 8) hc24_8 (by decide)
      have n9 := zne (n := 9) hc24_9 (by decide)
      have n10 := zne (n := 10) hc24_10 (by decide)
      have n11 := zne (n := 11) hc24_11 (by decide)
      have n12 := zne (n := 12) hc24_12 (by decide)
      refine ax_tableOut 155 d_MO_has_24 (by omega) rfl ?_
      refine ax_aload_n 0 d_MO_has_155 rfl rfl 156 rfl ?_
      refine ax_getI fl_MO_331 m_0 rfl d_MO_has_156 159 rfl ?_
      exact ax_iret rfl d_MO_has_159 (hR ((p1.2.1 0 77), p1.2) (ok_some h))
    · have h := ok_f (bf hc) h
      refine ax_iconst 0 d_MO_has_21 ic_0 22 rfl ?_
      exact ax_iret rfl d_MO_has_22 (hR (0, p1.2) (ok_some h))
  · have h := ok_f (bf hc) h
    refine ax_iconst (-1) d_MO_has_12 ic_m1 13 rfl ?_
    exact ax_iret rfl d_MO_has_13 (hR ((-1), m) (ok_some h))
set_option maxRecDepth 4000 in
theorem c_MO_lettersOf_B4 (v1 : Int32) (v2 : Int32) (m : zM)  {Q : Option Value → zM → Prop} {K : ((Int32) ⊕ (Int32 × Int32)) → Prop} (hR : ∀ p : Int32, K (.inl p) → Q (some (.int p)) m) (h0 : ∀ s : Int32 × Int32, K (.inr s) → AX gM s_MO_lettersOf 4 [(1, .int s.1), (2, .int s.2)] [] m Q) (h : ok (f_MO_lettersOf_B4 v1 v2) K) : AX gM s_MO_lettersOf 4 [(1, .int v1), (2, .int v2)] [] m Q := by
  unfold f_MO_lettersOf_B4 at h
  refine ax_iload_n 1 d_MO_lettersOf_4 rfl rfl 5 rfl ?_
  refine ax_if_le 19 8 d_MO_lettersOf_5 rfl rfl (fun hc => ?_) (fun hc => ?_)
  · have h := ok_t hc h
    refine ax_iload_n 0 d_MO_lettersOf_19 rfl rfl 20 rfl ?_
    exact ax_iret rfl d_MO_lettersOf_20 (hR v1 (ok_some h))
  · have h := ok_f hc h
    refine ax_iinc (ls1 := [(1, .int (v1 + 1)), (2, .int v2)]) 0 1 d_MO_lettersOf_8 rfl ic_1 (Nat.le_of_ble_eq_true rfl) rfl 11 rfl ?_
    refine ax_iload_n 1 d_MO_lettersOf_11 rfl rfl 12 rfl ?_
    refine ax_bipush 27 d_MO_lettersOf_12 bp_27 14 rfl ?_
    refine ax_idiv d_MO_lettersOf_14 (by decide) 15 rfl ?_
    refine ax_istore_n (ls1 := [(2, .int (v2 / 27)), (1, .int (v1 + 1))]) d_MO_lettersOf_15 rfl (Nat.le_of_ble_eq_true rfl) rfl 16 rfl ?_
    refine ax_goto 4 d_MO_lettersOf_16 rfl ?_
    exact ax_sub [1, 0] rfl (h0 ((v1 + 1), (v2 / 27)) (ok_some h))
theorem c_MO_lettersOf_L4 (v1 : Int32) (v2 : Int32) (m : zM)  {Q : Option Value → zM → Prop} {K : Int32 → Prop} (hR : ∀ p : Int32, K (p) → Q (some (.int p)) m)  (h : ok (f_MO_lettersOf_L4 v1 v2) K) : AX gM s_MO_lettersOf 4 [(1, .int v1), (2, .int v2)] [] m Q :=
  ok_lp (K := K) (G := fun s : Int32 × Int32 => AX gM s_MO_lettersOf 4 [(1, .int s.1), (2, .int s.2)] [] m Q) (fun s h => c_MO_lettersOf_B4 s.1 s.2 m  (fun p hp => hR p hp) (fun s hs => hs) h) FU (v1, v2) h
set_option maxRecDepth 4000 in
theorem zc_MO_lettersOf (v0 : Int32) (m : zM)  {Q : Option Value → zM → Prop} (h : ok (f_MO_lettersOf v0) (fun p => Q (some (.int p)) m)) : zc gM s_MO_lettersOf [.int v0] m Q := by
  refine zc_of rfl (Nat.le_of_ble_eq_true rfl) ?_
  show AX gM s_MO_lettersOf 0 [(0, .int v0)] [] m Q
  obtain ⟨K, hK⟩ : ∃ K : Int32 → Prop, K = (fun p : Int32 => Q (some (.int p)) m) := ⟨_, rfl⟩
  have hR : ∀ p : Int32, K p → Q (some (.int p)) m := fun p hp => by rw [hK] at hp; exact hp
  replace h : ok (f_MO_lettersOf v0) (fun p : Int32 => Q (some (.int p)) m) := h
  rw [← hK] at h
  unfold f_MO_lettersOf at h
  refine ax_iconst 0 d_MO_lettersOf_0 ic_0 1 rfl ?_
  refine ax_istore_n (ls1 := [(1, .int 0), (0, .int v0)]) d_MO_lettersOf_1 rfl (Nat.le_of_ble_eq_true rfl) rfl 2 rfl ?_
  refine ax_iload_n 1 d_MO_lettersOf_2 rfl rfl 3 rfl ?_
  refine ax_istore_n (ls1 := [(2, .int v0), (1, .int 0), (0, .int v0)]) d_MO_lettersOf_3 rfl (Nat.le_of_ble_eq_true rfl) rfl 4 rfl ?_
  exact ax_sub [1, 0] rfl (c_MO_lettersOf_L4 0 v0 m (fun p hp => hR p hp) h)
set_option maxRecDepth 4000 in
theorem c_MO_letter_J97 (v3 : Int32) (v4 : Int32) (v5 : Int32) (m : zM)  {Q : Option Value → zM → Prop} {K : Int32 → Prop} (hR : ∀ p : Int32, K (p) → Q (some (.int p)) m)  (h : ok (f_MO_letter_J97 v3 v4 v5 m) K) : AX gM s_MO_letter 97 [(3, .int v3), (4, .int v4), (5, .int v5)] [] m Q := by
  unfold f_MO_letter_J97 at h
  refine ax_iload_n 0 d_MO_letter_97 rfl rfl 98 rfl ?_
  refine ax_iload 2 d_MO_letter_98 rfl 100 rfl ?_
  refine ax_icmp_ge 111 103 d_MO_letter_100 rfl rfl (fun hc => ?_) (fun hc => ?_)
  · have h := ok_t hc h
    refine ax_iconst 0 d_MO_letter_111 ic_0 112 rfl ?_
    exact ax_iret rfl d_MO_letter_112 (hR 0 (ok_some h))
  · have h := ok_f hc h
    refine ax_iload 1 d_MO_letter_103 rfl 105 rfl ?_
    refine ax_bipush 27 d_MO_letter_105 bp_27 107 rfl ?_
    refine ax_irem d_MO_letter_107 (by decide) 108 rfl ?_
    refine ax_goto 112 d_MO_letter_108 rfl ?_
    exact ax_iret rfl d_MO_letter_112 (hR (ir v4 27) (ok_some h))
set_option maxRecDepth 4000 in
theorem c_MO_letter_B78 (v3 : Int32) (v4 : Int32) (v5 : Int32) (v6 : Int32) (m : zM)  {Q : Option Value → zM → Prop} {K : ((Int32) ⊕ (Int32 × Int32)) → Prop} (hR : ∀ p : Int32, K (.inl p) → Q (some (.int p)) m) (h0 : ∀ s : Int32 × Int32, K (.inr s) → AX gM s_MO_letter 78 [(3, .int v3), (4, .int s.1), (5, .int v5), (6, .int s.2)] [] m Q) (h : ok (f_MO_letter_B78 v3 v4 v5 v6 m) K) : AX gM s_MO_letter 78 [(3, .int v3), (4, .int v4), (5, .int v5), (6, .int v6)] [] m Q := by
  unfold f_MO_letter_B78 at h
  refine ax_iload 3 d_MO_letter_78 rfl 80 rfl ?_
  refine ax_iload_n 0 d_MO_letter_80 rfl rfl 81 rfl ?_
  refine ax_icmp_le 97 84 d_MO_letter_81 rfl rfl (fun hc => ?_) (fun hc => ?_)
  · have h := ok_t hc h
    exact ax_sub [0, 1, 2] rfl (c_MO_letter_J97 v3 v4 v5 m (fun p hp => hR p hp) (ok_z h))
  · have h := ok_f hc h
    refine ax_iload 1 d_MO_letter_84 rfl 86 rfl ?_
    refine ax_bipush 27 d_MO_letter_86 bp_27 88 rfl ?_
    refine ax_idiv d_MO_letter_88 (by decide) 89 rfl ?_
    refine ax_istore (ls1 := [(4, .int (v4 / 27)), (3, .int v3), (5, .int v5), (6, .int v6)]) d_MO_letter_89 (Nat.le_of_ble_eq_true rfl) rfl 91 rfl ?_
    refine ax_iinc (ls1 := [(6, .int (v6 + (-1))), (4, .int (v4 / 27)), (3, .int v3), (5, .int v5)]) 3 (-1) d_MO_letter_91 rfl ic_m1 (Nat.le_of_ble_eq_true rfl) rfl 94 rfl ?_
    refine ax_goto 78 d_MO_letter_94 rfl ?_
    exact ax_sub [2, 1, 3, 0] rfl (h0 ((v4 / 27), (v6 + (-1))) (ok_some h))
theorem c_MO_letter_L78 (v3 : Int32) (v4 : Int32) (v5 : Int32) (v6 : Int32) (m : zM)  {Q : Option Value → zM → Prop} {K : Int32 → Prop} (hR : ∀ p : Int32, K (p) → Q (some (.int p)) m)  (h : ok (f_MO_letter_L78 v3 v4 v5 v6 m) K) : AX gM s_MO_letter 78 [(3, .int v3), (4, .int v4), (5, .int v5), (6, .int v6)] [] m Q :=
  ok_lp (K := K) (G := fun s : Int32 × Int32 => AX gM s_MO_letter 78 [(3, .int v3), (4, .int s.1), (5, .int v5), (6, .int s.2)] [] m Q) (fun s h => c_MO_letter_B78 v3 s.1 v5 s.2 m  (fun p hp => hR p hp) (fun s hs => hs) h) FU (v4, v6) h
set_option maxRecDepth 4000 in
theorem zc_MO_letter (v1 : Int32) (v2 : Int32) (v3 : Int32) (m : zM)  {Q : Option Value → zM → Prop} (h : ok (f_MO_letter v1 v2 v3 m) (fun p => Q (some (.int p)) m)) : zc gM s_MO_letter [.ref 0, .int v1, .int v2, .int v3] m Q := by
  refine zc_of rfl (Nat.le_of_ble_eq_true rfl) ?_
  show AX gM s_MO_letter 0 [(0, .ref 0), (1, .int v1), (2, .int v2), (3, .int v3)] [] m Q
  obtain ⟨K, hK⟩ : ∃ K : Int32 → Prop, K = (fun p : Int32 => Q (some (.int p)) m) := ⟨_, rfl⟩
  have hR : ∀ p : Int32, K p → Q (some (.int p)) m := fun p hp => by rw [hK] at hp; exact hp
  replace h : ok (f_MO_letter v1 v2 v3 m) (fun p : Int32 => Q (some (.int p)) m) := h
  rw [← hK] at h
  unfold f_MO_letter at h
  refine ax_aload_n 0 d_MO_letter_0 rfl rfl 1 rfl ?_
  refine ax_getI fl_MO_321 m_0 rfl d_MO_letter_1 4 rfl ?_
  refine ax_if_eq 51 7 d_MO_letter_4 rfl rfl (fun hc => ?_) (fun hc => ?_)
  · have h := ok_t hc h
    refine ax_iconst (-1) d_MO_letter_51 ic_m1 52 rfl ?_
    exact ax_iret rfl d_MO_letter_52 (hR (-1) (ok_some h))
  · have h := ok_f hc h
    refine ax_iload_n 1 d_MO_letter_7 rfl rfl 8 rfl ?_
    refine ax_i2l d_MO_letter_8 9 rfl ?_
    refine ax_lconst 0 d_MO_letter_9 lc_0 10 rfl ?_
    refine ax_ldc2 2 wk_MO_516 d_MO_letter_10 13 rfl ?_
    refine ax_callS mv_MO_210 ⟨Nat.le_of_ble_eq_true rfl, Nat.le_of_ble_eq_true rfl⟩ ⟨rfl, rfl⟩ [.long v1.toInt64, .long 0, .long 2] [.long 2, .long 0, .long v1.toInt64] rfl rfl (Nat.le_of_ble_eq_true rfl) d_MO_letter_13 16 rfl (zc_MO_isIn v1.toInt64 0 2 m ?_)
    refine ax_ifb_eq 51 19 d_MO_letter_16 rfl rfl (fun hc => ?_) (fun hc => ?_)
    · have h := ok_f (bf hc) h
      refine ax_iconst (-1) d_MO_letter_51 ic_m1 52 rfl ?_
      exact ax_iret rfl d_MO_letter_52 (hR (-1) (ok_some h))
    · have h := ok_t hc h
      refine ax_iload_n 2 d_MO_letter_19 rfl rfl 20 rfl ?_
      refine ax_i2l d_MO_letter_20 21 rfl ?_
      refine ax_lconst 0 d_MO_letter_21 lc_0 22 rfl ?_
      refine ax_aload_n 0 d_MO_letter_22 rfl rfl 23 rfl ?_
      refine ax_getR fl_MO_81 m_0 rfl (rm_0_31 _) d_MO_letter_23 26 rfl ?_
      refine ax_iconst 0 d_MO_letter_26 ic_0 27 rfl ?_
      refine ax_iload_n 1 d_MO_letter_27 rfl rfl 28 rfl ?_
      refine ax_iadd d_MO_letter_28 29 rfl ?_
      refine ax_iaload m_23 d_MO_letter_29 30 rfl h (fun i1 h => ?_)
      refine ax_iconst 1 d_MO_letter_30 ic_1 31 rfl ?_
      refine ax_isub d_MO_letter_31 32 rfl ?_
      refine ax_i2l d_MO_letter_32 33 rfl ?_
      refine ax_callS mv_MO_210 ⟨Nat.le_of_ble_eq_true rfl, Nat.le_of_ble_eq_true rfl⟩ ⟨rfl, rfl⟩ [.long v2.toInt64, .long 0, .long (((m.1 23 i1) - 1).toInt64)] [.long (((m.1 23 i1) - 1).toInt64), .long 0, .long v2.toInt64] rfl rfl (Nat.le_of_ble_eq_true rfl) d_MO_letter_33 36 rfl (zc_MO_isIn v2.toInt64 0 (((m.1 23 i1) - 1).toInt64) m ?_)
      refine ax_ifb_eq 51 39 d_MO_letter_36 rfl rfl (fun hc => ?_) (fun hc => ?_)
      · have h := ok_f (bf hc) h
        refine ax_iconst (-1) d_MO_letter_51 ic_m1 52 rfl ?_
        exact ax_iret rfl d_MO_letter_52 (hR (-1) (ok_some h))
      · have h := ok_t hc h
        refine ax_iload_n 3 d_MO_letter_39 rfl rfl 40 rfl ?_
        refine ax_i2l d_MO_letter_40 41 rfl ?_
        refine ax_lconst 0 d_MO_letter_41 lc_0 42 rfl ?_
        refine ax_ldc2 5 wk_MO_208 d_MO_letter_42 45 rfl ?_
        refine ax_callS mv_MO_210 ⟨Nat.le_of_ble_eq_true rfl, Nat.le_of_ble_eq_true rfl⟩ ⟨rfl, rfl⟩ [.long v3.toInt64, .long 0, .long 5] [.long 5, .long 0, .long v3.toInt64] rfl rfl (Nat.le_of_ble_eq_true rfl) d_MO_letter_45 48 rfl (zc_MO_isIn v3.toInt64 0 5 m ?_)
        refine ax_ifb_ne 53 51 d_MO_letter_48 rfl rfl (fun hc => ?_) (fun hc => ?_)
        · have h := ok_t hc h
          refine ax_aload_n 0 d_MO_letter_53 rfl rfl 54 rfl ?_
          refine ax_getR fl_MO_81 m_0 rfl (rm_0_31 _) d_MO_letter_54 57 rfl ?_
          refine ax_iload_n 1 d_MO_letter_57 rfl rfl 58 rfl ?_
          refine ax_iload_n 2 d_MO_letter_58 rfl rfl 59 rfl ?_
          refine ax_callS mv_MO_263 ⟨Nat.le_of_ble_eq_true rfl, Nat.le_of_ble_eq_true rfl⟩ ⟨rfl, rfl⟩ [.int v1, .int v2] [.int v2, .int v1, .ref 23] rfl rfl (Nat.le_of_ble_eq_true rfl) d_MO_letter_59 62 rfl (zc_MO_nameAt v1 v2 m ?_)
          refine ax_iaload m_23 d_MO_letter_62 63 rfl h (fun i2 h => ?_)
          refine ax_istore (ls1 := [(4, .int (m.1 23 i2)), (0, .ref 0), (1, .int v1), (2, .int v2), (3, .int v3)]) d_MO_letter_63 (Nat.le_of_ble_eq_true rfl) rfl 65 rfl ?_
          refine ax_iload 0 d_MO_letter_65 rfl 67 rfl ?_
          refine ax_callS mv_MO_518 ⟨Nat.le_of_ble_eq_true rfl, Nat.le_of_ble_eq_true rfl⟩ ⟨rfl, rfl⟩ [.int (m.1 23 i2)] [.int (m.1 23 i2)] rfl rfl (Nat.le_of_ble_eq_true rfl) d_MO_letter_67 70 rfl (zc_MO_lettersOf (m.1 23 i2) m (ok_b h (fun r3 h => ?_)))
          refine ax_istore (ls1 := [(5, .int r3), (4, .int (m.1 23 i2)), (0, .ref 0), (1, .int v1), (2, .int v2), (3, .int v3)]) d_MO_letter_70 (Nat.le_of_ble_eq_true rfl) rfl 72 rfl ?_
          refine ax_iload 0 d_MO_letter_72 rfl 74 rfl ?_
          refine ax_iconst 1 d_MO_letter_74 ic_1 75 rfl ?_
          refine ax_isub d_MO_letter_75 76 rfl ?_
          refine ax_istore (ls1 := [(6, .int (r3 - 1)), (5, .int r3), (4, .int (m.1 23 i2)), (0, .ref 0), (1, .int v1), (2, .int v2), (3, .int v3)]) d_MO_letter_76 (Nat.le_of_ble_eq_true rfl) rfl 78 rfl ?_
          exact ax_sub [6, 2, 1, 0] rfl (c_MO_letter_L78 v3 (m.1 23 i2) r3 (r3 - 1) m (fun p hp => hR p hp) h)
        · have h := ok_f (bf hc) h
          refine ax_iconst (-1) d_MO_letter_51 ic_m1 52 rfl ?_
          exact ax_iret rfl d_MO_letter_52 (hR (-1) (ok_some h))
set_option maxRecDepth 4000 in
theorem zc_MO_rule (v1 : Int32) (v2 : Int32) (m : zM)  {Q : Option Value → zM → Prop} (h : ok (f_MO_rule v1 v2 m) (fun p => Q (some (.int p)) m)) : zc gM s_MO_rule [.ref 0, .int v1, .int v2] m Q := by
  refine zc_of rfl (Nat.le_of_ble_eq_true rfl) ?_
  show AX gM s_MO_rule 0 [(0, .ref 0), (1, .int v1), (2, .int v2)] [] m Q
  obtain ⟨K, hK⟩ : ∃ K : Int32 → Prop, K = (fun p : Int32 => Q (some (.int p)) m) := ⟨_, rfl⟩
  have hR : ∀ p : Int32, K p → Q (some (.int p)) m := fun p hp => by rw [hK] at hp; exact hp
  replace h : ok (f_MO_rule v1 v2 m) (fun p : Int32 => Q (some (.int p)) m) := h
  rw [← hK] at h
  unfold f_MO_rule at h
  refine ax_aload_n 0 d_MO_rule_0 rfl rfl 1 rfl ?_
  refine ax_getI fl_MO_321 m_0 rfl d_MO_rule_1 4 rfl ?_
  refine ax_if_eq 44 7 d_MO_rule_4 rfl rfl (fun hc => ?_) (fun hc => ?_)
  · have h := ok_t hc h
    refine ax_iconst (-1) d_MO_rule_44 ic_m1 45 rfl ?_
    exact ax_iret rfl d_MO_rule_45 (hR (-1) (ok_some h))
  · have h := ok_f hc h
    refine ax_iload_n 1 d_MO_rule_7 rfl rfl 8 rfl ?_
    refine ax_i2l d_MO_rule_8 9 rfl ?_
    refine ax_lconst 0 d_MO_rule_9 lc_0 10 rfl ?_
    refine ax_aload_n 0 d_MO_rule_10 rfl rfl 11 rfl ?_
    refine ax_callV mv_MO_400 ⟨Nat.le_of_ble_eq_true rfl, Nat.le_of_ble_eq_true rfl⟩ ⟨rfl, rfl⟩ [] [.ref 0, .long 0, .long v1.toInt64] rfl rfl (rc_m_0 _) (Nat.le_of_ble_eq_true rfl) d_MO_rule_11 14 rfl (zc_MO_rules m (ok_b h (fun r1 h => ?_)))
    refine ax_iconst 1 d_MO_rule_14 ic_1 15 rfl ?_
    refine ax_isub d_MO_rule_15 16 rfl ?_
    refine ax_i2l d_MO_rule_16 17 rfl ?_
    refine ax_callS mv_MO_210 ⟨Nat.le_of_ble_eq_true rfl, Nat.le_of_ble_eq_true rfl⟩ ⟨rfl, rfl⟩ [.long v1.toInt64, .long 0, .long ((r1 - 1).toInt64)] [.long ((r1 - 1).toInt64), .long 0, .long v1.toInt64] rfl rfl (Nat.le_of_ble_eq_true rfl) d_MO_rule_17 20 rfl (zc_MO_isIn v1.toInt64 0 ((r1 - 1).toInt64) m ?_)
    refine ax_ifb_eq 44 23 d_MO_rule_20 rfl rfl (fun hc => ?_) (fun hc => ?_)
    · have h := ok_f (bf hc) h
      refine ax_iconst (-1) d_MO_rule_44 ic_m1 45 rfl ?_
      exact ax_iret rfl d_MO_rule_45 (hR (-1) (ok_some h))
    · have h := ok_t hc h
      refine ax_iload_n 2 d_MO_rule_23 rfl rfl 24 rfl ?_
      refine ax_i2l d_MO_rule_24 25 rfl ?_
      refine ax_lconst 0 d_MO_rule_25 lc_0 26 rfl ?_
      refine ax_ldc2 7 wk_MO_521 d_MO_rule_26 29 rfl ?_
      refine ax_callS mv_MO_210 ⟨Nat.le_of_ble_eq_true rfl, Nat.le_of_ble_eq_true rfl⟩ ⟨rfl, rfl⟩ [.long v2.toInt64, .long 0, .long 7] [.long 7, .long 0, .long v2.toInt64] rfl rfl (Nat.le_of_ble_eq_true rfl) d_MO_rule_29 32 rfl (zc_MO_isIn v2.toInt64 0 7 m ?_)
      refine ax_ifb_eq 44 35 d_MO_rule_32 rfl rfl (fun hc => ?_) (fun hc => ?_)
      · have h := ok_f (bf hc) h
        refine ax_iconst (-1) d_MO_rule_44 ic_m1 45 rfl ?_
        exact ax_iret rfl d_MO_rule_45 (hR (-1) (ok_some h))
      · have h := ok_t hc h
        refine ax_aload_n 0 d_MO_rule_35 rfl rfl 36 rfl ?_
        refine ax_iload_n 1 d_MO_rule_36 rfl rfl 37 rfl ?_
        refine ax_iload_n 2 d_MO_rule_37 rfl rfl 38 rfl ?_
        refine ax_callV mv_MO_349 ⟨Nat.le_of_ble_eq_true rfl, Nat.le_of_ble_eq_true rfl⟩ ⟨rfl, rfl⟩ [.int v1, .int v2] [.int v2, .int v1, .ref 0] rfl rfl (rc_m_0 _) (Nat.le_of_ble_eq_true rfl) d_MO_rule_38 41 rfl (zc_MO_ruleOf v1 v2 m (ok_b h (fun r2 h => ?_)))
        refine ax_goto 45 d_MO_rule_41 rfl ?_
        exact ax_iret rfl d_MO_rule_45 (hR r2 (ok_some h))
set_option maxRecDepth 4000 in
theorem c_MO_isEnd_J53 (v1 : Int32) (v2 : Int32) (m : zM)  {Q : Option Value → zM → Prop} {K : ((Bool) ⊕ (Int32)) → Prop} (hR : ∀ p : Bool, K (.inl p) → Q (some (.int (b2i p))) m) (h0 : ∀ s : Int32, K (.inr s) → AX gM s_MO_isEnd 2 [(0, .ref 0), (1, .int v1), (2, .int s)] [] m Q) (h : ok (f_MO_isEnd_J53 v1 v2 m) K) : AX gM s_MO_isEnd 53 [(0, .ref 0), (1, .int v1), (2, .int v2)] [] m Q := by
  unfold f_MO_isEnd_J53 at h
  refine ax_iinc (ls1 := [(2, .int (v2 + 1)), (0, .ref 0), (1, .int v1)]) 2 1 d_MO_isEnd_53 rfl ic_1 (Nat.le_of_ble_eq_true rfl) rfl 56 rfl ?_
  refine ax_goto 2 d_MO_isEnd_56 rfl ?_
  exact ax_sub [1, 2, 0] rfl (h0 (v2 + 1) (ok_some h))
set_option maxRecDepth 4000 in
theorem c_MO_isEnd_B2 (v1 : Int32) (v2 : Int32) (m : zM)  {Q : Option Value → zM → Prop} {K : ((Bool) ⊕ (Int32)) → Prop} (hR : ∀ p : Bool, K (.inl p) → Q (some (.int (b2i p))) m) (h0 : ∀ s : Int32, K (.inr s) → AX gM s_MO_isEnd 2 [(0, .ref 0), (1, .int v1), (2, .int s)] [] m Q) (h : ok (f_MO_isEnd_B2 v1 v2 m) K) : AX gM s_MO_isEnd 2 [(0, .ref 0), (1, .int v1), (2, .int v2)] [] m Q := by
  unfold f_MO_isEnd_B2 at h
  refine ax_iload_n 2 d_MO_isEnd_2 rfl rfl 3 rfl ?_
  refine ax_bipush 64 d_MO_isEnd_3 bp_64 5 rfl ?_
  refine ax_aload_n 0 d_MO_isEnd_5 rfl rfl 6 rfl ?_
  refine ax_getI fl_MO_380 m_0 rfl d_MO_isEnd_6 9 rfl ?_
  refine ax_imul d_MO_isEnd_9 10 rfl ?_
  refine ax_icmp_ge 59 13 d_MO_isEnd_10 rfl rfl (fun hc => ?_) (fun hc => ?_)
  · have h := ok_t hc h
    refine ax_iconst 1 d_MO_isEnd_59 ic_1 60 rfl ?_
    exact ax_zret (b := true) rfl d_MO_isEnd_60 (hR true (ok_some h))
  · have h := ok_f hc h
    refine ax_aload_n 0 d_MO_isEnd_13 rfl rfl 14 rfl ?_
    refine ax_getR fl_MO_160 m_0 rfl (rm_0_67 _) d_MO_isEnd_14 17 rfl ?_
    refine ax_iload_n 2 d_MO_isEnd_17 rfl rfl 18 rfl ?_
    refine ax_bipush 64 d_MO_isEnd_18 bp_64 20 rfl ?_
    refine ax_idiv d_MO_isEnd_20 (by decide) 21 rfl ?_
    refine ax_iaload m_47 d_MO_isEnd_21 22 rfl h (fun i1 h => ?_)
    refine ax_iload_n 1 d_MO_isEnd_22 rfl rfl 23 rfl ?_
    refine ax_icmp_ne 53 26 d_MO_isEnd_23 rfl rfl (fun hc => ?_) (fun hc => ?_)
    · have h := ok_f hc h
      exact ax_sub [0, 1, 2] rfl (c_MO_isEnd_J53 v1 v2 m (fun p hp => hR p hp) (fun s hs => h0 s hs) h)
    · have h := ok_t hc h
      refine ax_aload_n 0 d_MO_isEnd_26 rfl rfl 27 rfl ?_
      refine ax_getR fl_MO_107 m_0 rfl (rm_0_45 _) d_MO_isEnd_27 30 rfl ?_
      refine ax_iload_n 2 d_MO_isEnd_30 rfl rfl 31 rfl ?_
      refine ax_iaload m_30 d_MO_isEnd_31 32 rfl h (fun i2 h => ?_)
      refine ax_iconst (-1) d_MO_isEnd_32 ic_m1 33 rfl ?_
      refine ax_icmp_eq 53 36 d_MO_isEnd_33 rfl rfl (fun hc => ?_) (fun hc => ?_)
      · have h := ok_t hc h
        exact ax_sub [0, 1, 2] rfl (c_MO_isEnd_J53 v1 v2 m (fun p hp => hR p hp) (fun s hs => h0 s hs) h)
      · have h := ok_f hc h
        refine ax_aload_n 0 d_MO_isEnd_36 rfl rfl 37 rfl ?_
        refine ax_getR fl_MO_160 m_0 rfl (rm_0_67 _) d_MO_isEnd_37 40 rfl ?_
        refine ax_aload_n 0 d_MO_isEnd_40 rfl rfl 41 rfl ?_
        refine ax_getR fl_MO_107 m_0 rfl (rm_0_45 _) d_MO_isEnd_41 44 rfl ?_
        refine ax_iload_n 2 d_MO_isEnd_44 rfl rfl 45 rfl ?_
        refine ax_iaload m_30 d_MO_isEnd_45 46 rfl h (fun i3 h => ?_)
        refine ax_iaload m_47 d_MO_isEnd_46 47 rfl h (fun i4 h => ?_)
        refine ax_iload_n 1 d_MO_isEnd_47 rfl rfl 48 rfl ?_
        refine ax_icmp_eq 53 51 d_MO_isEnd_48 rfl rfl (fun hc => ?_) (fun hc => ?_)
        · have h := ok_t hc h
          exact ax_sub [0, 1, 2] rfl (c_MO_isEnd_J53 v1 v2 m (fun p hp => hR p hp) (fun s hs => h0 s hs) h)
        · have h := ok_f hc h
          refine ax_iconst 0 d_MO_isEnd_51 ic_0 52 rfl ?_
          exact ax_zret (b := false) rfl d_MO_isEnd_52 (hR false (ok_some h))
theorem c_MO_isEnd_L2 (v1 : Int32) (v2 : Int32) (m : zM)  {Q : Option Value → zM → Prop} {K : Bool → Prop} (hR : ∀ p : Bool, K (p) → Q (some (.int (b2i p))) m)  (h : ok (f_MO_isEnd_L2 v1 v2 m) K) : AX gM s_MO_isEnd 2 [(0, .ref 0), (1, .int v1), (2, .int v2)] [] m Q :=
  ok_lp (K := K) (G := fun s : Int32 => AX gM s_MO_isEnd 2 [(0, .ref 0), (1, .int v1), (2, .int s)] [] m Q) (fun s h => c_MO_isEnd_B2 v1 s m  (fun p hp => hR p hp) (fun s hs => hs) h) FU v2 h
set_option maxRecDepth 4000 in
theorem zc_MO_isEnd (v1 : Int32) (m : zM)  {Q : Option Value → zM → Prop} (h : ok (f_MO_isEnd v1 m) (fun p => Q (some (.int (b2i p))) m)) : zc gM s_MO_isEnd [.ref 0, .int v1] m Q := by
  refine zc_of rfl (Nat.le_of_ble_eq_true rfl) ?_
  show AX gM s_MO_isEnd 0 [(0, .ref 0), (1, .int v1)] [] m Q
  obtain ⟨K, hK⟩ : ∃ K : Bool → Prop, K = (fun p : Bool => Q (some (.int (b2i p))) m) := ⟨_, rfl⟩
  have hR : ∀ p : Bool, K p → Q (some (.int (b2i p))) m := fun p hp => by rw [hK] at hp; exact hp
  replace h : ok (f_MO_isEnd v1 m) (fun p : Bool => Q (some (.int (b2i p))) m) := h
  rw [← hK] at h
  unfold f_MO_isEnd at h
  refine ax_iconst 0 d_MO_isEnd_0 ic_0 1 rfl ?_
  refine ax_istore_n (ls1 := [(2, .int 0), (0, .ref 0), (1, .int v1)]) d_MO_isEnd_1 rfl (Nat.le_of_ble_eq_true rfl) rfl 2 rfl ?_
  exact ax_sub [1, 2, 0] rfl (c_MO_isEnd_L2 v1 0 m (fun p hp => hR p hp) h)
set_option maxRecDepth 4000 in
theorem c_MO_part_J59 (v1 : Int32) (v2 : Int32) (v3 : Int32) (m : zM)  {Q : Option Value → zM → Prop} {K : (Int32 × zM) → Prop} (hR : ∀ p : Int32 × zM, K (p) → Q (some (.int p.1)) p.2)  (h : ok (f_MO_part_J59 v1 v2 v3 m) K) : AX gM s_MO_part 59 [(0, .ref 0), (1, .int v1), (2, .int v2), (3, .int v3)] [] m Q := by
  unfold f_MO_part_J59 at h
  refine ax_iload_n 2 d_MO_part_59 rfl rfl 60 rfl ?_
  by_cases hc60_0 : v2 = 0
  · have h := ok_t hc60_0 h
    refine ax_tableIn (off := 28) 88 d_MO_part_60 (by rw [hc60_0]; decide) (by rw [hc60_0]; decide) (by rw [hc60_0]; rfl) rfl ?_
    refine ax_iload_n 3 d_MO_part_88 rfl rfl 89 rfl ?_
    exact ax_iret rfl d_MO_part_89 (hR (v3, m) (ok_some h))
  have h := ok_f hc60_0 h
  by_cases hc60_1 : v2 = 1
  · have h := ok_t hc60_1 h
    refine ax_tableIn (off := 30) 90 d_MO_part_60 (by rw [hc60_1]; decide) (by rw [hc60_1]; decide) (by rw [hc60_1]; rfl) rfl ?_
    refine ax_aload_n 0 d_MO_part_90 rfl rfl 91 rfl ?_
    refine ax_getR fl_MO_163 m_0 rfl (rm_0_68 _) d_MO_part_91 94 rfl ?_
    refine ax_iload_n 1 d_MO_part_94 rfl rfl 95 rfl ?_
    refine ax_iaload m_48 d_MO_part_95 96 rfl h (fun i4 h => ?_)
    exact ax_iret rfl d_MO_part_96 (hR ((m.1 48 i4), m) (ok_some h))
  have h := ok_f hc60_1 h
  by_cases hc60_2 : v2 = 2
  · have h := ok_t hc60_2 h
    refine ax_tableIn (off := 37) 97 d_MO_part_60 (by rw [hc60_2]; decide) (by rw [hc60_2]; decide) (by rw [hc60_2]; rfl) rfl ?_
    refine ax_aload_n 0 d_MO_part_97 rfl rfl 98 rfl ?_
    refine ax_iload_n 1 d_MO_part_98 rfl rfl 99 rfl ?_
    refine ax_callV mv_MO_523 ⟨Nat.le_of_ble_eq_true rfl, Nat.le_of_ble_eq_true rfl⟩ ⟨rfl, rfl⟩ [.int v1] [.int v1, .ref 0] rfl rfl (rc_m_0 _) (Nat.le_of_ble_eq_true rfl) d_MO_part_99 102 rfl (zc_MO_isEnd v1 m (ok_b h (fun r5 h => ?_)))
    refine ax_ifb_eq 109 105 d_MO_part_102 rfl rfl (fun hc => ?_) (fun hc => ?_)
    · have h := ok_f (bf hc) h
      refine ax_iconst 0 d_MO_part_109 ic_0 110 rfl ?_
      exact ax_iret rfl d_MO_part_110 (hR (0, m) (ok_some h))
    · have h := ok_t hc h
      refine ax_iconst 1 d_MO_part_105 ic_1 106 rfl ?_
      refine ax_goto 110 d_MO_part_106 rfl ?_
      exact ax_iret rfl d_MO_part_110 (hR (1, m) (ok_some h))
  have h := ok_f hc60_2 h
  have n0 := zne (n := 0) hc60_0 (by decide)
  have n1 := zne (n := 1) hc60_1 (by decide)
  have n2 := zne (n := 2) hc60_2 (by decide)
  refine ax_tableOut 111 d_MO_part_60 (by omega) rfl ?_
  refine ax_iconst (-1) d_MO_part_111 ic_m1 112 rfl ?_
  exact ax_iret rfl d_MO_part_112 (hR ((-1), m) (ok_some h))
set_option maxRecDepth 4000 in
theorem c_MO_part_J53 (v1 : Int32) (v2 : Int32) (v3 : Int32) (v4 : Int32) (m : zM)  {Q : Option Value → zM → Prop} {K : ((Int32 × zM) ⊕ (Int32 × Int32)) → Prop} (hR : ∀ p : Int32 × zM, K (.inl p) → Q (some (.int p.1)) p.2) (h0 : ∀ s : Int32 × Int32, K (.inr s) → AX gM s_MO_part 30 [(0, .ref 0), (1, .int v1), (2, .int v2), (3, .int s.1), (4, .int s.2)] [] m Q) (h : ok (f_MO_part_J53 v1 v2 v3 v4 m) K) : AX gM s_MO_part 53 [(0, .ref 0), (1, .int v1), (2, .int v2), (3, .int v3), (4, .int v4)] [] m Q := by
  unfold f_MO_part_J53 at h
  refine ax_iinc (ls1 := [(4, .int (v4 + 1)), (0, .ref 0), (1, .int v1), (2, .int v2), (3, .int v3)]) 4 1 d_MO_part_53 rfl ic_1 (Nat.le_of_ble_eq_true rfl) rfl 56 rfl ?_
  refine ax_goto 30 d_MO_part_56 rfl ?_
  exact ax_sub [1, 2, 3, 4, 0] rfl (h0 (v3, (v4 + 1)) (ok_some h))
set_option maxRecDepth 4000 in
theorem c_MO_part_B30 (v1 : Int32) (v2 : Int32) (v3 : Int32) (v4 : Int32) (m : zM)  {Q : Option Value → zM → Prop} {K : ((Int32 × zM) ⊕ (Int32 × Int32)) → Prop} (hR : ∀ p : Int32 × zM, K (.inl p) → Q (some (.int p.1)) p.2) (h0 : ∀ s : Int32 × Int32, K (.inr s) → AX gM s_MO_part 30 [(0, .ref 0), (1, .int v1), (2, .int v2), (3, .int s.1), (4, .int s.2)] [] m Q) (h : ok (f_MO_part_B30 v1 v2 v3 v4 m) K) : AX gM s_MO_part 30 [(0, .ref 0), (1, .int v1), (2, .int v2), (3, .int v3), (4, .int v4)] [] m Q := by
  unfold f_MO_part_B30 at h
  refine ax_iload 4 d_MO_part_30 rfl 32 rfl ?_
  refine ax_aload_n 0 d_MO_part_32 rfl rfl 33 rfl ?_
  refine ax_getI fl_MO_380 m_0 rfl d_MO_part_33 36 rfl ?_
  refine ax_icmp_ge 59 39 d_MO_part_36 rfl rfl (fun hc => ?_) (fun hc => ?_)
  · have h := ok_t hc h
    exact ax_sub [0, 1, 2, 3] rfl (c_MO_part_J59 v1 v2 v3 m (fun p hp => hR p hp) (ok_z h))
  · have h := ok_f hc h
    refine ax_aload_n 0 d_MO_part_39 rfl rfl 40 rfl ?_
    refine ax_getR fl_MO_160 m_0 rfl (rm_0_67 _) d_MO_part_40 43 rfl ?_
    refine ax_iload 4 d_MO_part_43 rfl 45 rfl ?_
    refine ax_iaload m_47 d_MO_part_45 46 rfl h (fun i3 h => ?_)
    refine ax_iload_n 1 d_MO_part_46 rfl rfl 47 rfl ?_
    refine ax_icmp_ne 53 50 d_MO_part_47 rfl rfl (fun hc => ?_) (fun hc => ?_)
    · have h := ok_f hc h
      exact ax_sub [0, 1, 2, 3, 4] rfl (c_MO_part_J53 v1 v2 v3 v4 m (fun p hp => hR p hp) (fun s hs => h0 s hs) h)
    · have h := ok_t hc h
      refine ax_iinc (ls1 := [(3, .int (v3 + 1)), (0, .ref 0), (1, .int v1), (2, .int v2), (4, .int v4)]) 3 1 d_MO_part_50 rfl ic_1 (Nat.le_of_ble_eq_true rfl) rfl 53 rfl ?_
      exact ax_sub [1, 2, 3, 0, 4] rfl (c_MO_part_J53 v1 v2 (v3 + 1) v4 m (fun p hp => hR p hp) (fun s hs => h0 s hs) h)
theorem c_MO_part_L30 (v1 : Int32) (v2 : Int32) (v3 : Int32) (v4 : Int32) (m : zM)  {Q : Option Value → zM → Prop} {K : (Int32 × zM) → Prop} (hR : ∀ p : Int32 × zM, K (p) → Q (some (.int p.1)) p.2)  (h : ok (f_MO_part_L30 v1 v2 v3 v4 m) K) : AX gM s_MO_part 30 [(0, .ref 0), (1, .int v1), (2, .int v2), (3, .int v3), (4, .int v4)] [] m Q :=
  ok_lp (K := K) (G := fun s : Int32 × Int32 => AX gM s_MO_part 30 [(0, .ref 0), (1, .int v1), (2, .int v2), (3, .int s.1), (4, .int s.2)] [] m Q) (fun s h => c_MO_part_B30 v1 v2 s.1 s.2 m  (fun p hp => hR p hp) (fun s hs => hs) h) FU (v3, v4) h
set_option maxRecDepth 4000 in
theorem zc_MO_part (v1 : Int32) (v2 : Int32) (m : zM)  {Q : Option Value → zM → Prop} (h : ok (f_MO_part v1 v2 m) (fun p => Q (some (.int p.1)) p.2)) : zc gM s_MO_part [.ref 0, .int v1, .int v2] m Q := by
  refine zc_of rfl (Nat.le_of_ble_eq_true rfl) ?_
  show AX gM s_MO_part 0 [(0, .ref 0), (1, .int v1), (2, .int v2)] [] m Q
  obtain ⟨K, hK⟩ : ∃ K : (Int32 × zM) → Prop, K = (fun p : Int32 × zM => Q (some (.int p.1)) p.2) := ⟨_, rfl⟩
  have hR : ∀ p : Int32 × zM, K p → Q (some (.int p.1)) p.2 := fun p hp => by rw [hK] at hp; exact hp
  replace h : ok (f_MO_part v1 v2 m) (fun p : Int32 × zM => Q (some (.int p.1)) p.2) := h
  rw [← hK] at h
  unfold f_MO_part at h
  refine ax_aload_n 0 d_MO_part_0 rfl rfl 1 rfl ?_
  refine ax_callV mv_MO_505 ⟨Nat.le_of_ble_eq_true rfl, Nat.le_of_ble_eq_true rfl⟩ ⟨rfl, rfl⟩ [] [.ref 0] rfl rfl (rc_m_0 _) (Nat.le_of_ble_eq_true rfl) d_MO_part_1 4 rfl (zc_MO_isAsked m (ok_b h (fun p1 h => ?_)))
  refine ax_ifb_eq 23 7 d_MO_part_4 rfl rfl (fun hc => ?_) (fun hc => ?_)
  · have h := ok_f (bf hc) h
    refine ax_iconst (-1) d_MO_part_23 ic_m1 24 rfl ?_
    exact ax_iret rfl d_MO_part_24 (hR ((-1), p1.2) (ok_some h))
  · have h := ok_t hc h
    refine ax_iload_n 1 d_MO_part_7 rfl rfl 8 rfl ?_
    refine ax_i2l d_MO_part_8 9 rfl ?_
    refine ax_lconst 0 d_MO_part_9 lc_0 10 rfl ?_
    refine ax_aload_n 0 d_MO_part_10 rfl rfl 11 rfl ?_
    refine ax_callV mv_MO_513 ⟨Nat.le_of_ble_eq_true rfl, Nat.le_of_ble_eq_true rfl⟩ ⟨rfl, rfl⟩ [] [.ref 0, .long 0, .long v1.toInt64] rfl rfl (rc_m_0 _) (Nat.le_of_ble_eq_true rfl) d_MO_part_11 14 rfl (zc_MO_partMany p1.2 (ok_b h (fun p2 h => ?_)))
    refine ax_iconst 1 d_MO_part_14 ic_1 15 rfl ?_
    refine ax_isub d_MO_part_15 16 rfl ?_
    refine ax_i2l d_MO_part_16 17 rfl ?_
    refine ax_callS mv_MO_210 ⟨Nat.le_of_ble_eq_true rfl, Nat.le_of_ble_eq_true rfl⟩ ⟨rfl, rfl⟩ [.long v1.toInt64, .long 0, .long ((p2.1 - 1).toInt64)] [.long ((p2.1 - 1).toInt64), .long 0, .long v1.toInt64] rfl rfl (Nat.le_of_ble_eq_true rfl) d_MO_part_17 20 rfl (zc_MO_isIn v1.toInt64 0 ((p2.1 - 1).toInt64) p2.2 ?_)
    refine ax_ifb_ne 25 23 d_MO_part_20 rfl rfl (fun hc => ?_) (fun hc => ?_)
    · have h := ok_t hc h
      refine ax_iconst 0 d_MO_part_25 ic_0 26 rfl ?_
      refine ax_istore_n (ls1 := [(3, .int 0), (0, .ref 0), (1, .int v1), (2, .int v2)]) d_MO_part_26 rfl (Nat.le_of_ble_eq_true rfl) rfl 27 rfl ?_
      refine ax_iconst 0 d_MO_part_27 ic_0 28 rfl ?_
      refine ax_istore (ls1 := [(4, .int 0), (3, .int 0), (0, .ref 0), (1, .int v1), (2, .int v2)]) d_MO_part_28 (Nat.le_of_ble_eq_true rfl) rfl 30 rfl ?_
      exact ax_sub [2, 3, 4, 1, 0] rfl (c_MO_part_L30 v1 v2 0 0 p2.2 (fun p hp => hR p hp) h)
    · have h := ok_f (bf hc) h
      refine ax_iconst (-1) d_MO_part_23 ic_m1 24 rfl ?_
      exact ax_iret rfl d_MO_part_24 (hR ((-1), p2.2) (ok_some h))
set_option maxRecDepth 4000 in
theorem zc_MO_isWorld (v1 : Int32) (m : zM)  {Q : Option Value → zM → Prop} (h : ok (f_MO_isWorld v1 m) (fun p => Q (some (.int (b2i p.1))) p.2)) : zc gM s_MO_isWorld [.ref 0, .int v1] m Q := by
  refine zc_of rfl (Nat.le_of_ble_eq_true rfl) ?_
  show AX gM s_MO_isWorld 0 [(0, .ref 0), (1, .int v1)] [] m Q
  obtain ⟨K, hK⟩ : ∃ K : (Bool × zM) → Prop, K = (fun p : Bool × zM => Q (some (.int (b2i p.1))) p.2) := ⟨_, rfl⟩
  have hR : ∀ p : Bool × zM, K p → Q (some (.int (b2i p.1))) p.2 := fun p hp => by rw [hK] at hp; exact hp
  replace h : ok (f_MO_isWorld v1 m) (fun p : Bool × zM => Q (some (.int (b2i p.1))) p.2) := h
  rw [← hK] at h
  unfold f_MO_isWorld at h
  refine ax_aload_n 0 d_MO_isWorld_0 rfl rfl 1 rfl ?_
  refine ax_callV mv_MO_505 ⟨Nat.le_of_ble_eq_true rfl, Nat.le_of_ble_eq_true rfl⟩ ⟨rfl, rfl⟩ [] [.ref 0] rfl rfl (rc_m_0 _) (Nat.le_of_ble_eq_true rfl) d_MO_isWorld_1 4 rfl (zc_MO_isAsked m (ok_b h (fun p1 h => ?_)))
  refine ax_ifb_eq 27 7 d_MO_isWorld_4 rfl rfl (fun hc => ?_) (fun hc => ?_)
  · have h := ok_f (bf hc) h
    refine ax_iconst 0 d_MO_isWorld_27 ic_0 28 rfl ?_
    exact ax_zret (b := false) rfl d_MO_isWorld_28 (hR (false, p1.2) (ok_some h))
  · have h := ok_t hc h
    refine ax_iload_n 1 d_MO_isWorld_7 rfl rfl 8 rfl ?_
    refine ax_i2l d_MO_isWorld_8 9 rfl ?_
    refine ax_lconst 0 d_MO_isWorld_9 lc_0 10 rfl ?_
    refine ax_aload_n 0 d_MO_isWorld_10 rfl rfl 11 rfl ?_
    refine ax_getI fl_MO_380 m_0 rfl d_MO_isWorld_11 14 rfl ?_
    refine ax_iconst 1 d_MO_isWorld_14 ic_1 15 rfl ?_
    refine ax_isub d_MO_isWorld_15 16 rfl ?_
    refine ax_i2l d_MO_isWorld_16 17 rfl ?_
    refine ax_callS mv_MO_210 ⟨Nat.le_of_ble_eq_true rfl, Nat.le_of_ble_eq_true rfl⟩ ⟨rfl, rfl⟩ [.long v1.toInt64, .long 0, .long (((p1.2.1 0 41) - 1).toInt64)] [.long (((p1.2.1 0 41) - 1).toInt64), .long 0, .long v1.toInt64] rfl rfl (Nat.le_of_ble_eq_true rfl) d_MO_isWorld_17 20 rfl (zc_MO_isIn v1.toInt64 0 (((p1.2.1 0 41) - 1).toInt64) p1.2 ?_)
    refine ax_ifb_eq 27 23 d_MO_isWorld_20 rfl rfl (fun hc => ?_) (fun hc => ?_)
    · have h := ok_f (bf hc) h
      refine ax_iconst 0 d_MO_isWorld_27 ic_0 28 rfl ?_
      exact ax_zret (b := false) rfl d_MO_isWorld_28 (hR (false, p1.2) (ok_some h))
    · have h := ok_t hc h
      refine ax_iconst 1 d_MO_isWorld_23 ic_1 24 rfl ?_
      refine ax_goto 28 d_MO_isWorld_24 rfl ?_
      exact ax_zret (b := true) rfl d_MO_isWorld_28 (hR (true, p1.2) (ok_some h))
set_option maxRecDepth 4000 in
theorem zc_MO_world (v1 : Int32) (v2 : Int32) (m : zM)  {Q : Option Value → zM → Prop} (h : ok (f_MO_world v1 v2 m) (fun p => Q (some (.int p.1)) p.2)) : zc gM s_MO_world [.ref 0, .int v1, .int v2] m Q := by
  refine zc_of rfl (Nat.le_of_ble_eq_true rfl) ?_
  show AX gM s_MO_world 0 [(0, .ref 0), (1, .int v1), (2, .int v2)] [] m Q
  obtain ⟨K, hK⟩ : ∃ K : (Int32 × zM) → Prop, K = (fun p : Int32 × zM => Q (some (.int p.1)) p.2) := ⟨_, rfl⟩
  have hR : ∀ p : Int32 × zM, K p → Q (some (.int p.1)) p.2 := fun p hp => by rw [hK] at hp; exact hp
  replace h : ok (f_MO_world v1 v2 m) (fun p : Int32 × zM => Q (some (.int p.1)) p.2) := h
  rw [← hK] at h
  unfold f_MO_world at h
  refine ax_aload_n 0 d_MO_world_0 rfl rfl 1 rfl ?_
  refine ax_iload_n 1 d_MO_world_1 rfl rfl 2 rfl ?_
  refine ax_callV mv_MO_526 ⟨Nat.le_of_ble_eq_true rfl, Nat.le_of_ble_eq_true rfl⟩ ⟨rfl, rfl⟩ [.int v1] [.int v1, .ref 0] rfl rfl (rc_m_0 _) (Nat.le_of_ble_eq_true rfl) d_MO_world_2 5 rfl (zc_MO_isWorld v1 m (ok_b h (fun p1 h => ?_)))
  refine ax_ifb_ne 10 8 d_MO_world_5 rfl rfl (fun hc => ?_) (fun hc => ?_)
  · have h := ok_t hc h
    refine ax_iload_n 2 d_MO_world_10 rfl rfl 11 rfl ?_
    by_cases hc11_0 : v2 = 0
    · have h := ok_t hc11_0 h
      refine ax_tableIn (off := 41) 52 d_MO_world_11 (by rw [hc11_0]; decide) (by rw [hc11_0]; decide) (by rw [hc11_0]; rfl) rfl ?_
      refine ax_aload_n 0 d_MO_world_52 rfl rfl 53 rfl ?_
      refine ax_getR fl_MO_100 m_0 rfl (rm_0_43 _) d_MO_world_53 56 rfl ?_
      refine ax_iload_n 1 d_MO_world_56 rfl rfl 57 rfl ?_
      refine ax_iaload m_28 d_MO_world_57 58 rfl h (fun i2 h => ?_)
      exact ax_iret rfl d_MO_world_58 (hR ((p1.2.1 28 i2), p1.2) (ok_some h))
    have h := ok_f hc11_0 h
    by_cases hc11_1 : v2 = 1
    · have h := ok_t hc11_1 h
      refine ax_tableIn (off := 48) 59 d_MO_world_11 (by rw [hc11_1]; decide) (by rw [hc11_1]; decide) (by rw [hc11_1]; rfl) rfl ?_
      refine ax_aload_n 0 d_MO_world_59 rfl rfl 60 rfl ?_
      refine ax_iload_n 1 d_MO_world_60 rfl rfl 61 rfl ?_
      refine ax_callV mv_MO_428 ⟨Nat.le_of_ble_eq_true rfl, Nat.le_of_ble_eq_true rfl⟩ ⟨rfl, rfl⟩ [.int v1] [.int v1, .ref 0] rfl rfl (rc_m_0 _) (Nat.le_of_ble_eq_true rfl) d_MO_world_61 64 rfl (zc_MO_copies v1 p1.2 (ok_b h (fun p3 h => ?_)))
      exact ax_iret rfl d_MO_world_64 (hR (p3.1, p3.2) (ok_some h))
    have h := ok_f hc11_1 h
    by_cases hc11_2 : v2 = 2
    · have h := ok_t hc11_2 h
      refine ax_tableIn (off := 54) 65 d_MO_world_11 (by rw [hc11_2]; decide) (by rw [hc11_2]; decide) (by rw [hc11_2]; rfl) rfl ?_
      refine ax_aload_n 0 d_MO_world_65 rfl rfl 66 rfl ?_
      refine ax_getR fl_MO_96 m_0 rfl (rm_0_42 _) d_MO_world_66 69 rfl ?_
      refine ax_iload_n 1 d_MO_world_69 rfl rfl 70 rfl ?_
      refine ax_laload m_27 d_MO_world_70 71 rfl h (fun i4 h => ?_)
      refine ax_bipush 48 d_MO_world_71 bp_48 73 rfl ?_
      refine ax_lshr d_MO_world_73 74 rfl ?_
      refine ax_l2i d_MO_world_74 75 rfl ?_
      refine ax_iconst 1 d_MO_world_75 ic_1 76 rfl ?_
      refine ax_isub d_MO_world_76 77 rfl ?_
      exact ax_iret rfl d_MO_world_77 (hR ((((lsr (p1.2.2.1 27 i4) 48).toInt32) - 1), p1.2) (ok_some h))
    have h := ok_f hc11_2 h
    by_cases hc11_3 : v2 = 3
    · have h := ok_t hc11_3 h
      refine ax_tableIn (off := 67) 78 d_MO_world_11 (by rw [hc11_3]; decide) (by rw [hc11_3]; decide) (by rw [hc11_3]; rfl) rfl ?_
      refine ax_aload_n 0 d_MO_world_78 rfl rfl 79 rfl ?_
      refine ax_aload_n 0 d_MO_world_79 rfl rfl 80 rfl ?_
      refine ax_getR fl_MO_96 m_0 rfl (rm_0_42 _) d_MO_world_80 83 rfl ?_
      refine ax_iload_n 1 d_MO_world_83 rfl rfl 84 rfl ?_
      refine ax_laload m_27 d_MO_world_84 85 rfl h (fun i5 h => ?_)
      refine ax_callV mv_MO_434 ⟨Nat.le_of_ble_eq_true rfl, Nat.le_of_ble_eq_true rfl⟩ ⟨rfl, rfl⟩ [.long (p1.2.2.1 27 i5)] [.long (p1.2.2.1 27 i5), .ref 0] rfl rfl (rc_m_0 _) (Nat.le_of_ble_eq_true rfl) d_MO_world_85 88 rfl (zc_MO_isBad (p1.2.2.1 27 i5) p1.2 (ok_b h (fun p6 h => ?_)))
      refine ax_ifb_eq 95 91 d_MO_world_88 rfl rfl (fun hc => ?_) (fun hc => ?_)
      · have h := ok_f (bf hc) h
        refine ax_iconst 0 d_MO_world_95 ic_0 96 rfl ?_
        exact ax_iret rfl d_MO_world_96 (hR (0, p6.2) (ok_some h))
      · have h := ok_t hc h
        refine ax_iconst 1 d_MO_world_91 ic_1 92 rfl ?_
        refine ax_goto 96 d_MO_world_92 rfl ?_
        exact ax_iret rfl d_MO_world_96 (hR (1, p6.2) (ok_some h))
    have h := ok_f hc11_3 h
    by_cases hc11_4 : v2 = 4
    · have h := ok_t hc11_4 h
      refine ax_tableIn (off := 86) 97 d_MO_world_11 (by rw [hc11_4]; decide) (by rw [hc11_4]; decide) (by rw [hc11_4]; rfl) rfl ?_
      refine ax_aload_n 0 d_MO_world_97 rfl rfl 98 rfl ?_
      refine ax_iload_n 1 d_MO_world_98 rfl rfl 99 rfl ?_
      refine ax_callV mv_MO_431 ⟨Nat.le_of_ble_eq_true rfl, Nat.le_of_ble_eq_true rfl⟩ ⟨rfl, rfl⟩ [.int v1] [.int v1, .ref 0] rfl rfl (rc_m_0 _) (Nat.le_of_ble_eq_true rfl) d_MO_world_99 102 rfl (zc_MO_movesFrom v1 p1.2 (ok_b h (fun r7 h => ?_)))
      refine ax_if_ne 109 105 d_MO_world_102 rfl rfl (fun hc => ?_) (fun hc => ?_)
      · have h := ok_f hc h
        refine ax_iconst 0 d_MO_world_109 ic_0 110 rfl ?_
        exact ax_iret rfl d_MO_world_110 (hR (0, p1.2) (ok_some h))
      · have h := ok_t hc h
        refine ax_iconst 1 d_MO_world_105 ic_1 106 rfl ?_
        refine ax_goto 110 d_MO_world_106 rfl ?_
        exact ax_iret rfl d_MO_world_110 (hR (1, p1.2) (ok_some h))
    have h := ok_f hc11_4 h
    by_cases hc11_5 : v2 = 5
    · have h := ok_t hc11_5 h
      refine ax_tableIn (off := 100) 111 d_MO_world_11 (by rw [hc11_5]; decide) (by rw [hc11_5]; decide) (by rw [hc11_5]; rfl) rfl ?_
      refine ax_aload_n 0 d_MO_world_111 rfl rfl 112 rfl ?_
      refine ax_iload_n 1 d_MO_world_112 rfl rfl 113 rfl ?_
      refine ax_callV mv_MO_431 ⟨Nat.le_of_ble_eq_true rfl, Nat.le_of_ble_eq_true rfl⟩ ⟨rfl, rfl⟩ [.int v1] [.int v1, .ref 0] rfl rfl (rc_m_0 _) (Nat.le_of_ble_eq_true rfl) d_MO_world_113 116 rfl (zc_MO_movesFrom v1 p1.2 (ok_b h (fun r8 h => ?_)))
      exact ax_iret rfl d_MO_world_116 (hR (r8, p1.2) (ok_some h))
    have h := ok_f hc11_5 h
    by_cases hc11_6 : v2 = 6
    · have h := ok_t hc11_6 h
      refine ax_tableIn (off := 106) 117 d_MO_world_11 (by rw [hc11_6]; decide) (by rw [hc11_6]; decide) (by rw [hc11_6]; rfl) rfl ?_
      refine ax_aload_n 0 d_MO_world_117 rfl rfl 118 rfl ?_
      refine ax_callV mv_MO_513 ⟨Nat.le_of_ble_eq_true rfl, Nat.le_of_ble_eq_true rfl⟩ ⟨rfl, rfl⟩ [] [.ref 0] rfl rfl (rc_m_0 _) (Nat.le_of_ble_eq_true rfl) d_MO_world_118 121 rfl (zc_MO_partMany p1.2 (ok_b h (fun p9 h => ?_)))
      refine ax_pop d_MO_world_121 rfl 122 rfl ?_
      refine ax_aload_n 0 d_MO_world_122 rfl rfl 123 rfl ?_
      refine ax_getR fl_MO_160 m_0 rfl (rm_0_67 _) d_MO_world_123 126 rfl ?_
      refine ax_iload_n 1 d_MO_world_126 rfl rfl 127 rfl ?_
      refine ax_iaload m_47 d_MO_world_127 128 rfl h (fun i10 h => ?_)
      exact ax_iret rfl d_MO_world_128 (hR ((p9.2.1 47 i10), p9.2) (ok_some h))
    have h := ok_f hc11_6 h
    have n0 := zne (n := 0) hc11_0 (by decide)
    have n1 := zne (n := 1) hc11_1 (by decide)
    have n2 := zne (n := 2) hc11_2 (by decide)
    have n3 := zne (n := 3) hc11_3 (by decide)
    have n4 := zne (n := 4) hc11_4 (by decide)
    have n5 := zne (n := 5) hc11_5 (by decide)
    have n6 := zne (n := 6) hc11_6 (by decide)
    refine ax_tableOut 129 d_MO_world_11 (by omega) rfl ?_
    refine ax_iconst (-1) d_MO_world_129 ic_m1 130 rfl ?_
    exact ax_iret rfl d_MO_world_130 (hR ((-1), p1.2) (ok_some h))
  · have h := ok_f (bf hc) h
    refine ax_iconst (-1) d_MO_world_8 ic_m1 9 rfl ?_
    exact ax_iret rfl d_MO_world_9 (hR ((-1), p1.2) (ok_some h))
set_option maxRecDepth 4000 in
theorem zc_MO_lookMany  (m : zM)  {Q : Option Value → zM → Prop} (h : Q (some (.int (f_MO_lookMany m))) m) : zc gM s_MO_lookMany [.ref 0] m Q := by
  refine zc_of rfl (Nat.le_of_ble_eq_true rfl) ?_
  show AX gM s_MO_lookMany 0 [(0, .ref 0)] [] m Q
  obtain ⟨K, hK⟩ : ∃ K : Int32 → Prop, K = (fun p : Int32 => Q (some (.int p)) m) := ⟨_, rfl⟩
  have hR : ∀ p : Int32, K p → Q (some (.int p)) m := fun p hp => by rw [hK] at hp; exact hp
  replace h : (fun p : Int32 => Q (some (.int p)) m) (f_MO_lookMany m) := h
  rw [← hK] at h
  unfold f_MO_lookMany at h
  refine ax_iconst 4 d_MO_lookMany_0 ic_4 1 rfl ?_
  refine ax_aload_n 0 d_MO_lookMany_1 rfl rfl 2 rfl ?_
  refine ax_getI fl_MO_380 m_0 rfl d_MO_lookMany_2 5 rfl ?_
  refine ax_imul d_MO_lookMany_5 6 rfl ?_
  exact ax_iret rfl d_MO_lookMany_6 (hR (4 * (m.1 0 41)) h)
set_option maxRecDepth 4000 in
theorem c_MO_firstLike_B2 (v0 : Nat) (v1 : Int32) (v2 : Int32) (m : zM) (hv0 : gM.1[v0]? = some (.inr (0, zlen gM v0))) {Q : Option Value → zM → Prop} {K : ((Int32) ⊕ (Int32)) → Prop} (hR : ∀ p : Int32, K (.inl p) → Q (some (.int p)) m) (h0 : ∀ s : Int32, K (.inr s) → AX gM s_MO_firstLike 2 [(0, .ref v0), (1, .int v1), (2, .int s)] [] m Q) (h : ok (f_MO_firstLike_B2 v0 v1 v2 m) K) : AX gM s_MO_firstLike 2 [(0, .ref v0), (1, .int v1), (2, .int v2)] [] m Q := by
  unfold f_MO_firstLike_B2 at h
  refine ax_aload_n 0 d_MO_firstLike_2 rfl rfl 3 rfl ?_
  refine ax_iload_n 2 d_MO_firstLike_3 rfl rfl 4 rfl ?_
  refine ax_iaload hv0 d_MO_firstLike_4 5 rfl h (fun i1 h => ?_)
  refine ax_iload_n 1 d_MO_firstLike_5 rfl rfl 6 rfl ?_
  refine ax_icmp_eq 15 9 d_MO_firstLike_6 rfl rfl (fun hc => ?_) (fun hc => ?_)
  · have h := ok_t hc h
    refine ax_iload_n 2 d_MO_firstLike_15 rfl rfl 16 rfl ?_
    exact ax_iret rfl d_MO_firstLike_16 (hR v2 (ok_some h))
  · have h := ok_f hc h
    refine ax_iinc (ls1 := [(2, .int (v2 + 1)), (0, .ref v0), (1, .int v1)]) 2 1 d_MO_firstLike_9 rfl ic_1 (Nat.le_of_ble_eq_true rfl) rfl 12 rfl ?_
    refine ax_goto 2 d_MO_firstLike_12 rfl ?_
    exact ax_sub [1, 2, 0] rfl (h0 (v2 + 1) (ok_some h))
theorem c_MO_firstLike_L2 (v0 : Nat) (v1 : Int32) (v2 : Int32) (m : zM) (hv0 : gM.1[v0]? = some (.inr (0, zlen gM v0))) {Q : Option Value → zM → Prop} {K : Int32 → Prop} (hR : ∀ p : Int32, K (p) → Q (some (.int p)) m)  (h : ok (f_MO_firstLike_L2 v0 v1 v2 m) K) : AX gM s_MO_firstLike 2 [(0, .ref v0), (1, .int v1), (2, .int v2)] [] m Q :=
  ok_lp (K := K) (G := fun s : Int32 => AX gM s_MO_firstLike 2 [(0, .ref v0), (1, .int v1), (2, .int s)] [] m Q) (fun s h => c_MO_firstLike_B2 v0 v1 s m hv0 (fun p hp => hR p hp) (fun s hs => hs) h) FU v2 h
set_option maxRecDepth 4000 in
theorem zc_MO_firstLike (v0 : Nat) (v1 : Int32) (m : zM) (hv0 : gM.1[v0]? = some (.inr (0, zlen gM v0))) {Q : Option Value → zM → Prop} (h : ok (f_MO_firstLike v0 v1 m) (fun p => Q (some (.int p)) m)) : zc gM s_MO_firstLike [.ref v0, .int v1] m Q := by
  refine zc_of rfl (Nat.le_of_ble_eq_true rfl) ?_
  show AX gM s_MO_firstLike 0 [(0, .ref v0), (1, .int v1)] [] m Q
  obtain ⟨K, hK⟩ : ∃ K : Int32 → Prop, K = (fun p : Int32 => Q (some (.int p)) m) := ⟨_, rfl⟩
  have hR : ∀ p : Int32, K p → Q (some (.int p)) m := fun p hp => by rw [hK] at hp; exact hp
  replace h : ok (f_MO_firstLike v0 v1 m) (fun p : Int32 => Q (some (.int p)) m) := h
  rw [← hK] at h
  unfold f_MO_firstLike at h
  refine ax_iconst 0 d_MO_firstLike_0 ic_0 1 rfl ?_
  refine ax_istore_n (ls1 := [(2, .int 0), (0, .ref v0), (1, .int v1)]) d_MO_firstLike_1 rfl (Nat.le_of_ble_eq_true rfl) rfl 2 rfl ?_
  exact ax_sub [1, 2, 0] rfl (c_MO_firstLike_L2 v0 v1 0 m hv0 (fun p hp => hR p hp) h)
set_option maxRecDepth 4000 in
theorem c_MO_looksFrom_J173 (v1 : Int32) (v2 : Int32) (v3 : Int32) (v4 : Int32) (m : zM)  {Q : Option Value → zM → Prop} {K : ((zM) ⊕ (Int32 × zM)) → Prop} (hR : ∀ p : zM, K (.inl p) → Q none p) (h0 : ∀ s : Int32 × zM, K (.inr s) → AX gM s_MO_looksFrom 63 [(0, .ref 0), (1, .int v1), (2, .int v2), (3, .int v3), (4, .int s.1)] [] s.2 Q) (h : ok (f_MO_looksFrom_J173 v1 v2 v3 v4 m) K) : AX gM s_MO_looksFrom 173 [(0, .ref 0), (1, .int v1), (2, .int v2), (3, .int v3), (4, .int v4)] [] m Q := by
  unfold f_MO_looksFrom_J173 at h
  refine ax_iinc (ls1 := [(4, .int (v4 + 1)), (0, .ref 0), (1, .int v1), (2, .int v2), (3, .int v3)]) 4 1 d_MO_looksFrom_173 rfl ic_1 (Nat.le_of_ble_eq_true rfl) rfl 176 rfl ?_
  refine ax_goto 63 d_MO_looksFrom_176 rfl ?_
  exact ax_sub [1, 2, 3, 4, 0] rfl (h0 ((v4 + 1), m) (ok_some h))
