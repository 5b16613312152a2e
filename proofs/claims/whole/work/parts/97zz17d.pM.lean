set_option maxRecDepth 4000 in
theorem c_MO_looksFrom_B63 (v1 : Int32) (v2 : Int32) (v3 : Int32) (v4 : Int32) (m : zM)  {Q : Option Value → zM → Prop} {K : ((zM) ⊕ (Int32 × zM)) → Prop} (hR : ∀ p : zM, K (.inl p) → Q none p) (h0 : ∀ s : Int32 × zM, K (.inr s) → AX gM s_MO_looksFrom 63 [(0, .ref 0), (1, .int v1), (2, .int v2), (3, .int v3), (4, .int s.1)] [] s.2 Q) (h : ok (f_MO_looksFrom_B63 v1 v2 v3 v4 m) K) : AX gM s_MO_looksFrom 63 [(0, .ref 0), (1, .int v1), (2, .int v2), (3, .int v3), (4, .int v4)] [] m Q := by
  unfold f_MO_looksFrom_B63 at h
  refine ax_iload 4 d_MO_looksFrom_63 rfl 65 rfl ?_
  refine ax_bipush 64 d_MO_looksFrom_65 bp_64 67 rfl ?_
  refine ax_icmp_ge 179 70 d_MO_looksFrom_67 rfl rfl (fun hc => ?_) (fun hc => ?_)
  · have h := ok_t hc h
    exact ax_vret rfl d_MO_looksFrom_179 (hR m (ok_some h))
  · have h := ok_f hc h
    refine ax_aload_n 0 d_MO_looksFrom_70 rfl rfl 71 rfl ?_
    refine ax_getR fl_MO_111 m_0 rfl (rm_0_47 _) d_MO_looksFrom_71 74 rfl ?_
    refine ax_bipush 64 d_MO_looksFrom_74 bp_64 76 rfl ?_
    refine ax_iload_n 3 d_MO_looksFrom_76 rfl rfl 77 rfl ?_
    refine ax_imul d_MO_looksFrom_77 78 rfl ?_
    refine ax_iload 4 d_MO_looksFrom_78 rfl 80 rfl ?_
    refine ax_iadd d_MO_looksFrom_80 81 rfl ?_
    refine ax_iconst (-1) d_MO_looksFrom_81 ic_m1 82 rfl ?_
    refine ax_iastore m_31 d_MO_looksFrom_82 83 rfl h (fun i9 m10 h => ?_)
    refine ax_aload_n 0 d_MO_looksFrom_83 rfl rfl 84 rfl ?_
    refine ax_getR fl_MO_114 m_0 rfl (rm_0_48 _) d_MO_looksFrom_84 87 rfl ?_
    refine ax_iload_n 3 d_MO_looksFrom_87 rfl rfl 88 rfl ?_
    refine ax_iaload m_32 d_MO_looksFrom_88 89 rfl h (fun i11 h => ?_)
    refine ax_iconst (-1) d_MO_looksFrom_89 ic_m1 90 rfl ?_
    refine ax_icmp_eq 173 93 d_MO_looksFrom_90 rfl rfl (fun hc => ?_) (fun hc => ?_)
    · have h := ok_t hc h
      exact ax_sub [0, 1, 2, 3, 4] rfl (c_MO_looksFrom_J173 v1 v2 v3 v4 m10 (fun p hp => hR p hp) (fun s hs => h0 s hs) h)
    · have h := ok_f hc h
      refine ax_aload_n 0 d_MO_looksFrom_93 rfl rfl 94 rfl ?_
      refine ax_getR fl_MO_107 m_0 rfl (rm_0_45 _) d_MO_looksFrom_94 97 rfl ?_
      refine ax_bipush 64 d_MO_looksFrom_97 bp_64 99 rfl ?_
      refine ax_iload_n 1 d_MO_looksFrom_99 rfl rfl 100 rfl ?_
      refine ax_imul d_MO_looksFrom_100 101 rfl ?_
      refine ax_iload 4 d_MO_looksFrom_101 rfl 103 rfl ?_
      refine ax_iadd d_MO_looksFrom_103 104 rfl ?_
      refine ax_iaload m_30 d_MO_looksFrom_104 105 rfl h (fun i12 h => ?_)
      refine ax_iconst (-1) d_MO_looksFrom_105 ic_m1 106 rfl ?_
      refine ax_icmp_ne 112 109 d_MO_looksFrom_106 rfl rfl (fun hc => ?_) (fun hc => ?_)
      · have h := ok_f hc h
        refine ax_aload_n 0 d_MO_looksFrom_112 rfl rfl 113 rfl ?_
        refine ax_iload 4 d_MO_looksFrom_113 rfl 115 rfl ?_
        refine ax_iconst 4 d_MO_looksFrom_115 ic_4 116 rfl ?_
        refine ax_idiv d_MO_looksFrom_116 (by decide) 117 rfl ?_
        refine ax_iload 4 d_MO_looksFrom_117 rfl 119 rfl ?_
        refine ax_iconst 4 d_MO_looksFrom_119 ic_4 120 rfl ?_
        refine ax_irem d_MO_looksFrom_120 (by decide) 121 rfl ?_
        refine ax_callV mv_MO_419 ⟨Nat.le_of_ble_eq_true rfl, Nat.le_of_ble_eq_true rfl⟩ ⟨rfl, rfl⟩ [.int (v4 / 4), .int (ir v4 4)] [.int (ir v4 4), .int (v4 / 4), .ref 0] rfl rfl (rc_m_0 _) (Nat.le_of_ble_eq_true rfl) d_MO_looksFrom_121 124 rfl (zc_MO_isMoved (v4 / 4) (ir v4 4) m10 (ok_b h (fun p13 h => ?_)))
        refine ax_pop d_MO_looksFrom_124 rfl 125 rfl ?_
        refine ax_aload_n 0 d_MO_looksFrom_125 rfl rfl 126 rfl ?_
        refine ax_getR fl_MO_90 m_0 rfl (rm_0_39 _) d_MO_looksFrom_126 129 rfl ?_
        refine ax_iload_n 2 d_MO_looksFrom_129 rfl rfl 130 rfl ?_
        refine ax_iaload m_26 d_MO_looksFrom_130 131 rfl h (fun i14 h => ?_)
        refine ax_istore (ls1 := [(5, .int (p13.2.1 26 i14)), (0, .ref 0), (1, .int v1), (2, .int v2), (3, .int v3), (4, .int v4)]) d_MO_looksFrom_131 (Nat.le_of_ble_eq_true rfl) rfl 133 rfl ?_
        refine ax_aload_n 1 d_MO_looksFrom_133 rfl rfl 134 rfl ?_
        refine ax_callV mv_MO_422 ⟨Nat.le_of_ble_eq_true rfl, Nat.le_of_ble_eq_true rfl⟩ ⟨rfl, rfl⟩ [] [.ref 0] rfl rfl (rc_m_0 _) (Nat.le_of_ble_eq_true rfl) d_MO_looksFrom_134 137 rfl (zc_MO_folds p13.2 (ok_b h (fun p15 h => ?_)))
        refine ax_aload_n 1 d_MO_looksFrom_137 rfl rfl 138 rfl ?_
        refine ax_getR fl_MO_111 m_0 rfl (rm_0_47 _) d_MO_looksFrom_138 141 rfl ?_
        refine ax_bipush 64 d_MO_looksFrom_141 bp_64 143 rfl ?_
        refine ax_iload_n 4 d_MO_looksFrom_143 rfl rfl 144 rfl ?_
        refine ax_imul d_MO_looksFrom_144 145 rfl ?_
        refine ax_iload 5 d_MO_looksFrom_145 rfl 147 rfl ?_
        refine ax_iadd d_MO_looksFrom_147 148 rfl ?_
        refine ax_iconst 4 d_MO_looksFrom_148 ic_4 149 rfl ?_
        refine ax_aload_n 1 d_MO_looksFrom_149 rfl rfl 150 rfl ?_
        refine ax_getR fl_MO_107 m_0 rfl (rm_0_45 _) d_MO_looksFrom_150 153 rfl ?_
        refine ax_bipush 64 d_MO_looksFrom_153 bp_64 155 rfl ?_
        refine ax_iload_n 2 d_MO_looksFrom_155 rfl rfl 156 rfl ?_
        refine ax_imul d_MO_looksFrom_156 157 rfl ?_
        refine ax_iload 5 d_MO_looksFrom_157 rfl 159 rfl ?_
        refine ax_iadd d_MO_looksFrom_159 160 rfl ?_
        refine ax_iaload m_30 d_MO_looksFrom_160 161 rfl h (fun i16 h => ?_)
        refine ax_imul d_MO_looksFrom_161 162 rfl ?_
        refine ax_aload_n 1 d_MO_looksFrom_162 rfl rfl 163 rfl ?_
        refine ax_getR fl_MO_90 m_0 rfl (rm_0_39 _) d_MO_looksFrom_163 166 rfl ?_
        refine ax_iload 0 d_MO_looksFrom_166 rfl 168 rfl ?_
        refine ax_callS mv_MO_438 ⟨Nat.le_of_ble_eq_true rfl, Nat.le_of_ble_eq_true rfl⟩ ⟨rfl, rfl⟩ [.ref 26, .int (p13.2.1 26 i14)] [.int (p13.2.1 26 i14), .ref 26, .int (4 * (p15.1 30 i16)), .int ((64 * v3) + v4), .ref 31] rfl rfl (Nat.le_of_ble_eq_true rfl) d_MO_looksFrom_168 171 rfl (zc_MO_firstLike 26 (p13.2.1 26 i14) p15 m_26z (ok_b h (fun r17 h => ?_)))
        refine ax_iadd d_MO_looksFrom_171 172 rfl ?_
        refine ax_iastore m_31 d_MO_looksFrom_172 173 rfl h (fun i18 m19 h => ?_)
        exact ax_sub [1, 2, 3, 4, 5] rfl (c_MO_looksFrom_J173 v1 v2 v3 v4 m19 (fun p hp => hR p hp) (fun s hs => h0 s hs) h)
      · have h := ok_t hc h
        refine ax_goto 173 d_MO_looksFrom_109 rfl ?_
        exact ax_sub [0, 1, 2, 3, 4] rfl (c_MO_looksFrom_J173 v1 v2 v3 v4 m10 (fun p hp => hR p hp) (fun s hs => h0 s hs) h)
theorem c_MO_looksFrom_L63 (v1 : Int32) (v2 : Int32) (v3 : Int32) (v4 : Int32) (m : zM)  {Q : Option Value → zM → Prop} {K : zM → Prop} (hR : ∀ p : zM, K (p) → Q none p)  (h : ok (f_MO_looksFrom_L63 v1 v2 v3 v4 m) K) : AX gM s_MO_looksFrom 63 [(0, .ref 0), (1, .int v1), (2, .int v2), (3, .int v3), (4, .int v4)] [] m Q :=
  ok_lp (K := K) (G := fun s : Int32 × zM => AX gM s_MO_looksFrom 63 [(0, .ref 0), (1, .int v1), (2, .int v2), (3, .int v3), (4, .int s.1)] [] s.2 Q) (fun s h => c_MO_looksFrom_B63 v1 v2 v3 s.1 s.2  (fun p hp => hR p hp) (fun s hs => hs) h) FU (v4, m) h
set_option maxRecDepth 4000 in
theorem c_MO_looksFrom_J59 (v1 : Int32) (v2 : Int32) (v3 : Int32) (t0 : Nat) (t1 : Int32) (t2 : Int32) (m : zM) (ht0 : gM.1[t0]? = some (.inr (0, zlen gM t0))) {Q : Option Value → zM → Prop} {K : zM → Prop} (hR : ∀ p : zM, K (p) → Q none p)  (h : ok (f_MO_looksFrom_J59 v1 v2 v3 t0 t1 t2 m) K) : AX gM s_MO_looksFrom 59 [(0, .ref 0), (1, .int v1), (2, .int v2), (3, .int v3)] [.int t2, .int t1, .ref t0] m Q := by
  unfold f_MO_looksFrom_J59 at h
  refine ax_iastore ht0 d_MO_looksFrom_59 60 rfl h (fun i7 m8 h => ?_)
  refine ax_iconst 0 d_MO_looksFrom_60 ic_0 61 rfl ?_
  refine ax_istore (ls1 := [(4, .int 0), (0, .ref 0), (1, .int v1), (2, .int v2), (3, .int v3)]) d_MO_looksFrom_61 (Nat.le_of_ble_eq_true rfl) rfl 63 rfl ?_
  exact ax_sub [1, 2, 3, 4, 0] rfl (c_MO_looksFrom_L63 v1 v2 v3 0 m8 (fun p hp => hR p hp) h)
set_option maxRecDepth 4000 in
theorem c_MO_looksFrom_J58 (v1 : Int32) (v2 : Int32) (v3 : Int32) (t0 : Nat) (t1 : Int32) (m : zM) (ht0 : gM.1[t0]? = some (.inr (0, zlen gM t0))) {Q : Option Value → zM → Prop} {K : zM → Prop} (hR : ∀ p : zM, K (p) → Q none p)  (h : ok (f_MO_looksFrom_J58 v1 v2 v3 t0 t1 m) K) : AX gM s_MO_looksFrom 58 [(0, .ref 0), (1, .int v1), (2, .int v2), (3, .int v3)] [.int t1, .ref t0] m Q := by
  unfold f_MO_looksFrom_J58 at h
  refine ax_iconst (-1) d_MO_looksFrom_58 ic_m1 59 rfl ?_
  exact ax_sub [0, 1, 2, 3] rfl (c_MO_looksFrom_J59 v1 v2 v3 t0 t1 (-1) m ht0 (fun p hp => hR p hp) h)
set_option maxRecDepth 4000 in
theorem zc_MO_looksFrom (v1 : Int32) (v2 : Int32) (m : zM)  {Q : Option Value → zM → Prop} (h : ok (f_MO_looksFrom v1 v2 m) (fun p => Q none p)) : zc gM s_MO_looksFrom [.ref 0, .int v1, .int v2] m Q := by
  refine zc_of rfl (Nat.le_of_ble_eq_true rfl) ?_
  show AX gM s_MO_looksFrom 0 [(0, .ref 0), (1, .int v1), (2, .int v2)] [] m Q
  obtain ⟨K, hK⟩ : ∃ K : zM → Prop, K = (fun p : zM => Q none p) := ⟨_, rfl⟩
  have hR : ∀ p : zM, K p → Q none p := fun p hp => by rw [hK] at hp; exact hp
  replace h : ok (f_MO_looksFrom v1 v2 m) (fun p : zM => Q none p) := h
  rw [← hK] at h
  unfold f_MO_looksFrom at h
  refine ax_iconst 4 d_MO_looksFrom_0 ic_4 1 rfl ?_
  refine ax_iload_n 1 d_MO_looksFrom_1 rfl rfl 2 rfl ?_
  refine ax_imul d_MO_looksFrom_2 3 rfl ?_
  refine ax_iload_n 2 d_MO_looksFrom_3 rfl rfl 4 rfl ?_
  refine ax_iadd d_MO_looksFrom_4 5 rfl ?_
  refine ax_istore_n (ls1 := [(3, .int ((4 * v1) + v2)), (0, .ref 0), (1, .int v1), (2, .int v2)]) d_MO_looksFrom_5 rfl (Nat.le_of_ble_eq_true rfl) rfl 6 rfl ?_
  refine ax_aload_n 1 d_MO_looksFrom_6 rfl rfl 7 rfl ?_
  refine ax_aload_n 1 d_MO_looksFrom_7 rfl rfl 8 rfl ?_
  refine ax_getR fl_MO_96 m_0 rfl (rm_0_42 _) d_MO_looksFrom_8 11 rfl ?_
  refine ax_iload_n 2 d_MO_looksFrom_11 rfl rfl 12 rfl ?_
  refine ax_laload m_27 d_MO_looksFrom_12 13 rfl h (fun i1 h => ?_)
  refine ax_callV mv_MO_415 ⟨Nat.le_of_ble_eq_true rfl, Nat.le_of_ble_eq_true rfl⟩ ⟨rfl, rfl⟩ [.long (m.2.1 27 i1)] [.long (m.2.1 27 i1), .ref 0] rfl rfl (rc_m_0 _) (Nat.le_of_ble_eq_true rfl) d_MO_looksFrom_13 16 rfl (zc_MO_opens (m.2.1 27 i1) m (ok_b h (fun p2 h => ?_)))
  refine ax_aload_n 1 d_MO_looksFrom_16 rfl rfl 17 rfl ?_
  refine ax_getR fl_MO_114 m_0 rfl (rm_0_48 _) d_MO_looksFrom_17 20 rfl ?_
  refine ax_iload_n 0 d_MO_looksFrom_20 rfl rfl 21 rfl ?_
  refine ax_iload_n 3 d_MO_looksFrom_21 rfl rfl 22 rfl ?_
  refine ax_aload_n 1 d_MO_looksFrom_22 rfl rfl 23 rfl ?_
  refine ax_callV mv_MO_358 ⟨Nat.le_of_ble_eq_true rfl, Nat.le_of_ble_eq_true rfl⟩ ⟨rfl, rfl⟩ [] [.ref 0, .int v2, .int ((4 * v1) + v2), .ref 32] rfl rfl (rc_m_0 _) (Nat.le_of_ble_eq_true rfl) d_MO_looksFrom_23 26 rfl (zc_MO_agents p2 (ok_b h (fun r3 h => ?_)))
  refine ax_icmp_ge 58 29 d_MO_looksFrom_26 rfl rfl (fun hc => ?_) (fun hc => ?_)
  · have h := ok_t hc h
    exact ax_sub [1, 2, 3, 0] rfl (c_MO_looksFrom_J58 v1 v2 ((4 * v1) + v2) 32 ((4 * v1) + v2) p2 m_32z (fun p hp => hR p hp) h)
  · have h := ok_f hc h
    refine ax_aload_n 1 d_MO_looksFrom_29 rfl rfl 30 rfl ?_
    refine ax_getR fl_MO_87 m_0 rfl (rm_0_37 _) d_MO_looksFrom_30 33 rfl ?_
    refine ax_aload_n 1 d_MO_looksFrom_33 rfl rfl 34 rfl ?_
    refine ax_getR fl_MO_87 m_0 rfl (rm_0_37 _) d_MO_looksFrom_34 37 rfl ?_
    refine ax_iload_n 3 d_MO_looksFrom_37 rfl rfl 38 rfl ?_
    refine ax_iaload m_25 d_MO_looksFrom_38 39 rfl h (fun i4 h => ?_)
    refine ax_callS mv_MO_438 ⟨Nat.le_of_ble_eq_true rfl, Nat.le_of_ble_eq_true rfl⟩ ⟨rfl, rfl⟩ [.ref 25, .int (p2.1 25 i4)] [.int (p2.1 25 i4), .ref 25, .int ((4 * v1) + v2), .ref 32] rfl rfl (Nat.le_of_ble_eq_true rfl) d_MO_looksFrom_39 42 rfl (zc_MO_firstLike 25 (p2.1 25 i4) p2 m_25z (ok_b h (fun r5 h => ?_)))
    refine ax_iload_n 3 d_MO_looksFrom_42 rfl rfl 43 rfl ?_
    refine ax_icmp_ne 58 46 d_MO_looksFrom_43 rfl rfl (fun hc => ?_) (fun hc => ?_)
    · have h := ok_f hc h
      exact ax_sub [1, 2, 3, 0] rfl (c_MO_looksFrom_J58 v1 v2 ((4 * v1) + v2) 32 ((4 * v1) + v2) p2 m_32z (fun p hp => hR p hp) h)
    · have h := ok_t hc h
      refine ax_aload_n 1 d_MO_looksFrom_46 rfl rfl 47 rfl ?_
      refine ax_getR fl_MO_87 m_0 rfl (rm_0_37 _) d_MO_looksFrom_47 50 rfl ?_
      refine ax_iload_n 3 d_MO_looksFrom_50 rfl rfl 51 rfl ?_
      refine ax_iaload m_25 d_MO_looksFrom_51 52 rfl h (fun i6 h => ?_)
      refine ax_callS mv_MO_346 ⟨Nat.le_of_ble_eq_true rfl, Nat.le_of_ble_eq_true rfl⟩ ⟨rfl, rfl⟩ [.int (p2.1 25 i6)] [.int (p2.1 25 i6), .int ((4 * v1) + v2), .ref 32] rfl rfl (Nat.le_of_ble_eq_true rfl) d_MO_looksFrom_52 55 rfl (zc_MO_stateOf (p2.1 25 i6) p2 ?_)
      refine ax_goto 59 d_MO_looksFrom_55 rfl ?_
      exact ax_sub [1, 2, 3, 0] rfl (c_MO_looksFrom_J59 v1 v2 ((4 * v1) + v2) 32 ((4 * v1) + v2) (f_MO_stateOf (p2.1 25 i6)) p2 m_32z (fun p hp => hR p hp) h)
set_option maxRecDepth 4000 in
theorem c_MO_leadsInto_J39 (v1 : Int32) (v2 : Nat) (v3 : Int32) (m : zM) (hv2 : gM.1[v2]? = some (.inr (1, zlen gM v2))) {Q : Option Value → zM → Prop} {K : ((Bool) ⊕ (Int32)) → Prop} (hR : ∀ p : Bool, K (.inl p) → Q (some (.int (b2i p))) m) (h0 : ∀ s : Int32, K (.inr s) → AX gM s_MO_leadsInto 5 [(0, .ref 0), (1, .int v1), (2, .ref v2), (3, .int s)] [] m Q) (h : ok (f_MO_leadsInto_J39 v1 v2 v3 m) K) : AX gM s_MO_leadsInto 39 [(0, .ref 0), (1, .int v1), (2, .ref v2), (3, .int v3)] [] m Q := by
  unfold f_MO_leadsInto_J39 at h
  refine ax_iinc (ls1 := [(3, .int (v3 + 1)), (0, .ref 0), (1, .int v1), (2, .ref v2)]) 3 1 d_MO_leadsInto_39 rfl ic_1 (Nat.le_of_ble_eq_true rfl) rfl 42 rfl ?_
  refine ax_goto 5 d_MO_leadsInto_42 rfl ?_
  exact ax_sub [1, 2, 3, 0] rfl (h0 (v3 + 1) (ok_some h))
set_option maxRecDepth 4000 in
theorem c_MO_leadsInto_B5 (v1 : Int32) (v2 : Nat) (v3 : Int32) (m : zM) (hv2 : gM.1[v2]? = some (.inr (1, zlen gM v2))) {Q : Option Value → zM → Prop} {K : ((Bool) ⊕ (Int32)) → Prop} (hR : ∀ p : Bool, K (.inl p) → Q (some (.int (b2i p))) m) (h0 : ∀ s : Int32, K (.inr s) → AX gM s_MO_leadsInto 5 [(0, .ref 0), (1, .int v1), (2, .ref v2), (3, .int s)] [] m Q) (h : ok (f_MO_leadsInto_B5 v1 v2 v3 m) K) : AX gM s_MO_leadsInto 5 [(0, .ref 0), (1, .int v1), (2, .ref v2), (3, .int v3)] [] m Q := by
  unfold f_MO_leadsInto_B5 at h
  refine ax_iload_n 3 d_MO_leadsInto_5 rfl rfl 6 rfl ?_
  refine ax_bipush 64 d_MO_leadsInto_6 bp_64 8 rfl ?_
  refine ax_iload_n 1 d_MO_leadsInto_8 rfl rfl 9 rfl ?_
  refine ax_imul d_MO_leadsInto_9 10 rfl ?_
  refine ax_bipush 64 d_MO_leadsInto_10 bp_64 12 rfl ?_
  refine ax_iadd d_MO_leadsInto_12 13 rfl ?_
  refine ax_icmp_ge 45 16 d_MO_leadsInto_13 rfl rfl (fun hc => ?_) (fun hc => ?_)
  · have h := ok_t hc h
    refine ax_iconst 0 d_MO_leadsInto_45 ic_0 46 rfl ?_
    exact ax_zret (b := false) rfl d_MO_leadsInto_46 (hR false (ok_some h))
  · have h := ok_f hc h
    refine ax_aload_n 0 d_MO_leadsInto_16 rfl rfl 17 rfl ?_
    refine ax_getR fl_MO_111 m_0 rfl (rm_0_47 _) d_MO_leadsInto_17 20 rfl ?_
    refine ax_iload_n 3 d_MO_leadsInto_20 rfl rfl 21 rfl ?_
    refine ax_iaload m_31 d_MO_leadsInto_21 22 rfl h (fun i1 h => ?_)
    refine ax_iconst (-1) d_MO_leadsInto_22 ic_m1 23 rfl ?_
    refine ax_icmp_eq 39 26 d_MO_leadsInto_23 rfl rfl (fun hc => ?_) (fun hc => ?_)
    · have h := ok_t hc h
      exact ax_sub [0, 1, 2, 3] rfl (c_MO_leadsInto_J39 v1 v2 v3 m hv2 (fun p hp => hR p hp) (fun s hs => h0 s hs) h)
    · have h := ok_f hc h
      refine ax_aload_n 2 d_MO_leadsInto_26 rfl rfl 27 rfl ?_
      refine ax_aload_n 0 d_MO_leadsInto_27 rfl rfl 28 rfl ?_
      refine ax_getR fl_MO_111 m_0 rfl (rm_0_47 _) d_MO_leadsInto_28 31 rfl ?_
      refine ax_iload_n 3 d_MO_leadsInto_31 rfl rfl 32 rfl ?_
      refine ax_iaload m_31 d_MO_leadsInto_32 33 rfl h (fun i2 h => ?_)
      refine ax_baload hv2 d_MO_leadsInto_33 34 rfl h (fun i3 h => ?_)
      refine ax_if_eq 39 37 d_MO_leadsInto_34 rfl rfl (fun hc => ?_) (fun hc => ?_)
      · have h := ok_t hc h
        exact ax_sub [0, 1, 2, 3] rfl (c_MO_leadsInto_J39 v1 v2 v3 m hv2 (fun p hp => hR p hp) (fun s hs => h0 s hs) h)
      · have h := ok_f hc h
        refine ax_iconst 1 d_MO_leadsInto_37 ic_1 38 rfl ?_
        exact ax_zret (b := true) rfl d_MO_leadsInto_38 (hR true (ok_some h))
theorem c_MO_leadsInto_L5 (v1 : Int32) (v2 : Nat) (v3 : Int32) (m : zM) (hv2 : gM.1[v2]? = some (.inr (1, zlen gM v2))) {Q : Option Value → zM → Prop} {K : Bool → Prop} (hR : ∀ p : Bool, K (p) → Q (some (.int (b2i p))) m)  (h : ok (f_MO_leadsInto_L5 v1 v2 v3 m) K) : AX gM s_MO_leadsInto 5 [(0, .ref 0), (1, .int v1), (2, .ref v2), (3, .int v3)] [] m Q :=
  ok_lp (K := K) (G := fun s : Int32 => AX gM s_MO_leadsInto 5 [(0, .ref 0), (1, .int v1), (2, .ref v2), (3, .int s)] [] m Q) (fun s h => c_MO_leadsInto_B5 v1 v2 s m hv2 (fun p hp => hR p hp) (fun s hs => hs) h) FU v3 h
set_option maxRecDepth 4000 in
theorem zc_MO_leadsInto (v1 : Int32) (v2 : Nat) (m : zM) (hv2 : gM.1[v2]? = some (.inr (1, zlen gM v2))) {Q : Option Value → zM → Prop} (h : ok (f_MO_leadsInto v1 v2 m) (fun p => Q (some (.int (b2i p))) m)) : zc gM s_MO_leadsInto [.ref 0, .int v1, .ref v2] m Q := by
  refine zc_of rfl (Nat.le_of_ble_eq_true rfl) ?_
  show AX gM s_MO_leadsInto 0 [(0, .ref 0), (1, .int v1), (2, .ref v2)] [] m Q
  obtain ⟨K, hK⟩ : ∃ K : Bool → Prop, K = (fun p : Bool => Q (some (.int (b2i p))) m) := ⟨_, rfl⟩
  have hR : ∀ p : Bool, K p → Q (some (.int (b2i p))) m := fun p hp => by rw [hK] at hp; exact hp
  replace h : ok (f_MO_leadsInto v1 v2 m) (fun p : Bool => Q (some (.int (b2i p))) m) := h
  rw [← hK] at h
  unfold f_MO_leadsInto at h
  refine ax_bipush 64 d_MO_leadsInto_0 bp_64 2 rfl ?_
  refine ax_iload_n 1 d_MO_leadsInto_2 rfl rfl 3 rfl ?_
  refine ax_imul d_MO_leadsInto_3 4 rfl ?_
  refine ax_istore_n (ls1 := [(3, .int (64 * v1)), (0, .ref 0), (1, .int v1), (2, .ref v2)]) d_MO_leadsInto_4 rfl (Nat.le_of_ble_eq_true rfl) rfl 5 rfl ?_
  exact ax_sub [1, 2, 3, 0] rfl (c_MO_leadsInto_L5 v1 v2 (64 * v1) m hv2 (fun p hp => hR p hp) h)
set_option maxRecDepth 4000 in
theorem c_MO_spreads_J55 (v1 : Nat) (v2 : Bool) (m : zM) (hv1 : gM.1[v1]? = some (.inr (1, zlen gM v1))) {Q : Option Value → zM → Prop} {K : ((zM) ⊕ (Bool × zM)) → Prop} (hR : ∀ p : zM, K (.inl p) → Q none p) (h0 : ∀ s : Bool × zM, K (.inr s) → AX gM s_MO_spreads 2 [(0, .ref 0), (1, .ref v1), (2, .int (b2i s.1))] [] s.2 Q) (h : ok (f_MO_spreads_J55 v1 v2 m) K) : AX gM s_MO_spreads 55 [(0, .ref 0), (1, .ref v1), (2, .int (b2i v2))] [] m Q := by
  unfold f_MO_spreads_J55 at h
  refine ax_goto 2 d_MO_spreads_55 rfl ?_
  exact ax_sub [0, 1, 2] rfl (h0 (v2, m) (ok_some h))
set_option maxRecDepth 4000 in
theorem c_MO_spreads_J49 (v1 : Nat) (v2 : Bool) (v3 : Int32) (m : zM) (hv1 : gM.1[v1]? = some (.inr (1, zlen gM v1))) {Q : Option Value → zM → Prop} {K : (((zM) ⊕ (Bool × zM)) ⊕ (Bool × Int32 × zM)) → Prop} (hR : ∀ p : zM, K (.inl (.inl p)) → Q none p) (h0 : ∀ s : Bool × zM, K (.inl (.inr s)) → AX gM s_MO_spreads 2 [(0, .ref 0), (1, .ref v1), (2, .int (b2i s.1))] [] s.2 Q) (h1 : ∀ s : Bool × Int32 × zM, K (.inr s) → AX gM s_MO_spreads 15 [(0, .ref 0), (1, .ref v1), (2, .int (b2i s.1)), (3, .int s.2.1)] [] s.2.2 Q) (h : ok (f_MO_spreads_J49 v1 v2 v3 m) K) : AX gM s_MO_spreads 49 [(0, .ref 0), (1, .ref v1), (2, .int (b2i v2)), (3, .int v3)] [] m Q := by
  unfold f_MO_spreads_J49 at h
  refine ax_iinc (ls1 := [(3, .int (v3 + (-1))), (0, .ref 0), (1, .ref v1), (2, .int (b2i v2))]) 3 (-1) d_MO_spreads_49 rfl ic_m1 (Nat.le_of_ble_eq_true rfl) rfl 52 rfl ?_
  refine ax_goto 15 d_MO_spreads_52 rfl ?_
  exact ax_sub [1, 2, 3, 0] rfl (h1 (v2, (v3 + (-1)), m) (ok_some h))
set_option maxRecDepth 4000 in
theorem c_MO_spreads_B15 (v1 : Nat) (v2 : Bool) (v3 : Int32) (m : zM) (hv1 : gM.1[v1]? = some (.inr (1, zlen gM v1))) {Q : Option Value → zM → Prop} {K : (((zM) ⊕ (Bool × zM)) ⊕ (Bool × Int32 × zM)) → Prop} (hR : ∀ p : zM, K (.inl (.inl p)) → Q none p) (h0 : ∀ s : Bool × zM, K (.inl (.inr s)) → AX gM s_MO_spreads 2 [(0, .ref 0), (1, .ref v1), (2, .int (b2i s.1))] [] s.2 Q) (h1 : ∀ s : Bool × Int32 × zM, K (.inr s) → AX gM s_MO_spreads 15 [(0, .ref 0), (1, .ref v1), (2, .int (b2i s.1)), (3, .int s.2.1)] [] s.2.2 Q) (h : ok (f_MO_spreads_B15 v1 v2 v3 m) K) : AX gM s_MO_spreads 15 [(0, .ref 0), (1, .ref v1), (2, .int (b2i v2)), (3, .int v3)] [] m Q := by
  unfold f_MO_spreads_B15 at h
  refine ax_iload_n 3 d_MO_spreads_15 rfl rfl 16 rfl ?_
  refine ax_if_lt 55 19 d_MO_spreads_16 rfl rfl (fun hc => ?_) (fun hc => ?_)
  · have h := ok_t hc h
    exact ax_sub [0, 1, 2] rfl (c_MO_spreads_J55 v1 v2 m hv1 (fun p hp => hR p hp) (fun s hs => h0 s hs) (ok_z h))
  · have h := ok_f hc h
    refine ax_aload_n 1 d_MO_spreads_19 rfl rfl 20 rfl ?_
    refine ax_iload_n 3 d_MO_spreads_20 rfl rfl 21 rfl ?_
    refine ax_baload hv1 d_MO_spreads_21 22 rfl h (fun i1 h => ?_)
    refine ax_if_ne 49 25 d_MO_spreads_22 rfl rfl (fun hc => ?_) (fun hc => ?_)
    · have h := ok_f hc h
      exact ax_sub [0, 1, 2, 3] rfl (c_MO_spreads_J49 v1 v2 v3 m hv1 (fun p hp => hR p hp) (fun s hs => h0 s hs) (fun s hs => h1 s hs) h)
    · have h := ok_t hc h
      refine ax_aload_n 0 d_MO_spreads_25 rfl rfl 26 rfl ?_
      refine ax_getR fl_MO_120 m_0 rfl (rm_0_50 _) d_MO_spreads_26 29 rfl ?_
      refine ax_iload_n 3 d_MO_spreads_29 rfl rfl 30 rfl ?_
      refine ax_baload m_34 d_MO_spreads_30 31 rfl h (fun i2 h => ?_)
      refine ax_if_eq 49 34 d_MO_spreads_31 rfl rfl (fun hc => ?_) (fun hc => ?_)
      · have h := ok_t hc h
        exact ax_sub [0, 1, 2, 3] rfl (c_MO_spreads_J49 v1 v2 v3 m hv1 (fun p hp => hR p hp) (fun s hs => h0 s hs) (fun s hs => h1 s hs) h)
      · have h := ok_f hc h
        refine ax_aload_n 0 d_MO_spreads_34 rfl rfl 35 rfl ?_
        refine ax_iload_n 3 d_MO_spreads_35 rfl rfl 36 rfl ?_
        refine ax_aload_n 1 d_MO_spreads_36 rfl rfl 37 rfl ?_
        refine ax_callV mv_MO_445 ⟨Nat.le_of_ble_eq_true rfl, Nat.le_of_ble_eq_true rfl⟩ ⟨rfl, rfl⟩ [.int v3, .ref v1] [.ref v1, .int v3, .ref 0] rfl rfl (rc_m_0 _) (Nat.le_of_ble_eq_true rfl) d_MO_spreads_37 40 rfl (zc_MO_leadsInto v3 v1 m hv1 (ok_b h (fun r3 h => ?_)))
        refine ax_ifb_eq 49 43 d_MO_spreads_40 rfl rfl (fun hc => ?_) (fun hc => ?_)
        · have h := ok_f (bf hc) h
          exact ax_sub [0, 1, 2, 3] rfl (c_MO_spreads_J49 v1 v2 v3 m hv1 (fun p hp => hR p hp) (fun s hs => h0 s hs) (fun s hs => h1 s hs) h)
        · have h := ok_t hc h
          refine ax_aload_n 1 d_MO_spreads_43 rfl rfl 44 rfl ?_
          refine ax_iload_n 3 d_MO_spreads_44 rfl rfl 45 rfl ?_
          refine ax_iconst 1 d_MO_spreads_45 ic_1 46 rfl ?_
          refine ax_zastore (y := true) hv1 d_MO_spreads_46 47 rfl h (fun i4 m5 h => ?_)
          refine ax_iconst 1 d_MO_spreads_47 ic_1 48 rfl ?_
          refine ax_istore_n (ls1 := [(2, .int 1), (0, .ref 0), (1, .ref v1), (3, .int v3)]) d_MO_spreads_48 rfl (Nat.le_of_ble_eq_true rfl) rfl 49 rfl ?_
          exact ax_sub [1, 2, 0, 3] rfl (c_MO_spreads_J49 v1 true v3 m5 hv1 (fun p hp => hR p hp) (fun s hs => h0 s hs) (fun s hs => h1 s hs) h)
theorem c_MO_spreads_L15 (v1 : Nat) (v2 : Bool) (v3 : Int32) (m : zM) (hv1 : gM.1[v1]? = some (.inr (1, zlen gM v1))) {Q : Option Value → zM → Prop} {K : ((zM) ⊕ (Bool × zM)) → Prop} (hR : ∀ p : zM, K (.inl p) → Q none p) (h0 : ∀ s : Bool × zM, K (.inr s) → AX gM s_MO_spreads 2 [(0, .ref 0), (1, .ref v1), (2, .int (b2i s.1))] [] s.2 Q) (h : ok (f_MO_spreads_L15 v1 v2 v3 m) K) : AX gM s_MO_spreads 15 [(0, .ref 0), (1, .ref v1), (2, .int (b2i v2)), (3, .int v3)] [] m Q :=
  ok_lp (K := K) (G := fun s : Bool × Int32 × zM => AX gM s_MO_spreads 15 [(0, .ref 0), (1, .ref v1), (2, .int (b2i s.1)), (3, .int s.2.1)] [] s.2.2 Q) (fun s h => c_MO_spreads_B15 v1 s.1 s.2.1 s.2.2 hv1 (fun p hp => hR p hp) (fun s hs => h0 s hs) (fun s hs => hs) h) FU (v2, v3, m) h
set_option maxRecDepth 4000 in
theorem c_MO_spreads_B2 (v1 : Nat) (v2 : Bool) (m : zM) (hv1 : gM.1[v1]? = some (.inr (1, zlen gM v1))) {Q : Option Value → zM → Prop} {K : ((zM) ⊕ (Bool × zM)) → Prop} (hR : ∀ p : zM, K (.inl p) → Q none p) (h0 : ∀ s : Bool × zM, K (.inr s) → AX gM s_MO_spreads 2 [(0, .ref 0), (1, .ref v1), (2, .int (b2i s.1))] [] s.2 Q) (h : ok (f_MO_spreads_B2 v1 v2 m) K) : AX gM s_MO_spreads 2 [(0, .ref 0), (1, .ref v1), (2, .int (b2i v2))] [] m Q := by
  unfold f_MO_spreads_B2 at h
  refine ax_iload_n 2 d_MO_spreads_2 rfl rfl 3 rfl ?_
  refine ax_ifb_eq 58 6 d_MO_spreads_3 rfl rfl (fun hc => ?_) (fun hc => ?_)
  · have h := ok_f (bf hc) h
    exact ax_vret rfl d_MO_spreads_58 (hR m (ok_some h))
  · have h := ok_t hc h
    refine ax_iconst 0 d_MO_spreads_6 ic_0 7 rfl ?_
    refine ax_istore_n (ls1 := [(2, .int 0), (0, .ref 0), (1, .ref v1)]) d_MO_spreads_7 rfl (Nat.le_of_ble_eq_true rfl) rfl 8 rfl ?_
    refine ax_aload_n 1 d_MO_spreads_8 rfl rfl 9 rfl ?_
    refine ax_callV mv_MO_442 ⟨Nat.le_of_ble_eq_true rfl, Nat.le_of_ble_eq_true rfl⟩ ⟨rfl, rfl⟩ [] [.ref 0] rfl rfl (rc_m_0 _) (Nat.le_of_ble_eq_true rfl) d_MO_spreads_9 12 rfl (zc_MO_lookMany m ?_)
    refine ax_iconst 1 d_MO_spreads_12 ic_1 13 rfl ?_
    refine ax_isub d_MO_spreads_13 14 rfl ?_
    refine ax_istore_n (ls1 := [(3, .int ((f_MO_lookMany m) - 1)), (2, .int 0), (0, .ref 0), (1, .ref v1)]) d_MO_spreads_14 rfl (Nat.le_of_ble_eq_true rfl) rfl 15 rfl ?_
    exact ax_sub [2, 3, 1, 0] rfl (c_MO_spreads_L15 v1 false ((f_MO_lookMany m) - 1) m hv1 (fun p hp => hR p hp) (fun s hs => h0 s hs) h)
theorem c_MO_spreads_L2 (v1 : Nat) (v2 : Bool) (m : zM) (hv1 : gM.1[v1]? = some (.inr (1, zlen gM v1))) {Q : Option Value → zM → Prop} {K : zM → Prop} (hR : ∀ p : zM, K (p) → Q none p)  (h : ok (f_MO_spreads_L2 v1 v2 m) K) : AX gM s_MO_spreads 2 [(0, .ref 0), (1, .ref v1), (2, .int (b2i v2))] [] m Q :=
  ok_lp (K := K) (G := fun s : Bool × zM => AX gM s_MO_spreads 2 [(0, .ref 0), (1, .ref v1), (2, .int (b2i s.1))] [] s.2 Q) (fun s h => c_MO_spreads_B2 v1 s.1 s.2 hv1 (fun p hp => hR p hp) (fun s hs => hs) h) FU (v2, m) h
set_option maxRecDepth 4000 in
theorem zc_MO_spreads (v1 : Nat) (m : zM) (hv1 : gM.1[v1]? = some (.inr (1, zlen gM v1))) {Q : Option Value → zM → Prop} (h : ok (f_MO_spreads v1 m) (fun p => Q none p)) : zc gM s_MO_spreads [.ref 0, .ref v1] m Q := by
  refine zc_of rfl (Nat.le_of_ble_eq_true rfl) ?_
  show AX gM s_MO_spreads 0 [(0, .ref 0), (1, .ref v1)] [] m Q
  obtain ⟨K, hK⟩ : ∃ K : zM → Prop, K = (fun p : zM => Q none p) := ⟨_, rfl⟩
  have hR : ∀ p : zM, K p → Q none p := fun p hp => by rw [hK] at hp; exact hp
  replace h : ok (f_MO_spreads v1 m) (fun p : zM => Q none p) := h
  rw [← hK] at h
  unfold f_MO_spreads at h
  refine ax_iconst 1 d_MO_spreads_0 ic_1 1 rfl ?_
  refine ax_istore_n (ls1 := [(2, .int 1), (0, .ref 0), (1, .ref v1)]) d_MO_spreads_1 rfl (Nat.le_of_ble_eq_true rfl) rfl 2 rfl ?_
  exact ax_sub [1, 2, 0] rfl (c_MO_spreads_L2 v1 true m hv1 (fun p hp => hR p hp) h)
set_option maxRecDepth 4000 in
theorem c_MO_ringsBy_J66 (v1 : Int32) (v2 : Int32) (v4 : Int32) (v5 : Bool) (m : zM)  {Q : Option Value → zM → Prop} {K : zM → Prop} (hR : ∀ p : zM, K (p) → Q none p)  (h : ok (f_MO_ringsBy_J66 v1 v2 v4 v5 m) K) : AX gM s_MO_ringsBy 66 [(0, .ref 0), (1, .int v1), (2, .int v2), (4, .int v4), (5, .int (b2i v5))] [] m Q := by
  unfold f_MO_ringsBy_J66 at h
  refine ax_iload_n 2 d_MO_ringsBy_66 rfl rfl 67 rfl ?_
  refine ax_iconst 4 d_MO_ringsBy_67 ic_4 68 rfl ?_
  refine ax_irem d_MO_ringsBy_68 (by decide) 69 rfl ?_
  refine ax_iload_n 1 d_MO_ringsBy_69 rfl rfl 70 rfl ?_
  refine ax_iconst 4 d_MO_ringsBy_70 ic_4 71 rfl ?_
  refine ax_irem d_MO_ringsBy_71 (by decide) 72 rfl ?_
  refine ax_icmp_ne 87 75 d_MO_ringsBy_72 rfl rfl (fun hc => ?_) (fun hc => ?_)
  · have h := ok_f hc h
    exact ax_vret rfl d_MO_ringsBy_87 (hR m (ok_some h))
  · have h := ok_t hc h
    refine ax_aload_n 0 d_MO_ringsBy_75 rfl rfl 76 rfl ?_
    refine ax_iload_n 2 d_MO_ringsBy_76 rfl rfl 77 rfl ?_
    refine ax_iconst 4 d_MO_ringsBy_77 ic_4 78 rfl ?_
    refine ax_idiv d_MO_ringsBy_78 (by decide) 79 rfl ?_
    refine ax_iconst 0 d_MO_ringsBy_79 ic_0 80 rfl ?_
    refine ax_callV mv_MO_349 ⟨Nat.le_of_ble_eq_true rfl, Nat.le_of_ble_eq_true rfl⟩ ⟨rfl, rfl⟩ [.int (v2 / 4), .int 0] [.int 0, .int (v2 / 4), .ref 0] rfl rfl (rc_m_0 _) (Nat.le_of_ble_eq_true rfl) d_MO_ringsBy_80 83 rfl (zc_MO_ruleOf (v2 / 4) 0 m (ok_b h (fun r7 h => ?_)))
    refine ax_iconst 1 d_MO_ringsBy_83 ic_1 84 rfl ?_
    refine ax_icmp_ne 88 87 d_MO_ringsBy_84 rfl rfl (fun hc => ?_) (fun hc => ?_)
    · have h := ok_f hc h
      refine ax_aload_n 0 d_MO_ringsBy_88 rfl rfl 89 rfl ?_
      refine ax_getR fl_MO_154 m_0 rfl (rm_0_65 _) d_MO_ringsBy_89 92 rfl ?_
      refine ax_iload 3 d_MO_ringsBy_92 rfl 94 rfl ?_
      refine ax_dup2 d_MO_ringsBy_94 rfl rfl 95 rfl ?_
      refine ax_iaload m_45 d_MO_ringsBy_95 96 rfl h (fun i8 h => ?_)
      refine ax_iconst 1 d_MO_ringsBy_96 ic_1 97 rfl ?_
      refine ax_iload_n 2 d_MO_ringsBy_97 rfl rfl 98 rfl ?_
      refine ax_iconst 4 d_MO_ringsBy_98 ic_4 99 rfl ?_
      refine ax_idiv d_MO_ringsBy_99 (by decide) 100 rfl ?_
      refine ax_ishl d_MO_ringsBy_100 101 rfl ?_
      refine ax_ior d_MO_ringsBy_101 102 rfl ?_
      refine ax_iastore m_45 d_MO_ringsBy_102 103 rfl h (fun i9 m10 h => ?_)
      refine ax_iload 4 d_MO_ringsBy_103 rfl 105 rfl ?_
      refine ax_ifb_eq 123 108 d_MO_ringsBy_105 rfl rfl (fun hc => ?_) (fun hc => ?_)
      · have h := ok_f (bf hc) h
        exact ax_vret rfl d_MO_ringsBy_123 (hR m10 (ok_some h))
      · have h := ok_t hc h
        refine ax_aload_n 0 d_MO_ringsBy_108 rfl rfl 109 rfl ?_
        refine ax_getR fl_MO_157 m_0 rfl (rm_0_66 _) d_MO_ringsBy_109 112 rfl ?_
        refine ax_iload 3 d_MO_ringsBy_112 rfl 114 rfl ?_
        refine ax_dup2 d_MO_ringsBy_114 rfl rfl 115 rfl ?_
        refine ax_iaload m_46 d_MO_ringsBy_115 116 rfl h (fun i11 h => ?_)
        refine ax_iconst 1 d_MO_ringsBy_116 ic_1 117 rfl ?_
        refine ax_iload_n 2 d_MO_ringsBy_117 rfl rfl 118 rfl ?_
        refine ax_iconst 4 d_MO_ringsBy_118 ic_4 119 rfl ?_
        refine ax_idiv d_MO_ringsBy_119 (by decide) 120 rfl ?_
        refine ax_ishl d_MO_ringsBy_120 121 rfl ?_
        refine ax_ior d_MO_ringsBy_121 122 rfl ?_
        refine ax_iastore m_46 d_MO_ringsBy_122 123 rfl h (fun i12 m13 h => ?_)
        exact ax_vret rfl d_MO_ringsBy_123 (hR m13 (ok_some h))
    · have h := ok_t hc h
      exact ax_vret rfl d_MO_ringsBy_87 (hR m (ok_some h))
set_option maxRecDepth 4000 in
theorem c_MO_ringsBy_J51 (v1 : Int32) (v2 : Int32) (v4 : Int32) (t0 : Bool) (m : zM)  {Q : Option Value → zM → Prop} {K : zM → Prop} (hR : ∀ p : zM, K (p) → Q none p)  (h : ok (f_MO_ringsBy_J51 v1 v2 v4 t0 m) K) : AX gM s_MO_ringsBy 51 [(0, .ref 0), (1, .int v1), (2, .int v2), (4, .int v4)] [.int (b2i t0)] m Q := by
  unfold f_MO_ringsBy_J51 at h
  refine ax_istore (ls1 := [(5, .int (b2i t0)), (0, .ref 0), (1, .int v1), (2, .int v2), (4, .int v4)]) d_MO_ringsBy_51 (Nat.le_of_ble_eq_true rfl) rfl 53 rfl ?_
  refine ax_iload 0 d_MO_ringsBy_53 rfl 55 rfl ?_
  refine ax_ifb_eq 66 58 d_MO_ringsBy_55 rfl rfl (fun hc => ?_) (fun hc => ?_)
  · have h := ok_f (bf hc) h
    exact ax_sub [1, 2, 3, 4, 0] rfl (c_MO_ringsBy_J66 v1 v2 v4 t0 m (fun p hp => hR p hp) h)
  · have h := ok_t hc h
    refine ax_aload_n 1 d_MO_ringsBy_58 rfl rfl 59 rfl ?_
    refine ax_getR fl_MO_151 m_0 rfl (rm_0_64 _) d_MO_ringsBy_59 62 rfl ?_
    refine ax_iload 4 d_MO_ringsBy_62 rfl 64 rfl ?_
    refine ax_iconst 1 d_MO_ringsBy_64 ic_1 65 rfl ?_
    refine ax_zastore (y := true) m_44 d_MO_ringsBy_65 66 rfl h (fun i5 m6 h => ?_)
    exact ax_sub [1, 2, 3, 4, 0] rfl (c_MO_ringsBy_J66 v1 v2 v4 t0 m6 (fun p hp => hR p hp) h)
set_option maxRecDepth 4000 in
theorem c_MO_ringsBy_J50 (v1 : Int32) (v2 : Int32) (v4 : Int32) (m : zM)  {Q : Option Value → zM → Prop} {K : zM → Prop} (hR : ∀ p : zM, K (p) → Q none p)  (h : ok (f_MO_ringsBy_J50 v1 v2 v4 m) K) : AX gM s_MO_ringsBy 50 [(0, .ref 0), (1, .int v1), (2, .int v2), (4, .int v4)] [] m Q := by
  unfold f_MO_ringsBy_J50 at h
  refine ax_iconst 0 d_MO_ringsBy_50 ic_0 51 rfl ?_
  exact ax_sub [0, 1, 2, 3] rfl (c_MO_ringsBy_J51 v1 v2 v4 false m (fun p hp => hR p hp) h)
set_option maxRecDepth 4000 in
theorem zc_MO_ringsBy (v1 : Int32) (v2 : Int32) (m : zM)  {Q : Option Value → zM → Prop} (h : ok (f_MO_ringsBy v1 v2 m) (fun p => Q none p)) : zc gM s_MO_ringsBy [.ref 0, .int v1, .int v2] m Q := by
  refine zc_of rfl (Nat.le_of_ble_eq_true rfl) ?_
  show AX gM s_MO_ringsBy 0 [(0, .ref 0), (1, .int v1), (2, .int v2)] [] m Q
  obtain ⟨K, hK⟩ : ∃ K : zM → Prop, K = (fun p : zM => Q none p) := ⟨_, rfl⟩
  have hR : ∀ p : zM, K p → Q none p := fun p hp => by rw [hK] at hp; exact hp
  replace h : ok (f_MO_ringsBy v1 v2 m) (fun p : zM => Q none p) := h
  rw [← hK] at h
  unfold f_MO_ringsBy at h
  refine ax_aload_n 0 d_MO_ringsBy_0 rfl rfl 1 rfl ?_
  refine ax_getR fl_MO_111 m_0 rfl (rm_0_47 _) d_MO_ringsBy_1 4 rfl ?_
  refine ax_bipush 64 d_MO_ringsBy_4 bp_64 6 rfl ?_
  refine ax_iload_n 1 d_MO_ringsBy_6 rfl rfl 7 rfl ?_
  refine ax_imul d_MO_ringsBy_7 8 rfl ?_
  refine ax_iload_n 2 d_MO_ringsBy_8 rfl rfl 9 rfl ?_
  refine ax_iadd d_MO_ringsBy_9 10 rfl ?_
  refine ax_iaload m_31 d_MO_ringsBy_10 11 rfl h (fun i1 h => ?_)
  refine ax_istore_n (ls1 := [(3, .int (m.1 31 i1)), (0, .ref 0), (1, .int v1), (2, .int v2)]) d_MO_ringsBy_11 rfl (Nat.le_of_ble_eq_true rfl) rfl 12 rfl ?_
  refine ax_iload_n 0 d_MO_ringsBy_12 rfl rfl 13 rfl ?_
  refine ax_iconst (-1) d_MO_ringsBy_13 ic_m1 14 rfl ?_
  refine ax_icmp_ne 18 17 d_MO_ringsBy_14 rfl rfl (fun hc => ?_) (fun hc => ?_)
  · have h := ok_f hc h
    refine ax_aload_n 1 d_MO_ringsBy_18 rfl rfl 19 rfl ?_
    refine ax_getR fl_MO_130 m_0 rfl (rm_0_53 _) d_MO_ringsBy_19 22 rfl ?_
    refine ax_iload_n 2 d_MO_ringsBy_22 rfl rfl 23 rfl ?_
    refine ax_iaload m_37 d_MO_ringsBy_23 24 rfl h (fun i2 h => ?_)
    refine ax_istore (ls1 := [(4, .int (m.1 37 i2)), (3, .int (m.1 31 i1)), (0, .ref 0), (1, .int v1), (2, .int v2)]) d_MO_ringsBy_24 (Nat.le_of_ble_eq_true rfl) rfl 26 rfl ?_
    refine ax_aload_n 2 d_MO_ringsBy_26 rfl rfl 27 rfl ?_
    refine ax_getR fl_MO_120 m_0 rfl (rm_0_50 _) d_MO_ringsBy_27 30 rfl ?_
    refine ax_iload_n 1 d_MO_ringsBy_30 rfl rfl 31 rfl ?_
    refine ax_baload m_34 d_MO_ringsBy_31 32 rfl h (fun i3 h => ?_)
    refine ax_if_eq 50 35 d_MO_ringsBy_32 rfl rfl (fun hc => ?_) (fun hc => ?_)
    · have h := ok_t hc h
      exact ax_sub [2, 3, 4, 0] rfl (c_MO_ringsBy_J50 v1 v2 (m.1 37 i2) m (fun p hp => hR p hp) h)
    · have h := ok_f hc h
      refine ax_aload_n 2 d_MO_ringsBy_35 rfl rfl 36 rfl ?_
      refine ax_getR fl_MO_130 m_0 rfl (rm_0_53 _) d_MO_ringsBy_36 39 rfl ?_
      refine ax_iload_n 1 d_MO_ringsBy_39 rfl rfl 40 rfl ?_
      refine ax_iaload m_37 d_MO_ringsBy_40 41 rfl h (fun i4 h => ?_)
      refine ax_iload 0 d_MO_ringsBy_41 rfl 43 rfl ?_
      refine ax_icmp_ne 50 46 d_MO_ringsBy_43 rfl rfl (fun hc => ?_) (fun hc => ?_)
      · have h := ok_f hc h
        exact ax_sub [2, 3, 4, 0] rfl (c_MO_ringsBy_J50 v1 v2 (m.1 37 i2) m (fun p hp => hR p hp) h)
      · have h := ok_t hc h
        refine ax_iconst 1 d_MO_ringsBy_46 ic_1 47 rfl ?_
        refine ax_goto 51 d_MO_ringsBy_47 rfl ?_
        exact ax_sub [2, 3, 4, 0] rfl (c_MO_ringsBy_J51 v1 v2 (m.1 37 i2) true m (fun p hp => hR p hp) h)
  · have h := ok_t hc h
    exact ax_vret rfl d_MO_ringsBy_17 (hR m (ok_some h))
set_option maxRecDepth 4000 in
theorem c_MO_rings_J146 (v1 : Int32) (m : zM)  {Q : Option Value → zM → Prop} {K : ((zM) ⊕ (Int32 × zM)) → Prop} (hR : ∀ p : zM, K (.inl p) → Q none p) (h0 : ∀ s : Int32 × zM, K (.inr s) → AX gM s_MO_rings 84 [(0, .ref 0), (1, .int s.1)] [] s.2 Q) (h : ok (f_MO_rings_J146 v1 m) K) : AX gM s_MO_rings 146 [(0, .ref 0), (1, .int v1)] [] m Q := by
  unfold f_MO_rings_J146 at h
  refine ax_iinc (ls1 := [(1, .int (v1 + 1)), (0, .ref 0)]) 1 1 d_MO_rings_146 rfl ic_1 (Nat.le_of_ble_eq_true rfl) rfl 149 rfl ?_
  refine ax_goto 84 d_MO_rings_149 rfl ?_
  exact ax_sub [1, 0] rfl (h0 ((v1 + 1), m) (ok_some h))
set_option maxRecDepth 4000 in
theorem c_MO_rings_J145 (v1 : Int32) (t0 : Nat) (t1 : Int32) (t2 : Bool) (m : zM) (ht0 : gM.1[t0]? = some (.inr (1, zlen gM t0))) {Q : Option Value → zM → Prop} {K : ((zM) ⊕ (Int32 × zM)) → Prop} (hR : ∀ p : zM, K (.inl p) → Q none p) (h0 : ∀ s : Int32 × zM, K (.inr s) → AX gM s_MO_rings 84 [(0, .ref 0), (1, .int s.1)] [] s.2 Q) (h : ok (f_MO_rings_J145 v1 t0 t1 t2 m) K) : AX gM s_MO_rings 145 [(0, .ref 0), (1, .int v1)] [.int (b2i t2), .int t1, .ref t0] m Q := by
  unfold f_MO_rings_J145 at h
  refine ax_zastore (y := t2) ht0 d_MO_rings_145 146 rfl h (fun i13 m14 h => ?_)
  exact ax_sub [0, 1] rfl (c_MO_rings_J146 v1 m14 (fun p hp => hR p hp) (fun s hs => h0 s hs) h)
set_option maxRecDepth 4000 in
theorem c_MO_rings_J144 (v1 : Int32) (t0 : Nat) (t1 : Int32) (m : zM) (ht0 : gM.1[t0]? = some (.inr (1, zlen gM t0))) {Q : Option Value → zM → Prop} {K : ((zM) ⊕ (Int32 × zM)) → Prop} (hR : ∀ p : zM, K (.inl p) → Q none p) (h0 : ∀ s : Int32 × zM, K (.inr s) → AX gM s_MO_rings 84 [(0, .ref 0), (1, .int s.1)] [] s.2 Q) (h : ok (f_MO_rings_J144 v1 t0 t1 m) K) : AX gM s_MO_rings 144 [(0, .ref 0), (1, .int v1)] [.int t1, .ref t0] m Q := by
  unfold f_MO_rings_J144 at h
  refine ax_iconst 0 d_MO_rings_144 ic_0 145 rfl ?_
  exact ax_sub [0, 1] rfl (c_MO_rings_J145 v1 t0 t1 false m ht0 (fun p hp => hR p hp) (fun s hs => h0 s hs) h)
set_option maxRecDepth 4000 in
theorem c_MO_rings_B84 (v1 : Int32) (m : zM)  {Q : Option Value → zM → Prop} {K : ((zM) ⊕ (Int32 × zM)) → Prop} (hR : ∀ p : zM, K (.inl p) → Q none p) (h0 : ∀ s : Int32 × zM, K (.inr s) → AX gM s_MO_rings 84 [(0, .ref 0), (1, .int s.1)] [] s.2 Q) (h : ok (f_MO_rings_B84 v1 m) K) : AX gM s_MO_rings 84 [(0, .ref 0), (1, .int v1)] [] m Q := by
  unfold f_MO_rings_B84 at h
  refine ax_iload_n 1 d_MO_rings_84 rfl rfl 85 rfl ?_
  refine ax_aload_n 0 d_MO_rings_85 rfl rfl 86 rfl ?_
  refine ax_callV mv_MO_442 ⟨Nat.le_of_ble_eq_true rfl, Nat.le_of_ble_eq_true rfl⟩ ⟨rfl, rfl⟩ [] [.ref 0, .int v1] rfl rfl (rc_m_0 _) (Nat.le_of_ble_eq_true rfl) d_MO_rings_86 89 rfl (zc_MO_lookMany m ?_)
  refine ax_icmp_ge 152 92 d_MO_rings_89 rfl rfl (fun hc => ?_) (fun hc => ?_)
  · have h := ok_t hc h
    exact ax_vret rfl d_MO_rings_152 (hR m (ok_some h))
  · have h := ok_f hc h
    refine ax_aload_n 0 d_MO_rings_92 rfl rfl 93 rfl ?_
    refine ax_getR fl_MO_120 m_0 rfl (rm_0_50 _) d_MO_rings_93 96 rfl ?_
    refine ax_iload_n 1 d_MO_rings_96 rfl rfl 97 rfl ?_
    refine ax_baload m_34 d_MO_rings_97 98 rfl h (fun i8 h => ?_)
    refine ax_if_eq 146 101 d_MO_rings_98 rfl rfl (fun hc => ?_) (fun hc => ?_)
    · have h := ok_t hc h
      exact ax_sub [0, 1] rfl (c_MO_rings_J146 v1 m (fun p hp => hR p hp) (fun s hs => h0 s hs) h)
    · have h := ok_f hc h
      refine ax_aload_n 0 d_MO_rings_101 rfl rfl 102 rfl ?_
      refine ax_getR fl_MO_130 m_0 rfl (rm_0_53 _) d_MO_rings_102 105 rfl ?_
      refine ax_iload_n 1 d_MO_rings_105 rfl rfl 106 rfl ?_
      refine ax_iaload m_37 d_MO_rings_106 107 rfl h (fun i9 h => ?_)
      refine ax_istore_n (ls1 := [(2, .int (m.1 37 i9)), (0, .ref 0), (1, .int v1)]) d_MO_rings_107 rfl (Nat.le_of_ble_eq_true rfl) rfl 108 rfl ?_
      refine ax_aload_n 1 d_MO_rings_108 rfl rfl 109 rfl ?_
      refine ax_getR fl_MO_127 m_0 rfl (rm_0_52 _) d_MO_rings_109 112 rfl ?_
      refine ax_iload_n 2 d_MO_rings_112 rfl rfl 113 rfl ?_
      refine ax_aload_n 1 d_MO_rings_113 rfl rfl 114 rfl ?_
      refine ax_getR fl_MO_151 m_0 rfl (rm_0_64 _) d_MO_rings_114 117 rfl ?_
      refine ax_iload_n 0 d_MO_rings_117 rfl rfl 118 rfl ?_
      refine ax_baload m_44 d_MO_rings_118 119 rfl h (fun i10 h => ?_)
      refine ax_if_eq 144 122 d_MO_rings_119 rfl rfl (fun hc => ?_) (fun hc => ?_)
      · have h := ok_t hc h
        exact ax_sub [1, 2] rfl (c_MO_rings_J144 v1 36 v1 m m_36z (fun p hp => hR p hp) (fun s hs => h0 s hs) h)
      · have h := ok_f hc h
        refine ax_aload_n 1 d_MO_rings_122 rfl rfl 123 rfl ?_
        refine ax_getR fl_MO_154 m_0 rfl (rm_0_65 _) d_MO_rings_123 126 rfl ?_
        refine ax_iload_n 0 d_MO_rings_126 rfl rfl 127 rfl ?_
        refine ax_iaload m_45 d_MO_rings_127 128 rfl h (fun i11 h => ?_)
        refine ax_aload_n 1 d_MO_rings_128 rfl rfl 129 rfl ?_
        refine ax_getR fl_MO_157 m_0 rfl (rm_0_66 _) d_MO_rings_129 132 rfl ?_
        refine ax_iload_n 0 d_MO_rings_132 rfl rfl 133 rfl ?_
        refine ax_iaload m_46 d_MO_rings_133 134 rfl h (fun i12 h => ?_)
        refine ax_iconst (-1) d_MO_rings_134 ic_m1 135 rfl ?_
        refine ax_ixor d_MO_rings_135 136 rfl ?_
        refine ax_iand d_MO_rings_136 137 rfl ?_
        refine ax_if_ne 144 140 d_MO_rings_137 rfl rfl (fun hc => ?_) (fun hc => ?_)
        · have h := ok_f hc h
          exact ax_sub [1, 2] rfl (c_MO_rings_J144 v1 36 v1 m m_36z (fun p hp => hR p hp) (fun s hs => h0 s hs) h)
        · have h := ok_t hc h
          refine ax_iconst 1 d_MO_rings_140 ic_1 141 rfl ?_
          refine ax_goto 145 d_MO_rings_141 rfl ?_
          exact ax_sub [1, 2] rfl (c_MO_rings_J145 v1 36 v1 true m m_36z (fun p hp => hR p hp) (fun s hs => h0 s hs) h)
theorem c_MO_rings_L84 (v1 : Int32) (m : zM)  {Q : Option Value → zM → Prop} {K : zM → Prop} (hR : ∀ p : zM, K (p) → Q none p)  (h : ok (f_MO_rings_L84 v1 m) K) : AX gM s_MO_rings 84 [(0, .ref 0), (1, .int v1)] [] m Q :=
  ok_lp (K := K) (G := fun s : Int32 × zM => AX gM s_MO_rings 84 [(0, .ref 0), (1, .int s.1)] [] s.2 Q) (fun s h => c_MO_rings_B84 s.1 s.2  (fun p hp => hR p hp) (fun s hs => hs) h) FU (v1, m) h
set_option maxRecDepth 4000 in
theorem c_MO_rings_J82  (m : zM)  {Q : Option Value → zM → Prop} {K : zM → Prop} (hR : ∀ p : zM, K (p) → Q none p)  (h : ok (f_MO_rings_J82  m) K) : AX gM s_MO_rings 82 [(0, .ref 0)] [] m Q := by
  unfold f_MO_rings_J82 at h
  refine ax_iconst 0 d_MO_rings_82 ic_0 83 rfl ?_
  refine ax_istore_n (ls1 := [(1, .int 0), (0, .ref 0)]) d_MO_rings_83 rfl (Nat.le_of_ble_eq_true rfl) rfl 84 rfl ?_
  exact ax_sub [1, 0] rfl (c_MO_rings_L84 0 m (fun p hp => hR p hp) h)
set_option maxRecDepth 4000 in
theorem c_MO_rings_J76 (v1 : Int32) (m : zM)  {Q : Option Value → zM → Prop} {K : ((zM) ⊕ (Int32 × zM)) → Prop} (hR : ∀ p : zM, K (.inl p) → Q none p) (h0 : ∀ s : Int32 × zM, K (.inr s) → AX gM s_MO_rings 39 [(0, .ref 0), (1, .int s.1)] [] s.2 Q) (h : ok (f_MO_rings_J76 v1 m) K) : AX gM s_MO_rings 76 [(0, .ref 0), (1, .int v1)] [] m Q := by
  unfold f_MO_rings_J76 at h
  refine ax_iinc (ls1 := [(1, .int (v1 + 1)), (0, .ref 0)]) 1 1 d_MO_rings_76 rfl ic_1 (Nat.le_of_ble_eq_true rfl) rfl 79 rfl ?_
  refine ax_goto 39 d_MO_rings_79 rfl ?_
  exact ax_sub [1, 0] rfl (h0 ((v1 + 1), m) (ok_some h))
set_option maxRecDepth 4000 in
theorem c_MO_rings_B58 (v1 : Int32) (v2 : Int32) (m : zM)  {Q : Option Value → zM → Prop} {K : (((zM) ⊕ (Int32 × zM)) ⊕ (Int32 × zM)) → Prop} (hR : ∀ p : zM, K (.inl (.inl p)) → Q none p) (h0 : ∀ s : Int32 × zM, K (.inl (.inr s)) → AX gM s_MO_rings 39 [(0, .ref 0), (1, .int s.1)] [] s.2 Q) (h1 : ∀ s : Int32 × zM, K (.inr s) → AX gM s_MO_rings 58 [(0, .ref 0), (1, .int v1), (2, .int s.1)] [] s.2 Q) (h : ok (f_MO_rings_B58 v1 v2 m) K) : AX gM s_MO_rings 58 [(0, .ref 0), (1, .int v1), (2, .int v2)] [] m Q := by
  unfold f_MO_rings_B58 at h
  refine ax_iload_n 2 d_MO_rings_58 rfl rfl 59 rfl ?_
  refine ax_bipush 64 d_MO_rings_59 bp_64 61 rfl ?_
  refine ax_icmp_ge 76 64 d_MO_rings_61 rfl rfl (fun hc => ?_) (fun hc => ?_)
  · have h := ok_t hc h
    exact ax_sub [0, 1] rfl (c_MO_rings_J76 v1 m (fun p hp => hR p hp) (fun s hs => h0 s hs) (ok_z h))
  · have h := ok_f hc h
    refine ax_aload_n 0 d_MO_rings_64 rfl rfl 65 rfl ?_
    refine ax_iload_n 1 d_MO_rings_65 rfl rfl 66 rfl ?_
    refine ax_iload_n 2 d_MO_rings_66 rfl rfl 67 rfl ?_
    refine ax_callV mv_MO_484 ⟨Nat.le_of_ble_eq_true rfl, Nat.le_of_ble_eq_true rfl⟩ ⟨rfl, rfl⟩ [.int v1, .int v2] [.int v2, .int v1, .ref 0] rfl rfl (rc_m_0 _) (Nat.le_of_ble_eq_true rfl) d_MO_rings_67 70 rfl (zc_MO_ringsBy v1 v2 m (ok_b h (fun p15 h => ?_)))
    refine ax_iinc (ls1 := [(2, .int (v2 + 1)), (0, .ref 0), (1, .int v1)]) 2 1 d_MO_rings_70 rfl ic_1 (Nat.le_of_ble_eq_true rfl) rfl 73 rfl ?_
    refine ax_goto 58 d_MO_rings_73 rfl ?_
    exact ax_sub [1, 2, 0] rfl (h1 ((v2 + 1), p15) (ok_some h))
theorem c_MO_rings_L58 (v1 : Int32) (v2 : Int32) (m : zM)  {Q : Option Value → zM → Prop} {K : ((zM) ⊕ (Int32 × zM)) → Prop} (hR : ∀ p : zM, K (.inl p) → Q none p) (h0 : ∀ s : Int32 × zM, K (.inr s) → AX gM s_MO_rings 39 [(0, .ref 0), (1, .int s.1)] [] s.2 Q) (h : ok (f_MO_rings_L58 v1 v2 m) K) : AX gM s_MO_rings 58 [(0, .ref 0), (1, .int v1), (2, .int v2)] [] m Q :=
  ok_lp (K := K) (G := fun s : Int32 × zM => AX gM s_MO_rings 58 [(0, .ref 0), (1, .int v1), (2, .int s.1)] [] s.2 Q) (fun s h => c_MO_rings_B58 v1 s.1 s.2  (fun p hp => hR p hp) (fun s hs => h0 s hs) (fun s hs => hs) h) FU (v2, m) h
set_option maxRecDepth 4000 in
theorem c_MO_rings_B39 (v1 : Int32) (m : zM)  {Q : Option Value → zM → Prop} {K : ((zM) ⊕ (Int32 × zM)) → Prop} (hR : ∀ p : zM, K (.inl p) → Q none p) (h0 : ∀ s : Int32 × zM, K (.inr s) → AX gM s_MO_rings 39 [(0, .ref 0), (1, .int s.1)] [] s.2 Q) (h : ok (f_MO_rings_B39 v1 m) K) : AX gM s_MO_rings 39 [(0, .ref 0), (1, .int v1)] [] m Q := by
  unfold f_MO_rings_B39 at h
  refine ax_iload_n 1 d_MO_rings_39 rfl rfl 40 rfl ?_
  refine ax_aload_n 0 d_MO_rings_40 rfl rfl 41 rfl ?_
  refine ax_callV mv_MO_442 ⟨Nat.le_of_ble_eq_true rfl, Nat.le_of_ble_eq_true rfl⟩ ⟨rfl, rfl⟩ [] [.ref 0, .int v1] rfl rfl (rc_m_0 _) (Nat.le_of_ble_eq_true rfl) d_MO_rings_41 44 rfl (zc_MO_lookMany m ?_)
  refine ax_icmp_ge 82 47 d_MO_rings_44 rfl rfl (fun hc => ?_) (fun hc => ?_)
  · have h := ok_t hc h
    exact ax_sub [0] rfl (c_MO_rings_J82 m (fun p hp => hR p hp) (ok_z h))
  · have h := ok_f hc h
    refine ax_aload_n 0 d_MO_rings_47 rfl rfl 48 rfl ?_
    refine ax_getR fl_MO_120 m_0 rfl (rm_0_50 _) d_MO_rings_48 51 rfl ?_
    refine ax_iload_n 1 d_MO_rings_51 rfl rfl 52 rfl ?_
    refine ax_baload m_34 d_MO_rings_52 53 rfl h (fun i7 h => ?_)
    refine ax_if_eq 76 56 d_MO_rings_53 rfl rfl (fun hc => ?_) (fun hc => ?_)
    · have h := ok_t hc h
      exact ax_sub [0, 1] rfl (c_MO_rings_J76 v1 m (fun p hp => hR p hp) (fun s hs => h0 s hs) h)
    · have h := ok_f hc h
      refine ax_iconst 0 d_MO_rings_56 ic_0 57 rfl ?_
      refine ax_istore_n (ls1 := [(2, .int 0), (0, .ref 0), (1, .int v1)]) d_MO_rings_57 rfl (Nat.le_of_ble_eq_true rfl) rfl 58 rfl ?_
      exact ax_sub [1, 2, 0] rfl (c_MO_rings_L58 v1 0 m (fun p hp => hR p hp) (fun s hs => h0 s hs) h)
theorem c_MO_rings_L39 (v1 : Int32) (m : zM)  {Q : Option Value → zM → Prop} {K : zM → Prop} (hR : ∀ p : zM, K (p) → Q none p)  (h : ok (f_MO_rings_L39 v1 m) K) : AX gM s_MO_rings 39 [(0, .ref 0), (1, .int v1)] [] m Q :=
  ok_lp (K := K) (G := fun s : Int32 × zM => AX gM s_MO_rings 39 [(0, .ref 0), (1, .int s.1)] [] s.2 Q) (fun s h => c_MO_rings_B39 s.1 s.2  (fun p hp => hR p hp) (fun s hs => hs) h) FU (v1, m) h
set_option maxRecDepth 4000 in
theorem c_MO_rings_J37  (m : zM)  {Q : Option Value → zM → Prop} {K : zM → Prop} (hR : ∀ p : zM, K (p) → Q none p)  (h : ok (f_MO_rings_J37  m) K) : AX gM s_MO_rings 37 [(0, .ref 0)] [] m Q := by
  unfold f_MO_rings_J37 at h
  refine ax_iconst 0 d_MO_rings_37 ic_0 38 rfl ?_
  refine ax_istore_n (ls1 := [(1, .int 0), (0, .ref 0)]) d_MO_rings_38 rfl (Nat.le_of_ble_eq_true rfl) rfl 39 rfl ?_
  exact ax_sub [1, 0] rfl (c_MO_rings_L39 0 m (fun p hp => hR p hp) h)
set_option maxRecDepth 4000 in
theorem c_MO_rings_B2 (v1 : Int32) (m : zM)  {Q : Option Value → zM → Prop} {K : ((zM) ⊕ (Int32 × zM)) → Prop} (hR : ∀ p : zM, K (.inl p) → Q none p) (h0 : ∀ s : Int32 × zM, K (.inr s) → AX gM s_MO_rings 2 [(0, .ref 0), (1, .int s.1)] [] s.2 Q) (h : ok (f_MO_rings_B2 v1 m) K) : AX gM s_MO_rings 2 [(0, .ref 0), (1, .int v1)] [] m Q := by
  unfold f_MO_rings_B2 at h
  refine ax_iload_n 1 d_MO_rings_2 rfl rfl 3 rfl ?_
  refine ax_aload_n 0 d_MO_rings_3 rfl rfl 4 rfl ?_
  refine ax_getI fl_MO_466 m_0 rfl d_MO_rings_4 7 rfl ?_
  refine ax_icmp_ge 37 10 d_MO_rings_7 rfl rfl (fun hc => ?_) (fun hc => ?_)
  · have h := ok_t hc h
    exact ax_sub [0] rfl (c_MO_rings_J37 m (fun p hp => hR p hp) (ok_z h))
  · have h := ok_f hc h
    refine ax_aload_n 0 d_MO_rings_10 rfl rfl 11 rfl ?_
    refine ax_getR fl_MO_151 m_0 rfl (rm_0_64 _) d_MO_rings_11 14 rfl ?_
    refine ax_iload_n 1 d_MO_rings_14 rfl rfl 15 rfl ?_
    refine ax_iconst 0 d_MO_rings_15 ic_0 16 rfl ?_
    refine ax_zastore (y := false) m_44 d_MO_rings_16 17 rfl h (fun i1 m2 h => ?_)
    refine ax_aload_n 0 d_MO_rings_17 rfl rfl 18 rfl ?_
    refine ax_getR fl_MO_154 m_0 rfl (rm_0_65 _) d_MO_rings_18 21 rfl ?_
    refine ax_iload_n 1 d_MO_rings_21 rfl rfl 22 rfl ?_
    refine ax_iconst 0 d_MO_rings_22 ic_0 23 rfl ?_
    refine ax_iastore m_45 d_MO_rings_23 24 rfl h (fun i3 m4 h => ?_)
    refine ax_aload_n 0 d_MO_rings_24 rfl rfl 25 rfl ?_
    refine ax_getR fl_MO_157 m_0 rfl (rm_0_66 _) d_MO_rings_25 28 rfl ?_
    refine ax_iload_n 1 d_MO_rings_28 rfl rfl 29 rfl ?_
    refine ax_iconst 0 d_MO_rings_29 ic_0 30 rfl ?_
    refine ax_iastore m_46 d_MO_rings_30 31 rfl h (fun i5 m6 h => ?_)
    refine ax_iinc (ls1 := [(1, .int (v1 + 1)), (0, .ref 0)]) 1 1 d_MO_rings_31 rfl ic_1 (Nat.le_of_ble_eq_true rfl) rfl 34 rfl ?_
    refine ax_goto 2 d_MO_rings_34 rfl ?_
    exact ax_sub [1, 0] rfl (h0 ((v1 + 1), m6) (ok_some h))
theorem c_MO_rings_L2 (v1 : Int32) (m : zM)  {Q : Option Value → zM → Prop} {K : zM → Prop} (hR : ∀ p : zM, K (p) → Q none p)  (h : ok (f_MO_rings_L2 v1 m) K) : AX gM s_MO_rings 2 [(0, .ref 0), (1, .int v1)] [] m Q :=
  ok_lp (K := K) (G := fun s : Int32 × zM => AX gM s_MO_rings 2 [(0, .ref 0), (1, .int s.1)] [] s.2 Q) (fun s h => c_MO_rings_B2 s.1 s.2  (fun p hp => hR p hp) (fun s hs => hs) h) FU (v1, m) h
set_option maxRecDepth 4000 in
theorem zc_MO_rings  (m : zM)  {Q : Option Value → zM → Prop} (h : ok (f_MO_rings m) (fun p => Q none p)) : zc gM s_MO_rings [.ref 0] m Q := by
  refine zc_of rfl (Nat.le_of_ble_eq_true rfl) ?_
  show AX gM s_MO_rings 0 [(0, .ref 0)] [] m Q
  obtain ⟨K, hK⟩ : ∃ K : zM → Prop, K = (fun p : zM => Q none p) := ⟨_, rfl⟩
  have hR : ∀ p : zM, K p → Q none p := fun p hp => by rw [hK] at hp; exact hp
  replace h : ok (f_MO_rings m) (fun p : zM => Q none p) := h
  rw [← hK] at h
  unfold f_MO_rings at h
  refine ax_iconst 0 d_MO_rings_0 ic_0 1 rfl ?_
  refine ax_istore_n (ls1 := [(1, .int 0), (0, .ref 0)]) d_MO_rings_1 rfl (Nat.le_of_ble_eq_true rfl) rfl 2 rfl ?_
  exact ax_sub [1, 0] rfl (c_MO_rings_L2 0 m (fun p hp => hR p hp) h)
set_option maxRecDepth 4000 in
theorem c_MO_looks_J176  (m : zM)  {Q : Option Value → zM → Prop} {K : zM → Prop} (hR : ∀ p : zM, K (p) → Q none p)  (h : ok (f_MO_looks_J176  m) K) : AX gM s_MO_looks 176 [(0, .ref 0)] [] m Q := by
  unfold f_MO_looks_J176 at h
  refine ax_aload_n 0 d_MO_looks_176 rfl rfl 177 rfl ?_
  refine ax_aload_n 0 d_MO_looks_177 rfl rfl 178 rfl ?_
  refine ax_getR fl_MO_111 m_0 rfl (rm_0_47 _) d_MO_looks_178 181 rfl ?_
  refine ax_aload_n 0 d_MO_looks_181 rfl rfl 182 rfl ?_
  refine ax_callV mv_MO_442 ⟨Nat.le_of_ble_eq_true rfl, Nat.le_of_ble_eq_true rfl⟩ ⟨rfl, rfl⟩ [] [.ref 0, .ref 31, .ref 0] rfl rfl (rc_m_0 _) (Nat.le_of_ble_eq_true rfl) d_MO_looks_182 185 rfl (zc_MO_lookMany m ?_)
  refine ax_callV mv_MO_456 ⟨Nat.le_of_ble_eq_true rfl, Nat.le_of_ble_eq_true rfl⟩ ⟨rfl, rfl⟩ [.ref 31, .int (f_MO_lookMany m)] [.int (f_MO_lookMany m), .ref 31, .ref 0] rfl rfl (rc_m_0 _) (Nat.le_of_ble_eq_true rfl) d_MO_looks_185 188 rfl (zc_MO_joins 31 (f_MO_lookMany m) m m_31z (ok_b h (fun p8 h => ?_)))
  refine ax_aload_n 0 d_MO_looks_188 rfl rfl 189 rfl ?_
  refine ax_callV mv_MO_460 ⟨Nat.le_of_ble_eq_true rfl, Nat.le_of_ble_eq_true rfl⟩ ⟨rfl, rfl⟩ [] [.ref 0] rfl rfl (rc_m_0 _) (Nat.le_of_ble_eq_true rfl) d_MO_looks_189 192 rfl (zc_MO_rings p8 (ok_b h (fun p9 h => ?_)))
  refine ax_aload_n 0 d_MO_looks_192 rfl rfl 193 rfl ?_
  refine ax_aload_n 0 d_MO_looks_193 rfl rfl 194 rfl ?_
  refine ax_getR fl_MO_127 m_0 rfl (rm_0_52 _) d_MO_looks_194 197 rfl ?_
  refine ax_callV mv_MO_452 ⟨Nat.le_of_ble_eq_true rfl, Nat.le_of_ble_eq_true rfl⟩ ⟨rfl, rfl⟩ [.ref 36] [.ref 36, .ref 0] rfl rfl (rc_m_0 _) (Nat.le_of_ble_eq_true rfl) d_MO_looks_197 200 rfl (zc_MO_spreads 36 p9 m_36z (ok_b h (fun p10 h => ?_)))
  exact ax_vret rfl d_MO_looks_200 (hR p10 (ok_some h))
set_option maxRecDepth 4000 in
theorem c_MO_looks_J162 (v1 : Int32) (v2 : Int32) (t0 : Nat) (t1 : Int32) (t2 : Bool) (m : zM) (ht0 : gM.1[t0]? = some (.inr (1, zlen gM t0))) {Q : Option Value → zM → Prop} {K : ((zM) ⊕ (Int32 × zM)) → Prop} (hR : ∀ p : zM, K (.inl p) → Q none p) (h0 : ∀ s : Int32 × zM, K (.inr s) → AX gM s_MO_looks 124 [(0, .ref 0), (1, .int v1), (2, .int s.1)] [] s.2 Q) (h : ok (f_MO_looks_J162 v1 v2 t0 t1 t2 m) K) : AX gM s_MO_looks 162 [(0, .ref 0), (1, .int v1), (2, .int v2)] [.int (b2i t2), .int t1, .ref t0] m Q := by
  unfold f_MO_looks_J162 at h
  refine ax_zastore (y := t2) ht0 d_MO_looks_162 163 rfl h (fun i11 m12 h => ?_)
  refine ax_aload_n 0 d_MO_looks_163 rfl rfl 164 rfl ?_
  refine ax_getR fl_MO_127 m_0 rfl (rm_0_52 _) d_MO_looks_164 167 rfl ?_
  refine ax_iload_n 2 d_MO_looks_167 rfl rfl 168 rfl ?_
  refine ax_iconst 0 d_MO_looks_168 ic_0 169 rfl ?_
  refine ax_zastore (y := false) m_36 d_MO_looks_169 170 rfl h (fun i13 m14 h => ?_)
  refine ax_iinc (ls1 := [(2, .int (v2 + 1)), (0, .ref 0), (1, .int v1)]) 2 1 d_MO_looks_170 rfl ic_1 (Nat.le_of_ble_eq_true rfl) rfl 173 rfl ?_
  refine ax_goto 124 d_MO_looks_173 rfl ?_
  exact ax_sub [1, 2, 0] rfl (h0 ((v2 + 1), m14) (ok_some h))
set_option maxRecDepth 4000 in
theorem c_MO_looks_J161 (v1 : Int32) (v2 : Int32) (t0 : Nat) (t1 : Int32) (m : zM) (ht0 : gM.1[t0]? = some (.inr (1, zlen gM t0))) {Q : Option Value → zM → Prop} {K : ((zM) ⊕ (Int32 × zM)) → Prop} (hR : ∀ p : zM, K (.inl p) → Q none p) (h0 : ∀ s : Int32 × zM, K (.inr s) → AX gM s_MO_looks 124 [(0, .ref 0), (1, .int v1), (2, .int s.1)] [] s.2 Q) (h : ok (f_MO_looks_J161 v1 v2 t0 t1 m) K) : AX gM s_MO_looks 161 [(0, .ref 0), (1, .int v1), (2, .int v2)] [.int t1, .ref t0] m Q := by
  unfold f_MO_looks_J161 at h
  refine ax_iconst 0 d_MO_looks_161 ic_0 162 rfl ?_
  exact ax_sub [0, 1, 2] rfl (c_MO_looks_J162 v1 v2 t0 t1 false m ht0 (fun p hp => hR p hp) (fun s hs => h0 s hs) h)
set_option maxRecDepth 4000 in
theorem c_MO_looks_B124 (v1 : Int32) (v2 : Int32) (m : zM)  {Q : Option Value → zM → Prop} {K : ((zM) ⊕ (Int32 × zM)) → Prop} (hR : ∀ p : zM, K (.inl p) → Q none p) (h0 : ∀ s : Int32 × zM, K (.inr s) → AX gM s_MO_looks 124 [(0, .ref 0), (1, .int v1), (2, .int s.1)] [] s.2 Q) (h : ok (f_MO_looks_B124 v1 v2 m) K) : AX gM s_MO_looks 124 [(0, .ref 0), (1, .int v1), (2, .int v2)] [] m Q := by
  unfold f_MO_looks_B124 at h
  refine ax_iload_n 2 d_MO_looks_124 rfl rfl 125 rfl ?_
  refine ax_aload_n 0 d_MO_looks_125 rfl rfl 126 rfl ?_
  refine ax_callV mv_MO_442 ⟨Nat.le_of_ble_eq_true rfl, Nat.le_of_ble_eq_true rfl⟩ ⟨rfl, rfl⟩ [] [.ref 0, .int v2] rfl rfl (rc_m_0 _) (Nat.le_of_ble_eq_true rfl) d_MO_looks_126 129 rfl (zc_MO_lookMany m ?_)
  refine ax_icmp_ge 176 132 d_MO_looks_129 rfl rfl (fun hc => ?_) (fun hc => ?_)
  · have h := ok_t hc h
    exact ax_sub [0] rfl (c_MO_looks_J176 m (fun p hp => hR p hp) (ok_z h))
  · have h := ok_f hc h
    refine ax_aload_n 0 d_MO_looks_132 rfl rfl 133 rfl ?_
    refine ax_getR fl_MO_120 m_0 rfl (rm_0_50 _) d_MO_looks_133 136 rfl ?_
    refine ax_iload_n 2 d_MO_looks_136 rfl rfl 137 rfl ?_
    refine ax_aload_n 0 d_MO_looks_137 rfl rfl 138 rfl ?_
    refine ax_getR fl_MO_114 m_0 rfl (rm_0_48 _) d_MO_looks_138 141 rfl ?_
    refine ax_iload_n 2 d_MO_looks_141 rfl rfl 142 rfl ?_
    refine ax_iaload m_32 d_MO_looks_142 143 rfl h (fun i6 h => ?_)
    refine ax_iconst (-1) d_MO_looks_143 ic_m1 144 rfl ?_
    refine ax_icmp_eq 161 147 d_MO_looks_144 rfl rfl (fun hc => ?_) (fun hc => ?_)
    · have h := ok_t hc h
      exact ax_sub [0, 1, 2] rfl (c_MO_looks_J161 v1 v2 34 v2 m m_34z (fun p hp => hR p hp) (fun s hs => h0 s hs) h)
    · have h := ok_f hc h
      refine ax_aload_n 0 d_MO_looks_147 rfl rfl 148 rfl ?_
      refine ax_getR fl_MO_114 m_0 rfl (rm_0_48 _) d_MO_looks_148 151 rfl ?_
      refine ax_iload_n 2 d_MO_looks_151 rfl rfl 152 rfl ?_
      refine ax_iaload m_32 d_MO_looks_152 153 rfl h (fun i7 h => ?_)
      refine ax_iload_n 1 d_MO_looks_153 rfl rfl 154 rfl ?_
      refine ax_icmp_eq 161 157 d_MO_looks_154 rfl rfl (fun hc => ?_) (fun hc => ?_)
      · have h := ok_t hc h
        exact ax_sub [0, 1, 2] rfl (c_MO_looks_J161 v1 v2 34 v2 m m_34z (fun p hp => hR p hp) (fun s hs => h0 s hs) h)
      · have h := ok_f hc h
        refine ax_iconst 1 d_MO_looks_157 ic_1 158 rfl ?_
        refine ax_goto 162 d_MO_looks_158 rfl ?_
        exact ax_sub [0, 1, 2] rfl (c_MO_looks_J162 v1 v2 34 v2 true m m_34z (fun p hp => hR p hp) (fun s hs => h0 s hs) h)
theorem c_MO_looks_L124 (v1 : Int32) (v2 : Int32) (m : zM)  {Q : Option Value → zM → Prop} {K : zM → Prop} (hR : ∀ p : zM, K (p) → Q none p)  (h : ok (f_MO_looks_L124 v1 v2 m) K) : AX gM s_MO_looks 124 [(0, .ref 0), (1, .int v1), (2, .int v2)] [] m Q :=
  ok_lp (K := K) (G := fun s : Int32 × zM => AX gM s_MO_looks 124 [(0, .ref 0), (1, .int v1), (2, .int s.1)] [] s.2 Q) (fun s h => c_MO_looks_B124 v1 s.1 s.2  (fun p hp => hR p hp) (fun s hs => hs) h) FU (v2, m) h
set_option maxRecDepth 4000 in
theorem c_MO_looks_J114 (v1 : Int32) (m : zM)  {Q : Option Value → zM → Prop} {K : zM → Prop} (hR : ∀ p : zM, K (p) → Q none p)  (h : ok (f_MO_looks_J114 v1 m) K) : AX gM s_MO_looks 114 [(0, .ref 0), (1, .int v1)] [] m Q := by
  unfold f_MO_looks_J114 at h
  refine ax_aload_n 0 d_MO_looks_114 rfl rfl 115 rfl ?_
  refine ax_aload_n 0 d_MO_looks_115 rfl rfl 116 rfl ?_
  refine ax_getR fl_MO_124 m_0 rfl (rm_0_51 _) d_MO_looks_116 119 rfl ?_
  refine ax_callV mv_MO_452 ⟨Nat.le_of_ble_eq_true rfl, Nat.le_of_ble_eq_true rfl⟩ ⟨rfl, rfl⟩ [.ref 35] [.ref 35, .ref 0] rfl rfl (rc_m_0 _) (Nat.le_of_ble_eq_true rfl) d_MO_looks_119 122 rfl (zc_MO_spreads 35 m m_35z (ok_b h (fun p5 h => ?_)))
  refine ax_iconst 0 d_MO_looks_122 ic_0 123 rfl ?_
  refine ax_istore_n (ls1 := [(2, .int 0), (0, .ref 0), (1, .int v1)]) d_MO_looks_123 rfl (Nat.le_of_ble_eq_true rfl) rfl 124 rfl ?_
  exact ax_sub [1, 2, 0] rfl (c_MO_looks_L124 v1 0 p5 (fun p hp => hR p hp) h)
set_option maxRecDepth 4000 in
theorem c_MO_looks_J107 (v1 : Int32) (v2 : Int32) (t0 : Nat) (t1 : Int32) (t2 : Bool) (m : zM) (ht0 : gM.1[t0]? = some (.inr (1, zlen gM t0))) {Q : Option Value → zM → Prop} {K : ((zM) ⊕ (Int32 × zM)) → Prop} (hR : ∀ p : zM, K (.inl p) → Q none p) (h0 : ∀ s : Int32 × zM, K (.inr s) → AX gM s_MO_looks 49 [(0, .ref 0), (1, .int v1), (2, .int s.1)] [] s.2 Q) (h : ok (f_MO_looks_J107 v1 v2 t0 t1 t2 m) K) : AX gM s_MO_looks 107 [(0, .ref 0), (1, .int v1), (2, .int v2)] [.int (b2i t2), .int t1, .ref t0] m Q := by
  unfold f_MO_looks_J107 at h
  refine ax_zastore (y := t2) ht0 d_MO_looks_107 108 rfl h (fun i19 m20 h => ?_)
  refine ax_iinc (ls1 := [(2, .int (v2 + 1)), (0, .ref 0), (1, .int v1)]) 2 1 d_MO_looks_108 rfl ic_1 (Nat.le_of_ble_eq_true rfl) rfl 111 rfl ?_
  refine ax_goto 49 d_MO_looks_111 rfl ?_
  exact ax_sub [1, 2, 0] rfl (h0 ((v2 + 1), m20) (ok_some h))
set_option maxRecDepth 4000 in
theorem c_MO_looks_J106 (v1 : Int32) (v2 : Int32) (t0 : Nat) (t1 : Int32) (m : zM) (ht0 : gM.1[t0]? = some (.inr (1, zlen gM t0))) {Q : Option Value → zM → Prop} {K : ((zM) ⊕ (Int32 × zM)) → Prop} (hR : ∀ p : zM, K (.inl p) → Q none p) (h0 : ∀ s : Int32 × zM, K (.inr s) → AX gM s_MO_looks 49 [(0, .ref 0), (1, .int v1), (2, .int s.1)] [] s.2 Q) (h : ok (f_MO_looks_J106 v1 v2 t0 t1 m) K) : AX gM s_MO_looks 106 [(0, .ref 0), (1, .int v1), (2, .int v2)] [.int t1, .ref t0] m Q := by
  unfold f_MO_looks_J106 at h
  refine ax_iconst 0 d_MO_looks_106 ic_0 107 rfl ?_
  exact ax_sub [0, 1, 2] rfl (c_MO_looks_J107 v1 v2 t0 t1 false m ht0 (fun p hp => hR p hp) (fun s hs => h0 s hs) h)
set_option maxRecDepth 4000 in
theorem c_MO_looks_J77 (v1 : Int32) (v2 : Int32) (t0 : Nat) (t1 : Int32) (t2 : Bool) (m : zM) (ht0 : gM.1[t0]? = some (.inr (1, zlen gM t0))) {Q : Option Value → zM → Prop} {K : ((zM) ⊕ (Int32 × zM)) → Prop} (hR : ∀ p : zM, K (.inl p) → Q none p) (h0 : ∀ s : Int32 × zM, K (.inr s) → AX gM s_MO_looks 49 [(0, .ref 0), (1, .int v1), (2, .int s.1)] [] s.2 Q) (h : ok (f_MO_looks_J77 v1 v2 t0 t1 t2 m) K) : AX gM s_MO_looks 77 [(0, .ref 0), (1, .int v1), (2, .int v2)] [.int (b2i t2), .int t1, .ref t0] m Q := by
  unfold f_MO_looks_J77 at h
  refine ax_zastore (y := t2) ht0 d_MO_looks_77 78 rfl h (fun i15 m16 h => ?_)
  refine ax_aload_n 0 d_MO_looks_78 rfl rfl 79 rfl ?_
  refine ax_getR fl_MO_124 m_0 rfl (rm_0_51 _) d_MO_looks_79 82 rfl ?_
  refine ax_iload_n 2 d_MO_looks_82 rfl rfl 83 rfl ?_
  refine ax_aload_n 0 d_MO_looks_83 rfl rfl 84 rfl ?_
  refine ax_getR fl_MO_120 m_0 rfl (rm_0_50 _) d_MO_looks_84 87 rfl ?_
  refine ax_iload_n 2 d_MO_looks_87 rfl rfl 88 rfl ?_
  refine ax_baload m_34 d_MO_looks_88 89 rfl h (fun i17 h => ?_)
  refine ax_if_eq 106 92 d_MO_looks_89 rfl rfl (fun hc => ?_) (fun hc => ?_)
  · have h := ok_t hc h
    exact ax_sub [0, 1, 2] rfl (c_MO_looks_J106 v1 v2 35 v2 m16 m_35z (fun p hp => hR p hp) (fun s hs => h0 s hs) h)
  · have h := ok_f hc h
    refine ax_aload_n 0 d_MO_looks_92 rfl rfl 93 rfl ?_
    refine ax_getR fl_MO_114 m_0 rfl (rm_0_48 _) d_MO_looks_93 96 rfl ?_
    refine ax_iload_n 2 d_MO_looks_96 rfl rfl 97 rfl ?_
    refine ax_iaload m_32 d_MO_looks_97 98 rfl h (fun i18 h => ?_)
    refine ax_iload_n 1 d_MO_looks_98 rfl rfl 99 rfl ?_
    refine ax_icmp_ne 106 102 d_MO_looks_99 rfl rfl (fun hc => ?_) (fun hc => ?_)
    · have h := ok_f hc h
      exact ax_sub [0, 1, 2] rfl (c_MO_looks_J106 v1 v2 35 v2 m16 m_35z (fun p hp => hR p hp) (fun s hs => h0 s hs) h)
    · have h := ok_t hc h
      refine ax_iconst 1 d_MO_looks_102 ic_1 103 rfl ?_
      refine ax_goto 107 d_MO_looks_103 rfl ?_
      exact ax_sub [0, 1, 2] rfl (c_MO_looks_J107 v1 v2 35 v2 true m16 m_35z (fun p hp => hR p hp) (fun s hs => h0 s hs) h)
set_option maxRecDepth 4000 in
theorem c_MO_looks_B49 (v1 : Int32) (v2 : Int32) (m : zM)  {Q : Option Value → zM → Prop} {K : ((zM) ⊕ (Int32 × zM)) → Prop} (hR : ∀ p : zM, K (.inl p) → Q none p) (h0 : ∀ s : Int32 × zM, K (.inr s) → AX gM s_MO_looks 49 [(0, .ref 0), (1, .int v1), (2, .int s.1)] [] s.2 Q) (h : ok (f_MO_looks_B49 v1 v2 m) K) : AX gM s_MO_looks 49 [(0, .ref 0), (1, .int v1), (2, .int v2)] [] m Q := by
  unfold f_MO_looks_B49 at h
  refine ax_iload_n 2 d_MO_looks_49 rfl rfl 50 rfl ?_
  refine ax_aload_n 0 d_MO_looks_50 rfl rfl 51 rfl ?_
  refine ax_callV mv_MO_442 ⟨Nat.le_of_ble_eq_true rfl, Nat.le_of_ble_eq_true rfl⟩ ⟨rfl, rfl⟩ [] [.ref 0, .int v2] rfl rfl (rc_m_0 _) (Nat.le_of_ble_eq_true rfl) d_MO_looks_51 54 rfl (zc_MO_lookMany m ?_)
  refine ax_icmp_ge 114 57 d_MO_looks_54 rfl rfl (fun hc => ?_) (fun hc => ?_)
  · have h := ok_t hc h
    exact ax_sub [0, 1] rfl (c_MO_looks_J114 v1 m (fun p hp => hR p hp) (ok_z h))
  · have h := ok_f hc h
    refine ax_aload_n 0 d_MO_looks_57 rfl rfl 58 rfl ?_
    refine ax_getR fl_MO_120 m_0 rfl (rm_0_50 _) d_MO_looks_58 61 rfl ?_
    refine ax_iload_n 2 d_MO_looks_61 rfl rfl 62 rfl ?_
    refine ax_aload_n 0 d_MO_looks_62 rfl rfl 63 rfl ?_
    refine ax_getR fl_MO_114 m_0 rfl (rm_0_48 _) d_MO_looks_63 66 rfl ?_
    refine ax_iload_n 2 d_MO_looks_66 rfl rfl 67 rfl ?_
    refine ax_iaload m_32 d_MO_looks_67 68 rfl h (fun i4 h => ?_)
    refine ax_iconst (-1) d_MO_looks_68 ic_m1 69 rfl ?_
    refine ax_icmp_eq 76 72 d_MO_looks_69 rfl rfl (fun hc => ?_) (fun hc => ?_)
    · have h := ok_t hc h
      refine ax_iconst 0 d_MO_looks_76 ic_0 77 rfl ?_
      exact ax_sub [0, 1, 2] rfl (c_MO_looks_J77 v1 v2 34 v2 false m m_34z (fun p hp => hR p hp) (fun s hs => h0 s hs) h)
    · have h := ok_f hc h
      refine ax_iconst 1 d_MO_looks_72 ic_1 73 rfl ?_
      refine ax_goto 77 d_MO_looks_73 rfl ?_
      exact ax_sub [0, 1, 2] rfl (c_MO_looks_J77 v1 v2 34 v2 true m m_34z (fun p hp => hR p hp) (fun s hs => h0 s hs) h)
theorem c_MO_looks_L49 (v1 : Int32) (v2 : Int32) (m : zM)  {Q : Option Value → zM → Prop} {K : zM → Prop} (hR : ∀ p : zM, K (p) → Q none p)  (h : ok (f_MO_looks_L49 v1 v2 m) K) : AX gM s_MO_looks 49 [(0, .ref 0), (1, .int v1), (2, .int v2)] [] m Q :=
  ok_lp (K := K) (G := fun s : Int32 × zM => AX gM s_MO_looks 49 [(0, .ref 0), (1, .int v1), (2, .int s.1)] [] s.2 Q) (fun s h => c_MO_looks_B49 v1 s.1 s.2  (fun p hp => hR p hp) (fun s hs => hs) h) FU (v2, m) h
set_option maxRecDepth 4000 in
theorem c_MO_looks_J39  (m : zM)  {Q : Option Value → zM → Prop} {K : zM → Prop} (hR : ∀ p : zM, K (p) → Q none p)  (h : ok (f_MO_looks_J39  m) K) : AX gM s_MO_looks 39 [(0, .ref 0)] [] m Q := by
  unfold f_MO_looks_J39 at h
  refine ax_aload_n 0 d_MO_looks_39 rfl rfl 40 rfl ?_
  refine ax_getR fl_MO_81 m_0 rfl (rm_0_31 _) d_MO_looks_40 43 rfl ?_
  refine ax_bipush 7 d_MO_looks_43 bp_7 45 rfl ?_
  refine ax_iaload m_23 d_MO_looks_45 46 rfl h (fun i3 h => ?_)
  refine ax_istore_n (ls1 := [(1, .int (m.1 23 i3)), (0, .ref 0)]) d_MO_looks_46 rfl (Nat.le_of_ble_eq_true rfl) rfl 47 rfl ?_
  refine ax_iconst 0 d_MO_looks_47 ic_0 48 rfl ?_
  refine ax_istore_n (ls1 := [(2, .int 0), (1, .int (m.1 23 i3)), (0, .ref 0)]) d_MO_looks_48 rfl (Nat.le_of_ble_eq_true rfl) rfl 49 rfl ?_
  exact ax_sub [2, 1, 0] rfl (c_MO_looks_L49 (m.1 23 i3) 0 m (fun p hp => hR p hp) h)
set_option maxRecDepth 4000 in
theorem c_MO_looks_B15 (v1 : Int32) (m : zM)  {Q : Option Value → zM → Prop} {K : ((zM) ⊕ (Int32 × zM)) → Prop} (hR : ∀ p : zM, K (.inl p) → Q none p) (h0 : ∀ s : Int32 × zM, K (.inr s) → AX gM s_MO_looks 15 [(0, .ref 0), (1, .int s.1)] [] s.2 Q) (h : ok (f_MO_looks_B15 v1 m) K) : AX gM s_MO_looks 15 [(0, .ref 0), (1, .int v1)] [] m Q := by
  unfold f_MO_looks_B15 at h
  refine ax_iload_n 1 d_MO_looks_15 rfl rfl 16 rfl ?_
  refine ax_aload_n 0 d_MO_looks_16 rfl rfl 17 rfl ?_
  refine ax_callV mv_MO_442 ⟨Nat.le_of_ble_eq_true rfl, Nat.le_of_ble_eq_true rfl⟩ ⟨rfl, rfl⟩ [] [.ref 0, .int v1] rfl rfl (rc_m_0 _) (Nat.le_of_ble_eq_true rfl) d_MO_looks_17 20 rfl (zc_MO_lookMany m ?_)
  refine ax_icmp_ge 39 23 d_MO_looks_20 rfl rfl (fun hc => ?_) (fun hc => ?_)
  · have h := ok_t hc h
    exact ax_sub [0] rfl (c_MO_looks_J39 m (fun p hp => hR p hp) (ok_z h))
  · have h := ok_f hc h
    refine ax_aload_n 0 d_MO_looks_23 rfl rfl 24 rfl ?_
    refine ax_iload_n 1 d_MO_looks_24 rfl rfl 25 rfl ?_
    refine ax_iconst 4 d_MO_looks_25 ic_4 26 rfl ?_
    refine ax_idiv d_MO_looks_26 (by decide) 27 rfl ?_
    refine ax_iload_n 1 d_MO_looks_27 rfl rfl 28 rfl ?_
    refine ax_iconst 4 d_MO_looks_28 ic_4 29 rfl ?_
    refine ax_irem d_MO_looks_29 (by decide) 30 rfl ?_
    refine ax_callV mv_MO_449 ⟨Nat.le_of_ble_eq_true rfl, Nat.le_of_ble_eq_true rfl⟩ ⟨rfl, rfl⟩ [.int (v1 / 4), .int (ir v1 4)] [.int (ir v1 4), .int (v1 / 4), .ref 0] rfl rfl (rc_m_0 _) (Nat.le_of_ble_eq_true rfl) d_MO_looks_30 33 rfl (zc_MO_looksFrom (v1 / 4) (ir v1 4) m (ok_b h (fun p2 h => ?_)))
    refine ax_iinc (ls1 := [(1, .int (v1 + 1)), (0, .ref 0)]) 1 1 d_MO_looks_33 rfl ic_1 (Nat.le_of_ble_eq_true rfl) rfl 36 rfl ?_
    refine ax_goto 15 d_MO_looks_36 rfl ?_
    exact ax_sub [1, 0] rfl (h0 ((v1 + 1), p2) (ok_some h))
theorem c_MO_looks_L15 (v1 : Int32) (m : zM)  {Q : Option Value → zM → Prop} {K : zM → Prop} (hR : ∀ p : zM, K (p) → Q none p)  (h : ok (f_MO_looks_L15 v1 m) K) : AX gM s_MO_looks 15 [(0, .ref 0), (1, .int v1)] [] m Q :=
  ok_lp (K := K) (G := fun s : Int32 × zM => AX gM s_MO_looks 15 [(0, .ref 0), (1, .int s.1)] [] s.2 Q) (fun s h => c_MO_looks_B15 s.1 s.2  (fun p hp => hR p hp) (fun s hs => hs) h) FU (v1, m) h
set_option maxRecDepth 4000 in
theorem zc_MO_looks  (m : zM)  {Q : Option Value → zM → Prop} (h : ok (f_MO_looks m) (fun p => Q none p)) : zc gM s_MO_looks [.ref 0] m Q := by
  refine zc_of rfl (Nat.le_of_ble_eq_true rfl) ?_
  show AX gM s_MO_looks 0 [(0, .ref 0)] [] m Q
  obtain ⟨K, hK⟩ : ∃ K : zM → Prop, K = (fun p : zM => Q none p) := ⟨_, rfl⟩
  have hR : ∀ p : zM, K p → Q none p := fun p hp => by rw [hK] at hp; exact hp
  replace h : ok (f_MO_looks m) (fun p : zM => Q none p) := h
  rw [← hK] at h
  unfold f_MO_looks at h
  refine ax_aload_n 0 d_MO_looks_0 rfl rfl 1 rfl ?_
  refine ax_getI fl_MO_412 m_0 rfl d_MO_looks_1 4 rfl ?_
  refine ax_if_eq 8 7 d_MO_looks_4 rfl rfl (fun hc => ?_) (fun hc => ?_)
  · have h := ok_t hc h
    refine ax_aload_n 0 d_MO_looks_8 rfl rfl 9 rfl ?_
    refine ax_iconst 1 d_MO_looks_9 ic_1 10 rfl ?_
    refine ax_putZ (K := K) fl_MO_412 m_0 (Or.inr rfl) rfl rfl rfl (Nat.le_of_ble_eq_true rfl) d_MO_looks_10 13 rfl h (fun m1 h => ?_)
    refine ax_iconst 0 d_MO_looks_13 ic_0 14 rfl ?_
    refine ax_istore_n (ls1 := [(1, .int 0), (0, .ref 0)]) d_MO_looks_14 rfl (Nat.le_of_ble_eq_true rfl) rfl 15 rfl ?_
    exact ax_sub [1, 0] rfl (c_MO_looks_L15 0 m1 (fun p hp => hR p hp) h)
  · have h := ok_f hc h
    exact ax_vret rfl d_MO_looks_7 (hR m (ok_some h))
set_option maxRecDepth 4000 in
theorem zc_MO_nodeOf (v1 : Int32) (v2 : Int32) (m : zM)  {Q : Option Value → zM → Prop} (h : ok (f_MO_nodeOf v1 v2 m) (fun p => Q (some (.int p.1)) p.2)) : zc gM s_MO_nodeOf [.ref 0, .int v1, .int v2] m Q := by
  refine zc_of rfl (Nat.le_of_ble_eq_true rfl) ?_
  show AX gM s_MO_nodeOf 0 [(0, .ref 0), (1, .int v1), (2, .int v2)] [] m Q
  obtain ⟨K, hK⟩ : ∃ K : (Int32 × zM) → Prop, K = (fun p : Int32 × zM => Q (some (.int p.1)) p.2) := ⟨_, rfl⟩
  have hR : ∀ p : Int32 × zM, K p → Q (some (.int p.1)) p.2 := fun p hp => by rw [hK] at hp; exact hp
  replace h : ok (f_MO_nodeOf v1 v2 m) (fun p : Int32 × zM => Q (some (.int p.1)) p.2) := h
  rw [← hK] at h
  unfold f_MO_nodeOf at h
  refine ax_aload_n 0 d_MO_nodeOf_0 rfl rfl 1 rfl ?_
  refine ax_aload_n 0 d_MO_nodeOf_1 rfl rfl 2 rfl ?_
  refine ax_getR fl_MO_96 m_0 rfl (rm_0_42 _) d_MO_nodeOf_2 5 rfl ?_
  refine ax_iload_n 1 d_MO_nodeOf_5 rfl rfl 6 rfl ?_
  refine ax_laload m_27 d_MO_nodeOf_6 7 rfl h (fun i1 h => ?_)
  refine ax_callV mv_MO_415 ⟨Nat.le_of_ble_eq_true rfl, Nat.le_of_ble_eq_true rfl⟩ ⟨rfl, rfl⟩ [.long (m.2.1 27 i1)] [.long (m.2.1 27 i1), .ref 0] rfl rfl (rc_m_0 _) (Nat.le_of_ble_eq_true rfl) d_MO_nodeOf_7 10 rfl (zc_MO_opens (m.2.1 27 i1) m (ok_b h (fun p2 h => ?_)))
  refine ax_iconst 4 d_MO_nodeOf_10 ic_4 11 rfl ?_
  refine ax_iload_n 1 d_MO_nodeOf_11 rfl rfl 12 rfl ?_
  refine ax_imul d_MO_nodeOf_12 13 rfl ?_
  refine ax_aload_n 0 d_MO_nodeOf_13 rfl rfl 14 rfl ?_
  refine ax_getR fl_MO_87 m_0 rfl (rm_0_37 _) d_MO_nodeOf_14 17 rfl ?_
  refine ax_aload_n 0 d_MO_nodeOf_17 rfl rfl 18 rfl ?_
  refine ax_getR fl_MO_87 m_0 rfl (rm_0_37 _) d_MO_nodeOf_18 21 rfl ?_
  refine ax_iload_n 2 d_MO_nodeOf_21 rfl rfl 22 rfl ?_
  refine ax_iaload m_25 d_MO_nodeOf_22 23 rfl h (fun i3 h => ?_)
  refine ax_callS mv_MO_438 ⟨Nat.le_of_ble_eq_true rfl, Nat.le_of_ble_eq_true rfl⟩ ⟨rfl, rfl⟩ [.ref 25, .int (p2.1 25 i3)] [.int (p2.1 25 i3), .ref 25, .int (4 * v1)] rfl rfl (Nat.le_of_ble_eq_true rfl) d_MO_nodeOf_23 26 rfl (zc_MO_firstLike 25 (p2.1 25 i3) p2 m_25z (ok_b h (fun r4 h => ?_)))
  refine ax_iadd d_MO_nodeOf_26 27 rfl ?_
  exact ax_iret rfl d_MO_nodeOf_27 (hR (((4 * v1) + r4), p2) (ok_some h))
set_option maxRecDepth 4000 in
theorem zc_MO_isStarving (v1 : Int32) (v2 : Int32) (m : zM)  {Q : Option Value → zM → Prop} (h : ok (f_MO_isStarving v1 v2 m) (fun p => Q (some (.int (b2i p.1))) p.2)) : zc gM s_MO_isStarving [.ref 0, .int v1, .int v2] m Q := by
  refine zc_of rfl (Nat.le_of_ble_eq_true rfl) ?_
  show AX gM s_MO_isStarving 0 [(0, .ref 0), (1, .int v1), (2, .int v2)] [] m Q
  obtain ⟨K, hK⟩ : ∃ K : (Bool × zM) → Prop, K = (fun p : Bool × zM => Q (some (.int (b2i p.1))) p.2) := ⟨_, rfl⟩
  have hR : ∀ p : Bool × zM, K p → Q (some (.int (b2i p.1))) p.2 := fun p hp => by rw [hK] at hp; exact hp
  replace h : ok (f_MO_isStarving v1 v2 m) (fun p : Bool × zM => Q (some (.int (b2i p.1))) p.2) := h
  rw [← hK] at h
  unfold f_MO_isStarving at h
  refine ax_aload_n 0 d_MO_isStarving_0 rfl rfl 1 rfl ?_
  refine ax_getR fl_MO_81 m_0 rfl (rm_0_31 _) d_MO_isStarving_1 4 rfl ?_
  refine ax_bipush 6 d_MO_isStarving_4 bp_6 6 rfl ?_
  refine ax_iaload m_23 d_MO_isStarving_6 7 rfl h (fun i1 h => ?_)
  refine ax_iconst (-1) d_MO_isStarving_7 ic_m1 8 rfl ?_
  refine ax_icmp_ne 13 11 d_MO_isStarving_8 rfl rfl (fun hc => ?_) (fun hc => ?_)
  · have h := ok_f hc h
    refine ax_aload_n 0 d_MO_isStarving_13 rfl rfl 14 rfl ?_
    refine ax_iload_n 1 d_MO_isStarving_14 rfl rfl 15 rfl ?_
    refine ax_iload_n 2 d_MO_isStarving_15 rfl rfl 16 rfl ?_
    refine ax_callV mv_MO_487 ⟨Nat.le_of_ble_eq_true rfl, Nat.le_of_ble_eq_true rfl⟩ ⟨rfl, rfl⟩ [.int v1, .int v2] [.int v2, .int v1, .ref 0] rfl rfl (rc_m_0 _) (Nat.le_of_ble_eq_true rfl) d_MO_isStarving_16 19 rfl (zc_MO_nodeOf v1 v2 m (ok_b h (fun p2 h => ?_)))
    refine ax_istore_n (ls1 := [(3, .int p2.1), (0, .ref 0), (1, .int v1), (2, .int v2)]) d_MO_isStarving_19 rfl (Nat.le_of_ble_eq_true rfl) rfl 20 rfl ?_
    refine ax_aload_n 1 d_MO_isStarving_20 rfl rfl 21 rfl ?_
    refine ax_getR fl_MO_114 m_0 rfl (rm_0_48 _) d_MO_isStarving_21 24 rfl ?_
    refine ax_iload_n 0 d_MO_isStarving_24 rfl rfl 25 rfl ?_
    refine ax_iaload m_32 d_MO_isStarving_25 26 rfl h (fun i3 h => ?_)
    refine ax_aload_n 1 d_MO_isStarving_26 rfl rfl 27 rfl ?_
    refine ax_getR fl_MO_81 m_0 rfl (rm_0_31 _) d_MO_isStarving_27 30 rfl ?_
    refine ax_bipush 6 d_MO_isStarving_30 bp_6 32 rfl ?_
    refine ax_iaload m_23 d_MO_isStarving_32 33 rfl h (fun i4 h => ?_)
    refine ax_icmp_ne 49 36 d_MO_isStarving_33 rfl rfl (fun hc => ?_) (fun hc => ?_)
    · have h := ok_f hc h
      refine ax_iconst 0 d_MO_isStarving_49 ic_0 50 rfl ?_
      exact ax_zret (b := false) rfl d_MO_isStarving_50 (hR (false, p2.2) (ok_some h))
    · have h := ok_t hc h
      refine ax_aload_n 1 d_MO_isStarving_36 rfl rfl 37 rfl ?_
      refine ax_getR fl_MO_124 m_0 rfl (rm_0_51 _) d_MO_isStarving_37 40 rfl ?_
      refine ax_iload_n 0 d_MO_isStarving_40 rfl rfl 41 rfl ?_
      refine ax_baload m_35 d_MO_isStarving_41 42 rfl h (fun i5 h => ?_)
      refine ax_if_ne 49 45 d_MO_isStarving_42 rfl rfl (fun hc => ?_) (fun hc => ?_)
      · have h := ok_f hc h
        refine ax_iconst 0 d_MO_isStarving_49 ic_0 50 rfl ?_
        exact ax_zret (b := false) rfl d_MO_isStarving_50 (hR (false, p2.2) (ok_some h))
      · have h := ok_t hc h
        refine ax_iconst 1 d_MO_isStarving_45 ic_1 46 rfl ?_
        refine ax_goto 50 d_MO_isStarving_46 rfl ?_
        exact ax_zret (b := true) rfl d_MO_isStarving_50 (hR (true, p2.2) (ok_some h))
  · have h := ok_t hc h
    refine ax_iconst 0 d_MO_isStarving_11 ic_0 12 rfl ?_
    exact ax_zret (b := false) rfl d_MO_isStarving_12 (hR (false, m) (ok_some h))
set_option maxRecDepth 4000 in
theorem zc_MO_isLeftOut (v1 : Int32) (v2 : Int32) (m : zM)  {Q : Option Value → zM → Prop} (h : ok (f_MO_isLeftOut v1 v2 m) (fun p => Q (some (.int (b2i p.1))) p.2)) : zc gM s_MO_isLeftOut [.ref 0, .int v1, .int v2] m Q := by
  refine zc_of rfl (Nat.le_of_ble_eq_true rfl) ?_
  show AX gM s_MO_isLeftOut 0 [(0, .ref 0), (1, .int v1), (2, .int v2)] [] m Q
  obtain ⟨K, hK⟩ : ∃ K : (Bool × zM) → Prop, K = (fun p : Bool × zM => Q (some (.int (b2i p.1))) p.2) := ⟨_, rfl⟩
  have hR : ∀ p : Bool × zM, K p → Q (some (.int (b2i p.1))) p.2 := fun p hp => by rw [hK] at hp; exact hp
  replace h : ok (f_MO_isLeftOut v1 v2 m) (fun p : Bool × zM => Q (some (.int (b2i p.1))) p.2) := h
  rw [← hK] at h
  unfold f_MO_isLeftOut at h
  refine ax_aload_n 0 d_MO_isLeftOut_0 rfl rfl 1 rfl ?_
  refine ax_getR fl_MO_81 m_0 rfl (rm_0_31 _) d_MO_isLeftOut_1 4 rfl ?_
  refine ax_bipush 6 d_MO_isLeftOut_4 bp_6 6 rfl ?_
  refine ax_iaload m_23 d_MO_isLeftOut_6 7 rfl h (fun i1 h => ?_)
  refine ax_iconst (-1) d_MO_isLeftOut_7 ic_m1 8 rfl ?_
  refine ax_icmp_ne 13 11 d_MO_isLeftOut_8 rfl rfl (fun hc => ?_) (fun hc => ?_)
  · have h := ok_f hc h
    refine ax_aload_n 0 d_MO_isLeftOut_13 rfl rfl 14 rfl ?_
    refine ax_iload_n 1 d_MO_isLeftOut_14 rfl rfl 15 rfl ?_
    refine ax_iload_n 2 d_MO_isLeftOut_15 rfl rfl 16 rfl ?_
    refine ax_callV mv_MO_487 ⟨Nat.le_of_ble_eq_true rfl, Nat.le_of_ble_eq_true rfl⟩ ⟨rfl, rfl⟩ [.int v1, .int v2] [.int v2, .int v1, .ref 0] rfl rfl (rc_m_0 _) (Nat.le_of_ble_eq_true rfl) d_MO_isLeftOut_16 19 rfl (zc_MO_nodeOf v1 v2 m (ok_b h (fun p2 h => ?_)))
    refine ax_istore_n (ls1 := [(3, .int p2.1), (0, .ref 0), (1, .int v1), (2, .int v2)]) d_MO_isLeftOut_19 rfl (Nat.le_of_ble_eq_true rfl) rfl 20 rfl ?_
    refine ax_aload_n 1 d_MO_isLeftOut_20 rfl rfl 21 rfl ?_
    refine ax_getR fl_MO_114 m_0 rfl (rm_0_48 _) d_MO_isLeftOut_21 24 rfl ?_
    refine ax_iload_n 0 d_MO_isLeftOut_24 rfl rfl 25 rfl ?_
    refine ax_iaload m_32 d_MO_isLeftOut_25 26 rfl h (fun i3 h => ?_)
    refine ax_aload_n 1 d_MO_isLeftOut_26 rfl rfl 27 rfl ?_
    refine ax_getR fl_MO_81 m_0 rfl (rm_0_31 _) d_MO_isLeftOut_27 30 rfl ?_
    refine ax_bipush 6 d_MO_isLeftOut_30 bp_6 32 rfl ?_
    refine ax_iaload m_23 d_MO_isLeftOut_32 33 rfl h (fun i4 h => ?_)
    refine ax_icmp_ne 49 36 d_MO_isLeftOut_33 rfl rfl (fun hc => ?_) (fun hc => ?_)
    · have h := ok_f hc h
      refine ax_iconst 0 d_MO_isLeftOut_49 ic_0 50 rfl ?_
      exact ax_zret (b := false) rfl d_MO_isLeftOut_50 (hR (false, p2.2) (ok_some h))
    · have h := ok_t hc h
      refine ax_aload_n 1 d_MO_isLeftOut_36 rfl rfl 37 rfl ?_
      refine ax_getR fl_MO_127 m_0 rfl (rm_0_52 _) d_MO_isLeftOut_37 40 rfl ?_
      refine ax_iload_n 0 d_MO_isLeftOut_40 rfl rfl 41 rfl ?_
      refine ax_baload m_36 d_MO_isLeftOut_41 42 rfl h (fun i5 h => ?_)
      refine ax_if_eq 49 45 d_MO_isLeftOut_42 rfl rfl (fun hc => ?_) (fun hc => ?_)
      · have h := ok_t hc h
        refine ax_iconst 0 d_MO_isLeftOut_49 ic_0 50 rfl ?_
        exact ax_zret (b := false) rfl d_MO_isLeftOut_50 (hR (false, p2.2) (ok_some h))
      · have h := ok_f hc h
        refine ax_iconst 1 d_MO_isLeftOut_45 ic_1 46 rfl ?_
        refine ax_goto 50 d_MO_isLeftOut_46 rfl ?_
        exact ax_zret (b := true) rfl d_MO_isLeftOut_50 (hR (true, p2.2) (ok_some h))
  · have h := ok_t hc h
    refine ax_iconst 0 d_MO_isLeftOut_11 ic_0 12 rfl ?_
    exact ax_zret (b := false) rfl d_MO_isLeftOut_12 (hR (false, m) (ok_some h))
set_option maxRecDepth 4000 in
theorem zc_MO_agentHas (v1 : Int32) (v2 : Int32) (m : zM)  {Q : Option Value → zM → Prop} (h : ok (f_MO_agentHas v1 v2 m) (fun p => Q (some (.int p)) m)) : zc gM s_MO_agentHas [.ref 0, .int v1, .int v2] m Q := by
  refine zc_of rfl (Nat.le_of_ble_eq_true rfl) ?_
  show AX gM s_MO_agentHas 0 [(0, .ref 0), (1, .int v1), (2, .int v2)] [] m Q
  obtain ⟨K, hK⟩ : ∃ K : Int32 → Prop, K = (fun p : Int32 => Q (some (.int p)) m) := ⟨_, rfl⟩
  have hR : ∀ p : Int32, K p → Q (some (.int p)) m := fun p hp => by rw [hK] at hp; exact hp
  replace h : ok (f_MO_agentHas v1 v2 m) (fun p : Int32 => Q (some (.int p)) m) := h
  rw [← hK] at h
  unfold f_MO_agentHas at h
  refine ax_aload_n 0 d_MO_agentHas_0 rfl rfl 1 rfl ?_
  refine ax_getR fl_MO_87 m_0 rfl (rm_0_37 _) d_MO_agentHas_1 4 rfl ?_
  refine ax_iload_n 1 d_MO_agentHas_4 rfl rfl 5 rfl ?_
  refine ax_iaload m_25 d_MO_agentHas_5 6 rfl h (fun i1 h => ?_)
  refine ax_istore_n (ls1 := [(3, .int (m.1 25 i1)), (0, .ref 0), (1, .int v1), (2, .int v2)]) d_MO_agentHas_6 rfl (Nat.le_of_ble_eq_true rfl) rfl 7 rfl ?_
  refine ax_iload_n 3 d_MO_agentHas_7 rfl rfl 8 rfl ?_
  by_cases hc8_0 : v2 = 0
  · have h := ok_t hc8_0 h
    refine ax_tableIn (off := 28) 36 d_MO_agentHas_8 (by rw [hc8_0]; decide) (by rw [hc8_0]; decide) (by rw [hc8_0]; rfl) rfl ?_
    refine ax_iload_n 0 d_MO_agentHas_36 rfl rfl 37 rfl ?_
    refine ax_callS mv_MO_346 ⟨Nat.le_of_ble_eq_true rfl, Nat.le_of_ble_eq_true rfl⟩ ⟨rfl, rfl⟩ [.int (m.1 25 i1)] [.int (m.1 25 i1)] rfl rfl (Nat.le_of_ble_eq_true rfl) d_MO_agentHas_37 40 rfl (zc_MO_stateOf (m.1 25 i1) m ?_)
    exact ax_iret rfl d_MO_agentHas_40 (hR (f_MO_stateOf (m.1 25 i1)) (ok_some h))
  have h := ok_f hc8_0 h
  by_cases hc8_1 : v2 = 1
  · have h := ok_t hc8_1 h
    refine ax_tableIn (off := 33) 41 d_MO_agentHas_8 (by rw [hc8_1]; decide) (by rw [hc8_1]; decide) (by rw [hc8_1]; rfl) rfl ?_
    refine ax_iload_n 0 d_MO_agentHas_41 rfl rfl 42 rfl ?_
    refine ax_callS mv_MO_340 ⟨Nat.le_of_ble_eq_true rfl, Nat.le_of_ble_eq_true rfl⟩ ⟨rfl, rfl⟩ [.int (m.1 25 i1)] [.int (m.1 25 i1)] rfl rfl (Nat.le_of_ble_eq_true rfl) d_MO_agentHas_42 45 rfl (zc_MO_firstIn (m.1 25 i1) m ?_)
    refine ax_iconst 1 d_MO_agentHas_45 ic_1 46 rfl ?_
    refine ax_isub d_MO_agentHas_46 47 rfl ?_
    exact ax_iret rfl d_MO_agentHas_47 (hR ((f_MO_firstIn (m.1 25 i1)) - 1) (ok_some h))
  have h := ok_f hc8_1 h
  by_cases hc8_2 : v2 = 2
  · have h := ok_t hc8_2 h
    refine ax_tableIn (off := 40) 48 d_MO_agentHas_8 (by rw [hc8_2]; decide) (by rw [hc8_2]; decide) (by rw [hc8_2]; rfl) rfl ?_
    refine ax_iload_n 0 d_MO_agentHas_48 rfl rfl 49 rfl ?_
    refine ax_callS mv_MO_343 ⟨Nat.le_of_ble_eq_true rfl, Nat.le_of_ble_eq_true rfl⟩ ⟨rfl, rfl⟩ [.int (m.1 25 i1)] [.int (m.1 25 i1)] rfl rfl (Nat.le_of_ble_eq_true rfl) d_MO_agentHas_49 52 rfl (zc_MO_secondIn (m.1 25 i1) m ?_)
    refine ax_iconst 1 d_MO_agentHas_52 ic_1 53 rfl ?_
    refine ax_isub d_MO_agentHas_53 54 rfl ?_
    exact ax_iret rfl d_MO_agentHas_54 (hR ((f_MO_secondIn (m.1 25 i1)) - 1) (ok_some h))
  have h := ok_f hc8_2 h
  have n0 := zne (n := 0) hc8_0 (by decide)
  have n1 := zne (n := 1) hc8_1 (by decide)
  have n2 := zne (n := 2) hc8_2 (by decide)
  refine ax_tableOut 55 d_MO_agentHas_8 (by omega) rfl ?_
  refine ax_iload_n 0 d_MO_agentHas_55 rfl rfl 56 rfl ?_
  refine ax_callS mv_MO_355 ⟨Nat.le_of_ble_eq_true rfl, Nat.le_of_ble_eq_true rfl⟩ ⟨rfl, rfl⟩ [.int (m.1 25 i1)] [.int (m.1 25 i1)] rfl rfl (Nat.le_of_ble_eq_true rfl) d_MO_agentHas_56 59 rfl (zc_MO_outOf (m.1 25 i1) m ?_)
  refine ax_iconst 1 d_MO_agentHas_59 ic_1 60 rfl ?_
  refine ax_isub d_MO_agentHas_60 61 rfl ?_
  exact ax_iret rfl d_MO_agentHas_61 (hR ((f_MO_outOf (m.1 25 i1)) - 1) (ok_some h))
set_option maxRecDepth 4000 in
theorem c_MO_agent_J73  (m : zM)  {Q : Option Value → zM → Prop} {K : (Int32 × zM) → Prop} (hR : ∀ p : Int32 × zM, K (p) → Q (some (.int p.1)) p.2)  (h : ok (f_MO_agent_J73  m) K) : AX gM s_MO_agent 73 [] [] m Q := by
  unfold f_MO_agent_J73 at h
  refine ax_iconst 1 d_MO_agent_73 ic_1 74 rfl ?_
  refine ax_goto 78 d_MO_agent_74 rfl ?_
  exact ax_iret rfl d_MO_agent_78 (hR (1, m) (ok_some h))
set_option maxRecDepth 4000 in
theorem zc_MO_agent (v1 : Int32) (v2 : Int32) (v3 : Int32) (m : zM)  {Q : Option Value → zM → Prop} (h : ok (f_MO_agent v1 v2 v3 m) (fun p => Q (some (.int p.1)) p.2)) : zc gM s_MO_agent [.ref 0, .int v1, .int v2, .int v3] m Q := by
  refine zc_of rfl (Nat.le_of_ble_eq_true rfl) ?_
  show AX gM s_MO_agent 0 [(0, .ref 0), (1, .int v1), (2, .int v2), (3, .int v3)] [] m Q
  obtain ⟨K, hK⟩ : ∃ K : (Int32 × zM) → Prop, K = (fun p : Int32 × zM => Q (some (.int p.1)) p.2) := ⟨_, rfl⟩
  have hR : ∀ p : Int32 × zM, K p → Q (some (.int p.1)) p.2 := fun p hp => by rw [hK] at hp; exact hp
  replace h : ok (f_MO_agent v1 v2 v3 m) (fun p : Int32 × zM => Q (some (.int p.1)) p.2) := h
  rw [← hK] at h
  unfold f_MO_agent at h
  refine ax_aload_n 0 d_MO_agent_0 rfl rfl 1 rfl ?_
  refine ax_iload_n 1 d_MO_agent_1 rfl rfl 2 rfl ?_
  refine ax_callV mv_MO_526 ⟨Nat.le_of_ble_eq_true rfl, Nat.le_of_ble_eq_true rfl⟩ ⟨rfl, rfl⟩ [.int v1] [.int v1, .ref 0] rfl rfl (rc_m_0 _) (Nat.le_of_ble_eq_true rfl) d_MO_agent_2 5 rfl (zc_MO_isWorld v1 m (ok_b h (fun p1 h => ?_)))
  refine ax_ifb_eq 36 8 d_MO_agent_5 rfl rfl (fun hc => ?_) (fun hc => ?_)
  · have h := ok_f (bf hc) h
    refine ax_iconst (-1) d_MO_agent_36 ic_m1 37 rfl ?_
    exact ax_iret rfl d_MO_agent_37 (hR ((-1), p1.2) (ok_some h))
  · have h := ok_t hc h
    refine ax_iload_n 2 d_MO_agent_8 rfl rfl 9 rfl ?_
    refine ax_i2l d_MO_agent_9 10 rfl ?_
    refine ax_lconst 0 d_MO_agent_10 lc_0 11 rfl ?_
    refine ax_aload_n 0 d_MO_agent_11 rfl rfl 12 rfl ?_
    refine ax_callV mv_MO_358 ⟨Nat.le_of_ble_eq_true rfl, Nat.le_of_ble_eq_true rfl⟩ ⟨rfl, rfl⟩ [] [.ref 0, .long 0, .long v2.toInt64] rfl rfl (rc_m_0 _) (Nat.le_of_ble_eq_true rfl) d_MO_agent_12 15 rfl (zc_MO_agents p1.2 (ok_b h (fun r2 h => ?_)))
    refine ax_iconst 1 d_MO_agent_15 ic_1 16 rfl ?_
    refine ax_isub d_MO_agent_16 17 rfl ?_
    refine ax_i2l d_MO_agent_17 18 rfl ?_
    refine ax_callS mv_MO_210 ⟨Nat.le_of_ble_eq_true rfl, Nat.le_of_ble_eq_true rfl⟩ ⟨rfl, rfl⟩ [.long v2.toInt64, .long 0, .long ((r2 - 1).toInt64)] [.long ((r2 - 1).toInt64), .long 0, .long v2.toInt64] rfl rfl (Nat.le_of_ble_eq_true rfl) d_MO_agent_18 21 rfl (zc_MO_isIn v2.toInt64 0 ((r2 - 1).toInt64) p1.2 ?_)
    refine ax_ifb_eq 36 24 d_MO_agent_21 rfl rfl (fun hc => ?_) (fun hc => ?_)
    · have h := ok_f (bf hc) h
      refine ax_iconst (-1) d_MO_agent_36 ic_m1 37 rfl ?_
      exact ax_iret rfl d_MO_agent_37 (hR ((-1), p1.2) (ok_some h))
    · have h := ok_t hc h
      refine ax_iload_n 3 d_MO_agent_24 rfl rfl 25 rfl ?_
      refine ax_i2l d_MO_agent_25 26 rfl ?_
      refine ax_lconst 0 d_MO_agent_26 lc_0 27 rfl ?_
      refine ax_ldc2 5 wk_MO_208 d_MO_agent_27 30 rfl ?_
      refine ax_callS mv_MO_210 ⟨Nat.le_of_ble_eq_true rfl, Nat.le_of_ble_eq_true rfl⟩ ⟨rfl, rfl⟩ [.long v3.toInt64, .long 0, .long 5] [.long 5, .long 0, .long v3.toInt64] rfl rfl (Nat.le_of_ble_eq_true rfl) d_MO_agent_30 33 rfl (zc_MO_isIn v3.toInt64 0 5 p1.2 ?_)
      refine ax_ifb_ne 38 36 d_MO_agent_33 rfl rfl (fun hc => ?_) (fun hc => ?_)
      · have h := ok_t hc h
        refine ax_iload_n 3 d_MO_agent_38 rfl rfl 39 rfl ?_
        refine ax_iconst 3 d_MO_agent_39 ic_3 40 rfl ?_
        refine ax_icmp_le 79 43 d_MO_agent_40 rfl rfl (fun hc => ?_) (fun hc => ?_)
        · have h := ok_t hc h
          refine ax_aload_n 0 d_MO_agent_79 rfl rfl 80 rfl ?_
          refine ax_aload_n 0 d_MO_agent_80 rfl rfl 81 rfl ?_
          refine ax_getR fl_MO_96 m_0 rfl (rm_0_42 _) d_MO_agent_81 84 rfl ?_
          refine ax_iload_n 1 d_MO_agent_84 rfl rfl 85 rfl ?_
          refine ax_laload m_27 d_MO_agent_85 86 rfl h (fun i3 h => ?_)
          refine ax_callV mv_MO_415 ⟨Nat.le_of_ble_eq_true rfl, Nat.le_of_ble_eq_true rfl⟩ ⟨rfl, rfl⟩ [.long (p1.2.2.1 27 i3)] [.long (p1.2.2.1 27 i3), .ref 0] rfl rfl (rc_m_0 _) (Nat.le_of_ble_eq_true rfl) d_MO_agent_86 89 rfl (zc_MO_opens (p1.2.2.1 27 i3) p1.2 (ok_b h (fun p4 h => ?_)))
          refine ax_aload_n 0 d_MO_agent_89 rfl rfl 90 rfl ?_
          refine ax_iload_n 2 d_MO_agent_90 rfl rfl 91 rfl ?_
          refine ax_iload_n 3 d_MO_agent_91 rfl rfl 92 rfl ?_
          refine ax_callV mv_MO_529 ⟨Nat.le_of_ble_eq_true rfl, Nat.le_of_ble_eq_true rfl⟩ ⟨rfl, rfl⟩ [.int v2, .int v3] [.int v3, .int v2, .ref 0] rfl rfl (rc_m_0 _) (Nat.le_of_ble_eq_true rfl) d_MO_agent_92 95 rfl (zc_MO_agentHas v2 v3 p4 (ok_b h (fun r5 h => ?_)))
          exact ax_iret rfl d_MO_agent_95 (hR (r5, p4) (ok_some h))
        · have h := ok_f hc h
          refine ax_aload_n 0 d_MO_agent_43 rfl rfl 44 rfl ?_
          refine ax_callV mv_MO_496 ⟨Nat.le_of_ble_eq_true rfl, Nat.le_of_ble_eq_true rfl⟩ ⟨rfl, rfl⟩ [] [.ref 0] rfl rfl (rc_m_0 _) (Nat.le_of_ble_eq_true rfl) d_MO_agent_44 47 rfl (zc_MO_looks p1.2 (ok_b h (fun p6 h => ?_)))
          refine ax_iload_n 3 d_MO_agent_47 rfl rfl 48 rfl ?_
          refine ax_iconst 4 d_MO_agent_48 ic_4 49 rfl ?_
          refine ax_icmp_ne 64 52 d_MO_agent_49 rfl rfl (fun hc => ?_) (fun hc => ?_)
          · have h := ok_f hc h
            refine ax_aload_n 0 d_MO_agent_64 rfl rfl 65 rfl ?_
            refine ax_iload_n 1 d_MO_agent_65 rfl rfl 66 rfl ?_
            refine ax_iload_n 2 d_MO_agent_66 rfl rfl 67 rfl ?_
            refine ax_callV mv_MO_493 ⟨Nat.le_of_ble_eq_true rfl, Nat.le_of_ble_eq_true rfl⟩ ⟨rfl, rfl⟩ [.int v1, .int v2] [.int v2, .int v1, .ref 0] rfl rfl (rc_m_0 _) (Nat.le_of_ble_eq_true rfl) d_MO_agent_67 70 rfl (zc_MO_isLeftOut v1 v2 p6 (ok_b h (fun p7 h => ?_)))
            refine ax_ifb_eq 77 73 d_MO_agent_70 rfl rfl (fun hc => ?_) (fun hc => ?_)
            · have h := ok_f (bf hc) h
              refine ax_iconst 0 d_MO_agent_77 ic_0 78 rfl ?_
              exact ax_iret rfl d_MO_agent_78 (hR (0, p7.2) (ok_some h))
            · have h := ok_t hc h
              exact ax_sub [] rfl (c_MO_agent_J73 p7.2 (fun p hp => hR p hp) h)
          · have h := ok_t hc h
            refine ax_aload_n 0 d_MO_agent_52 rfl rfl 53 rfl ?_
            refine ax_iload_n 1 d_MO_agent_53 rfl rfl 54 rfl ?_
            refine ax_iload_n 2 d_MO_agent_54 rfl rfl 55 rfl ?_
            refine ax_callV mv_MO_490 ⟨Nat.le_of_ble_eq_true rfl, Nat.le_of_ble_eq_true rfl⟩ ⟨rfl, rfl⟩ [.int v1, .int v2] [.int v2, .int v1, .ref 0] rfl rfl (rc_m_0 _) (Nat.le_of_ble_eq_true rfl) d_MO_agent_55 58 rfl (zc_MO_isStarving v1 v2 p6 (ok_b h (fun p8 h => ?_)))
            refine ax_ifb_eq 77 61 d_MO_agent_58 rfl rfl (fun hc => ?_) (fun hc => ?_)
            · have h := ok_f (bf hc) h
              refine ax_iconst 0 d_MO_agent_77 ic_0 78 rfl ?_
              exact ax_iret rfl d_MO_agent_78 (hR (0, p8.2) (ok_some h))
            · have h := ok_t hc h
              refine ax_goto 73 d_MO_agent_61 rfl ?_
              exact ax_sub [] rfl (c_MO_agent_J73 p8.2 (fun p hp => hR p hp) h)
      · have h := ok_f (bf hc) h
        refine ax_iconst (-1) d_MO_agent_36 ic_m1 37 rfl ?_
        exact ax_iret rfl d_MO_agent_37 (hR ((-1), p1.2) (ok_some h))
set_option maxRecDepth 4000 in
theorem zc_MO_isMove (v1 : Int32) (v2 : Int32) (m : zM)  {Q : Option Value → zM → Prop} (h : ok (f_MO_isMove v1 v2 m) (fun p => Q (some (.int (b2i p))) m)) : zc gM s_MO_isMove [.ref 0, .int v1, .int v2] m Q := by
  refine zc_of rfl (Nat.le_of_ble_eq_true rfl) ?_
  show AX gM s_MO_isMove 0 [(0, .ref 0), (1, .int v1), (2, .int v2)] [] m Q
  obtain ⟨K, hK⟩ : ∃ K : Bool → Prop, K = (fun p : Bool => Q (some (.int (b2i p))) m) := ⟨_, rfl⟩
  have hR : ∀ p : Bool, K p → Q (some (.int (b2i p))) m := fun p hp => by rw [hK] at hp; exact hp
  replace h : ok (f_MO_isMove v1 v2 m) (fun p : Bool => Q (some (.int (b2i p))) m) := h
  rw [← hK] at h
  unfold f_MO_isMove at h
  refine ax_iload_n 1 d_MO_isMove_0 rfl rfl 1 rfl ?_
  refine ax_i2l d_MO_isMove_1 2 rfl ?_
  refine ax_lconst 0 d_MO_isMove_2 lc_0 3 rfl ?_
  refine ax_aload_n 0 d_MO_isMove_3 rfl rfl 4 rfl ?_
  refine ax_callV mv_MO_400 ⟨Nat.le_of_ble_eq_true rfl, Nat.le_of_ble_eq_true rfl⟩ ⟨rfl, rfl⟩ [] [.ref 0, .long 0, .long v1.toInt64] rfl rfl (rc_m_0 _) (Nat.le_of_ble_eq_true rfl) d_MO_isMove_4 7 rfl (zc_MO_rules m (ok_b h (fun r1 h => ?_)))
  refine ax_iconst 1 d_MO_isMove_7 ic_1 8 rfl ?_
  refine ax_isub d_MO_isMove_8 9 rfl ?_
  refine ax_i2l d_MO_isMove_9 10 rfl ?_
  refine ax_callS mv_MO_210 ⟨Nat.le_of_ble_eq_true rfl, Nat.le_of_ble_eq_true rfl⟩ ⟨rfl, rfl⟩ [.long v1.toInt64, .long 0, .long ((r1 - 1).toInt64)] [.long ((r1 - 1).toInt64), .long 0, .long v1.toInt64] rfl rfl (Nat.le_of_ble_eq_true rfl) d_MO_isMove_10 13 rfl (zc_MO_isIn v1.toInt64 0 ((r1 - 1).toInt64) m ?_)
  refine ax_ifb_eq 36 16 d_MO_isMove_13 rfl rfl (fun hc => ?_) (fun hc => ?_)
  · have h := ok_f (bf hc) h
    refine ax_iconst 0 d_MO_isMove_36 ic_0 37 rfl ?_
    exact ax_zret (b := false) rfl d_MO_isMove_37 (hR false (ok_some h))
  · have h := ok_t hc h
    refine ax_iload_n 2 d_MO_isMove_16 rfl rfl 17 rfl ?_
    refine ax_i2l d_MO_isMove_17 18 rfl ?_
    refine ax_lconst 0 d_MO_isMove_18 lc_0 19 rfl ?_
    refine ax_aload_n 0 d_MO_isMove_19 rfl rfl 20 rfl ?_
    refine ax_callV mv_MO_358 ⟨Nat.le_of_ble_eq_true rfl, Nat.le_of_ble_eq_true rfl⟩ ⟨rfl, rfl⟩ [] [.ref 0, .long 0, .long v2.toInt64] rfl rfl (rc_m_0 _) (Nat.le_of_ble_eq_true rfl) d_MO_isMove_20 23 rfl (zc_MO_agents m (ok_b h (fun r2 h => ?_)))
    refine ax_iconst 1 d_MO_isMove_23 ic_1 24 rfl ?_
    refine ax_isub d_MO_isMove_24 25 rfl ?_
    refine ax_i2l d_MO_isMove_25 26 rfl ?_
    refine ax_callS mv_MO_210 ⟨Nat.le_of_ble_eq_true rfl, Nat.le_of_ble_eq_true rfl⟩ ⟨rfl, rfl⟩ [.long v2.toInt64, .long 0, .long ((r2 - 1).toInt64)] [.long ((r2 - 1).toInt64), .long 0, .long v2.toInt64] rfl rfl (Nat.le_of_ble_eq_true rfl) d_MO_isMove_26 29 rfl (zc_MO_isIn v2.toInt64 0 ((r2 - 1).toInt64) m ?_)
    refine ax_ifb_eq 36 32 d_MO_isMove_29 rfl rfl (fun hc => ?_) (fun hc => ?_)
    · have h := ok_f (bf hc) h
      refine ax_iconst 0 d_MO_isMove_36 ic_0 37 rfl ?_
      exact ax_zret (b := false) rfl d_MO_isMove_37 (hR false (ok_some h))
    · have h := ok_t hc h
      refine ax_iconst 1 d_MO_isMove_32 ic_1 33 rfl ?_
      refine ax_goto 37 d_MO_isMove_33 rfl ?_
      exact ax_zret (b := true) rfl d_MO_isMove_37 (hR true (ok_some h))
set_option maxRecDepth 4000 in
theorem zc_MO_leads (v1 : Int32) (v2 : Int32) (v3 : Int32) (m : zM)  {Q : Option Value → zM → Prop} (h : ok (f_MO_leads v1 v2 v3 m) (fun p => Q (some (.int p.1)) p.2)) : zc gM s_MO_leads [.ref 0, .int v1, .int v2, .int v3] m Q := by
  refine zc_of rfl (Nat.le_of_ble_eq_true rfl) ?_
  show AX gM s_MO_leads 0 [(0, .ref 0), (1, .int v1), (2, .int v2), (3, .int v3)] [] m Q
  obtain ⟨K, hK⟩ : ∃ K : (Int32 × zM) → Prop, K = (fun p : Int32 × zM => Q (some (.int p.1)) p.2) := ⟨_, rfl⟩
  have hR : ∀ p : Int32 × zM, K p → Q (some (.int p.1)) p.2 := fun p hp => by rw [hK] at hp; exact hp
  replace h : ok (f_MO_leads v1 v2 v3 m) (fun p : Int32 × zM => Q (some (.int p.1)) p.2) := h
  rw [← hK] at h
  unfold f_MO_leads at h
  refine ax_aload_n 0 d_MO_leads_0 rfl rfl 1 rfl ?_
  refine ax_iload_n 1 d_MO_leads_1 rfl rfl 2 rfl ?_
  refine ax_callV mv_MO_526 ⟨Nat.le_of_ble_eq_true rfl, Nat.le_of_ble_eq_true rfl⟩ ⟨rfl, rfl⟩ [.int v1] [.int v1, .ref 0] rfl rfl (rc_m_0 _) (Nat.le_of_ble_eq_true rfl) d_MO_leads_2 5 rfl (zc_MO_isWorld v1 m (ok_b h (fun p1 h => ?_)))
  refine ax_ifb_eq 35 8 d_MO_leads_5 rfl rfl (fun hc => ?_) (fun hc => ?_)
  · have h := ok_f (bf hc) h
    refine ax_iconst (-1) d_MO_leads_35 ic_m1 36 rfl ?_
    exact ax_iret rfl d_MO_leads_36 (hR ((-1), p1.2) (ok_some h))
  · have h := ok_t hc h
    refine ax_aload_n 0 d_MO_leads_8 rfl rfl 9 rfl ?_
    refine ax_iload_n 2 d_MO_leads_9 rfl rfl 10 rfl ?_
    refine ax_iload_n 3 d_MO_leads_10 rfl rfl 11 rfl ?_
    refine ax_callV mv_MO_532 ⟨Nat.le_of_ble_eq_true rfl, Nat.le_of_ble_eq_true rfl⟩ ⟨rfl, rfl⟩ [.int v2, .int v3] [.int v3, .int v2, .ref 0] rfl rfl (rc_m_0 _) (Nat.le_of_ble_eq_true rfl) d_MO_leads_11 14 rfl (zc_MO_isMove v2 v3 p1.2 (ok_b h (fun r2 h => ?_)))
    refine ax_ifb_eq 35 17 d_MO_leads_14 rfl rfl (fun hc => ?_) (fun hc => ?_)
    · have h := ok_f (bf hc) h
      refine ax_iconst (-1) d_MO_leads_35 ic_m1 36 rfl ?_
      exact ax_iret rfl d_MO_leads_36 (hR ((-1), p1.2) (ok_some h))
    · have h := ok_t hc h
      refine ax_aload_n 0 d_MO_leads_17 rfl rfl 18 rfl ?_
      refine ax_getR fl_MO_107 m_0 rfl (rm_0_45 _) d_MO_leads_18 21 rfl ?_
      refine ax_bipush 64 d_MO_leads_21 bp_64 23 rfl ?_
      refine ax_iload_n 1 d_MO_leads_23 rfl rfl 24 rfl ?_
      refine ax_imul d_MO_leads_24 25 rfl ?_
      refine ax_iconst 4 d_MO_leads_25 ic_4 26 rfl ?_
      refine ax_iload_n 2 d_MO_leads_26 rfl rfl 27 rfl ?_
      refine ax_imul d_MO_leads_27 28 rfl ?_
      refine ax_iadd d_MO_leads_28 29 rfl ?_
      refine ax_iload_n 3 d_MO_leads_29 rfl rfl 30 rfl ?_
      refine ax_iadd d_MO_leads_30 31 rfl ?_
      refine ax_iaload m_30 d_MO_leads_31 32 rfl h (fun i3 h => ?_)
      refine ax_goto 36 d_MO_leads_32 rfl ?_
      exact ax_iret rfl d_MO_leads_36 (hR ((p1.2.1 30 i3), p1.2) (ok_some h))
set_option maxRecDepth 4000 in
theorem c_MO_measures_J142 (v2 : Bool) (m : zM)  {Q : Option Value → zM → Prop} {K : ((zM) ⊕ (Bool × zM)) → Prop} (hR : ∀ p : zM, K (.inl p) → Q none p) (h0 : ∀ s : Bool × zM, K (.inr s) → AX gM s_MO_measures 36 [(0, .ref 0), (2, .int (b2i s.1))] [] s.2 Q) (h : ok (f_MO_measures_J142 v2 m) K) : AX gM s_MO_measures 142 [(0, .ref 0), (2, .int (b2i v2))] [] m Q := by
  unfold f_MO_measures_J142 at h
  refine ax_goto 36 d_MO_measures_142 rfl ?_
  exact ax_sub [0, 1] rfl (h0 (v2, m) (ok_some h))
set_option maxRecDepth 4000 in
theorem c_MO_measures_J136 (v2 : Bool) (v3 : Int32) (m : zM)  {Q : Option Value → zM → Prop} {K : (((zM) ⊕ (Bool × zM)) ⊕ (Bool × Int32 × zM)) → Prop} (hR : ∀ p : zM, K (.inl (.inl p)) → Q none p) (h0 : ∀ s : Bool × zM, K (.inl (.inr s)) → AX gM s_MO_measures 36 [(0, .ref 0), (2, .int (b2i s.1))] [] s.2 Q) (h1 : ∀ s : Bool × Int32 × zM, K (.inr s) → AX gM s_MO_measures 49 [(0, .ref 0), (2, .int (b2i s.1)), (3, .int s.2.1)] [] s.2.2 Q) (h : ok (f_MO_measures_J136 v2 v3 m) K) : AX gM s_MO_measures 136 [(0, .ref 0), (2, .int (b2i v2)), (3, .int v3)] [] m Q := by
  unfold f_MO_measures_J136 at h
  refine ax_iinc (ls1 := [(3, .int (v3 + (-1))), (0, .ref 0), (2, .int (b2i v2))]) 2 (-1) d_MO_measures_136 rfl ic_m1 (Nat.le_of_ble_eq_true rfl) rfl 139 rfl ?_
  refine ax_goto 49 d_MO_measures_139 rfl ?_
  exact ax_sub [1, 2, 0] rfl (h1 (v2, (v3 + (-1)), m) (ok_some h))
set_option maxRecDepth 4000 in
theorem c_MO_measures_J130 (v2 : Bool) (v3 : Int32) (v4 : Int32) (m : zM)  {Q : Option Value → zM → Prop} {K : ((((zM) ⊕ (Bool × zM)) ⊕ (Bool × Int32 × zM)) ⊕ (Bool × Int32 × zM)) → Prop} (hR : ∀ p : zM, K (.inl (.inl (.inl p))) → Q none p) (h0 : ∀ s : Bool × zM, K (.inl (.inl (.inr s))) → AX gM s_MO_measures 36 [(0, .ref 0), (2, .int (b2i s.1))] [] s.2 Q) (h1 : ∀ s : Bool × Int32 × zM, K (.inl (.inr s)) → AX gM s_MO_measures 49 [(0, .ref 0), (2, .int (b2i s.1)), (3, .int s.2.1)] [] s.2.2 Q) (h2 : ∀ s : Bool × Int32 × zM, K (.inr s) → AX gM s_MO_measures 59 [(0, .ref 0), (2, .int (b2i s.1)), (3, .int v3), (4, .int s.2.1)] [] s.2.2 Q) (h : ok (f_MO_measures_J130 v2 v3 v4 m) K) : AX gM s_MO_measures 130 [(0, .ref 0), (2, .int (b2i v2)), (3, .int v3), (4, .int v4)] [] m Q := by
  unfold f_MO_measures_J130 at h
  refine ax_iinc (ls1 := [(4, .int (v4 + 1)), (0, .ref 0), (2, .int (b2i v2)), (3, .int v3)]) 3 1 d_MO_measures_130 rfl ic_1 (Nat.le_of_ble_eq_true rfl) rfl 133 rfl ?_
  refine ax_goto 59 d_MO_measures_133 rfl ?_
  exact ax_sub [1, 2, 3, 0] rfl (h2 (v2, (v4 + 1), m) (ok_some h))
set_option maxRecDepth 4000 in
theorem c_MO_measures_B59 (v2 : Bool) (v3 : Int32) (v4 : Int32) (m : zM)  {Q : Option Value → zM → Prop} {K : ((((zM) ⊕ (Bool × zM)) ⊕ (Bool × Int32 × zM)) ⊕ (Bool × Int32 × zM)) → Prop} (hR : ∀ p : zM, K (.inl (.inl (.inl p))) → Q none p) (h0 : ∀ s : Bool × zM, K (.inl (.inl (.inr s))) → AX gM s_MO_measures 36 [(0, .ref 0), (2, .int (b2i s.1))] [] s.2 Q) (h1 : ∀ s : Bool × Int32 × zM, K (.inl (.inr s)) → AX gM s_MO_measures 49 [(0, .ref 0), (2, .int (b2i s.1)), (3, .int s.2.1)] [] s.2.2 Q) (h2 : ∀ s : Bool × Int32 × zM, K (.inr s) → AX gM s_MO_measures 59 [(0, .ref 0), (2, .int (b2i s.1)), (3, .int v3), (4, .int s.2.1)] [] s.2.2 Q) (h : ok (f_MO_measures_B59 v2 v3 v4 m) K) : AX gM s_MO_measures 59 [(0, .ref 0), (2, .int (b2i v2)), (3, .int v3), (4, .int v4)] [] m Q := by
  unfold f_MO_measures_B59 at h
  refine ax_iload 3 d_MO_measures_59 rfl 61 rfl ?_
  refine ax_bipush 64 d_MO_measures_61 bp_64 63 rfl ?_
  refine ax_iload_n 2 d_MO_measures_63 rfl rfl 64 rfl ?_
  refine ax_imul d_MO_measures_64 65 rfl ?_
  refine ax_bipush 64 d_MO_measures_65 bp_64 67 rfl ?_
  refine ax_iadd d_MO_measures_67 68 rfl ?_
  refine ax_icmp_ge 136 71 d_MO_measures_68 rfl rfl (fun hc => ?_) (fun hc => ?_)
  · have h := ok_t hc h
    exact ax_sub [0, 1, 2] rfl (c_MO_measures_J136 v2 v3 m (fun p hp => hR p hp) (fun s hs => h0 s hs) (fun s hs => h1 s hs) (ok_z h))
  · have h := ok_f hc h
    refine ax_aload_n 0 d_MO_measures_71 rfl rfl 72 rfl ?_
    refine ax_getR fl_MO_107 m_0 rfl (rm_0_45 _) d_MO_measures_72 75 rfl ?_
    refine ax_iload 3 d_MO_measures_75 rfl 77 rfl ?_
    refine ax_iaload m_30 d_MO_measures_77 78 rfl h (fun i1 h => ?_)
    refine ax_iconst (-1) d_MO_measures_78 ic_m1 79 rfl ?_
    refine ax_icmp_eq 130 82 d_MO_measures_79 rfl rfl (fun hc => ?_) (fun hc => ?_)
    · have h := ok_t hc h
      exact ax_sub [0, 1, 2, 3] rfl (c_MO_measures_J130 v2 v3 v4 m (fun p hp => hR p hp) (fun s hs => h0 s hs) (fun s hs => h1 s hs) (fun s hs => h2 s hs) h)
    · have h := ok_f hc h
      refine ax_aload_n 0 d_MO_measures_82 rfl rfl 83 rfl ?_
      refine ax_getR fl_MO_169 m_0 rfl (rm_0_70 _) d_MO_measures_83 86 rfl ?_
      refine ax_aload_n 0 d_MO_measures_86 rfl rfl 87 rfl ?_
      refine ax_getR fl_MO_107 m_0 rfl (rm_0_45 _) d_MO_measures_87 90 rfl ?_
      refine ax_iload 3 d_MO_measures_90 rfl 92 rfl ?_
      refine ax_iaload m_30 d_MO_measures_92 93 rfl h (fun i2 h => ?_)
      refine ax_iaload m_50 d_MO_measures_93 94 rfl h (fun i3 h => ?_)
      refine ax_iconst 1 d_MO_measures_94 ic_1 95 rfl ?_
      refine ax_iadd d_MO_measures_95 96 rfl ?_
      refine ax_aload_n 0 d_MO_measures_96 rfl rfl 97 rfl ?_
      refine ax_getR fl_MO_169 m_0 rfl (rm_0_70 _) d_MO_measures_97 100 rfl ?_
      refine ax_iload_n 2 d_MO_measures_100 rfl rfl 101 rfl ?_
      refine ax_iaload m_50 d_MO_measures_101 102 rfl h (fun i4 h => ?_)
      refine ax_icmp_lt 108 105 d_MO_measures_102 rfl rfl (fun hc => ?_) (fun hc => ?_)
      · have h := ok_t hc h
        refine ax_aload_n 0 d_MO_measures_108 rfl rfl 109 rfl ?_
        refine ax_getR fl_MO_169 m_0 rfl (rm_0_70 _) d_MO_measures_109 112 rfl ?_
        refine ax_iload_n 2 d_MO_measures_112 rfl rfl 113 rfl ?_
        refine ax_aload_n 0 d_MO_measures_113 rfl rfl 114 rfl ?_
        refine ax_getR fl_MO_169 m_0 rfl (rm_0_70 _) d_MO_measures_114 117 rfl ?_
        refine ax_aload_n 0 d_MO_measures_117 rfl rfl 118 rfl ?_
        refine ax_getR fl_MO_107 m_0 rfl (rm_0_45 _) d_MO_measures_118 121 rfl ?_
        refine ax_iload 3 d_MO_measures_121 rfl 123 rfl ?_
        refine ax_iaload m_30 d_MO_measures_123 124 rfl h (fun i5 h => ?_)
        refine ax_iaload m_50 d_MO_measures_124 125 rfl h (fun i6 h => ?_)
        refine ax_iconst 1 d_MO_measures_125 ic_1 126 rfl ?_
        refine ax_iadd d_MO_measures_126 127 rfl ?_
        refine ax_iastore m_50 d_MO_measures_127 128 rfl h (fun i7 m8 h => ?_)
        refine ax_iconst 1 d_MO_measures_128 ic_1 129 rfl ?_
        refine ax_istore_n (ls1 := [(2, .int 1), (0, .ref 0), (3, .int v3), (4, .int v4)]) d_MO_measures_129 rfl (Nat.le_of_ble_eq_true rfl) rfl 130 rfl ?_
        exact ax_sub [1, 0, 2, 3] rfl (c_MO_measures_J130 true v3 v4 m8 (fun p hp => hR p hp) (fun s hs => h0 s hs) (fun s hs => h1 s hs) (fun s hs => h2 s hs) h)
      · have h := ok_f hc h
        refine ax_goto 130 d_MO_measures_105 rfl ?_
        exact ax_sub [0, 1, 2, 3] rfl (c_MO_measures_J130 v2 v3 v4 m (fun p hp => hR p hp) (fun s hs => h0 s hs) (fun s hs => h1 s hs) (fun s hs => h2 s hs) h)
theorem c_MO_measures_L59 (v2 : Bool) (v3 : Int32) (v4 : Int32) (m : zM)  {Q : Option Value → zM → Prop} {K : (((zM) ⊕ (Bool × zM)) ⊕ (Bool × Int32 × zM)) → Prop} (hR : ∀ p : zM, K (.inl (.inl p)) → Q none p) (h0 : ∀ s : Bool × zM, K (.inl (.inr s)) → AX gM s_MO_measures 36 [(0, .ref 0), (2, .int (b2i s.1))] [] s.2 Q) (h1 : ∀ s : Bool × Int32 × zM, K (.inr s) → AX gM s_MO_measures 49 [(0, .ref 0), (2, .int (b2i s.1)), (3, .int s.2.1)] [] s.2.2 Q) (h : ok (f_MO_measures_L59 v2 v3 v4 m) K) : AX gM s_MO_measures 59 [(0, .ref 0), (2, .int (b2i v2)), (3, .int v3), (4, .int v4)] [] m Q :=
  ok_lp (K := K) (G := fun s : Bool × Int32 × zM => AX gM s_MO_measures 59 [(0, .ref 0), (2, .int (b2i s.1)), (3, .int v3), (4, .int s.2.1)] [] s.2.2 Q) (fun s h => c_MO_measures_B59 s.1 v3 s.2.1 s.2.2  (fun p hp => hR p hp) (fun s hs => h0 s hs) (fun s hs => h1 s hs) (fun s hs => hs) h) FU (v2, v4, m) h
set_option maxRecDepth 4000 in
theorem c_MO_measures_B49 (v2 : Bool) (v3 : Int32) (m : zM)  {Q : Option Value → zM → Prop} {K : (((zM) ⊕ (Bool × zM)) ⊕ (Bool × Int32 × zM)) → Prop} (hR : ∀ p : zM, K (.inl (.inl p)) → Q none p) (h0 : ∀ s : Bool × zM, K (.inl (.inr s)) → AX gM s_MO_measures 36 [(0, .ref 0), (2, .int (b2i s.1))] [] s.2 Q) (h1 : ∀ s : Bool × Int32 × zM, K (.inr s) → AX gM s_MO_measures 49 [(0, .ref 0), (2, .int (b2i s.1)), (3, .int s.2.1)] [] s.2.2 Q) (h : ok (f_MO_measures_B49 v2 v3 m) K) : AX gM s_MO_measures 49 [(0, .ref 0), (2, .int (b2i v2)), (3, .int v3)] [] m Q := by
  unfold f_MO_measures_B49 at h
  refine ax_iload_n 2 d_MO_measures_49 rfl rfl 50 rfl ?_
  refine ax_if_lt 142 53 d_MO_measures_50 rfl rfl (fun hc => ?_) (fun hc => ?_)
  · have h := ok_t hc h
    exact ax_sub [0, 1] rfl (c_MO_measures_J142 v2 m (fun p hp => hR p hp) (fun s hs => h0 s hs) (ok_z h))
  · have h := ok_f hc h
    refine ax_bipush 64 d_MO_measures_53 bp_64 55 rfl ?_
    refine ax_iload_n 2 d_MO_measures_55 rfl rfl 56 rfl ?_
    refine ax_imul d_MO_measures_56 57 rfl ?_
    refine ax_istore (ls1 := [(4, .int (64 * v3)), (0, .ref 0), (2, .int (b2i v2)), (3, .int v3)]) d_MO_measures_57 (Nat.le_of_ble_eq_true rfl) rfl 59 rfl ?_
    exact ax_sub [1, 2, 3, 0] rfl (c_MO_measures_L59 v2 v3 (64 * v3) m (fun p hp => hR p hp) (fun s hs => h0 s hs) (fun s hs => h1 s hs) h)
theorem c_MO_measures_L49 (v2 : Bool) (v3 : Int32) (m : zM)  {Q : Option Value → zM → Prop} {K : ((zM) ⊕ (Bool × zM)) → Prop} (hR : ∀ p : zM, K (.inl p) → Q none p) (h0 : ∀ s : Bool × zM, K (.inr s) → AX gM s_MO_measures 36 [(0, .ref 0), (2, .int (b2i s.1))] [] s.2 Q) (h : ok (f_MO_measures_L49 v2 v3 m) K) : AX gM s_MO_measures 49 [(0, .ref 0), (2, .int (b2i v2)), (3, .int v3)] [] m Q :=
  ok_lp (K := K) (G := fun s : Bool × Int32 × zM => AX gM s_MO_measures 49 [(0, .ref 0), (2, .int (b2i s.1)), (3, .int s.2.1)] [] s.2.2 Q) (fun s h => c_MO_measures_B49 s.1 s.2.1 s.2.2  (fun p hp => hR p hp) (fun s hs => h0 s hs) (fun s hs => hs) h) FU (v2, v3, m) h
set_option maxRecDepth 4000 in
theorem c_MO_measures_B36 (v2 : Bool) (m : zM)  {Q : Option Value → zM → Prop} {K : ((zM) ⊕ (Bool × zM)) → Prop} (hR : ∀ p : zM, K (.inl p) → Q none p) (h0 : ∀ s : Bool × zM, K (.inr s) → AX gM s_MO_measures 36 [(0, .ref 0), (2, .int (b2i s.1))] [] s.2 Q) (h : ok (f_MO_measures_B36 v2 m) K) : AX gM s_MO_measures 36 [(0, .ref 0), (2, .int (b2i v2))] [] m Q := by
  unfold f_MO_measures_B36 at h
  refine ax_iload_n 1 d_MO_measures_36 rfl rfl 37 rfl ?_
  refine ax_ifb_eq 145 40 d_MO_measures_37 rfl rfl (fun hc => ?_) (fun hc => ?_)
  · have h := ok_f (bf hc) h
    exact ax_vret rfl d_MO_measures_145 (hR m (ok_some h))
  · have h := ok_t hc h
    refine ax_iconst 0 d_MO_measures_40 ic_0 41 rfl ?_
    refine ax_istore_n (ls1 := [(2, .int 0), (0, .ref 0)]) d_MO_measures_41 rfl (Nat.le_of_ble_eq_true rfl) rfl 42 rfl ?_
    refine ax_aload_n 1 d_MO_measures_42 rfl rfl 43 rfl ?_
    refine ax_getI fl_MO_380 m_0 rfl d_MO_measures_43 46 rfl ?_
    refine ax_iconst 1 d_MO_measures_46 ic_1 47 rfl ?_
    refine ax_isub d_MO_measures_47 48 rfl ?_
    refine ax_istore_n (ls1 := [(3, .int ((m.1 0 41) - 1)), (2, .int 0), (0, .ref 0)]) d_MO_measures_48 rfl (Nat.le_of_ble_eq_true rfl) rfl 49 rfl ?_
    exact ax_sub [2, 1, 0] rfl (c_MO_measures_L49 false ((m.1 0 41) - 1) m (fun p hp => hR p hp) (fun s hs => h0 s hs) h)
theorem c_MO_measures_L36 (v2 : Bool) (m : zM)  {Q : Option Value → zM → Prop} {K : zM → Prop} (hR : ∀ p : zM, K (p) → Q none p)  (h : ok (f_MO_measures_L36 v2 m) K) : AX gM s_MO_measures 36 [(0, .ref 0), (2, .int (b2i v2))] [] m Q :=
  ok_lp (K := K) (G := fun s : Bool × zM => AX gM s_MO_measures 36 [(0, .ref 0), (2, .int (b2i s.1))] [] s.2 Q) (fun s h => c_MO_measures_B36 s.1 s.2  (fun p hp => hR p hp) (fun s hs => hs) h) FU (v2, m) h
set_option maxRecDepth 4000 in
theorem c_MO_measures_J34  (m : zM)  {Q : Option Value → zM → Prop} {K : zM → Prop} (hR : ∀ p : zM, K (p) → Q none p)  (h : ok (f_MO_measures_J34  m) K) : AX gM s_MO_measures 34 [(0, .ref 0)] [] m Q := by
  unfold f_MO_measures_J34 at h
  refine ax_iconst 1 d_MO_measures_34 ic_1 35 rfl ?_
  refine ax_istore_n (ls1 := [(2, .int 1), (0, .ref 0)]) d_MO_measures_35 rfl (Nat.le_of_ble_eq_true rfl) rfl 36 rfl ?_
  exact ax_sub [1, 0] rfl (c_MO_measures_L36 true m (fun p hp => hR p hp) h)
set_option maxRecDepth 4000 in
theorem c_MO_measures_J27 (v1 : Int32) (v2 : Int32) (t0 : Nat) (t1 : Int32) (t2 : Int32) (m : zM) (ht0 : gM.1[t0]? = some (.inr (0, zlen gM t0))) {Q : Option Value → zM → Prop} {K : ((zM) ⊕ (Int32 × zM)) → Prop} (hR : ∀ p : zM, K (.inl p) → Q none p) (h0 : ∀ s : Int32 × zM, K (.inr s) → AX gM s_MO_measures 2 [(0, .ref 0), (1, .int v1), (2, .int s.1)] [] s.2 Q) (h : ok (f_MO_measures_J27 v1 v2 t0 t1 t2 m) K) : AX gM s_MO_measures 27 [(0, .ref 0), (1, .int v1), (2, .int v2)] [.int t2, .int t1, .ref t0] m Q := by
  unfold f_MO_measures_J27 at h
  refine ax_iastore ht0 d_MO_measures_27 28 rfl h (fun i9 m10 h => ?_)
  refine ax_iinc (ls1 := [(2, .int (v2 + 1)), (0, .ref 0), (1, .int v1)]) 2 1 d_MO_measures_28 rfl ic_1 (Nat.le_of_ble_eq_true rfl) rfl 31 rfl ?_
  refine ax_goto 2 d_MO_measures_31 rfl ?_
  exact ax_sub [1, 2, 0] rfl (h0 ((v2 + 1), m10) (ok_some h))
set_option maxRecDepth 4000 in
theorem c_MO_measures_B2 (v1 : Int32) (v2 : Int32) (m : zM)  {Q : Option Value → zM → Prop} {K : ((zM) ⊕ (Int32 × zM)) → Prop} (hR : ∀ p : zM, K (.inl p) → Q none p) (h0 : ∀ s : Int32 × zM, K (.inr s) → AX gM s_MO_measures 2 [(0, .ref 0), (1, .int v1), (2, .int s.1)] [] s.2 Q) (h : ok (f_MO_measures_B2 v1 v2 m) K) : AX gM s_MO_measures 2 [(0, .ref 0), (1, .int v1), (2, .int v2)] [] m Q := by
  unfold f_MO_measures_B2 at h
  refine ax_iload_n 2 d_MO_measures_2 rfl rfl 3 rfl ?_
  refine ax_aload_n 0 d_MO_measures_3 rfl rfl 4 rfl ?_
  refine ax_getI fl_MO_380 m_0 rfl d_MO_measures_4 7 rfl ?_
  refine ax_icmp_ge 34 10 d_MO_measures_7 rfl rfl (fun hc => ?_) (fun hc => ?_)
  · have h := ok_t hc h
    exact ax_sub [0] rfl (c_MO_measures_J34 m (fun p hp => hR p hp) (ok_z h))
  · have h := ok_f hc h
    refine ax_aload_n 0 d_MO_measures_10 rfl rfl 11 rfl ?_
    refine ax_getR fl_MO_169 m_0 rfl (rm_0_70 _) d_MO_measures_11 14 rfl ?_
    refine ax_iload_n 2 d_MO_measures_14 rfl rfl 15 rfl ?_
    refine ax_iload_n 2 d_MO_measures_15 rfl rfl 16 rfl ?_
    refine ax_iload_n 1 d_MO_measures_16 rfl rfl 17 rfl ?_
    refine ax_icmp_ne 24 20 d_MO_measures_17 rfl rfl (fun hc => ?_) (fun hc => ?_)
    · have h := ok_f hc h
      refine ax_ldcw 100000 wk_MO_535 d_MO_measures_24 27 rfl ?_
      exact ax_sub [0, 1, 2] rfl (c_MO_measures_J27 v1 v2 50 v2 100000 m m_50z (fun p hp => hR p hp) (fun s hs => h0 s hs) h)
    · have h := ok_t hc h
      refine ax_iconst 0 d_MO_measures_20 ic_0 21 rfl ?_
      refine ax_goto 27 d_MO_measures_21 rfl ?_
      exact ax_sub [0, 1, 2] rfl (c_MO_measures_J27 v1 v2 50 v2 0 m m_50z (fun p hp => hR p hp) (fun s hs => h0 s hs) h)
theorem c_MO_measures_L2 (v1 : Int32) (v2 : Int32) (m : zM)  {Q : Option Value → zM → Prop} {K : zM → Prop} (hR : ∀ p : zM, K (p) → Q none p)  (h : ok (f_MO_measures_L2 v1 v2 m) K) : AX gM s_MO_measures 2 [(0, .ref 0), (1, .int v1), (2, .int v2)] [] m Q :=
  ok_lp (K := K) (G := fun s : Int32 × zM => AX gM s_MO_measures 2 [(0, .ref 0), (1, .int v1), (2, .int s.1)] [] s.2 Q) (fun s h => c_MO_measures_B2 v1 s.1 s.2  (fun p hp => hR p hp) (fun s hs => hs) h) FU (v2, m) h
set_option maxRecDepth 4000 in
theorem zc_MO_measures (v1 : Int32) (m : zM)  {Q : Option Value → zM → Prop} (h : ok (f_MO_measures v1 m) (fun p => Q none p)) : zc gM s_MO_measures [.ref 0, .int v1] m Q := by
  refine zc_of rfl (Nat.le_of_ble_eq_true rfl) ?_
  show AX gM s_MO_measures 0 [(0, .ref 0), (1, .int v1)] [] m Q
  obtain ⟨K, hK⟩ : ∃ K : zM → Prop, K = (fun p : zM => Q none p) := ⟨_, rfl⟩
  have hR : ∀ p : zM, K p → Q none p := fun p hp => by rw [hK] at hp; exact hp
  replace h : ok (f_MO_measures v1 m) (fun p : zM => Q none p) := h
  rw [← hK] at h
  unfold f_MO_measures at h
  refine ax_iconst 0 d_MO_measures_0 ic_0 1 rfl ?_
  refine ax_istore_n (ls1 := [(2, .int 0), (0, .ref 0), (1, .int v1)]) d_MO_measures_1 rfl (Nat.le_of_ble_eq_true rfl) rfl 2 rfl ?_
  exact ax_sub [1, 2, 0] rfl (c_MO_measures_L2 v1 0 m (fun p hp => hR p hp) h)
set_option maxRecDepth 4000 in
theorem c_MO_foldedOf_J38  (m : zM)  {Q : Option Value → zM → Prop} {K : (Int32 × zM) → Prop} (hR : ∀ p : Int32 × zM, K (p) → Q (some (.int p.1)) p.2)  (h : ok (f_MO_foldedOf_J38  m) K) : AX gM s_MO_foldedOf 38 [(0, .ref 0)] [] m Q := by
  unfold f_MO_foldedOf_J38 at h
  refine ax_aload_n 0 d_MO_foldedOf_38 rfl rfl 39 rfl ?_
  refine ax_callV mv_MO_422 ⟨Nat.le_of_ble_eq_true rfl, Nat.le_of_ble_eq_true rfl⟩ ⟨rfl, rfl⟩ [] [.ref 0] rfl rfl (rc_m_0 _) (Nat.le_of_ble_eq_true rfl) d_MO_foldedOf_39 42 rfl (zc_MO_folds m (ok_b h (fun p6 h => ?_)))
  refine ax_aload_n 0 d_MO_foldedOf_42 rfl rfl 43 rfl ?_
  refine ax_aload_n 0 d_MO_foldedOf_43 rfl rfl 44 rfl ?_
  refine ax_callV mv_MO_392 ⟨Nat.le_of_ble_eq_true rfl, Nat.le_of_ble_eq_true rfl⟩ ⟨rfl, rfl⟩ [] [.ref 0, .ref 0] rfl rfl (rc_m_0 _) (Nat.le_of_ble_eq_true rfl) d_MO_foldedOf_44 47 rfl (zc_MO_shut p6 (ok_b h (fun r7 h => ?_)))
  refine ax_callV mv_MO_383 ⟨Nat.le_of_ble_eq_true rfl, Nat.le_of_ble_eq_true rfl⟩ ⟨rfl, rfl⟩ [.long r7] [.long r7, .ref 0] rfl rfl (rc_m_0 _) (Nat.le_of_ble_eq_true rfl) d_MO_foldedOf_47 50 rfl (zc_MO_found r7 p6 (ok_b h (fun r8 h => ?_)))
  exact ax_iret rfl d_MO_foldedOf_50 (hR (r8, p6) (ok_some h))
set_option maxRecDepth 4000 in
theorem c_MO_foldedOf_B15 (v3 : Int32) (m : zM)  {Q : Option Value → zM → Prop} {K : ((Int32 × zM) ⊕ (Int32 × zM)) → Prop} (hR : ∀ p : Int32 × zM, K (.inl p) → Q (some (.int p.1)) p.2) (h0 : ∀ s : Int32 × zM, K (.inr s) → AX gM s_MO_foldedOf 15 [(0, .ref 0), (3, .int s.1)] [] s.2 Q) (h : ok (f_MO_foldedOf_B15 v3 m) K) : AX gM s_MO_foldedOf 15 [(0, .ref 0), (3, .int v3)] [] m Q := by
  unfold f_MO_foldedOf_B15 at h
  refine ax_iload_n 1 d_MO_foldedOf_15 rfl rfl 16 rfl ?_
  refine ax_iconst 4 d_MO_foldedOf_16 ic_4 17 rfl ?_
  refine ax_icmp_ge 38 20 d_MO_foldedOf_17 rfl rfl (fun hc => ?_) (fun hc => ?_)
  · have h := ok_t hc h
    exact ax_sub [0] rfl (c_MO_foldedOf_J38 m (fun p hp => hR p hp) (ok_z h))
  · have h := ok_f hc h
    refine ax_aload_n 0 d_MO_foldedOf_20 rfl rfl 21 rfl ?_
    refine ax_getR fl_MO_90 m_0 rfl (rm_0_39 _) d_MO_foldedOf_21 24 rfl ?_
    refine ax_iload_n 1 d_MO_foldedOf_24 rfl rfl 25 rfl ?_
    refine ax_aload_n 0 d_MO_foldedOf_25 rfl rfl 26 rfl ?_
    refine ax_getR fl_MO_87 m_0 rfl (rm_0_37 _) d_MO_foldedOf_26 29 rfl ?_
    refine ax_iload_n 1 d_MO_foldedOf_29 rfl rfl 30 rfl ?_
    refine ax_iaload m_25 d_MO_foldedOf_30 31 rfl h (fun i3 h => ?_)
    refine ax_iastore m_26 d_MO_foldedOf_31 32 rfl h (fun i4 m5 h => ?_)
    refine ax_iinc (ls1 := [(3, .int (v3 + 1)), (0, .ref 0)]) 1 1 d_MO_foldedOf_32 rfl ic_1 (Nat.le_of_ble_eq_true rfl) rfl 35 rfl ?_
    refine ax_goto 15 d_MO_foldedOf_35 rfl ?_
    exact ax_sub [1, 0] rfl (h0 ((v3 + 1), m5) (ok_some h))
theorem c_MO_foldedOf_L15 (v3 : Int32) (m : zM)  {Q : Option Value → zM → Prop} {K : (Int32 × zM) → Prop} (hR : ∀ p : Int32 × zM, K (p) → Q (some (.int p.1)) p.2)  (h : ok (f_MO_foldedOf_L15 v3 m) K) : AX gM s_MO_foldedOf 15 [(0, .ref 0), (3, .int v3)] [] m Q :=
  ok_lp (K := K) (G := fun s : Int32 × zM => AX gM s_MO_foldedOf 15 [(0, .ref 0), (3, .int s.1)] [] s.2 Q) (fun s h => c_MO_foldedOf_B15 s.1 s.2  (fun p hp => hR p hp) (fun s hs => hs) h) FU (v3, m) h
set_option maxRecDepth 4000 in
theorem zc_MO_foldedOf (v1 : Int64) (m : zM)  {Q : Option Value → zM → Prop} (h : ok (f_MO_foldedOf v1 m) (fun p => Q (some (.int p.1)) p.2)) : zc gM s_MO_foldedOf [.ref 0, .long v1] m Q := by
  refine zc_of rfl (Nat.le_of_ble_eq_true rfl) ?_
  show AX gM s_MO_foldedOf 0 [(0, .ref 0), (1, .long v1)] [] m Q
  obtain ⟨K, hK⟩ : ∃ K : (Int32 × zM) → Prop, K = (fun p : Int32 × zM => Q (some (.int p.1)) p.2) := ⟨_, rfl⟩
  have hR : ∀ p : Int32 × zM, K p → Q (some (.int p.1)) p.2 := fun p hp => by rw [hK] at hp; exact hp
  replace h : ok (f_MO_foldedOf v1 m) (fun p : Int32 × zM => Q (some (.int p.1)) p.2) := h
  rw [← hK] at h
  unfold f_MO_foldedOf at h
  refine ax_aload_n 0 d_MO_foldedOf_0 rfl rfl 1 rfl ?_
  refine ax_lload_n 1 d_MO_foldedOf_1 rfl rfl 2 rfl ?_
  refine ax_callV mv_MO_415 ⟨Nat.le_of_ble_eq_true rfl, Nat.le_of_ble_eq_true rfl⟩ ⟨rfl, rfl⟩ [.long v1] [.long v1, .ref 0] rfl rfl (rc_m_0 _) (Nat.le_of_ble_eq_true rfl) d_MO_foldedOf_2 5 rfl (zc_MO_opens v1 m (ok_b h (fun p1 h => ?_)))
  refine ax_aload_n 0 d_MO_foldedOf_5 rfl rfl 6 rfl ?_
  refine ax_aload_n 0 d_MO_foldedOf_6 rfl rfl 7 rfl ?_
  refine ax_getI fl_MO_334 m_0 rfl d_MO_foldedOf_7 10 rfl ?_
  refine ax_putI (K := K) fl_MO_337 m_0 rfl rfl rfl (Nat.le_of_ble_eq_true rfl) d_MO_foldedOf_10 13 rfl h (fun m2 h => ?_)
  refine ax_iconst 0 d_MO_foldedOf_13 ic_0 14 rfl ?_
  refine ax_istore_n (ls1 := [(3, .int 0), (0, .ref 0), (1, .long v1)]) d_MO_foldedOf_14 rfl (Nat.le_of_ble_eq_true rfl) rfl 15 rfl ?_
  exact ax_sub [1, 0] rfl (c_MO_foldedOf_L15 0 m2 (fun p hp => hR p hp) h)
set_option maxRecDepth 4000 in
theorem c_MO_nearer_J73 (v1 : Int64) (v3 : Int32) (v4 : Int32) (m : zM)  {Q : Option Value → zM → Prop} {K : ((Int32 × zM) ⊕ (Int32 × zM)) → Prop} (hR : ∀ p : Int32 × zM, K (.inl p) → Q (some (.int p.1)) p.2) (h0 : ∀ s : Int32 × zM, K (.inr s) → AX gM s_MO_nearer 3 [(0, .ref 0), (1, .long v1), (3, .int v3), (4, .int s.1)] [] s.2 Q) (h : ok (f_MO_nearer_J73 v1 v3 v4 m) K) : AX gM s_MO_nearer 73 [(0, .ref 0), (1, .long v1), (3, .int v3), (4, .int v4)] [] m Q := by
  unfold f_MO_nearer_J73 at h
  refine ax_iinc (ls1 := [(4, .int (v4 + 1)), (0, .ref 0), (1, .long v1), (3, .int v3)]) 3 1 d_MO_nearer_73 rfl ic_1 (Nat.le_of_ble_eq_true rfl) rfl 76 rfl ?_
  refine ax_goto 3 d_MO_nearer_76 rfl ?_
  exact ax_sub [1, 2, 3, 0] rfl (h0 ((v4 + 1), m) (ok_some h))
set_option maxRecDepth 4000 in
theorem c_MO_nearer_J59 (v4 : Int32) (v5 : Int32) (m : zM)  {Q : Option Value → zM → Prop} {K : (Int32 × zM) → Prop} (hR : ∀ p : Int32 × zM, K (p) → Q (some (.int p.1)) p.2)  (h : ok (f_MO_nearer_J59 v4 v5 m) K) : AX gM s_MO_nearer 59 [(4, .int v4), (5, .int v5)] [] m Q := by
  unfold f_MO_nearer_J59 at h
  refine ax_iconst 4 d_MO_nearer_59 ic_4 60 rfl ?_
  refine ax_iload 0 d_MO_nearer_60 rfl 62 rfl ?_
  refine ax_imul d_MO_nearer_62 63 rfl ?_
  refine ax_iload 1 d_MO_nearer_63 rfl 65 rfl ?_
  refine ax_iadd d_MO_nearer_65 66 rfl ?_
  exact ax_iret rfl d_MO_nearer_66 (hR (((4 * v4) + v5), m) (ok_some h))
set_option maxRecDepth 4000 in
theorem c_MO_nearer_J67 (v1 : Int64) (v3 : Int32) (v4 : Int32) (v5 : Int32) (m : zM)  {Q : Option Value → zM → Prop} {K : (((Int32 × zM) ⊕ (Int32 × zM)) ⊕ (Int32 × zM)) → Prop} (hR : ∀ p : Int32 × zM, K (.inl (.inl p)) → Q (some (.int p.1)) p.2) (h0 : ∀ s : Int32 × zM, K (.inl (.inr s)) → AX gM s_MO_nearer 3 [(0, .ref 0), (1, .long v1), (3, .int v3), (4, .int s.1)] [] s.2 Q) (h1 : ∀ s : Int32 × zM, K (.inr s) → AX gM s_MO_nearer 15 [(0, .ref 0), (1, .long v1), (3, .int v3), (4, .int v4), (5, .int s.1)] [] s.2 Q) (h : ok (f_MO_nearer_J67 v1 v3 v4 v5 m) K) : AX gM s_MO_nearer 67 [(0, .ref 0), (1, .long v1), (3, .int v3), (4, .int v4), (5, .int v5)] [] m Q := by
  unfold f_MO_nearer_J67 at h
  refine ax_iinc (ls1 := [(5, .int (v5 + 1)), (0, .ref 0), (1, .long v1), (3, .int v3), (4, .int v4)]) 4 1 d_MO_nearer_67 rfl ic_1 (Nat.le_of_ble_eq_true rfl) rfl 70 rfl ?_
  refine ax_goto 15 d_MO_nearer_70 rfl ?_
  exact ax_sub [1, 2, 3, 4, 0] rfl (h1 ((v5 + 1), m) (ok_some h))
set_option maxRecDepth 4000 in
theorem c_MO_nearer_B15 (v1 : Int64) (v3 : Int32) (v4 : Int32) (v5 : Int32) (m : zM)  {Q : Option Value → zM → Prop} {K : (((Int32 × zM) ⊕ (Int32 × zM)) ⊕ (Int32 × zM)) → Prop} (hR : ∀ p : Int32 × zM, K (.inl (.inl p)) → Q (some (.int p.1)) p.2) (h0 : ∀ s : Int32 × zM, K (.inl (.inr s)) → AX gM s_MO_nearer 3 [(0, .ref 0), (1, .long v1), (3, .int v3), (4, .int s.1)] [] s.2 Q) (h1 : ∀ s : Int32 × zM, K (.inr s) → AX gM s_MO_nearer 15 [(0, .ref 0), (1, .long v1), (3, .int v3), (4, .int v4), (5, .int s.1)] [] s.2 Q) (h : ok (f_MO_nearer_B15 v1 v3 v4 v5 m) K) : AX gM s_MO_nearer 15 [(0, .ref 0), (1, .long v1), (3, .int v3), (4, .int v4), (5, .int v5)] [] m Q := by
  unfold f_MO_nearer_B15 at h
  refine ax_iload 4 d_MO_nearer_15 rfl 17 rfl ?_
  refine ax_aload_n 0 d_MO_nearer_17 rfl rfl 18 rfl ?_
  refine ax_callV mv_MO_358 ⟨Nat.le_of_ble_eq_true rfl, Nat.le_of_ble_eq_true rfl⟩ ⟨rfl, rfl⟩ [] [.ref 0, .int v5] rfl rfl (rc_m_0 _) (Nat.le_of_ble_eq_true rfl) d_MO_nearer_18 21 rfl (zc_MO_agents m (ok_b h (fun r2 h => ?_)))
  refine ax_icmp_ge 73 24 d_MO_nearer_21 rfl rfl (fun hc => ?_) (fun hc => ?_)
  · have h := ok_t hc h
    exact ax_sub [0, 1, 2, 3] rfl (c_MO_nearer_J73 v1 v3 v4 m (fun p hp => hR p hp) (fun s hs => h0 s hs) (ok_z h))
  · have h := ok_f hc h
    refine ax_aload_n 0 d_MO_nearer_24 rfl rfl 25 rfl ?_
    refine ax_lload_n 1 d_MO_nearer_25 rfl rfl 26 rfl ?_
    refine ax_callV mv_MO_415 ⟨Nat.le_of_ble_eq_true rfl, Nat.le_of_ble_eq_true rfl⟩ ⟨rfl, rfl⟩ [.long v1] [.long v1, .ref 0] rfl rfl (rc_m_0 _) (Nat.le_of_ble_eq_true rfl) d_MO_nearer_26 29 rfl (zc_MO_opens v1 m (ok_b h (fun p3 h => ?_)))
    refine ax_aload_n 0 d_MO_nearer_29 rfl rfl 30 rfl ?_
    refine ax_iload 3 d_MO_nearer_30 rfl 32 rfl ?_
    refine ax_iload 4 d_MO_nearer_32 rfl 34 rfl ?_
    refine ax_callV mv_MO_419 ⟨Nat.le_of_ble_eq_true rfl, Nat.le_of_ble_eq_true rfl⟩ ⟨rfl, rfl⟩ [.int v4, .int v5] [.int v5, .int v4, .ref 0] rfl rfl (rc_m_0 _) (Nat.le_of_ble_eq_true rfl) d_MO_nearer_34 37 rfl (zc_MO_isMoved v4 v5 p3 (ok_b h (fun p4 h => ?_)))
    refine ax_ifb_eq 67 40 d_MO_nearer_37 rfl rfl (fun hc => ?_) (fun hc => ?_)
    · have h := ok_f (bf hc) h
      exact ax_sub [0, 1, 2, 3, 4] rfl (c_MO_nearer_J67 v1 v3 v4 v5 p4.2 (fun p hp => hR p hp) (fun s hs => h0 s hs) (fun s hs => h1 s hs) h)
    · have h := ok_t hc h
      refine ax_aload_n 0 d_MO_nearer_40 rfl rfl 41 rfl ?_
      refine ax_getR fl_MO_169 m_0 rfl (rm_0_70 _) d_MO_nearer_41 44 rfl ?_
      refine ax_aload_n 0 d_MO_nearer_44 rfl rfl 45 rfl ?_
      refine ax_aload_n 0 d_MO_nearer_45 rfl rfl 46 rfl ?_
      refine ax_callV mv_MO_392 ⟨Nat.le_of_ble_eq_true rfl, Nat.le_of_ble_eq_true rfl⟩ ⟨rfl, rfl⟩ [] [.ref 0, .ref 0, .ref 50] rfl rfl (rc_m_0 _) (Nat.le_of_ble_eq_true rfl) d_MO_nearer_46 49 rfl (zc_MO_shut p4.2 (ok_b h (fun r5 h => ?_)))
      refine ax_callV mv_MO_536 ⟨Nat.le_of_ble_eq_true rfl, Nat.le_of_ble_eq_true rfl⟩ ⟨rfl, rfl⟩ [.long r5] [.long r5, .ref 0, .ref 50] rfl rfl (rc_m_0 _) (Nat.le_of_ble_eq_true rfl) d_MO_nearer_49 52 rfl (zc_MO_foldedOf r5 p4.2 (ok_b h (fun p6 h => ?_)))
      refine ax_iaload m_50 d_MO_nearer_52 53 rfl h (fun i7 h => ?_)
      refine ax_iload_n 2 d_MO_nearer_53 rfl rfl 54 rfl ?_
      refine ax_iconst 1 d_MO_nearer_54 ic_1 55 rfl ?_
      refine ax_isub d_MO_nearer_55 56 rfl ?_
      refine ax_icmp_ne 67 59 d_MO_nearer_56 rfl rfl (fun hc => ?_) (fun hc => ?_)
      · have h := ok_f hc h
        exact ax_sub [0, 1, 2, 3, 4] rfl (c_MO_nearer_J67 v1 v3 v4 v5 p6.2 (fun p hp => hR p hp) (fun s hs => h0 s hs) (fun s hs => h1 s hs) h)
      · have h := ok_t hc h
        exact ax_sub [3, 4] rfl (c_MO_nearer_J59 v4 v5 p6.2 (fun p hp => hR p hp) (ok_z (ok_z h)))
theorem c_MO_nearer_L15 (v1 : Int64) (v3 : Int32) (v4 : Int32) (v5 : Int32) (m : zM)  {Q : Option Value → zM → Prop} {K : ((Int32 × zM) ⊕ (Int32 × zM)) → Prop} (hR : ∀ p : Int32 × zM, K (.inl p) → Q (some (.int p.1)) p.2) (h0 : ∀ s : Int32 × zM, K (.inr s) → AX gM s_MO_nearer 3 [(0, .ref 0), (1, .long v1), (3, .int v3), (4, .int s.1)] [] s.2 Q) (h : ok (f_MO_nearer_L15 v1 v3 v4 v5 m) K) : AX gM s_MO_nearer 15 [(0, .ref 0), (1, .long v1), (3, .int v3), (4, .int v4), (5, .int v5)] [] m Q :=
  ok_lp (K := K) (G := fun s : Int32 × zM => AX gM s_MO_nearer 15 [(0, .ref 0), (1, .long v1), (3, .int v3), (4, .int v4), (5, .int s.1)] [] s.2 Q) (fun s h => c_MO_nearer_B15 v1 v3 v4 s.1 s.2  (fun p hp => hR p hp) (fun s hs => h0 s hs) (fun s hs => hs) h) FU (v5, m) h
set_option maxRecDepth 4000 in
theorem c_MO_nearer_B3 (v1 : Int64) (v3 : Int32) (v4 : Int32) (m : zM)  {Q : Option Value → zM → Prop} {K : ((Int32 × zM) ⊕ (Int32 × zM)) → Prop} (hR : ∀ p : Int32 × zM, K (.inl p) → Q (some (.int p.1)) p.2) (h0 : ∀ s : Int32 × zM, K (.inr s) → AX gM s_MO_nearer 3 [(0, .ref 0), (1, .long v1), (3, .int v3), (4, .int s.1)] [] s.2 Q) (h : ok (f_MO_nearer_B3 v1 v3 v4 m) K) : AX gM s_MO_nearer 3 [(0, .ref 0), (1, .long v1), (3, .int v3), (4, .int v4)] [] m Q := by
  unfold f_MO_nearer_B3 at h
  refine ax_iload 3 d_MO_nearer_3 rfl 5 rfl ?_
  refine ax_aload_n 0 d_MO_nearer_5 rfl rfl 6 rfl ?_
  refine ax_callV mv_MO_400 ⟨Nat.le_of_ble_eq_true rfl, Nat.le_of_ble_eq_true rfl⟩ ⟨rfl, rfl⟩ [] [.ref 0, .int v4] rfl rfl (rc_m_0 _) (Nat.le_of_ble_eq_true rfl) d_MO_nearer_6 9 rfl (zc_MO_rules m (ok_b h (fun r1 h => ?_)))
  refine ax_icmp_ge 79 12 d_MO_nearer_9 rfl rfl (fun hc => ?_) (fun hc => ?_)
  · have h := ok_t hc h
    refine ax_iconst (-1) d_MO_nearer_79 ic_m1 80 rfl ?_
    exact ax_iret rfl d_MO_nearer_80 (hR ((-1), m) (ok_some h))
  · have h := ok_f hc h
    refine ax_iconst 0 d_MO_nearer_12 ic_0 13 rfl ?_
    refine ax_istore (ls1 := [(5, .int 0), (0, .ref 0), (1, .long v1), (3, .int v3), (4, .int v4)]) d_MO_nearer_13 (Nat.le_of_ble_eq_true rfl) rfl 15 rfl ?_
    exact ax_sub [1, 2, 3, 4, 0] rfl (c_MO_nearer_L15 v1 v3 v4 0 m (fun p hp => hR p hp) (fun s hs => h0 s hs) h)
theorem c_MO_nearer_L3 (v1 : Int64) (v3 : Int32) (v4 : Int32) (m : zM)  {Q : Option Value → zM → Prop} {K : (Int32 × zM) → Prop} (hR : ∀ p : Int32 × zM, K (p) → Q (some (.int p.1)) p.2)  (h : ok (f_MO_nearer_L3 v1 v3 v4 m) K) : AX gM s_MO_nearer 3 [(0, .ref 0), (1, .long v1), (3, .int v3), (4, .int v4)] [] m Q :=
  ok_lp (K := K) (G := fun s : Int32 × zM => AX gM s_MO_nearer 3 [(0, .ref 0), (1, .long v1), (3, .int v3), (4, .int s.1)] [] s.2 Q) (fun s h => c_MO_nearer_B3 v1 v3 s.1 s.2  (fun p hp => hR p hp) (fun s hs => hs) h) FU (v4, m) h
set_option maxRecDepth 4000 in
theorem zc_MO_nearer (v1 : Int64) (v3 : Int32) (m : zM)  {Q : Option Value → zM → Prop} (h : ok (f_MO_nearer v1 v3 m) (fun p => Q (some (.int p.1)) p.2)) : zc gM s_MO_nearer [.ref 0, .long v1, .int v3] m Q := by
  refine zc_of rfl (Nat.le_of_ble_eq_true rfl) ?_
  show AX gM s_MO_nearer 0 [(0, .ref 0), (1, .long v1), (3, .int v3)] [] m Q
  obtain ⟨K, hK⟩ : ∃ K : (Int32 × zM) → Prop, K = (fun p : Int32 × zM => Q (some (.int p.1)) p.2) := ⟨_, rfl⟩
  have hR : ∀ p : Int32 × zM, K p → Q (some (.int p.1)) p.2 := fun p hp => by rw [hK] at hp; exact hp
  replace h : ok (f_MO_nearer v1 v3 m) (fun p : Int32 × zM => Q (some (.int p.1)) p.2) := h
  rw [← hK] at h
  unfold f_MO_nearer at h
  refine ax_iconst 0 d_MO_nearer_0 ic_0 1 rfl ?_
  refine ax_istore (ls1 := [(4, .int 0), (0, .ref 0), (1, .long v1), (3, .int v3)]) d_MO_nearer_1 (Nat.le_of_ble_eq_true rfl) rfl 3 rfl ?_
  exact ax_sub [1, 2, 3, 0] rfl (c_MO_nearer_L3 v1 v3 0 m (fun p hp => hR p hp) h)
set_option maxRecDepth 4000 in
theorem c_MO_way_J133 (v3 : Int32) (v6 : Int32) (m : zM)  {Q : Option Value → zM → Prop} {K : (Int32 × zM) → Prop} (hR : ∀ p : Int32 × zM, K (p) → Q (some (.int p.1)) p.2)  (h : ok (f_MO_way_J133 v3 v6 m) K) : AX gM s_MO_way 133 [(3, .int v3), (6, .int v6)] [] m Q := by
  unfold f_MO_way_J133 at h
  refine ax_iload_n 0 d_MO_way_133 rfl rfl 134 rfl ?_
  refine ax_if_ne 144 137 d_MO_way_134 rfl rfl (fun hc => ?_) (fun hc => ?_)
  · have h := ok_f hc h
    refine ax_iload 1 d_MO_way_144 rfl 146 rfl ?_
    refine ax_iconst 4 d_MO_way_146 ic_4 147 rfl ?_
    refine ax_irem d_MO_way_147 (by decide) 148 rfl ?_
    exact ax_iret rfl d_MO_way_148 (hR ((ir v6 4), m) (ok_some h))
  · have h := ok_t hc h
    refine ax_iload 1 d_MO_way_137 rfl 139 rfl ?_
    refine ax_iconst 4 d_MO_way_139 ic_4 140 rfl ?_
    refine ax_idiv d_MO_way_140 (by decide) 141 rfl ?_
    refine ax_goto 148 d_MO_way_141 rfl ?_
    exact ax_iret rfl d_MO_way_148 (hR ((v6 / 4), m) (ok_some h))
set_option maxRecDepth 4000 in
theorem c_MO_way_B79 (v1 : Int32) (v2 : Int32) (v3 : Int32) (v4 : Int64) (v6 : Int32) (v7 : Int32) (m : zM)  {Q : Option Value → zM → Prop} {K : ((Int32 × zM) ⊕ (Int64 × Int32 × Int32 × zM)) → Prop} (hR : ∀ p : Int32 × zM, K (.inl p) → Q (some (.int p.1)) p.2) (h0 : ∀ s : Int64 × Int32 × Int32 × zM, K (.inr s) → AX gM s_MO_way 79 [(0, .ref 0), (1, .int v1), (2, .int v2), (3, .int v3), (4, .long s.1), (6, .int s.2.1), (7, .int s.2.2.1)] [] s.2.2.2 Q) (h : ok (f_MO_way_B79 v1 v2 v3 v4 v6 v7 m) K) : AX gM s_MO_way 79 [(0, .ref 0), (1, .int v1), (2, .int v2), (3, .int v3), (4, .long v4), (6, .int v6), (7, .int v7)] [] m Q := by
  unfold f_MO_way_B79 at h
  refine ax_iload 6 d_MO_way_79 rfl 81 rfl ?_
  refine ax_iload_n 2 d_MO_way_81 rfl rfl 82 rfl ?_
  refine ax_icmp_gt 133 85 d_MO_way_82 rfl rfl (fun hc => ?_) (fun hc => ?_)
  · have h := ok_t hc h
    exact ax_sub [3, 5] rfl (c_MO_way_J133 v3 v6 m (fun p hp => hR p hp) (ok_z h))
  · have h := ok_f hc h
    refine ax_aload_n 0 d_MO_way_85 rfl rfl 86 rfl ?_
    refine ax_lload 4 d_MO_way_86 rfl 88 rfl ?_
    refine ax_aload_n 0 d_MO_way_88 rfl rfl 89 rfl ?_
    refine ax_getR fl_MO_100 m_0 rfl (rm_0_43 _) d_MO_way_89 92 rfl ?_
    refine ax_iload_n 1 d_MO_way_92 rfl rfl 93 rfl ?_
    refine ax_iaload m_28 d_MO_way_93 94 rfl h (fun i6 h => ?_)
    refine ax_iload 6 d_MO_way_94 rfl 96 rfl ?_
    refine ax_isub d_MO_way_96 97 rfl ?_
    refine ax_callV mv_MO_542 ⟨Nat.le_of_ble_eq_true rfl, Nat.le_of_ble_eq_true rfl⟩ ⟨rfl, rfl⟩ [.long v4, .int ((m.1 28 i6) - v7)] [.int ((m.1 28 i6) - v7), .long v4, .ref 0] rfl rfl (rc_m_0 _) (Nat.le_of_ble_eq_true rfl) d_MO_way_97 100 rfl (zc_MO_nearer v4 ((m.1 28 i6) - v7) m (ok_b h (fun p7 h => ?_)))
    refine ax_istore (ls1 := [(6, .int p7.1), (0, .ref 0), (1, .int v1), (2, .int v2), (3, .int v3), (4, .long v4), (7, .int v7)]) d_MO_way_100 (Nat.le_of_ble_eq_true rfl) rfl 102 rfl ?_
    refine ax_aload_n 1 d_MO_way_102 rfl rfl 103 rfl ?_
    refine ax_lload 5 d_MO_way_103 rfl 105 rfl ?_
    refine ax_callV mv_MO_415 ⟨Nat.le_of_ble_eq_true rfl, Nat.le_of_ble_eq_true rfl⟩ ⟨rfl, rfl⟩ [.long v4] [.long v4, .ref 0] rfl rfl (rc_m_0 _) (Nat.le_of_ble_eq_true rfl) d_MO_way_105 108 rfl (zc_MO_opens v4 p7.2 (ok_b h (fun p8 h => ?_)))
    refine ax_aload_n 1 d_MO_way_108 rfl rfl 109 rfl ?_
    refine ax_iload 0 d_MO_way_109 rfl 111 rfl ?_
    refine ax_iconst 4 d_MO_way_111 ic_4 112 rfl ?_
    refine ax_idiv d_MO_way_112 (by decide) 113 rfl ?_
    refine ax_iload 0 d_MO_way_113 rfl 115 rfl ?_
    refine ax_iconst 4 d_MO_way_115 ic_4 116 rfl ?_
    refine ax_irem d_MO_way_116 (by decide) 117 rfl ?_
    refine ax_callV mv_MO_419 ⟨Nat.le_of_ble_eq_true rfl, Nat.le_of_ble_eq_true rfl⟩ ⟨rfl, rfl⟩ [.int (p7.1 / 4), .int (ir p7.1 4)] [.int (ir p7.1 4), .int (p7.1 / 4), .ref 0] rfl rfl (rc_m_0 _) (Nat.le_of_ble_eq_true rfl) d_MO_way_117 120 rfl (zc_MO_isMoved (p7.1 / 4) (ir p7.1 4) p8 (ok_b h (fun p9 h => ?_)))
    refine ax_pop d_MO_way_120 rfl 121 rfl ?_
    refine ax_aload_n 1 d_MO_way_121 rfl rfl 122 rfl ?_
    refine ax_callV mv_MO_392 ⟨Nat.le_of_ble_eq_true rfl, Nat.le_of_ble_eq_true rfl⟩ ⟨rfl, rfl⟩ [] [.ref 0] rfl rfl (rc_m_0 _) (Nat.le_of_ble_eq_true rfl) d_MO_way_122 125 rfl (zc_MO_shut p9.2 (ok_b h (fun r10 h => ?_)))
    refine ax_lstore (ls1 := [(4, .long r10), (6, .int p7.1), (0, .ref 0), (1, .int v1), (2, .int v2), (3, .int v3), (7, .int v7)]) d_MO_way_125 (Nat.le_of_ble_eq_true rfl) rfl 127 rfl ?_
    refine ax_iinc (ls1 := [(7, .int (v7 + 1)), (4, .long r10), (6, .int p7.1), (0, .ref 0), (1, .int v1), (2, .int v2), (3, .int v3)]) 6 1 d_MO_way_127 rfl ic_1 (Nat.le_of_ble_eq_true rfl) rfl 130 rfl ?_
    refine ax_goto 79 d_MO_way_130 rfl ?_
    exact ax_sub [3, 4, 5, 6, 1, 2, 0] rfl (h0 (r10, p7.1, (v7 + 1), p9.2) (ok_some h))
theorem c_MO_way_L79 (v1 : Int32) (v2 : Int32) (v3 : Int32) (v4 : Int64) (v6 : Int32) (v7 : Int32) (m : zM)  {Q : Option Value → zM → Prop} {K : (Int32 × zM) → Prop} (hR : ∀ p : Int32 × zM, K (p) → Q (some (.int p.1)) p.2)  (h : ok (f_MO_way_L79 v1 v2 v3 v4 v6 v7 m) K) : AX gM s_MO_way 79 [(0, .ref 0), (1, .int v1), (2, .int v2), (3, .int v3), (4, .long v4), (6, .int v6), (7, .int v7)] [] m Q :=
  ok_lp (K := K) (G := fun s : Int64 × Int32 × Int32 × zM => AX gM s_MO_way 79 [(0, .ref 0), (1, .int v1), (2, .int v2), (3, .int v3), (4, .long s.1), (6, .int s.2.1), (7, .int s.2.2.1)] [] s.2.2.2 Q) (fun s h => c_MO_way_B79 v1 v2 v3 s.1 s.2.1 s.2.2.1 s.2.2.2  (fun p hp => hR p hp) (fun s hs => hs) h) FU (v4, v6, v7, m) h
set_option maxRecDepth 4000 in
theorem zc_MO_way (v1 : Int32) (v2 : Int32) (v3 : Int32) (m : zM)  {Q : Option Value → zM → Prop} (h : ok (f_MO_way v1 v2 v3 m) (fun p => Q (some (.int p.1)) p.2)) : zc gM s_MO_way [.ref 0, .int v1, .int v2, .int v3] m Q := by
  refine zc_of rfl (Nat.le_of_ble_eq_true rfl) ?_
  show AX gM s_MO_way 0 [(0, .ref 0), (1, .int v1), (2, .int v2), (3, .int v3)] [] m Q
  obtain ⟨K, hK⟩ : ∃ K : (Int32 × zM) → Prop, K = (fun p : Int32 × zM => Q (some (.int p.1)) p.2) := ⟨_, rfl⟩
  have hR : ∀ p : Int32 × zM, K p → Q (some (.int p.1)) p.2 := fun p hp => by rw [hK] at hp; exact hp
  replace h : ok (f_MO_way v1 v2 v3 m) (fun p : Int32 × zM => Q (some (.int p.1)) p.2) := h
  rw [← hK] at h
  unfold f_MO_way at h
  refine ax_aload_n 0 d_MO_way_0 rfl rfl 1 rfl ?_
  refine ax_iload_n 1 d_MO_way_1 rfl rfl 2 rfl ?_
  refine ax_callV mv_MO_526 ⟨Nat.le_of_ble_eq_true rfl, Nat.le_of_ble_eq_true rfl⟩ ⟨rfl, rfl⟩ [.int v1] [.int v1, .ref 0] rfl rfl (rc_m_0 _) (Nat.le_of_ble_eq_true rfl) d_MO_way_2 5 rfl (zc_MO_isWorld v1 m (ok_b h (fun p1 h => ?_)))
  refine ax_ifb_ne 10 8 d_MO_way_5 rfl rfl (fun hc => ?_) (fun hc => ?_)
  · have h := ok_t hc h
    refine ax_iload_n 2 d_MO_way_10 rfl rfl 11 rfl ?_
    refine ax_iconst (-1) d_MO_way_11 ic_m1 12 rfl ?_
    refine ax_icmp_ne 30 15 d_MO_way_12 rfl rfl (fun hc => ?_) (fun hc => ?_)
    · have h := ok_f hc h
      refine ax_iload_n 2 d_MO_way_30 rfl rfl 31 rfl ?_
      refine ax_i2l d_MO_way_31 32 rfl ?_
      refine ax_lconst 0 d_MO_way_32 lc_0 33 rfl ?_
      refine ax_aload_n 0 d_MO_way_33 rfl rfl 34 rfl ?_
      refine ax_getR fl_MO_100 m_0 rfl (rm_0_43 _) d_MO_way_34 37 rfl ?_
      refine ax_iload_n 1 d_MO_way_37 rfl rfl 38 rfl ?_
      refine ax_iaload m_28 d_MO_way_38 39 rfl h (fun i2 h => ?_)
      refine ax_iconst 1 d_MO_way_39 ic_1 40 rfl ?_
      refine ax_isub d_MO_way_40 41 rfl ?_
      refine ax_i2l d_MO_way_41 42 rfl ?_
      refine ax_callS mv_MO_210 ⟨Nat.le_of_ble_eq_true rfl, Nat.le_of_ble_eq_true rfl⟩ ⟨rfl, rfl⟩ [.long v2.toInt64, .long 0, .long (((p1.2.1 28 i2) - 1).toInt64)] [.long (((p1.2.1 28 i2) - 1).toInt64), .long 0, .long v2.toInt64] rfl rfl (Nat.le_of_ble_eq_true rfl) d_MO_way_42 45 rfl (zc_MO_isIn v2.toInt64 0 (((p1.2.1 28 i2) - 1).toInt64) p1.2 ?_)
      refine ax_ifb_eq 58 48 d_MO_way_45 rfl rfl (fun hc => ?_) (fun hc => ?_)
      · have h := ok_f (bf hc) h
        refine ax_iconst (-1) d_MO_way_58 ic_m1 59 rfl ?_
        exact ax_iret rfl d_MO_way_59 (hR ((-1), p1.2) (ok_some h))
      · have h := ok_t hc h
        refine ax_iload_n 3 d_MO_way_48 rfl rfl 49 rfl ?_
        refine ax_i2l d_MO_way_49 50 rfl ?_
        refine ax_lconst 0 d_MO_way_50 lc_0 51 rfl ?_
        refine ax_lconst 1 d_MO_way_51 lc_1 52 rfl ?_
        refine ax_callS mv_MO_210 ⟨Nat.le_of_ble_eq_true rfl, Nat.le_of_ble_eq_true rfl⟩ ⟨rfl, rfl⟩ [.long v3.toInt64, .long 0, .long 1] [.long 1, .long 0, .long v3.toInt64] rfl rfl (Nat.le_of_ble_eq_true rfl) d_MO_way_52 55 rfl (zc_MO_isIn v3.toInt64 0 1 p1.2 ?_)
        refine ax_ifb_ne 60 58 d_MO_way_55 rfl rfl (fun hc => ?_) (fun hc => ?_)
        · have h := ok_t hc h
          refine ax_aload_n 0 d_MO_way_60 rfl rfl 61 rfl ?_
          refine ax_iload_n 1 d_MO_way_61 rfl rfl 62 rfl ?_
          refine ax_callV mv_MO_539 ⟨Nat.le_of_ble_eq_true rfl, Nat.le_of_ble_eq_true rfl⟩ ⟨rfl, rfl⟩ [.int v1] [.int v1, .ref 0] rfl rfl (rc_m_0 _) (Nat.le_of_ble_eq_true rfl) d_MO_way_62 65 rfl (zc_MO_measures v1 p1.2 (ok_b h (fun p3 h => ?_)))
          refine ax_aload_n 0 d_MO_way_65 rfl rfl 66 rfl ?_
          refine ax_getR fl_MO_96 m_0 rfl (rm_0_42 _) d_MO_way_66 69 rfl ?_
          refine ax_iconst 0 d_MO_way_69 ic_0 70 rfl ?_
          refine ax_laload m_27 d_MO_way_70 71 rfl h (fun i4 h => ?_)
          refine ax_lstore (ls1 := [(4, .long (p3.2.1 27 i4)), (0, .ref 0), (1, .int v1), (2, .int v2), (3, .int v3)]) d_MO_way_71 (Nat.le_of_ble_eq_true rfl) rfl 73 rfl ?_
          refine ax_iconst (-1) d_MO_way_73 ic_m1 74 rfl ?_
          refine ax_istore (ls1 := [(6, .int (-1)), (4, .long (p3.2.1 27 i4)), (0, .ref 0), (1, .int v1), (2, .int v2), (3, .int v3)]) d_MO_way_74 (Nat.le_of_ble_eq_true rfl) rfl 76 rfl ?_
          refine ax_iconst 0 d_MO_way_76 ic_0 77 rfl ?_
          refine ax_istore (ls1 := [(7, .int 0), (6, .int (-1)), (4, .long (p3.2.1 27 i4)), (0, .ref 0), (1, .int v1), (2, .int v2), (3, .int v3)]) d_MO_way_77 (Nat.le_of_ble_eq_true rfl) rfl 79 rfl ?_
          exact ax_sub [3, 4, 5, 6, 2, 1, 0] rfl (c_MO_way_L79 v1 v2 v3 (p3.2.1 27 i4) (-1) 0 p3 (fun p hp => hR p hp) h)
        · have h := ok_f (bf hc) h
          refine ax_iconst (-1) d_MO_way_58 ic_m1 59 rfl ?_
          exact ax_iret rfl d_MO_way_59 (hR ((-1), p1.2) (ok_some h))
    · have h := ok_t hc h
      refine ax_iload_n 3 d_MO_way_15 rfl rfl 16 rfl ?_
      refine ax_if_ne 28 19 d_MO_way_16 rfl rfl (fun hc => ?_) (fun hc => ?_)
      · have h := ok_f hc h
        refine ax_iconst (-1) d_MO_way_28 ic_m1 29 rfl ?_
        exact ax_iret rfl d_MO_way_29 (hR ((-1), p1.2) (ok_some h))
      · have h := ok_t hc h
        refine ax_aload_n 0 d_MO_way_19 rfl rfl 20 rfl ?_
        refine ax_getR fl_MO_100 m_0 rfl (rm_0_43 _) d_MO_way_20 23 rfl ?_
        refine ax_iload_n 1 d_MO_way_23 rfl rfl 24 rfl ?_
        refine ax_iaload m_28 d_MO_way_24 25 rfl h (fun i5 h => ?_)
        refine ax_goto 29 d_MO_way_25 rfl ?_
        exact ax_iret rfl d_MO_way_29 (hR ((p1.2.1 28 i5), p1.2) (ok_some h))
  · have h := ok_f (bf hc) h
    refine ax_iconst (-1) d_MO_way_8 ic_m1 9 rfl ?_
    exact ax_iret rfl d_MO_way_9 (hR ((-1), p1.2) (ok_some h))
set_option maxRecDepth 4000 in
theorem c_MO_wantingIn_J44 (v1 : Int32) (v2 : Int32) (v3 : Int32) (v4 : Int32) (m : zM)  {Q : Option Value → zM → Prop} {K : ((Int32 × zM) ⊕ (Int32 × Int32 × zM)) → Prop} (hR : ∀ p : Int32 × zM, K (.inl p) → Q (some (.int p.1)) p.2) (h0 : ∀ s : Int32 × Int32 × zM, K (.inr s) → AX gM s_MO_wantingIn 5 [(0, .ref 0), (1, .int v1), (2, .int v2), (3, .int s.1), (4, .int s.2.1)] [] s.2.2 Q) (h : ok (f_MO_wantingIn_J44 v1 v2 v3 v4 m) K) : AX gM s_MO_wantingIn 44 [(0, .ref 0), (1, .int v1), (2, .int v2), (3, .int v3), (4, .int v4)] [] m Q := by
  unfold f_MO_wantingIn_J44 at h
  refine ax_iinc (ls1 := [(4, .int (v4 + 1)), (0, .ref 0), (1, .int v1), (2, .int v2), (3, .int v3)]) 4 1 d_MO_wantingIn_44 rfl ic_1 (Nat.le_of_ble_eq_true rfl) rfl 47 rfl ?_
  refine ax_goto 5 d_MO_wantingIn_47 rfl ?_
  exact ax_sub [1, 2, 3, 4, 0] rfl (h0 (v3, (v4 + 1), m) (ok_some h))
set_option maxRecDepth 4000 in
theorem c_MO_wantingIn_J41 (v1 : Int32) (v2 : Int32) (v3 : Int32) (v4 : Int32) (m : zM)  {Q : Option Value → zM → Prop} {K : ((Int32 × zM) ⊕ (Int32 × Int32 × zM)) → Prop} (hR : ∀ p : Int32 × zM, K (.inl p) → Q (some (.int p.1)) p.2) (h0 : ∀ s : Int32 × Int32 × zM, K (.inr s) → AX gM s_MO_wantingIn 5 [(0, .ref 0), (1, .int v1), (2, .int v2), (3, .int s.1), (4, .int s.2.1)] [] s.2.2 Q) (h : ok (f_MO_wantingIn_J41 v1 v2 v3 v4 m) K) : AX gM s_MO_wantingIn 41 [(0, .ref 0), (1, .int v1), (2, .int v2), (3, .int v3), (4, .int v4)] [] m Q := by
  unfold f_MO_wantingIn_J41 at h
  refine ax_iinc (ls1 := [(3, .int (v3 + 1)), (0, .ref 0), (1, .int v1), (2, .int v2), (4, .int v4)]) 3 1 d_MO_wantingIn_41 rfl ic_1 (Nat.le_of_ble_eq_true rfl) rfl 44 rfl ?_
  exact ax_sub [1, 2, 3, 0, 4] rfl (c_MO_wantingIn_J44 v1 v2 (v3 + 1) v4 m (fun p hp => hR p hp) (fun s hs => h0 s hs) h)
set_option maxRecDepth 4000 in
theorem c_MO_wantingIn_B5 (v1 : Int32) (v2 : Int32) (v3 : Int32) (v4 : Int32) (m : zM)  {Q : Option Value → zM → Prop} {K : ((Int32 × zM) ⊕ (Int32 × Int32 × zM)) → Prop} (hR : ∀ p : Int32 × zM, K (.inl p) → Q (some (.int p.1)) p.2) (h0 : ∀ s : Int32 × Int32 × zM, K (.inr s) → AX gM s_MO_wantingIn 5 [(0, .ref 0), (1, .int v1), (2, .int v2), (3, .int s.1), (4, .int s.2.1)] [] s.2.2 Q) (h : ok (f_MO_wantingIn_B5 v1 v2 v3 v4 m) K) : AX gM s_MO_wantingIn 5 [(0, .ref 0), (1, .int v1), (2, .int v2), (3, .int v3), (4, .int v4)] [] m Q := by
  unfold f_MO_wantingIn_B5 at h
  refine ax_iload 4 d_MO_wantingIn_5 rfl 7 rfl ?_
  refine ax_aload_n 0 d_MO_wantingIn_7 rfl rfl 8 rfl ?_
  refine ax_callV mv_MO_358 ⟨Nat.le_of_ble_eq_true rfl, Nat.le_of_ble_eq_true rfl⟩ ⟨rfl, rfl⟩ [] [.ref 0, .int v4] rfl rfl (rc_m_0 _) (Nat.le_of_ble_eq_true rfl) d_MO_wantingIn_8 11 rfl (zc_MO_agents m (ok_b h (fun r1 h => ?_)))
  refine ax_icmp_ge 50 14 d_MO_wantingIn_11 rfl rfl (fun hc => ?_) (fun hc => ?_)
  · have h := ok_t hc h
    refine ax_iload_n 3 d_MO_wantingIn_50 rfl rfl 51 rfl ?_
    exact ax_iret rfl d_MO_wantingIn_51 (hR (v3, m) (ok_some h))
  · have h := ok_f hc h
    refine ax_iload_n 2 d_MO_wantingIn_14 rfl rfl 15 rfl ?_
    refine ax_if_ne 31 18 d_MO_wantingIn_15 rfl rfl (fun hc => ?_) (fun hc => ?_)
    · have h := ok_f hc h
      refine ax_aload_n 0 d_MO_wantingIn_31 rfl rfl 32 rfl ?_
      refine ax_iload_n 1 d_MO_wantingIn_32 rfl rfl 33 rfl ?_
      refine ax_iload 4 d_MO_wantingIn_33 rfl 35 rfl ?_
      refine ax_callV mv_MO_493 ⟨Nat.le_of_ble_eq_true rfl, Nat.le_of_ble_eq_true rfl⟩ ⟨rfl, rfl⟩ [.int v1, .int v4] [.int v4, .int v1, .ref 0] rfl rfl (rc_m_0 _) (Nat.le_of_ble_eq_true rfl) d_MO_wantingIn_35 38 rfl (zc_MO_isLeftOut v1 v4 m (ok_b h (fun p2 h => ?_)))
      refine ax_ifb_eq 44 41 d_MO_wantingIn_38 rfl rfl (fun hc => ?_) (fun hc => ?_)
      · have h := ok_f (bf hc) h
        exact ax_sub [0, 1, 2, 3, 4] rfl (c_MO_wantingIn_J44 v1 v2 v3 v4 p2.2 (fun p hp => hR p hp) (fun s hs => h0 s hs) h)
      · have h := ok_t hc h
        exact ax_sub [0, 1, 2, 3, 4] rfl (c_MO_wantingIn_J41 v1 v2 v3 v4 p2.2 (fun p hp => hR p hp) (fun s hs => h0 s hs) h)
    · have h := ok_t hc h
      refine ax_aload_n 0 d_MO_wantingIn_18 rfl rfl 19 rfl ?_
      refine ax_iload_n 1 d_MO_wantingIn_19 rfl rfl 20 rfl ?_
      refine ax_iload 4 d_MO_wantingIn_20 rfl 22 rfl ?_
      refine ax_callV mv_MO_490 ⟨Nat.le_of_ble_eq_true rfl, Nat.le_of_ble_eq_true rfl⟩ ⟨rfl, rfl⟩ [.int v1, .int v4] [.int v4, .int v1, .ref 0] rfl rfl (rc_m_0 _) (Nat.le_of_ble_eq_true rfl) d_MO_wantingIn_22 25 rfl (zc_MO_isStarving v1 v4 m (ok_b h (fun p3 h => ?_)))
      refine ax_ifb_eq 44 28 d_MO_wantingIn_25 rfl rfl (fun hc => ?_) (fun hc => ?_)
      · have h := ok_f (bf hc) h
        exact ax_sub [0, 1, 2, 3, 4] rfl (c_MO_wantingIn_J44 v1 v2 v3 v4 p3.2 (fun p hp => hR p hp) (fun s hs => h0 s hs) h)
      · have h := ok_t hc h
        refine ax_goto 41 d_MO_wantingIn_28 rfl ?_
        exact ax_sub [0, 1, 2, 3, 4] rfl (c_MO_wantingIn_J41 v1 v2 v3 v4 p3.2 (fun p hp => hR p hp) (fun s hs => h0 s hs) h)
theorem c_MO_wantingIn_L5 (v1 : Int32) (v2 : Int32) (v3 : Int32) (v4 : Int32) (m : zM)  {Q : Option Value → zM → Prop} {K : (Int32 × zM) → Prop} (hR : ∀ p : Int32 × zM, K (p) → Q (some (.int p.1)) p.2)  (h : ok (f_MO_wantingIn_L5 v1 v2 v3 v4 m) K) : AX gM s_MO_wantingIn 5 [(0, .ref 0), (1, .int v1), (2, .int v2), (3, .int v3), (4, .int v4)] [] m Q :=
  ok_lp (K := K) (G := fun s : Int32 × Int32 × zM => AX gM s_MO_wantingIn 5 [(0, .ref 0), (1, .int v1), (2, .int v2), (3, .int s.1), (4, .int s.2.1)] [] s.2.2 Q) (fun s h => c_MO_wantingIn_B5 v1 v2 s.1 s.2.1 s.2.2  (fun p hp => hR p hp) (fun s hs => hs) h) FU (v3, v4, m) h
set_option maxRecDepth 4000 in
theorem zc_MO_wantingIn (v1 : Int32) (v2 : Int32) (m : zM)  {Q : Option Value → zM → Prop} (h : ok (f_MO_wantingIn v1 v2 m) (fun p => Q (some (.int p.1)) p.2)) : zc gM s_MO_wantingIn [.ref 0, .int v1, .int v2] m Q := by
  refine zc_of rfl (Nat.le_of_ble_eq_true rfl) ?_
  show AX gM s_MO_wantingIn 0 [(0, .ref 0), (1, .int v1), (2, .int v2)] [] m Q
  obtain ⟨K, hK⟩ : ∃ K : (Int32 × zM) → Prop, K = (fun p : Int32 × zM => Q (some (.int p.1)) p.2) := ⟨_, rfl⟩
  have hR : ∀ p : Int32 × zM, K p → Q (some (.int p.1)) p.2 := fun p hp => by rw [hK] at hp; exact hp
  replace h : ok (f_MO_wantingIn v1 v2 m) (fun p : Int32 × zM => Q (some (.int p.1)) p.2) := h
  rw [← hK] at h
  unfold f_MO_wantingIn at h
  refine ax_iconst 0 d_MO_wantingIn_0 ic_0 1 rfl ?_
  refine ax_istore_n (ls1 := [(3, .int 0), (0, .ref 0), (1, .int v1), (2, .int v2)]) d_MO_wantingIn_1 rfl (Nat.le_of_ble_eq_true rfl) rfl 2 rfl ?_
  refine ax_iconst 0 d_MO_wantingIn_2 ic_0 3 rfl ?_
  refine ax_istore (ls1 := [(4, .int 0), (3, .int 0), (0, .ref 0), (1, .int v1), (2, .int v2)]) d_MO_wantingIn_3 (Nat.le_of_ble_eq_true rfl) rfl 5 rfl ?_
  exact ax_sub [2, 3, 4, 1, 0] rfl (c_MO_wantingIn_L5 v1 v2 0 0 m (fun p hp => hR p hp) h)
set_option maxRecDepth 4000 in
theorem zc_MO_isFirst (v1 : Int32) (v2 : Int32) (m : zM)  {Q : Option Value → zM → Prop} (h : ok (f_MO_isFirst v1 v2 m) (fun p => Q (some (.int (b2i p.1))) p.2)) : zc gM s_MO_isFirst [.ref 0, .int v1, .int v2] m Q := by
  refine zc_of rfl (Nat.le_of_ble_eq_true rfl) ?_
  show AX gM s_MO_isFirst 0 [(0, .ref 0), (1, .int v1), (2, .int v2)] [] m Q
  obtain ⟨K, hK⟩ : ∃ K : (Bool × zM) → Prop, K = (fun p : Bool × zM => Q (some (.int (b2i p.1))) p.2) := ⟨_, rfl⟩
  have hR : ∀ p : Bool × zM, K p → Q (some (.int (b2i p.1))) p.2 := fun p hp => by rw [hK] at hp; exact hp
  replace h : ok (f_MO_isFirst v1 v2 m) (fun p : Bool × zM => Q (some (.int (b2i p.1))) p.2) := h
  rw [← hK] at h
  unfold f_MO_isFirst at h
  refine ax_iload_n 2 d_MO_isFirst_0 rfl rfl 1 rfl ?_
  refine ax_if_ne 15 4 d_MO_isFirst_1 rfl rfl (fun hc => ?_) (fun hc => ?_)
  · have h := ok_f hc h
    refine ax_iload_n 2 d_MO_isFirst_15 rfl rfl 16 rfl ?_
    refine ax_iconst 1 d_MO_isFirst_16 ic_1 17 rfl ?_
    refine ax_icmp_ne 34 20 d_MO_isFirst_17 rfl rfl (fun hc => ?_) (fun hc => ?_)
    · have h := ok_f hc h
      refine ax_aload_n 0 d_MO_isFirst_34 rfl rfl 35 rfl ?_
      refine ax_iload_n 1 d_MO_isFirst_35 rfl rfl 36 rfl ?_
      refine ax_iload_n 2 d_MO_isFirst_36 rfl rfl 37 rfl ?_
      refine ax_iconst 2 d_MO_isFirst_37 ic_2 38 rfl ?_
      refine ax_isub d_MO_isFirst_38 39 rfl ?_
      refine ax_callV mv_MO_499 ⟨Nat.le_of_ble_eq_true rfl, Nat.le_of_ble_eq_true rfl⟩ ⟨rfl, rfl⟩ [.int v1, .int (v2 - 2)] [.int (v2 - 2), .int v1, .ref 0] rfl rfl (rc_m_0 _) (Nat.le_of_ble_eq_true rfl) d_MO_isFirst_39 42 rfl (zc_MO_wantingIn v1 (v2 - 2) m (ok_b h (fun p1 h => ?_)))
      refine ax_if_le 49 45 d_MO_isFirst_42 rfl rfl (fun hc => ?_) (fun hc => ?_)
      · have h := ok_t hc h
        refine ax_iconst 0 d_MO_isFirst_49 ic_0 50 rfl ?_
        exact ax_zret (b := false) rfl d_MO_isFirst_50 (hR (false, p1.2) (ok_some h))
      · have h := ok_f hc h
        refine ax_iconst 1 d_MO_isFirst_45 ic_1 46 rfl ?_
        refine ax_goto 50 d_MO_isFirst_46 rfl ?_
        exact ax_zret (b := true) rfl d_MO_isFirst_50 (hR (true, p1.2) (ok_some h))
    · have h := ok_t hc h
      refine ax_aload_n 0 d_MO_isFirst_20 rfl rfl 21 rfl ?_
      refine ax_iload_n 1 d_MO_isFirst_21 rfl rfl 22 rfl ?_
      refine ax_callV mv_MO_431 ⟨Nat.le_of_ble_eq_true rfl, Nat.le_of_ble_eq_true rfl⟩ ⟨rfl, rfl⟩ [.int v1] [.int v1, .ref 0] rfl rfl (rc_m_0 _) (Nat.le_of_ble_eq_true rfl) d_MO_isFirst_22 25 rfl (zc_MO_movesFrom v1 m (ok_b h (fun r2 h => ?_)))
      refine ax_if_ne 32 28 d_MO_isFirst_25 rfl rfl (fun hc => ?_) (fun hc => ?_)
      · have h := ok_f hc h
        refine ax_iconst 0 d_MO_isFirst_32 ic_0 33 rfl ?_
        exact ax_zret (b := false) rfl d_MO_isFirst_33 (hR (false, m) (ok_some h))
      · have h := ok_t hc h
        refine ax_iconst 1 d_MO_isFirst_28 ic_1 29 rfl ?_
        refine ax_goto 33 d_MO_isFirst_29 rfl ?_
        exact ax_zret (b := true) rfl d_MO_isFirst_33 (hR (true, m) (ok_some h))
  · have h := ok_t hc h
    refine ax_aload_n 0 d_MO_isFirst_4 rfl rfl 5 rfl ?_
    refine ax_aload_n 0 d_MO_isFirst_5 rfl rfl 6 rfl ?_
    refine ax_getR fl_MO_96 m_0 rfl (rm_0_42 _) d_MO_isFirst_6 9 rfl ?_
    refine ax_iload_n 1 d_MO_isFirst_9 rfl rfl 10 rfl ?_
    refine ax_laload m_27 d_MO_isFirst_10 11 rfl h (fun i3 h => ?_)
    refine ax_callV mv_MO_434 ⟨Nat.le_of_ble_eq_true rfl, Nat.le_of_ble_eq_true rfl⟩ ⟨rfl, rfl⟩ [.long (m.2.1 27 i3)] [.long (m.2.1 27 i3), .ref 0] rfl rfl (rc_m_0 _) (Nat.le_of_ble_eq_true rfl) d_MO_isFirst_11 14 rfl (zc_MO_isBad (m.2.1 27 i3) m (ok_b h (fun p4 h => ?_)))
    exact ax_zret (b := p4.1) rfl d_MO_isFirst_14 (hR (p4.1, p4.2) (ok_some h))
set_option maxRecDepth 4000 in
theorem c_MO_first_B32 (v1 : Int32) (v2 : Int32) (m : zM)  {Q : Option Value → zM → Prop} {K : ((Int32 × zM) ⊕ (Int32 × zM)) → Prop} (hR : ∀ p : Int32 × zM, K (.inl p) → Q (some (.int p.1)) p.2) (h0 : ∀ s : Int32 × zM, K (.inr s) → AX gM s_MO_first 32 [(0, .ref 0), (1, .int v1), (2, .int s.1)] [] s.2 Q) (h : ok (f_MO_first_B32 v1 v2 m) K) : AX gM s_MO_first 32 [(0, .ref 0), (1, .int v1), (2, .int v2)] [] m Q := by
  unfold f_MO_first_B32 at h
  refine ax_iload_n 2 d_MO_first_32 rfl rfl 33 rfl ?_
  refine ax_aload_n 0 d_MO_first_33 rfl rfl 34 rfl ?_
  refine ax_getI fl_MO_380 m_0 rfl d_MO_first_34 37 rfl ?_
  refine ax_icmp_ge 57 40 d_MO_first_37 rfl rfl (fun hc => ?_) (fun hc => ?_)
  · have h := ok_t hc h
    refine ax_iconst (-1) d_MO_first_57 ic_m1 58 rfl ?_
    exact ax_iret rfl d_MO_first_58 (hR ((-1), m) (ok_some h))
  · have h := ok_f hc h
    refine ax_aload_n 0 d_MO_first_40 rfl rfl 41 rfl ?_
    refine ax_iload_n 2 d_MO_first_41 rfl rfl 42 rfl ?_
    refine ax_iload_n 1 d_MO_first_42 rfl rfl 43 rfl ?_
    refine ax_callV mv_MO_548 ⟨Nat.le_of_ble_eq_true rfl, Nat.le_of_ble_eq_true rfl⟩ ⟨rfl, rfl⟩ [.int v2, .int v1] [.int v1, .int v2, .ref 0] rfl rfl (rc_m_0 _) (Nat.le_of_ble_eq_true rfl) d_MO_first_43 46 rfl (zc_MO_isFirst v2 v1 m (ok_b h (fun p3 h => ?_)))
    refine ax_ifb_eq 51 49 d_MO_first_46 rfl rfl (fun hc => ?_) (fun hc => ?_)
    · have h := ok_f (bf hc) h
      refine ax_iinc (ls1 := [(2, .int (v2 + 1)), (0, .ref 0), (1, .int v1)]) 2 1 d_MO_first_51 rfl ic_1 (Nat.le_of_ble_eq_true rfl) rfl 54 rfl ?_
      refine ax_goto 32 d_MO_first_54 rfl ?_
      exact ax_sub [1, 2, 0] rfl (h0 ((v2 + 1), p3.2) (ok_some h))
    · have h := ok_t hc h
      refine ax_iload_n 2 d_MO_first_49 rfl rfl 50 rfl ?_
      exact ax_iret rfl d_MO_first_50 (hR (v2, p3.2) (ok_some h))
theorem c_MO_first_L32 (v1 : Int32) (v2 : Int32) (m : zM)  {Q : Option Value → zM → Prop} {K : (Int32 × zM) → Prop} (hR : ∀ p : Int32 × zM, K (p) → Q (some (.int p.1)) p.2)  (h : ok (f_MO_first_L32 v1 v2 m) K) : AX gM s_MO_first 32 [(0, .ref 0), (1, .int v1), (2, .int v2)] [] m Q :=
  ok_lp (K := K) (G := fun s : Int32 × zM => AX gM s_MO_first 32 [(0, .ref 0), (1, .int v1), (2, .int s.1)] [] s.2 Q) (fun s h => c_MO_first_B32 v1 s.1 s.2  (fun p hp => hR p hp) (fun s hs => hs) h) FU (v2, m) h
