set_option maxRecDepth 4000 in
theorem c_Study_findParts_B164 (v1 : Int32) (v2 : Int32) (m : zM)  {Q : Option Value → zM → Prop} {K : (((zM) ⊕ (Int32 × zM)) ⊕ (Int32 × zM)) → Prop} (hR : ∀ p : zM, K (.inl (.inl p)) → Q none p) (h0 : ∀ s : Int32 × zM, K (.inl (.inr s)) → AX gX s_Study_findParts 143 [(0, .ref 116), (1, .int s.1)] [] s.2 Q) (h1 : ∀ s : Int32 × zM, K (.inr s) → AX gX s_Study_findParts 164 [(0, .ref 116), (1, .int v1), (2, .int s.1)] [] s.2 Q) (h : ok (f_Study_findParts_B164 v1 v2 m) K) : AX gX s_Study_findParts 164 [(0, .ref 116), (1, .int v1), (2, .int v2)] [] m Q := by
  unfold f_Study_findParts_B164 at h
  refine ax_iload_n 2 d_Study_findParts_164 rfl rfl 165 rfl ?_
  refine ax_aload_n 0 d_Study_findParts_165 rfl rfl 166 rfl ?_
  refine ax_getR fl_Study_53 x_116 rfl (rx_116_0 _) d_Study_findParts_166 169 rfl ?_
  refine ax_getR fl_Study_111 x_24 rfl (rx_24_11 _) d_Study_findParts_169 172 rfl ?_
  refine ax_iload_n 1 d_Study_findParts_172 rfl rfl 173 rfl ?_
  refine ax_iconst 1 d_Study_findParts_173 ic_1 174 rfl ?_
  refine ax_iadd d_Study_findParts_174 175 rfl ?_
  refine ax_iaload x_36 d_Study_findParts_175 176 rfl h (fun i16 h => ?_)
  refine ax_icmp_ge 219 179 d_Study_findParts_176 rfl rfl (fun hc => ?_) (fun hc => ?_)
  · have h := ok_t hc h
    exact ax_sub [0, 1] rfl (c_Study_findParts_J219 v1 m (fun p hp => hR p hp) (fun s hs => h0 s hs) (ok_z h))
  · have h := ok_f hc h
    refine ax_aload_n 0 d_Study_findParts_179 rfl rfl 180 rfl ?_
    refine ax_getR fl_Study_15 x_116 rfl (rx_116_4 _) d_Study_findParts_180 183 rfl ?_
    refine ax_aload_n 0 d_Study_findParts_183 rfl rfl 184 rfl ?_
    refine ax_getR fl_Study_53 x_116 rfl (rx_116_0 _) d_Study_findParts_184 187 rfl ?_
    refine ax_iload_n 2 d_Study_findParts_187 rfl rfl 188 rfl ?_
    refine ax_callV mv_Study_114 ⟨Nat.le_of_ble_eq_true rfl, Nat.le_of_ble_eq_true rfl⟩ ⟨rfl, rfl⟩ [.int v2] [.int v2, .ref 24, .ref 117] rfl rfl (rc_x_24 _) (Nat.le_of_ble_eq_true rfl) d_Study_findParts_188 191 rfl (zc_Atlas_target v2 m (ok_b h (fun r17 h => ?_)))
    refine ax_iaload x_117 d_Study_findParts_191 192 rfl h (fun i18 h => ?_)
    refine ax_aload_n 0 d_Study_findParts_192 rfl rfl 193 rfl ?_
    refine ax_getR fl_Study_15 x_116 rfl (rx_116_4 _) d_Study_findParts_193 196 rfl ?_
    refine ax_iload_n 1 d_Study_findParts_196 rfl rfl 197 rfl ?_
    refine ax_iaload x_117 d_Study_findParts_197 198 rfl h (fun i19 h => ?_)
    refine ax_icmp_eq 213 201 d_Study_findParts_198 rfl rfl (fun hc => ?_) (fun hc => ?_)
    · have h := ok_t hc h
      exact ax_sub [0, 1, 2] rfl (c_Study_findParts_J213 v1 v2 m (fun p hp => hR p hp) (fun s hs => h0 s hs) (fun s hs => h1 s hs) h)
    · have h := ok_f hc h
      refine ax_aload_n 0 d_Study_findParts_201 rfl rfl 202 rfl ?_
      refine ax_getR fl_Study_25 x_116 rfl (rx_116_7 _) d_Study_findParts_202 205 rfl ?_
      refine ax_aload_n 0 d_Study_findParts_205 rfl rfl 206 rfl ?_
      refine ax_getR fl_Study_15 x_116 rfl (rx_116_4 _) d_Study_findParts_206 209 rfl ?_
      refine ax_iload_n 1 d_Study_findParts_209 rfl rfl 210 rfl ?_
      refine ax_iaload x_117 d_Study_findParts_210 211 rfl h (fun i20 h => ?_)
      refine ax_iconst 0 d_Study_findParts_211 ic_0 212 rfl ?_
      refine ax_zastore (y := false) x_120 d_Study_findParts_212 213 rfl h (fun i21 m22 h => ?_)
      exact ax_sub [0, 1, 2] rfl (c_Study_findParts_J213 v1 v2 m22 (fun p hp => hR p hp) (fun s hs => h0 s hs) (fun s hs => h1 s hs) h)
theorem c_Study_findParts_L164 (v1 : Int32) (v2 : Int32) (m : zM)  {Q : Option Value → zM → Prop} {K : ((zM) ⊕ (Int32 × zM)) → Prop} (hR : ∀ p : zM, K (.inl p) → Q none p) (h0 : ∀ s : Int32 × zM, K (.inr s) → AX gX s_Study_findParts 143 [(0, .ref 116), (1, .int s.1)] [] s.2 Q) (h : ok (f_Study_findParts_L164 v1 v2 m) K) : AX gX s_Study_findParts 164 [(0, .ref 116), (1, .int v1), (2, .int v2)] [] m Q :=
  ok_lp (K := K) (G := fun s : Int32 × zM => AX gX s_Study_findParts 164 [(0, .ref 116), (1, .int v1), (2, .int s.1)] [] s.2 Q) (fun s h => c_Study_findParts_B164 v1 s.1 s.2  (fun p hp => hR p hp) (fun s hs => h0 s hs) (fun s hs => hs) h) FU (v2, m) h
set_option maxRecDepth 4000 in
theorem c_Study_findParts_B143 (v1 : Int32) (m : zM)  {Q : Option Value → zM → Prop} {K : ((zM) ⊕ (Int32 × zM)) → Prop} (hR : ∀ p : zM, K (.inl p) → Q none p) (h0 : ∀ s : Int32 × zM, K (.inr s) → AX gX s_Study_findParts 143 [(0, .ref 116), (1, .int s.1)] [] s.2 Q) (h : ok (f_Study_findParts_B143 v1 m) K) : AX gX s_Study_findParts 143 [(0, .ref 116), (1, .int v1)] [] m Q := by
  unfold f_Study_findParts_B143 at h
  refine ax_iload_n 1 d_Study_findParts_143 rfl rfl 144 rfl ?_
  refine ax_aload_n 0 d_Study_findParts_144 rfl rfl 145 rfl ?_
  refine ax_getR fl_Study_53 x_116 rfl (rx_116_0 _) d_Study_findParts_145 148 rfl ?_
  refine ax_getI fl_Study_103 x_24 rfl d_Study_findParts_148 151 rfl ?_
  refine ax_icmp_ge 225 154 d_Study_findParts_151 rfl rfl (fun hc => ?_) (fun hc => ?_)
  · have h := ok_t hc h
    exact ax_vret rfl d_Study_findParts_225 (hR m (ok_some h))
  · have h := ok_f hc h
    refine ax_aload_n 0 d_Study_findParts_154 rfl rfl 155 rfl ?_
    refine ax_getR fl_Study_53 x_116 rfl (rx_116_0 _) d_Study_findParts_155 158 rfl ?_
    refine ax_getR fl_Study_111 x_24 rfl (rx_24_11 _) d_Study_findParts_158 161 rfl ?_
    refine ax_iload_n 1 d_Study_findParts_161 rfl rfl 162 rfl ?_
    refine ax_iaload x_36 d_Study_findParts_162 163 rfl h (fun i15 h => ?_)
    refine ax_istore_n (ls1 := [(2, .int (m.1 36 i15)), (0, .ref 116), (1, .int v1)]) d_Study_findParts_163 rfl (Nat.le_of_ble_eq_true rfl) rfl 164 rfl ?_
    exact ax_sub [1, 2, 0] rfl (c_Study_findParts_L164 v1 (m.1 36 i15) m (fun p hp => hR p hp) (fun s hs => h0 s hs) h)
theorem c_Study_findParts_L143 (v1 : Int32) (m : zM)  {Q : Option Value → zM → Prop} {K : zM → Prop} (hR : ∀ p : zM, K (p) → Q none p)  (h : ok (f_Study_findParts_L143 v1 m) K) : AX gX s_Study_findParts 143 [(0, .ref 116), (1, .int v1)] [] m Q :=
  ok_lp (K := K) (G := fun s : Int32 × zM => AX gX s_Study_findParts 143 [(0, .ref 116), (1, .int s.1)] [] s.2 Q) (fun s h => c_Study_findParts_B143 s.1 s.2  (fun p hp => hR p hp) (fun s hs => hs) h) FU (v1, m) h
set_option maxRecDepth 4000 in
theorem c_Study_findParts_J141  (m : zM)  {Q : Option Value → zM → Prop} {K : zM → Prop} (hR : ∀ p : zM, K (p) → Q none p)  (h : ok (f_Study_findParts_J141  m) K) : AX gX s_Study_findParts 141 [(0, .ref 116)] [] m Q := by
  unfold f_Study_findParts_J141 at h
  refine ax_iconst 0 d_Study_findParts_141 ic_0 142 rfl ?_
  refine ax_istore_n (ls1 := [(1, .int 0), (0, .ref 116)]) d_Study_findParts_142 rfl (Nat.le_of_ble_eq_true rfl) rfl 143 rfl ?_
  exact ax_sub [1, 0] rfl (c_Study_findParts_L143 0 m (fun p hp => hR p hp) h)
set_option maxRecDepth 4000 in
theorem c_Study_findParts_J108 (v1 : Int32) (v2 : Int32) (m : zM)  {Q : Option Value → zM → Prop} {K : ((zM) ⊕ (Int32 × zM)) → Prop} (hR : ∀ p : zM, K (.inl p) → Q none p) (h0 : ∀ s : Int32 × zM, K (.inr s) → AX gX s_Study_findParts 25 [(0, .ref 116), (1, .int s.1)] [] s.2 Q) (h : ok (f_Study_findParts_J108 v1 v2 m) K) : AX gX s_Study_findParts 108 [(0, .ref 116), (1, .int v1), (2, .int v2)] [] m Q := by
  unfold f_Study_findParts_J108 at h
  refine ax_aload_n 0 d_Study_findParts_108 rfl rfl 109 rfl ?_
  refine ax_getR fl_Study_15 x_116 rfl (rx_116_4 _) d_Study_findParts_109 112 rfl ?_
  refine ax_iload_n 1 d_Study_findParts_112 rfl rfl 113 rfl ?_
  refine ax_aload_n 0 d_Study_findParts_113 rfl rfl 114 rfl ?_
  refine ax_getR fl_Study_29 x_116 rfl (rx_116_8 _) d_Study_findParts_114 117 rfl ?_
  refine ax_iload_n 2 d_Study_findParts_117 rfl rfl 118 rfl ?_
  refine ax_iaload x_121 d_Study_findParts_118 119 rfl h (fun i23 h => ?_)
  refine ax_iastore x_117 d_Study_findParts_119 120 rfl h (fun i24 m25 h => ?_)
  refine ax_aload_n 0 d_Study_findParts_120 rfl rfl 121 rfl ?_
  refine ax_getR fl_Study_19 x_116 rfl (rx_116_5 _) d_Study_findParts_121 124 rfl ?_
  refine ax_aload_n 0 d_Study_findParts_124 rfl rfl 125 rfl ?_
  refine ax_getR fl_Study_15 x_116 rfl (rx_116_4 _) d_Study_findParts_125 128 rfl ?_
  refine ax_iload_n 1 d_Study_findParts_128 rfl rfl 129 rfl ?_
  refine ax_iaload x_117 d_Study_findParts_129 130 rfl h (fun i26 h => ?_)
  refine ax_dup2 d_Study_findParts_130 rfl rfl 131 rfl ?_
  refine ax_iaload x_118 d_Study_findParts_131 132 rfl h (fun i27 h => ?_)
  refine ax_iconst 1 d_Study_findParts_132 ic_1 133 rfl ?_
  refine ax_iadd d_Study_findParts_133 134 rfl ?_
  refine ax_iastore x_118 d_Study_findParts_134 135 rfl h (fun i28 m29 h => ?_)
  refine ax_iinc (ls1 := [(1, .int (v1 + 1)), (0, .ref 116), (2, .int v2)]) 1 1 d_Study_findParts_135 rfl ic_1 (Nat.le_of_ble_eq_true rfl) rfl 138 rfl ?_
  refine ax_goto 25 d_Study_findParts_138 rfl ?_
  exact ax_sub [1, 0] rfl (h0 ((v1 + 1), m29) (ok_some h))
set_option maxRecDepth 4000 in
theorem c_Study_findParts_B25 (v1 : Int32) (m : zM)  {Q : Option Value → zM → Prop} {K : ((zM) ⊕ (Int32 × zM)) → Prop} (hR : ∀ p : zM, K (.inl p) → Q none p) (h0 : ∀ s : Int32 × zM, K (.inr s) → AX gX s_Study_findParts 25 [(0, .ref 116), (1, .int s.1)] [] s.2 Q) (h : ok (f_Study_findParts_B25 v1 m) K) : AX gX s_Study_findParts 25 [(0, .ref 116), (1, .int v1)] [] m Q := by
  unfold f_Study_findParts_B25 at h
  refine ax_iload_n 1 d_Study_findParts_25 rfl rfl 26 rfl ?_
  refine ax_aload_n 0 d_Study_findParts_26 rfl rfl 27 rfl ?_
  refine ax_getR fl_Study_53 x_116 rfl (rx_116_0 _) d_Study_findParts_27 30 rfl ?_
  refine ax_getI fl_Study_103 x_24 rfl d_Study_findParts_30 33 rfl ?_
  refine ax_icmp_ge 141 36 d_Study_findParts_33 rfl rfl (fun hc => ?_) (fun hc => ?_)
  · have h := ok_t hc h
    exact ax_sub [0] rfl (c_Study_findParts_J141 m (fun p hp => hR p hp) (ok_z h))
  · have h := ok_f hc h
    refine ax_aload_n 0 d_Study_findParts_36 rfl rfl 37 rfl ?_
    refine ax_getR fl_Study_62 x_116 rfl (rx_116_1 _) d_Study_findParts_37 40 rfl ?_
    refine ax_getR fl_Study_108 x_129 rfl (rx_129_5 _) d_Study_findParts_40 43 rfl ?_
    refine ax_iload_n 1 d_Study_findParts_43 rfl rfl 44 rfl ?_
    refine ax_iconst 4 d_Study_findParts_44 ic_4 45 rfl ?_
    refine ax_imul d_Study_findParts_45 46 rfl ?_
    refine ax_iaload x_130 d_Study_findParts_46 47 rfl h (fun i4 h => ?_)
    refine ax_istore_n (ls1 := [(2, .int (m.1 130 i4)), (0, .ref 116), (1, .int v1)]) d_Study_findParts_47 rfl (Nat.le_of_ble_eq_true rfl) rfl 48 rfl ?_
    refine ax_aload_n 1 d_Study_findParts_48 rfl rfl 49 rfl ?_
    refine ax_getR fl_Study_29 x_116 rfl (rx_116_8 _) d_Study_findParts_49 52 rfl ?_
    refine ax_iload_n 0 d_Study_findParts_52 rfl rfl 53 rfl ?_
    refine ax_iaload x_121 d_Study_findParts_53 54 rfl h (fun i5 h => ?_)
    refine ax_iconst (-1) d_Study_findParts_54 ic_m1 55 rfl ?_
    refine ax_icmp_ne 108 58 d_Study_findParts_55 rfl rfl (fun hc => ?_) (fun hc => ?_)
    · have h := ok_f hc h
      exact ax_sub [1, 2, 0] rfl (c_Study_findParts_J108 v1 (m.1 130 i4) m (fun p hp => hR p hp) (fun s hs => h0 s hs) h)
    · have h := ok_t hc h
      refine ax_aload_n 1 d_Study_findParts_58 rfl rfl 59 rfl ?_
      refine ax_getR fl_Study_29 x_116 rfl (rx_116_8 _) d_Study_findParts_59 62 rfl ?_
      refine ax_iload_n 0 d_Study_findParts_62 rfl rfl 63 rfl ?_
      refine ax_aload_n 1 d_Study_findParts_63 rfl rfl 64 rfl ?_
      refine ax_getI fl_Study_9 x_116 rfl d_Study_findParts_64 67 rfl ?_
      refine ax_iastore x_121 d_Study_findParts_67 68 rfl h (fun i6 m7 h => ?_)
      refine ax_aload_n 1 d_Study_findParts_68 rfl rfl 69 rfl ?_
      refine ax_getR fl_Study_22 x_116 rfl (rx_116_6 _) d_Study_findParts_69 72 rfl ?_
      refine ax_aload_n 1 d_Study_findParts_72 rfl rfl 73 rfl ?_
      refine ax_getI fl_Study_9 x_116 rfl d_Study_findParts_73 76 rfl ?_
      refine ax_iload_n 2 d_Study_findParts_76 rfl rfl 77 rfl ?_
      refine ax_iastore x_119 d_Study_findParts_77 78 rfl h (fun i8 m9 h => ?_)
      refine ax_aload_n 1 d_Study_findParts_78 rfl rfl 79 rfl ?_
      refine ax_getR fl_Study_19 x_116 rfl (rx_116_5 _) d_Study_findParts_79 82 rfl ?_
      refine ax_aload_n 1 d_Study_findParts_82 rfl rfl 83 rfl ?_
      refine ax_getI fl_Study_9 x_116 rfl d_Study_findParts_83 86 rfl ?_
      refine ax_iconst 0 d_Study_findParts_86 ic_0 87 rfl ?_
      refine ax_iastore x_118 d_Study_findParts_87 88 rfl h (fun i10 m11 h => ?_)
      refine ax_aload_n 1 d_Study_findParts_88 rfl rfl 89 rfl ?_
      refine ax_getR fl_Study_25 x_116 rfl (rx_116_7 _) d_Study_findParts_89 92 rfl ?_
      refine ax_aload_n 1 d_Study_findParts_92 rfl rfl 93 rfl ?_
      refine ax_getI fl_Study_9 x_116 rfl d_Study_findParts_93 96 rfl ?_
      refine ax_iconst 1 d_Study_findParts_96 ic_1 97 rfl ?_
      refine ax_zastore (y := true) x_120 d_Study_findParts_97 98 rfl h (fun i12 m13 h => ?_)
      refine ax_aload_n 1 d_Study_findParts_98 rfl rfl 99 rfl ?_
      refine ax_dup d_Study_findParts_99 rfl 100 rfl ?_
      refine ax_getI fl_Study_9 x_116 rfl d_Study_findParts_100 103 rfl ?_
      refine ax_iconst 1 d_Study_findParts_103 ic_1 104 rfl ?_
      refine ax_iadd d_Study_findParts_104 105 rfl ?_
      refine ax_putI (K := K) fl_Study_9 x_116 rfl rfl rfl (Nat.le_of_ble_eq_true rfl) d_Study_findParts_105 108 rfl h (fun m14 h => ?_)
      exact ax_sub [1, 2, 0] rfl (c_Study_findParts_J108 v1 (m.1 130 i4) m14 (fun p hp => hR p hp) (fun s hs => h0 s hs) h)
theorem c_Study_findParts_L25 (v1 : Int32) (m : zM)  {Q : Option Value → zM → Prop} {K : zM → Prop} (hR : ∀ p : zM, K (p) → Q none p)  (h : ok (f_Study_findParts_L25 v1 m) K) : AX gX s_Study_findParts 25 [(0, .ref 116), (1, .int v1)] [] m Q :=
  ok_lp (K := K) (G := fun s : Int32 × zM => AX gX s_Study_findParts 25 [(0, .ref 116), (1, .int s.1)] [] s.2 Q) (fun s h => c_Study_findParts_B25 s.1 s.2  (fun p hp => hR p hp) (fun s hs => hs) h) FU (v1, m) h
set_option maxRecDepth 4000 in
theorem zc_Study_findParts  (m : zM)  {Q : Option Value → zM → Prop} (h : ok (f_Study_findParts m) (fun p => Q none p)) : zc gX s_Study_findParts [.ref 116] m Q := by
  refine zc_of rfl (Nat.le_of_ble_eq_true rfl) ?_
  show AX gX s_Study_findParts 0 [(0, .ref 116)] [] m Q
  obtain ⟨K, hK⟩ : ∃ K : zM → Prop, K = (fun p : zM => Q none p) := ⟨_, rfl⟩
  have hR : ∀ p : zM, K p → Q none p := fun p hp => by rw [hK] at hp; exact hp
  replace h : ok (f_Study_findParts m) (fun p : zM => Q none p) := h
  rw [← hK] at h
  unfold f_Study_findParts at h
  refine ax_aload_n 0 d_Study_findParts_0 rfl rfl 1 rfl ?_
  refine ax_getR fl_Study_62 x_116 rfl (rx_116_1 _) d_Study_findParts_1 4 rfl ?_
  refine ax_iconst 0 d_Study_findParts_4 ic_0 5 rfl ?_
  refine ax_iconst (-1) d_Study_findParts_5 ic_m1 6 rfl ?_
  refine ax_iconst (-1) d_Study_findParts_6 ic_m1 7 rfl ?_
  refine ax_callV mv_Study_93 ⟨Nat.le_of_ble_eq_true rfl, Nat.le_of_ble_eq_true rfl⟩ ⟨rfl, rfl⟩ [.int 0, .int (-1), .int (-1)] [.int (-1), .int (-1), .int 0, .ref 129] rfl rfl (rc_x_129 _) (Nat.le_of_ble_eq_true rfl) d_Study_findParts_7 10 rfl (zc_Joined_join 0 (-1) (-1) m (ok_b h (fun p1 h => ?_)))
  refine ax_aload_n 0 d_Study_findParts_10 rfl rfl 11 rfl ?_
  refine ax_getR fl_Study_29 x_116 rfl (rx_116_8 _) d_Study_findParts_11 14 rfl ?_
  refine ax_iconst (-1) d_Study_findParts_14 ic_m1 15 rfl ?_
  refine ax_callS mv_Study_97 ⟨Nat.le_of_ble_eq_true rfl, Nat.le_of_ble_eq_true rfl⟩ ⟨rfl, rfl⟩ [.ref 121, .int (-1)] [.int (-1), .ref 121] rfl rfl (Nat.le_of_ble_eq_true rfl) d_Study_findParts_15 18 rfl (zc_Arrays_fill 121 (-1) p1 x_121z (ok_b h (fun p2 h => ?_)))
  refine ax_aload_n 0 d_Study_findParts_18 rfl rfl 19 rfl ?_
  refine ax_iconst 0 d_Study_findParts_19 ic_0 20 rfl ?_
  refine ax_putI (K := K) fl_Study_9 x_116 rfl rfl rfl (Nat.le_of_ble_eq_true rfl) d_Study_findParts_20 23 rfl h (fun m3 h => ?_)
  refine ax_iconst 0 d_Study_findParts_23 ic_0 24 rfl ?_
  refine ax_istore_n (ls1 := [(1, .int 0), (0, .ref 116)]) d_Study_findParts_24 rfl (Nat.le_of_ble_eq_true rfl) rfl 25 rfl ?_
  exact ax_sub [1, 0] rfl (c_Study_findParts_L25 0 m3 (fun p hp => hR p hp) h)
set_option maxRecDepth 4000 in
theorem c_Study_clear_B2 (v0 : Nat) (v1 : Int32) (m : zM) (hv0 : gX.1[v0]? = some (.inr (1, zlen gX v0))) {Q : Option Value → zM → Prop} {K : ((zM) ⊕ (Int32 × zM)) → Prop} (hR : ∀ p : zM, K (.inl p) → Q none p) (h0 : ∀ s : Int32 × zM, K (.inr s) → AX gX s_Study_clear 2 [(0, .ref v0), (1, .int s.1)] [] s.2 Q) (h : ok (f_Study_clear_B2 v0 v1 m) K) : AX gX s_Study_clear 2 [(0, .ref v0), (1, .int v1)] [] m Q := by
  unfold f_Study_clear_B2 at h
  refine ax_iload_n 1 d_Study_clear_2 rfl rfl 3 rfl ?_
  refine ax_aload_n 0 d_Study_clear_3 rfl rfl 4 rfl ?_
  refine ax_alen (Int32.ofNat (zlen gX v0)) hv0 (by decide) rfl d_Study_clear_4 5 rfl ?_
  refine ax_icmp_ge 18 8 d_Study_clear_5 rfl rfl (fun hc => ?_) (fun hc => ?_)
  · have h := ok_t hc h
    exact ax_vret rfl d_Study_clear_18 (hR m (ok_some h))
  · have h := ok_f hc h
    refine ax_aload_n 0 d_Study_clear_8 rfl rfl 9 rfl ?_
    refine ax_iload_n 1 d_Study_clear_9 rfl rfl 10 rfl ?_
    refine ax_iconst 0 d_Study_clear_10 ic_0 11 rfl ?_
    refine ax_zastore (y := false) hv0 d_Study_clear_11 12 rfl h (fun i1 m2 h => ?_)
    refine ax_iinc (ls1 := [(1, .int (v1 + 1)), (0, .ref v0)]) 1 1 d_Study_clear_12 rfl ic_1 (Nat.le_of_ble_eq_true rfl) rfl 15 rfl ?_
    refine ax_goto 2 d_Study_clear_15 rfl ?_
    exact ax_sub [1, 0] rfl (h0 ((v1 + 1), m2) (ok_some h))
theorem c_Study_clear_L2 (v0 : Nat) (v1 : Int32) (m : zM) (hv0 : gX.1[v0]? = some (.inr (1, zlen gX v0))) {Q : Option Value → zM → Prop} {K : zM → Prop} (hR : ∀ p : zM, K (p) → Q none p)  (h : ok (f_Study_clear_L2 v0 v1 m) K) : AX gX s_Study_clear 2 [(0, .ref v0), (1, .int v1)] [] m Q :=
  ok_lp (K := K) (G := fun s : Int32 × zM => AX gX s_Study_clear 2 [(0, .ref v0), (1, .int s.1)] [] s.2 Q) (fun s h => c_Study_clear_B2 v0 s.1 s.2 hv0 (fun p hp => hR p hp) (fun s hs => hs) h) FU (v1, m) h
set_option maxRecDepth 4000 in
theorem zc_Study_clear (v0 : Nat) (m : zM) (hv0 : gX.1[v0]? = some (.inr (1, zlen gX v0))) {Q : Option Value → zM → Prop} (h : ok (f_Study_clear v0 m) (fun p => Q none p)) : zc gX s_Study_clear [.ref v0] m Q := by
  refine zc_of rfl (Nat.le_of_ble_eq_true rfl) ?_
  show AX gX s_Study_clear 0 [(0, .ref v0)] [] m Q
  obtain ⟨K, hK⟩ : ∃ K : zM → Prop, K = (fun p : zM => Q none p) := ⟨_, rfl⟩
  have hR : ∀ p : zM, K p → Q none p := fun p hp => by rw [hK] at hp; exact hp
  replace h : ok (f_Study_clear v0 m) (fun p : zM => Q none p) := h
  rw [← hK] at h
  unfold f_Study_clear at h
  refine ax_iconst 0 d_Study_clear_0 ic_0 1 rfl ?_
  refine ax_istore_n (ls1 := [(1, .int 0), (0, .ref v0)]) d_Study_clear_1 rfl (Nat.le_of_ble_eq_true rfl) rfl 2 rfl ?_
  exact ax_sub [1, 0] rfl (c_Study_clear_L2 v0 0 m hv0 (fun p hp => hR p hp) h)
set_option maxRecDepth 4000 in
theorem zc_Study_isAgentIn (v1 : Int32) (v2 : Int32) (m : zM)  {Q : Option Value → zM → Prop} (h : ok (f_Study_isAgentIn v1 v2 m) (fun p => Q (some (.int (b2i p))) m)) : zc gX s_Study_isAgentIn [.ref 116, .int v1, .int v2] m Q := by
  refine zc_of rfl (Nat.le_of_ble_eq_true rfl) ?_
  show AX gX s_Study_isAgentIn 0 [(0, .ref 116), (1, .int v1), (2, .int v2)] [] m Q
  obtain ⟨K, hK⟩ : ∃ K : Bool → Prop, K = (fun p : Bool => Q (some (.int (b2i p))) m) := ⟨_, rfl⟩
  have hR : ∀ p : Bool, K p → Q (some (.int (b2i p))) m := fun p hp => by rw [hK] at hp; exact hp
  replace h : ok (f_Study_isAgentIn v1 v2 m) (fun p : Bool => Q (some (.int (b2i p))) m) := h
  rw [← hK] at h
  unfold f_Study_isAgentIn at h
  refine ax_iload_n 1 d_Study_isAgentIn_0 rfl rfl 1 rfl ?_
  refine ax_iconst 4 d_Study_isAgentIn_1 ic_4 2 rfl ?_
  refine ax_irem d_Study_isAgentIn_2 (by decide) 3 rfl ?_
  refine ax_aload_n 0 d_Study_isAgentIn_3 rfl rfl 4 rfl ?_
  refine ax_getR fl_Study_53 x_116 rfl (rx_116_0 _) d_Study_isAgentIn_4 7 rfl ?_
  refine ax_getI fl_Study_144 x_24 rfl d_Study_isAgentIn_7 10 rfl ?_
  refine ax_icmp_ge 34 13 d_Study_isAgentIn_10 rfl rfl (fun hc => ?_) (fun hc => ?_)
  · have h := ok_t hc h
    refine ax_iconst 0 d_Study_isAgentIn_34 ic_0 35 rfl ?_
    exact ax_zret (b := false) rfl d_Study_isAgentIn_35 (hR false (ok_some h))
  · have h := ok_f hc h
    refine ax_aload_n 0 d_Study_isAgentIn_13 rfl rfl 14 rfl ?_
    refine ax_getR fl_Study_53 x_116 rfl (rx_116_0 _) d_Study_isAgentIn_14 17 rfl ?_
    refine ax_getR fl_Study_147 x_24 rfl (rx_24_9 _) d_Study_isAgentIn_17 20 rfl ?_
    refine ax_iload_n 1 d_Study_isAgentIn_20 rfl rfl 21 rfl ?_
    refine ax_iaload x_34 d_Study_isAgentIn_21 22 rfl h (fun i1 h => ?_)
    refine ax_iconst 0 d_Study_isAgentIn_22 ic_0 23 rfl ?_
    refine ax_callS mv_Study_150 ⟨Nat.le_of_ble_eq_true rfl, Nat.le_of_ble_eq_true rfl⟩ ⟨rfl, rfl⟩ [.int (m.1 34 i1), .int 0] [.int 0, .int (m.1 34 i1)] rfl rfl (Nat.le_of_ble_eq_true rfl) d_Study_isAgentIn_23 26 rfl (zc_PA_held (m.1 34 i1) 0 m ?_)
    refine ax_iload_n 2 d_Study_isAgentIn_26 rfl rfl 27 rfl ?_
    refine ax_icmp_ne 34 30 d_Study_isAgentIn_27 rfl rfl (fun hc => ?_) (fun hc => ?_)
    · have h := ok_f hc h
      refine ax_iconst 0 d_Study_isAgentIn_34 ic_0 35 rfl ?_
      exact ax_zret (b := false) rfl d_Study_isAgentIn_35 (hR false (ok_some h))
    · have h := ok_t hc h
      refine ax_iconst 1 d_Study_isAgentIn_30 ic_1 31 rfl ?_
      refine ax_goto 35 d_Study_isAgentIn_31 rfl ?_
      exact ax_zret (b := true) rfl d_Study_isAgentIn_35 (hR true (ok_some h))
set_option maxRecDepth 4000 in
theorem c_Joined_leadsToMarked_J55 (v1 : Int32) (v2 : Nat) (v3 : Int32) (v4 : Int32) (m : zM) (hv2 : gX.1[v2]? = some (.inr (1, zlen gX v2))) {Q : Option Value → zM → Prop} {K : ((Bool) ⊕ (Int32)) → Prop} (hR : ∀ p : Bool, K (.inl p) → Q (some (.int (b2i p))) m) (h0 : ∀ s : Int32, K (.inr s) → AX gX s_Joined_leadsToMarked 15 [(0, .ref 129), (1, .int v1), (2, .ref v2), (3, .int v3), (4, .int s)] [] m Q) (h : ok (f_Joined_leadsToMarked_J55 v1 v2 v3 v4 m) K) : AX gX s_Joined_leadsToMarked 55 [(0, .ref 129), (1, .int v1), (2, .ref v2), (3, .int v3), (4, .int v4)] [] m Q := by
  unfold f_Joined_leadsToMarked_J55 at h
  refine ax_iinc (ls1 := [(4, .int (v4 + 1)), (0, .ref 129), (1, .int v1), (2, .ref v2), (3, .int v3)]) 4 1 d_Joined_leadsToMarked_55 rfl ic_1 (Nat.le_of_ble_eq_true rfl) rfl 58 rfl ?_
  refine ax_goto 15 d_Joined_leadsToMarked_58 rfl ?_
  exact ax_sub [1, 2, 3, 4, 0] rfl (h0 (v4 + 1) (ok_some h))
set_option maxRecDepth 4000 in
theorem c_Joined_leadsToMarked_B15 (v1 : Int32) (v2 : Nat) (v3 : Int32) (v4 : Int32) (m : zM) (hv2 : gX.1[v2]? = some (.inr (1, zlen gX v2))) {Q : Option Value → zM → Prop} {K : ((Bool) ⊕ (Int32)) → Prop} (hR : ∀ p : Bool, K (.inl p) → Q (some (.int (b2i p))) m) (h0 : ∀ s : Int32, K (.inr s) → AX gX s_Joined_leadsToMarked 15 [(0, .ref 129), (1, .int v1), (2, .ref v2), (3, .int v3), (4, .int s)] [] m Q) (h : ok (f_Joined_leadsToMarked_B15 v1 v2 v3 v4 m) K) : AX gX s_Joined_leadsToMarked 15 [(0, .ref 129), (1, .int v1), (2, .ref v2), (3, .int v3), (4, .int v4)] [] m Q := by
  unfold f_Joined_leadsToMarked_B15 at h
  refine ax_iload 4 d_Joined_leadsToMarked_15 rfl 17 rfl ?_
  refine ax_aload_n 0 d_Joined_leadsToMarked_17 rfl rfl 18 rfl ?_
  refine ax_getR fl_Joined_59 x_129 rfl (rx_129_0 _) d_Joined_leadsToMarked_18 21 rfl ?_
  refine ax_getR fl_Joined_109 x_24 rfl (rx_24_11 _) d_Joined_leadsToMarked_21 24 rfl ?_
  refine ax_iload_n 3 d_Joined_leadsToMarked_24 rfl rfl 25 rfl ?_
  refine ax_iconst 1 d_Joined_leadsToMarked_25 ic_1 26 rfl ?_
  refine ax_iadd d_Joined_leadsToMarked_26 27 rfl ?_
  refine ax_iaload x_36 d_Joined_leadsToMarked_27 28 rfl h (fun i2 h => ?_)
  refine ax_icmp_ge 61 31 d_Joined_leadsToMarked_28 rfl rfl (fun hc => ?_) (fun hc => ?_)
  · have h := ok_t hc h
    refine ax_iconst 0 d_Joined_leadsToMarked_61 ic_0 62 rfl ?_
    exact ax_zret (b := false) rfl d_Joined_leadsToMarked_62 (hR false (ok_some h))
  · have h := ok_f hc h
    refine ax_aload_n 0 d_Joined_leadsToMarked_31 rfl rfl 32 rfl ?_
    refine ax_iload_n 1 d_Joined_leadsToMarked_32 rfl rfl 33 rfl ?_
    refine ax_iload 4 d_Joined_leadsToMarked_33 rfl 35 rfl ?_
    refine ax_callV mv_Joined_112 ⟨Nat.le_of_ble_eq_true rfl, Nat.le_of_ble_eq_true rfl⟩ ⟨rfl, rfl⟩ [.int v1, .int v4] [.int v4, .int v1, .ref 129] rfl rfl (rc_x_129 _) (Nat.le_of_ble_eq_true rfl) d_Joined_leadsToMarked_35 38 rfl (zc_Joined_next v1 v4 m (ok_b h (fun r3 h => ?_)))
    refine ax_istore (ls1 := [(5, .int r3), (0, .ref 129), (1, .int v1), (2, .ref v2), (3, .int v3), (4, .int v4)]) d_Joined_leadsToMarked_38 (Nat.le_of_ble_eq_true rfl) rfl 40 rfl ?_
    refine ax_iload 0 d_Joined_leadsToMarked_40 rfl 42 rfl ?_
    refine ax_iconst (-1) d_Joined_leadsToMarked_42 ic_m1 43 rfl ?_
    refine ax_icmp_eq 55 46 d_Joined_leadsToMarked_43 rfl rfl (fun hc => ?_) (fun hc => ?_)
    · have h := ok_t hc h
      exact ax_sub [1, 2, 3, 4, 5] rfl (c_Joined_leadsToMarked_J55 v1 v2 v3 v4 m hv2 (fun p hp => hR p hp) (fun s hs => h0 s hs) h)
    · have h := ok_f hc h
      refine ax_aload_n 3 d_Joined_leadsToMarked_46 rfl rfl 47 rfl ?_
      refine ax_iload 0 d_Joined_leadsToMarked_47 rfl 49 rfl ?_
      refine ax_baload hv2 d_Joined_leadsToMarked_49 50 rfl h (fun i4 h => ?_)
      refine ax_if_eq 55 53 d_Joined_leadsToMarked_50 rfl rfl (fun hc => ?_) (fun hc => ?_)
      · have h := ok_t hc h
        exact ax_sub [1, 2, 3, 4, 5] rfl (c_Joined_leadsToMarked_J55 v1 v2 v3 v4 m hv2 (fun p hp => hR p hp) (fun s hs => h0 s hs) h)
      · have h := ok_f hc h
        refine ax_iconst 1 d_Joined_leadsToMarked_53 ic_1 54 rfl ?_
        exact ax_zret (b := true) rfl d_Joined_leadsToMarked_54 (hR true (ok_some h))
theorem c_Joined_leadsToMarked_L15 (v1 : Int32) (v2 : Nat) (v3 : Int32) (v4 : Int32) (m : zM) (hv2 : gX.1[v2]? = some (.inr (1, zlen gX v2))) {Q : Option Value → zM → Prop} {K : Bool → Prop} (hR : ∀ p : Bool, K (p) → Q (some (.int (b2i p))) m)  (h : ok (f_Joined_leadsToMarked_L15 v1 v2 v3 v4 m) K) : AX gX s_Joined_leadsToMarked 15 [(0, .ref 129), (1, .int v1), (2, .ref v2), (3, .int v3), (4, .int v4)] [] m Q :=
  ok_lp (K := K) (G := fun s : Int32 => AX gX s_Joined_leadsToMarked 15 [(0, .ref 129), (1, .int v1), (2, .ref v2), (3, .int v3), (4, .int s)] [] m Q) (fun s h => c_Joined_leadsToMarked_B15 v1 v2 v3 s m hv2 (fun p hp => hR p hp) (fun s hs => hs) h) FU v4 h
set_option maxRecDepth 4000 in
theorem zc_Joined_leadsToMarked (v1 : Int32) (v2 : Nat) (m : zM) (hv2 : gX.1[v2]? = some (.inr (1, zlen gX v2))) {Q : Option Value → zM → Prop} (h : ok (f_Joined_leadsToMarked v1 v2 m) (fun p => Q (some (.int (b2i p))) m)) : zc gX s_Joined_leadsToMarked [.ref 129, .int v1, .ref v2] m Q := by
  refine zc_of rfl (Nat.le_of_ble_eq_true rfl) ?_
  show AX gX s_Joined_leadsToMarked 0 [(0, .ref 129), (1, .int v1), (2, .ref v2)] [] m Q
  obtain ⟨K, hK⟩ : ∃ K : Bool → Prop, K = (fun p : Bool => Q (some (.int (b2i p))) m) := ⟨_, rfl⟩
  have hR : ∀ p : Bool, K p → Q (some (.int (b2i p))) m := fun p hp => by rw [hK] at hp; exact hp
  replace h : ok (f_Joined_leadsToMarked v1 v2 m) (fun p : Bool => Q (some (.int (b2i p))) m) := h
  rw [← hK] at h
  unfold f_Joined_leadsToMarked at h
  refine ax_iload_n 1 d_Joined_leadsToMarked_0 rfl rfl 1 rfl ?_
  refine ax_iconst 4 d_Joined_leadsToMarked_1 ic_4 2 rfl ?_
  refine ax_idiv d_Joined_leadsToMarked_2 (by decide) 3 rfl ?_
  refine ax_istore_n (ls1 := [(3, .int (v1 / 4)), (0, .ref 129), (1, .int v1), (2, .ref v2)]) d_Joined_leadsToMarked_3 rfl (Nat.le_of_ble_eq_true rfl) rfl 4 rfl ?_
  refine ax_aload_n 1 d_Joined_leadsToMarked_4 rfl rfl 5 rfl ?_
  refine ax_getR fl_Joined_59 x_129 rfl (rx_129_0 _) d_Joined_leadsToMarked_5 8 rfl ?_
  refine ax_getR fl_Joined_109 x_24 rfl (rx_24_11 _) d_Joined_leadsToMarked_8 11 rfl ?_
  refine ax_iload_n 0 d_Joined_leadsToMarked_11 rfl rfl 12 rfl ?_
  refine ax_iaload x_36 d_Joined_leadsToMarked_12 13 rfl h (fun i1 h => ?_)
  refine ax_istore (ls1 := [(4, .int (m.1 36 i1)), (3, .int (v1 / 4)), (0, .ref 129), (1, .int v1), (2, .ref v2)]) d_Joined_leadsToMarked_13 (Nat.le_of_ble_eq_true rfl) rfl 15 rfl ?_
  exact ax_sub [2, 3, 4, 1, 0] rfl (c_Joined_leadsToMarked_L15 v1 v2 (v1 / 4) (m.1 36 i1) m hv2 (fun p hp => hR p hp) h)
set_option maxRecDepth 4000 in
theorem c_Joined_spread_J116 (v1 : Nat) (v2 : Int32) (m : zM) (hv1 : gX.1[v1]? = some (.inr (1, zlen gX v1))) {Q : Option Value → zM → Prop} {K : ((zM) ⊕ (Int32 × zM)) → Prop} (hR : ∀ p : zM, K (.inl p) → Q none p) (h0 : ∀ s : Int32 × zM, K (.inr s) → AX gX s_Joined_spread 2 [(0, .ref 129), (1, .ref v1), (2, .int s.1)] [] s.2 Q) (h : ok (f_Joined_spread_J116 v1 v2 m) K) : AX gX s_Joined_spread 116 [(0, .ref 129), (1, .ref v1), (2, .int v2)] [] m Q := by
  unfold f_Joined_spread_J116 at h
  refine ax_iinc (ls1 := [(2, .int (v2 + 1)), (0, .ref 129), (1, .ref v1)]) 2 1 d_Joined_spread_116 rfl ic_1 (Nat.le_of_ble_eq_true rfl) rfl 119 rfl ?_
  refine ax_goto 2 d_Joined_spread_119 rfl ?_
  exact ax_sub [1, 2, 0] rfl (h0 ((v2 + 1), m) (ok_some h))
set_option maxRecDepth 4000 in
theorem c_Joined_spread_B84 (v1 : Nat) (v2 : Int32) (v3 : Bool) (v4 : Int32) (m : zM) (hv1 : gX.1[v1]? = some (.inr (1, zlen gX v1))) {Q : Option Value → zM → Prop} {K : (((zM) ⊕ (Int32 × zM)) ⊕ (Int32 × zM)) → Prop} (hR : ∀ p : zM, K (.inl (.inl p)) → Q none p) (h0 : ∀ s : Int32 × zM, K (.inl (.inr s)) → AX gX s_Joined_spread 2 [(0, .ref 129), (1, .ref v1), (2, .int s.1)] [] s.2 Q) (h1 : ∀ s : Int32 × zM, K (.inr s) → AX gX s_Joined_spread 84 [(0, .ref 129), (1, .ref v1), (2, .int v2), (3, .int (b2i v3)), (4, .int s.1)] [] s.2 Q) (h : ok (f_Joined_spread_B84 v1 v2 v3 v4 m) K) : AX gX s_Joined_spread 84 [(0, .ref 129), (1, .ref v1), (2, .int v2), (3, .int (b2i v3)), (4, .int v4)] [] m Q := by
  unfold f_Joined_spread_B84 at h
  refine ax_iload 4 d_Joined_spread_84 rfl 86 rfl ?_
  refine ax_aload_n 0 d_Joined_spread_86 rfl rfl 87 rfl ?_
  refine ax_getR fl_Joined_29 x_129 rfl (rx_129_6 _) d_Joined_spread_87 90 rfl ?_
  refine ax_iload_n 2 d_Joined_spread_90 rfl rfl 91 rfl ?_
  refine ax_iconst 1 d_Joined_spread_91 ic_1 92 rfl ?_
  refine ax_iadd d_Joined_spread_92 93 rfl ?_
  refine ax_iaload x_131 d_Joined_spread_93 94 rfl h (fun i8 h => ?_)
  refine ax_icmp_ge 116 97 d_Joined_spread_94 rfl rfl (fun hc => ?_) (fun hc => ?_)
  · have h := ok_t hc h
    exact ax_sub [0, 1, 2] rfl (c_Joined_spread_J116 v1 v2 m hv1 (fun p hp => hR p hp) (fun s hs => h0 s hs) (ok_z h))
  · have h := ok_f hc h
    refine ax_aload_n 1 d_Joined_spread_97 rfl rfl 98 rfl ?_
    refine ax_aload_n 0 d_Joined_spread_98 rfl rfl 99 rfl ?_
    refine ax_getR fl_Joined_32 x_129 rfl (rx_129_7 _) d_Joined_spread_99 102 rfl ?_
    refine ax_iload 4 d_Joined_spread_102 rfl 104 rfl ?_
    refine ax_iaload x_132 d_Joined_spread_104 105 rfl h (fun i9 h => ?_)
    refine ax_dup2 d_Joined_spread_105 rfl rfl 106 rfl ?_
    refine ax_baload hv1 d_Joined_spread_106 107 rfl h (fun i10 h => ?_)
    refine ax_iload_n 3 d_Joined_spread_107 rfl rfl 108 rfl ?_
    refine ax_ior d_Joined_spread_108 109 rfl ?_
    refine ax_bastore hv1 d_Joined_spread_109 110 rfl h (fun i11 m12 h => ?_)
    refine ax_iinc (ls1 := [(4, .int (v4 + 1)), (0, .ref 129), (1, .ref v1), (2, .int v2), (3, .int (b2i v3))]) 4 1 d_Joined_spread_110 rfl ic_1 (Nat.le_of_ble_eq_true rfl) rfl 113 rfl ?_
    refine ax_goto 84 d_Joined_spread_113 rfl ?_
    exact ax_sub [1, 2, 3, 4, 0] rfl (h1 ((v4 + 1), m12) (ok_some h))
theorem c_Joined_spread_L84 (v1 : Nat) (v2 : Int32) (v3 : Bool) (v4 : Int32) (m : zM) (hv1 : gX.1[v1]? = some (.inr (1, zlen gX v1))) {Q : Option Value → zM → Prop} {K : ((zM) ⊕ (Int32 × zM)) → Prop} (hR : ∀ p : zM, K (.inl p) → Q none p) (h0 : ∀ s : Int32 × zM, K (.inr s) → AX gX s_Joined_spread 2 [(0, .ref 129), (1, .ref v1), (2, .int s.1)] [] s.2 Q) (h : ok (f_Joined_spread_L84 v1 v2 v3 v4 m) K) : AX gX s_Joined_spread 84 [(0, .ref 129), (1, .ref v1), (2, .int v2), (3, .int (b2i v3)), (4, .int v4)] [] m Q :=
  ok_lp (K := K) (G := fun s : Int32 × zM => AX gX s_Joined_spread 84 [(0, .ref 129), (1, .ref v1), (2, .int v2), (3, .int (b2i v3)), (4, .int s.1)] [] s.2 Q) (fun s h => c_Joined_spread_B84 v1 v2 v3 s.1 s.2 hv1 (fun p hp => hR p hp) (fun s hs => h0 s hs) (fun s hs => hs) h) FU (v4, m) h
set_option maxRecDepth 4000 in
theorem c_Joined_spread_J76 (v1 : Nat) (v2 : Int32) (v3 : Bool) (m : zM) (hv1 : gX.1[v1]? = some (.inr (1, zlen gX v1))) {Q : Option Value → zM → Prop} {K : ((zM) ⊕ (Int32 × zM)) → Prop} (hR : ∀ p : zM, K (.inl p) → Q none p) (h0 : ∀ s : Int32 × zM, K (.inr s) → AX gX s_Joined_spread 2 [(0, .ref 129), (1, .ref v1), (2, .int s.1)] [] s.2 Q) (h : ok (f_Joined_spread_J76 v1 v2 v3 m) K) : AX gX s_Joined_spread 76 [(0, .ref 129), (1, .ref v1), (2, .int v2), (3, .int (b2i v3))] [] m Q := by
  unfold f_Joined_spread_J76 at h
  refine ax_aload_n 0 d_Joined_spread_76 rfl rfl 77 rfl ?_
  refine ax_getR fl_Joined_29 x_129 rfl (rx_129_6 _) d_Joined_spread_77 80 rfl ?_
  refine ax_iload_n 2 d_Joined_spread_80 rfl rfl 81 rfl ?_
  refine ax_iaload x_131 d_Joined_spread_81 82 rfl h (fun i7 h => ?_)
  refine ax_istore (ls1 := [(4, .int (m.1 131 i7)), (0, .ref 129), (1, .ref v1), (2, .int v2), (3, .int (b2i v3))]) d_Joined_spread_82 (Nat.le_of_ble_eq_true rfl) rfl 84 rfl ?_
  exact ax_sub [1, 2, 3, 4, 0] rfl (c_Joined_spread_L84 v1 v2 v3 (m.1 131 i7) m hv1 (fun p hp => hR p hp) (fun s hs => h0 s hs) h)
set_option maxRecDepth 4000 in
theorem c_Joined_spread_J69 (v1 : Nat) (v2 : Int32) (v4 : Int32) (t0 : Bool) (m : zM) (hv1 : gX.1[v1]? = some (.inr (1, zlen gX v1))) {Q : Option Value → zM → Prop} {K : (((zM) ⊕ (Int32 × zM)) ⊕ (Bool × Int32)) → Prop} (hR : ∀ p : zM, K (.inl (.inl p)) → Q none p) (h0 : ∀ s : Int32 × zM, K (.inl (.inr s)) → AX gX s_Joined_spread 2 [(0, .ref 129), (1, .ref v1), (2, .int s.1)] [] s.2 Q) (h1 : ∀ s : Bool × Int32, K (.inr s) → AX gX s_Joined_spread 20 [(0, .ref 129), (1, .ref v1), (2, .int v2), (3, .int (b2i s.1)), (4, .int s.2)] [] m Q) (h : ok (f_Joined_spread_J69 v1 v2 v4 t0 m) K) : AX gX s_Joined_spread 69 [(0, .ref 129), (1, .ref v1), (2, .int v2), (4, .int v4)] [.int (b2i t0)] m Q := by
  unfold f_Joined_spread_J69 at h
  refine ax_istore_n (ls1 := [(3, .int (b2i t0)), (0, .ref 129), (1, .ref v1), (2, .int v2), (4, .int v4)]) d_Joined_spread_69 rfl (Nat.le_of_ble_eq_true rfl) rfl 70 rfl ?_
  refine ax_iinc (ls1 := [(4, .int (v4 + 1)), (3, .int (b2i t0)), (0, .ref 129), (1, .ref v1), (2, .int v2)]) 4 1 d_Joined_spread_70 rfl ic_1 (Nat.le_of_ble_eq_true rfl) rfl 73 rfl ?_
  refine ax_goto 20 d_Joined_spread_73 rfl ?_
  exact ax_sub [2, 3, 4, 1, 0] rfl (h1 (t0, (v4 + 1)) (ok_some h))
set_option maxRecDepth 4000 in
theorem c_Joined_spread_J64 (v1 : Nat) (v2 : Int32) (v4 : Int32) (m : zM) (hv1 : gX.1[v1]? = some (.inr (1, zlen gX v1))) {Q : Option Value → zM → Prop} {K : (((zM) ⊕ (Int32 × zM)) ⊕ (Bool × Int32)) → Prop} (hR : ∀ p : zM, K (.inl (.inl p)) → Q none p) (h0 : ∀ s : Int32 × zM, K (.inl (.inr s)) → AX gX s_Joined_spread 2 [(0, .ref 129), (1, .ref v1), (2, .int s.1)] [] s.2 Q) (h1 : ∀ s : Bool × Int32, K (.inr s) → AX gX s_Joined_spread 20 [(0, .ref 129), (1, .ref v1), (2, .int v2), (3, .int (b2i s.1)), (4, .int s.2)] [] m Q) (h : ok (f_Joined_spread_J64 v1 v2 v4 m) K) : AX gX s_Joined_spread 64 [(0, .ref 129), (1, .ref v1), (2, .int v2), (4, .int v4)] [] m Q := by
  unfold f_Joined_spread_J64 at h
  refine ax_iconst 1 d_Joined_spread_64 ic_1 65 rfl ?_
  refine ax_goto 69 d_Joined_spread_65 rfl ?_
  exact ax_sub [0, 1, 2, 3] rfl (c_Joined_spread_J69 v1 v2 v4 true m hv1 (fun p hp => hR p hp) (fun s hs => h0 s hs) (fun s hs => h1 s hs) h)
set_option maxRecDepth 4000 in
theorem c_Joined_spread_B20 (v1 : Nat) (v2 : Int32) (v3 : Bool) (v4 : Int32) (m : zM) (hv1 : gX.1[v1]? = some (.inr (1, zlen gX v1))) {Q : Option Value → zM → Prop} {K : (((zM) ⊕ (Int32 × zM)) ⊕ (Bool × Int32)) → Prop} (hR : ∀ p : zM, K (.inl (.inl p)) → Q none p) (h0 : ∀ s : Int32 × zM, K (.inl (.inr s)) → AX gX s_Joined_spread 2 [(0, .ref 129), (1, .ref v1), (2, .int s.1)] [] s.2 Q) (h1 : ∀ s : Bool × Int32, K (.inr s) → AX gX s_Joined_spread 20 [(0, .ref 129), (1, .ref v1), (2, .int v2), (3, .int (b2i s.1)), (4, .int s.2)] [] m Q) (h : ok (f_Joined_spread_B20 v1 v2 v3 v4 m) K) : AX gX s_Joined_spread 20 [(0, .ref 129), (1, .ref v1), (2, .int v2), (3, .int (b2i v3)), (4, .int v4)] [] m Q := by
  unfold f_Joined_spread_B20 at h
  refine ax_iload 4 d_Joined_spread_20 rfl 22 rfl ?_
  refine ax_aload_n 0 d_Joined_spread_22 rfl rfl 23 rfl ?_
  refine ax_getR fl_Joined_29 x_129 rfl (rx_129_6 _) d_Joined_spread_23 26 rfl ?_
  refine ax_iload_n 2 d_Joined_spread_26 rfl rfl 27 rfl ?_
  refine ax_iconst 1 d_Joined_spread_27 ic_1 28 rfl ?_
  refine ax_iadd d_Joined_spread_28 29 rfl ?_
  refine ax_iaload x_131 d_Joined_spread_29 30 rfl h (fun i2 h => ?_)
  refine ax_icmp_ge 76 33 d_Joined_spread_30 rfl rfl (fun hc => ?_) (fun hc => ?_)
  · have h := ok_t hc h
    exact ax_sub [0, 1, 2, 3] rfl (c_Joined_spread_J76 v1 v2 v3 m hv1 (fun p hp => hR p hp) (fun s hs => h0 s hs) (ok_z h))
  · have h := ok_f hc h
    refine ax_iload_n 3 d_Joined_spread_33 rfl rfl 34 rfl ?_
    refine ax_ifb_ne 76 37 d_Joined_spread_34 rfl rfl (fun hc => ?_) (fun hc => ?_)
    · have h := ok_t hc h
      exact ax_sub [0, 1, 2, 3] rfl (c_Joined_spread_J76 v1 v2 v3 m hv1 (fun p hp => hR p hp) (fun s hs => h0 s hs) (ok_z h))
    · have h := ok_f (bf hc) h
      refine ax_aload_n 1 d_Joined_spread_37 rfl rfl 38 rfl ?_
      refine ax_aload_n 0 d_Joined_spread_38 rfl rfl 39 rfl ?_
      refine ax_getR fl_Joined_32 x_129 rfl (rx_129_7 _) d_Joined_spread_39 42 rfl ?_
      refine ax_iload 4 d_Joined_spread_42 rfl 44 rfl ?_
      refine ax_iaload x_132 d_Joined_spread_44 45 rfl h (fun i3 h => ?_)
      refine ax_baload hv1 d_Joined_spread_45 46 rfl h (fun i4 h => ?_)
      refine ax_if_ne 64 49 d_Joined_spread_46 rfl rfl (fun hc => ?_) (fun hc => ?_)
      · have h := ok_f hc h
        exact ax_sub [0, 1, 2, 4] rfl (c_Joined_spread_J64 v1 v2 v4 m hv1 (fun p hp => hR p hp) (fun s hs => h0 s hs) (fun s hs => h1 s hs) h)
      · have h := ok_t hc h
        refine ax_aload_n 0 d_Joined_spread_49 rfl rfl 50 rfl ?_
        refine ax_aload_n 0 d_Joined_spread_50 rfl rfl 51 rfl ?_
        refine ax_getR fl_Joined_32 x_129 rfl (rx_129_7 _) d_Joined_spread_51 54 rfl ?_
        refine ax_iload 4 d_Joined_spread_54 rfl 56 rfl ?_
        refine ax_iaload x_132 d_Joined_spread_56 57 rfl h (fun i5 h => ?_)
        refine ax_aload_n 1 d_Joined_spread_57 rfl rfl 58 rfl ?_
        refine ax_callV mv_Joined_130 ⟨Nat.le_of_ble_eq_true rfl, Nat.le_of_ble_eq_true rfl⟩ ⟨rfl, rfl⟩ [.int (m.1 132 i5), .ref v1] [.ref v1, .int (m.1 132 i5), .ref 129] rfl rfl (rc_x_129 _) (Nat.le_of_ble_eq_true rfl) d_Joined_spread_58 61 rfl (zc_Joined_leadsToMarked (m.1 132 i5) v1 m hv1 (ok_b h (fun r6 h => ?_)))
        refine ax_ifb_eq 68 64 d_Joined_spread_61 rfl rfl (fun hc => ?_) (fun hc => ?_)
        · have h := ok_f (bf hc) h
          refine ax_iconst 0 d_Joined_spread_68 ic_0 69 rfl ?_
          exact ax_sub [0, 1, 2, 4] rfl (c_Joined_spread_J69 v1 v2 v4 false m hv1 (fun p hp => hR p hp) (fun s hs => h0 s hs) (fun s hs => h1 s hs) h)
        · have h := ok_t hc h
          exact ax_sub [0, 1, 2, 4] rfl (c_Joined_spread_J64 v1 v2 v4 m hv1 (fun p hp => hR p hp) (fun s hs => h0 s hs) (fun s hs => h1 s hs) h)
theorem c_Joined_spread_L20 (v1 : Nat) (v2 : Int32) (v3 : Bool) (v4 : Int32) (m : zM) (hv1 : gX.1[v1]? = some (.inr (1, zlen gX v1))) {Q : Option Value → zM → Prop} {K : ((zM) ⊕ (Int32 × zM)) → Prop} (hR : ∀ p : zM, K (.inl p) → Q none p) (h0 : ∀ s : Int32 × zM, K (.inr s) → AX gX s_Joined_spread 2 [(0, .ref 129), (1, .ref v1), (2, .int s.1)] [] s.2 Q) (h : ok (f_Joined_spread_L20 v1 v2 v3 v4 m) K) : AX gX s_Joined_spread 20 [(0, .ref 129), (1, .ref v1), (2, .int v2), (3, .int (b2i v3)), (4, .int v4)] [] m Q :=
  ok_lp (K := K) (G := fun s : Bool × Int32 => AX gX s_Joined_spread 20 [(0, .ref 129), (1, .ref v1), (2, .int v2), (3, .int (b2i s.1)), (4, .int s.2)] [] m Q) (fun s h => c_Joined_spread_B20 v1 v2 s.1 s.2 m hv1 (fun p hp => hR p hp) (fun s hs => h0 s hs) (fun s hs => hs) h) FU (v3, v4) h
set_option maxRecDepth 4000 in
theorem c_Joined_spread_B2 (v1 : Nat) (v2 : Int32) (m : zM) (hv1 : gX.1[v1]? = some (.inr (1, zlen gX v1))) {Q : Option Value → zM → Prop} {K : ((zM) ⊕ (Int32 × zM)) → Prop} (hR : ∀ p : zM, K (.inl p) → Q none p) (h0 : ∀ s : Int32 × zM, K (.inr s) → AX gX s_Joined_spread 2 [(0, .ref 129), (1, .ref v1), (2, .int s.1)] [] s.2 Q) (h : ok (f_Joined_spread_B2 v1 v2 m) K) : AX gX s_Joined_spread 2 [(0, .ref 129), (1, .ref v1), (2, .int v2)] [] m Q := by
  unfold f_Joined_spread_B2 at h
  refine ax_iload_n 2 d_Joined_spread_2 rfl rfl 3 rfl ?_
  refine ax_aload_n 0 d_Joined_spread_3 rfl rfl 4 rfl ?_
  refine ax_getI fl_Joined_22 x_129 rfl d_Joined_spread_4 7 rfl ?_
  refine ax_icmp_ge 122 10 d_Joined_spread_7 rfl rfl (fun hc => ?_) (fun hc => ?_)
  · have h := ok_t hc h
    exact ax_vret rfl d_Joined_spread_122 (hR m (ok_some h))
  · have h := ok_f hc h
    refine ax_iconst 0 d_Joined_spread_10 ic_0 11 rfl ?_
    refine ax_istore_n (ls1 := [(3, .int 0), (0, .ref 129), (1, .ref v1), (2, .int v2)]) d_Joined_spread_11 rfl (Nat.le_of_ble_eq_true rfl) rfl 12 rfl ?_
    refine ax_aload_n 1 d_Joined_spread_12 rfl rfl 13 rfl ?_
    refine ax_getR fl_Joined_29 x_129 rfl (rx_129_6 _) d_Joined_spread_13 16 rfl ?_
    refine ax_iload_n 3 d_Joined_spread_16 rfl rfl 17 rfl ?_
    refine ax_iaload x_131 d_Joined_spread_17 18 rfl h (fun i1 h => ?_)
    refine ax_istore (ls1 := [(4, .int (m.1 131 i1)), (3, .int 0), (0, .ref 129), (1, .ref v1), (2, .int v2)]) d_Joined_spread_18 (Nat.le_of_ble_eq_true rfl) rfl 20 rfl ?_
    exact ax_sub [2, 3, 4, 1, 0] rfl (c_Joined_spread_L20 v1 v2 false (m.1 131 i1) m hv1 (fun p hp => hR p hp) (fun s hs => h0 s hs) h)
theorem c_Joined_spread_L2 (v1 : Nat) (v2 : Int32) (m : zM) (hv1 : gX.1[v1]? = some (.inr (1, zlen gX v1))) {Q : Option Value → zM → Prop} {K : zM → Prop} (hR : ∀ p : zM, K (p) → Q none p)  (h : ok (f_Joined_spread_L2 v1 v2 m) K) : AX gX s_Joined_spread 2 [(0, .ref 129), (1, .ref v1), (2, .int v2)] [] m Q :=
  ok_lp (K := K) (G := fun s : Int32 × zM => AX gX s_Joined_spread 2 [(0, .ref 129), (1, .ref v1), (2, .int s.1)] [] s.2 Q) (fun s h => c_Joined_spread_B2 v1 s.1 s.2 hv1 (fun p hp => hR p hp) (fun s hs => hs) h) FU (v2, m) h
set_option maxRecDepth 4000 in
theorem zc_Joined_spread (v1 : Nat) (m : zM) (hv1 : gX.1[v1]? = some (.inr (1, zlen gX v1))) {Q : Option Value → zM → Prop} (h : ok (f_Joined_spread v1 m) (fun p => Q none p)) : zc gX s_Joined_spread [.ref 129, .ref v1] m Q := by
  refine zc_of rfl (Nat.le_of_ble_eq_true rfl) ?_
  show AX gX s_Joined_spread 0 [(0, .ref 129), (1, .ref v1)] [] m Q
  obtain ⟨K, hK⟩ : ∃ K : zM → Prop, K = (fun p : zM => Q none p) := ⟨_, rfl⟩
  have hR : ∀ p : zM, K p → Q none p := fun p hp => by rw [hK] at hp; exact hp
  replace h : ok (f_Joined_spread v1 m) (fun p : zM => Q none p) := h
  rw [← hK] at h
  unfold f_Joined_spread at h
  refine ax_iconst 0 d_Joined_spread_0 ic_0 1 rfl ?_
  refine ax_istore_n (ls1 := [(2, .int 0), (0, .ref 129), (1, .ref v1)]) d_Joined_spread_1 rfl (Nat.le_of_ble_eq_true rfl) rfl 2 rfl ?_
  exact ax_sub [1, 2, 0] rfl (c_Joined_spread_L2 v1 0 m hv1 (fun p hp => hR p hp) h)
set_option maxRecDepth 4000 in
theorem c_Study_markHoping_J46 (v1 : Int32) (m : zM)  {Q : Option Value → zM → Prop} {K : zM → Prop} (hR : ∀ p : zM, K (p) → Q none p)  (h : ok (f_Study_markHoping_J46 v1 m) K) : AX gX s_Study_markHoping 46 [(0, .ref 116), (1, .int v1)] [] m Q := by
  unfold f_Study_markHoping_J46 at h
  refine ax_aload_n 0 d_Study_markHoping_46 rfl rfl 47 rfl ?_
  refine ax_getR fl_Study_62 x_116 rfl (rx_116_1 _) d_Study_markHoping_47 50 rfl ?_
  refine ax_iconst 1 d_Study_markHoping_50 ic_1 51 rfl ?_
  refine ax_iload_n 1 d_Study_markHoping_51 rfl rfl 52 rfl ?_
  refine ax_iconst (-1) d_Study_markHoping_52 ic_m1 53 rfl ?_
  refine ax_callV mv_Study_93 ⟨Nat.le_of_ble_eq_true rfl, Nat.le_of_ble_eq_true rfl⟩ ⟨rfl, rfl⟩ [.int 1, .int v1, .int (-1)] [.int (-1), .int v1, .int 1, .ref 129] rfl rfl (rc_x_129 _) (Nat.le_of_ble_eq_true rfl) d_Study_markHoping_53 56 rfl (zc_Joined_join 1 v1 (-1) m (ok_b h (fun p6 h => ?_)))
  refine ax_aload_n 0 d_Study_markHoping_56 rfl rfl 57 rfl ?_
  refine ax_getR fl_Study_62 x_116 rfl (rx_116_1 _) d_Study_markHoping_57 60 rfl ?_
  refine ax_aload_n 0 d_Study_markHoping_60 rfl rfl 61 rfl ?_
  refine ax_getR fl_Study_38 x_116 rfl (rx_116_11 _) d_Study_markHoping_61 64 rfl ?_
  refine ax_callV mv_Study_125 ⟨Nat.le_of_ble_eq_true rfl, Nat.le_of_ble_eq_true rfl⟩ ⟨rfl, rfl⟩ [.ref 124] [.ref 124, .ref 129] rfl rfl (rc_x_129 _) (Nat.le_of_ble_eq_true rfl) d_Study_markHoping_64 67 rfl (zc_Joined_spread 124 p6 x_124z (ok_b h (fun p7 h => ?_)))
  exact ax_vret rfl d_Study_markHoping_67 (hR p7 (ok_some h))
set_option maxRecDepth 4000 in
theorem c_Study_markHoping_B9 (v1 : Int32) (v2 : Int32) (m : zM)  {Q : Option Value → zM → Prop} {K : ((zM) ⊕ (Int32 × zM)) → Prop} (hR : ∀ p : zM, K (.inl p) → Q none p) (h0 : ∀ s : Int32 × zM, K (.inr s) → AX gX s_Study_markHoping 9 [(0, .ref 116), (1, .int v1), (2, .int s.1)] [] s.2 Q) (h : ok (f_Study_markHoping_B9 v1 v2 m) K) : AX gX s_Study_markHoping 9 [(0, .ref 116), (1, .int v1), (2, .int v2)] [] m Q := by
  unfold f_Study_markHoping_B9 at h
  refine ax_iload_n 2 d_Study_markHoping_9 rfl rfl 10 rfl ?_
  refine ax_aload_n 0 d_Study_markHoping_10 rfl rfl 11 rfl ?_
  refine ax_getR fl_Study_53 x_116 rfl (rx_116_0 _) d_Study_markHoping_11 14 rfl ?_
  refine ax_getI fl_Study_103 x_24 rfl d_Study_markHoping_14 17 rfl ?_
  refine ax_iconst 4 d_Study_markHoping_17 ic_4 18 rfl ?_
  refine ax_imul d_Study_markHoping_18 19 rfl ?_
  refine ax_icmp_ge 46 22 d_Study_markHoping_19 rfl rfl (fun hc => ?_) (fun hc => ?_)
  · have h := ok_t hc h
    exact ax_sub [0, 1] rfl (c_Study_markHoping_J46 v1 m (fun p hp => hR p hp) (ok_z h))
  · have h := ok_f hc h
    refine ax_aload_n 0 d_Study_markHoping_22 rfl rfl 23 rfl ?_
    refine ax_getR fl_Study_38 x_116 rfl (rx_116_11 _) d_Study_markHoping_23 26 rfl ?_
    refine ax_iload_n 2 d_Study_markHoping_26 rfl rfl 27 rfl ?_
    refine ax_aload_n 0 d_Study_markHoping_27 rfl rfl 28 rfl ?_
    refine ax_iload_n 2 d_Study_markHoping_28 rfl rfl 29 rfl ?_
    refine ax_aload_n 0 d_Study_markHoping_29 rfl rfl 30 rfl ?_
    refine ok_tb h (fun t2 ht2 et2 h => ?_)
    refine ax_getR fl_Study_66 x_116 rfl (ry_2 et2) d_Study_markHoping_30 33 rfl ?_
    refine ax_getI fl_Study_118 (sx_Table ht2) rfl d_Study_markHoping_33 36 rfl ?_
    refine ax_callV mv_Study_121 ⟨Nat.le_of_ble_eq_true rfl, Nat.le_of_ble_eq_true rfl⟩ ⟨rfl, rfl⟩ [.int v2, .int (m.1 t2 11)] [.int (m.1 t2 11), .int v2, .ref 116, .int v2, .ref 124] rfl rfl (rc_x_116 _) (Nat.le_of_ble_eq_true rfl) d_Study_markHoping_36 39 rfl (zc_Study_isAgentIn v2 (m.1 t2 11) m (ok_b h (fun r3 h => ?_)))
    refine ax_zastore (y := r3) x_124 d_Study_markHoping_39 40 rfl h (fun i4 m5 h => ?_)
    refine ax_iinc (ls1 := [(2, .int (v2 + 1)), (0, .ref 116), (1, .int v1)]) 2 1 d_Study_markHoping_40 rfl ic_1 (Nat.le_of_ble_eq_true rfl) rfl 43 rfl ?_
    refine ax_goto 9 d_Study_markHoping_43 rfl ?_
    exact ax_sub [1, 2, 0] rfl (h0 ((v2 + 1), m5) (ok_some h))
theorem c_Study_markHoping_L9 (v1 : Int32) (v2 : Int32) (m : zM)  {Q : Option Value → zM → Prop} {K : zM → Prop} (hR : ∀ p : zM, K (p) → Q none p)  (h : ok (f_Study_markHoping_L9 v1 v2 m) K) : AX gX s_Study_markHoping 9 [(0, .ref 116), (1, .int v1), (2, .int v2)] [] m Q :=
  ok_lp (K := K) (G := fun s : Int32 × zM => AX gX s_Study_markHoping 9 [(0, .ref 116), (1, .int v1), (2, .int s.1)] [] s.2 Q) (fun s h => c_Study_markHoping_B9 v1 s.1 s.2  (fun p hp => hR p hp) (fun s hs => hs) h) FU (v2, m) h
set_option maxRecDepth 4000 in
theorem zc_Study_markHoping (v1 : Int32) (m : zM)  {Q : Option Value → zM → Prop} (h : ok (f_Study_markHoping v1 m) (fun p => Q none p)) : zc gX s_Study_markHoping [.ref 116, .int v1] m Q := by
  refine zc_of rfl (Nat.le_of_ble_eq_true rfl) ?_
  show AX gX s_Study_markHoping 0 [(0, .ref 116), (1, .int v1)] [] m Q
  obtain ⟨K, hK⟩ : ∃ K : zM → Prop, K = (fun p : zM => Q none p) := ⟨_, rfl⟩
  have hR : ∀ p : zM, K p → Q none p := fun p hp => by rw [hK] at hp; exact hp
  replace h : ok (f_Study_markHoping v1 m) (fun p : zM => Q none p) := h
  rw [← hK] at h
  unfold f_Study_markHoping at h
  refine ax_aload_n 0 d_Study_markHoping_0 rfl rfl 1 rfl ?_
  refine ax_getR fl_Study_38 x_116 rfl (rx_116_11 _) d_Study_markHoping_1 4 rfl ?_
  refine ax_callS mv_Study_73 ⟨Nat.le_of_ble_eq_true rfl, Nat.le_of_ble_eq_true rfl⟩ ⟨rfl, rfl⟩ [.ref 124] [.ref 124] rfl rfl (Nat.le_of_ble_eq_true rfl) d_Study_markHoping_4 7 rfl (zc_Study_clear 124 m x_124z (ok_b h (fun p1 h => ?_)))
  refine ax_iconst 0 d_Study_markHoping_7 ic_0 8 rfl ?_
  refine ax_istore_n (ls1 := [(2, .int 0), (0, .ref 116), (1, .int v1)]) d_Study_markHoping_8 rfl (Nat.le_of_ble_eq_true rfl) rfl 9 rfl ?_
  exact ax_sub [1, 2, 0] rfl (c_Study_markHoping_L9 v1 0 p1 (fun p hp => hR p hp) h)
set_option maxRecDepth 4000 in
theorem zc_Study_firstLike (v1 : Int32) (m : zM)  {Q : Option Value → zM → Prop} (h : ok (f_Study_firstLike v1 m) (fun p => Q (some (.int p)) m)) : zc gX s_Study_firstLike [.ref 116, .int v1] m Q := by
  refine zc_of rfl (Nat.le_of_ble_eq_true rfl) ?_
  show AX gX s_Study_firstLike 0 [(0, .ref 116), (1, .int v1)] [] m Q
  obtain ⟨K, hK⟩ : ∃ K : Int32 → Prop, K = (fun p : Int32 => Q (some (.int p)) m) := ⟨_, rfl⟩
  have hR : ∀ p : Int32, K p → Q (some (.int p)) m := fun p hp => by rw [hK] at hp; exact hp
  replace h : ok (f_Study_firstLike v1 m) (fun p : Int32 => Q (some (.int p)) m) := h
  rw [← hK] at h
  unfold f_Study_firstLike at h
  refine ax_iload_n 1 d_Study_firstLike_0 rfl rfl 1 rfl ?_
  refine ax_iload_n 1 d_Study_firstLike_1 rfl rfl 2 rfl ?_
  refine ax_iconst 4 d_Study_firstLike_2 ic_4 3 rfl ?_
  refine ax_irem d_Study_firstLike_3 (by decide) 4 rfl ?_
  refine ax_isub d_Study_firstLike_4 5 rfl ?_
  refine ax_aload_n 0 d_Study_firstLike_5 rfl rfl 6 rfl ?_
  refine ax_getR fl_Study_53 x_116 rfl (rx_116_0 _) d_Study_firstLike_6 9 rfl ?_
  refine ax_getR fl_Study_154 x_24 rfl (rx_24_10 _) d_Study_firstLike_9 12 rfl ?_
  refine ax_iload_n 1 d_Study_firstLike_12 rfl rfl 13 rfl ?_
  refine ax_iaload x_35 d_Study_firstLike_13 14 rfl h (fun i1 h => ?_)
  refine ax_iadd d_Study_firstLike_14 15 rfl ?_
  exact ax_iret rfl d_Study_firstLike_15 (hR ((v1 - (ir v1 4)) + (m.1 35 i1)) (ok_some h))
set_option maxRecDepth 4000 in
theorem c_Study_tellWanting_J52 (v1 : Nat) (v2 : Int32) (v3 : Int32) (m : zM) (hv1 : gX.1[v1]? = some (.inr (1, zlen gX v1))) {Q : Option Value → zM → Prop} {K : ((zM) ⊕ (Int32 × zM)) → Prop} (hR : ∀ p : zM, K (.inl p) → Q none p) (h0 : ∀ s : Int32 × zM, K (.inr s) → AX gX s_Study_tellWanting 2 [(0, .ref 116), (1, .ref v1), (2, .int v2), (3, .int s.1)] [] s.2 Q) (h : ok (f_Study_tellWanting_J52 v1 v2 v3 m) K) : AX gX s_Study_tellWanting 52 [(0, .ref 116), (1, .ref v1), (2, .int v2), (3, .int v3)] [] m Q := by
  unfold f_Study_tellWanting_J52 at h
  refine ax_iinc (ls1 := [(3, .int (v3 + 1)), (0, .ref 116), (1, .ref v1), (2, .int v2)]) 3 1 d_Study_tellWanting_52 rfl ic_1 (Nat.le_of_ble_eq_true rfl) rfl 55 rfl ?_
  refine ax_goto 2 d_Study_tellWanting_55 rfl ?_
  exact ax_sub [1, 2, 3, 0] rfl (h0 ((v3 + 1), m) (ok_some h))
set_option maxRecDepth 4000 in
theorem c_Study_tellWanting_J51 (v1 : Nat) (v2 : Int32) (v3 : Int32) (t0 : Nat) (t1 : Int32) (t2 : Bool) (m : zM) (hv1 : gX.1[v1]? = some (.inr (1, zlen gX v1))) (ht0 : gX.1[t0]? = some (.inr (1, zlen gX t0))) {Q : Option Value → zM → Prop} {K : ((zM) ⊕ (Int32 × zM)) → Prop} (hR : ∀ p : zM, K (.inl p) → Q none p) (h0 : ∀ s : Int32 × zM, K (.inr s) → AX gX s_Study_tellWanting 2 [(0, .ref 116), (1, .ref v1), (2, .int v2), (3, .int s.1)] [] s.2 Q) (h : ok (f_Study_tellWanting_J51 v1 v2 v3 t0 t1 t2 m) K) : AX gX s_Study_tellWanting 51 [(0, .ref 116), (1, .ref v1), (2, .int v2), (3, .int v3)] [.int (b2i t2), .int t1, .ref t0] m Q := by
  unfold f_Study_tellWanting_J51 at h
  refine ax_zastore (y := t2) ht0 d_Study_tellWanting_51 52 rfl h (fun i5 m6 h => ?_)
  exact ax_sub [0, 1, 2, 3] rfl (c_Study_tellWanting_J52 v1 v2 v3 m6 hv1 (fun p hp => hR p hp) (fun s hs => h0 s hs) h)
set_option maxRecDepth 4000 in
theorem c_Study_tellWanting_B2 (v1 : Nat) (v2 : Int32) (v3 : Int32) (m : zM) (hv1 : gX.1[v1]? = some (.inr (1, zlen gX v1))) {Q : Option Value → zM → Prop} {K : ((zM) ⊕ (Int32 × zM)) → Prop} (hR : ∀ p : zM, K (.inl p) → Q none p) (h0 : ∀ s : Int32 × zM, K (.inr s) → AX gX s_Study_tellWanting 2 [(0, .ref 116), (1, .ref v1), (2, .int v2), (3, .int s.1)] [] s.2 Q) (h : ok (f_Study_tellWanting_B2 v1 v2 v3 m) K) : AX gX s_Study_tellWanting 2 [(0, .ref 116), (1, .ref v1), (2, .int v2), (3, .int v3)] [] m Q := by
  unfold f_Study_tellWanting_B2 at h
  refine ax_iload_n 3 d_Study_tellWanting_2 rfl rfl 3 rfl ?_
  refine ax_aload_n 0 d_Study_tellWanting_3 rfl rfl 4 rfl ?_
  refine ax_getR fl_Study_53 x_116 rfl (rx_116_0 _) d_Study_tellWanting_4 7 rfl ?_
  refine ax_getI fl_Study_103 x_24 rfl d_Study_tellWanting_7 10 rfl ?_
  refine ax_iconst 4 d_Study_tellWanting_10 ic_4 11 rfl ?_
  refine ax_imul d_Study_tellWanting_11 12 rfl ?_
  refine ax_icmp_ge 58 15 d_Study_tellWanting_12 rfl rfl (fun hc => ?_) (fun hc => ?_)
  · have h := ok_t hc h
    exact ax_vret rfl d_Study_tellWanting_58 (hR m (ok_some h))
  · have h := ok_f hc h
    refine ax_aload_n 0 d_Study_tellWanting_15 rfl rfl 16 rfl ?_
    refine ax_iload_n 3 d_Study_tellWanting_16 rfl rfl 17 rfl ?_
    refine ax_aload_n 0 d_Study_tellWanting_17 rfl rfl 18 rfl ?_
    refine ok_tb h (fun t1 ht1 et1 h => ?_)
    refine ax_getR fl_Study_66 x_116 rfl (ry_2 et1) d_Study_tellWanting_18 21 rfl ?_
    refine ax_getI fl_Study_77 (sx_Table ht1) rfl d_Study_tellWanting_21 24 rfl ?_
    refine ax_callV mv_Study_121 ⟨Nat.le_of_ble_eq_true rfl, Nat.le_of_ble_eq_true rfl⟩ ⟨rfl, rfl⟩ [.int v3, .int (m.1 t1 10)] [.int (m.1 t1 10), .int v3, .ref 116] rfl rfl (rc_x_116 _) (Nat.le_of_ble_eq_true rfl) d_Study_tellWanting_24 27 rfl (zc_Study_isAgentIn v3 (m.1 t1 10) m (ok_b h (fun r2 h => ?_)))
    refine ax_ifb_eq 52 30 d_Study_tellWanting_27 rfl rfl (fun hc => ?_) (fun hc => ?_)
    · have h := ok_f (bf hc) h
      exact ax_sub [0, 1, 2, 3] rfl (c_Study_tellWanting_J52 v1 v2 v3 m hv1 (fun p hp => hR p hp) (fun s hs => h0 s hs) h)
    · have h := ok_t hc h
      refine ax_aload_n 1 d_Study_tellWanting_30 rfl rfl 31 rfl ?_
      refine ax_iload_n 3 d_Study_tellWanting_31 rfl rfl 32 rfl ?_
      refine ax_aload_n 0 d_Study_tellWanting_32 rfl rfl 33 rfl ?_
      refine ax_getR fl_Study_38 x_116 rfl (rx_116_11 _) d_Study_tellWanting_33 36 rfl ?_
      refine ax_aload_n 0 d_Study_tellWanting_36 rfl rfl 37 rfl ?_
      refine ax_iload_n 3 d_Study_tellWanting_37 rfl rfl 38 rfl ?_
      refine ax_callV mv_Study_141 ⟨Nat.le_of_ble_eq_true rfl, Nat.le_of_ble_eq_true rfl⟩ ⟨rfl, rfl⟩ [.int v3] [.int v3, .ref 116, .ref 124, .int v3, .ref v1] rfl rfl (rc_x_116 _) (Nat.le_of_ble_eq_true rfl) d_Study_tellWanting_38 41 rfl (zc_Study_firstLike v3 m (ok_b h (fun r3 h => ?_)))
      refine ax_baload x_124 d_Study_tellWanting_41 42 rfl h (fun i4 h => ?_)
      refine ax_iload_n 2 d_Study_tellWanting_42 rfl rfl 43 rfl ?_
      refine ax_icmp_ne 50 46 d_Study_tellWanting_43 rfl rfl (fun hc => ?_) (fun hc => ?_)
      · have h := ok_f hc h
        refine ax_iconst 0 d_Study_tellWanting_50 ic_0 51 rfl ?_
        exact ax_sub [0, 1, 2, 3] rfl (c_Study_tellWanting_J51 v1 v2 v3 v1 v3 false m hv1 hv1 (fun p hp => hR p hp) (fun s hs => h0 s hs) h)
      · have h := ok_t hc h
        refine ax_iconst 1 d_Study_tellWanting_46 ic_1 47 rfl ?_
        refine ax_goto 51 d_Study_tellWanting_47 rfl ?_
        exact ax_sub [0, 1, 2, 3] rfl (c_Study_tellWanting_J51 v1 v2 v3 v1 v3 true m hv1 hv1 (fun p hp => hR p hp) (fun s hs => h0 s hs) h)
theorem c_Study_tellWanting_L2 (v1 : Nat) (v2 : Int32) (v3 : Int32) (m : zM) (hv1 : gX.1[v1]? = some (.inr (1, zlen gX v1))) {Q : Option Value → zM → Prop} {K : zM → Prop} (hR : ∀ p : zM, K (p) → Q none p)  (h : ok (f_Study_tellWanting_L2 v1 v2 v3 m) K) : AX gX s_Study_tellWanting 2 [(0, .ref 116), (1, .ref v1), (2, .int v2), (3, .int v3)] [] m Q :=
  ok_lp (K := K) (G := fun s : Int32 × zM => AX gX s_Study_tellWanting 2 [(0, .ref 116), (1, .ref v1), (2, .int v2), (3, .int s.1)] [] s.2 Q) (fun s h => c_Study_tellWanting_B2 v1 v2 s.1 s.2 hv1 (fun p hp => hR p hp) (fun s hs => hs) h) FU (v3, m) h
set_option maxRecDepth 4000 in
theorem zc_Study_tellWanting (v1 : Nat) (v2 : Int32) (m : zM) (hv1 : gX.1[v1]? = some (.inr (1, zlen gX v1))) {Q : Option Value → zM → Prop} (h : ok (f_Study_tellWanting v1 v2 m) (fun p => Q none p)) : zc gX s_Study_tellWanting [.ref 116, .ref v1, .int v2] m Q := by
  refine zc_of rfl (Nat.le_of_ble_eq_true rfl) ?_
  show AX gX s_Study_tellWanting 0 [(0, .ref 116), (1, .ref v1), (2, .int v2)] [] m Q
  obtain ⟨K, hK⟩ : ∃ K : zM → Prop, K = (fun p : zM => Q none p) := ⟨_, rfl⟩
  have hR : ∀ p : zM, K p → Q none p := fun p hp => by rw [hK] at hp; exact hp
  replace h : ok (f_Study_tellWanting v1 v2 m) (fun p : zM => Q none p) := h
  rw [← hK] at h
  unfold f_Study_tellWanting at h
  refine ax_iconst 0 d_Study_tellWanting_0 ic_0 1 rfl ?_
  refine ax_istore_n (ls1 := [(3, .int 0), (0, .ref 116), (1, .ref v1), (2, .int v2)]) d_Study_tellWanting_1 rfl (Nat.le_of_ble_eq_true rfl) rfl 2 rfl ?_
  exact ax_sub [1, 2, 3, 0] rfl (c_Study_tellWanting_L2 v1 v2 0 m hv1 (fun p hp => hR p hp) h)
set_option maxRecDepth 4000 in
theorem zc_Atlas_mover (v1 : Int32) (m : zM)  {Q : Option Value → zM → Prop} (h : ok (f_Atlas_mover v1 m) (fun p => Q (some (.int p)) m)) : zc gX s_Atlas_mover [.ref 24, .int v1] m Q := by
  refine zc_of rfl (Nat.le_of_ble_eq_true rfl) ?_
  show AX gX s_Atlas_mover 0 [(0, .ref 24), (1, .int v1)] [] m Q
  obtain ⟨K, hK⟩ : ∃ K : Int32 → Prop, K = (fun p : Int32 => Q (some (.int p)) m) := ⟨_, rfl⟩
  have hR : ∀ p : Int32, K p → Q (some (.int p)) m := fun p hp => by rw [hK] at hp; exact hp
  replace h : ok (f_Atlas_mover v1 m) (fun p : Int32 => Q (some (.int p)) m) := h
  rw [← hK] at h
  unfold f_Atlas_mover at h
  refine ax_aload_n 0 d_Atlas_mover_0 rfl rfl 1 rfl ?_
  refine ax_getR fl_Atlas_56 x_24 rfl (rx_24_12 _) d_Atlas_mover_1 4 rfl ?_
  refine ax_iload_n 1 d_Atlas_mover_4 rfl rfl 5 rfl ?_
  refine ax_iaload x_37 d_Atlas_mover_5 6 rfl h (fun i1 h => ?_)
  refine ax_bipush 8 d_Atlas_mover_6 bp_8 8 rfl ?_
  refine ax_ishr d_Atlas_mover_8 9 rfl ?_
  refine ax_iconst 3 d_Atlas_mover_9 ic_3 10 rfl ?_
  refine ax_iand d_Atlas_mover_10 11 rfl ?_
  exact ax_iret rfl d_Atlas_mover_11 (hR ((shr (m.1 37 i1) 8) &&& 3) (ok_some h))
set_option maxRecDepth 4000 in
theorem c_Joined_isRing_J201 (v3 : Int32) (v4 : Int32) (v5 : Int32) (m : zM)  {Q : Option Value → zM → Prop} {K : Bool → Prop} (hR : ∀ p : Bool, K (p) → Q (some (.int (b2i p))) m)  (h : ok (f_Joined_isRing_J201 v3 v4 v5 m) K) : AX gX s_Joined_isRing 201 [(3, .int v3), (4, .int v4), (5, .int v5)] [] m Q := by
  unfold f_Joined_isRing_J201 at h
  refine ax_iload_n 0 d_Joined_isRing_201 rfl rfl 202 rfl ?_
  refine ax_if_eq 216 205 d_Joined_isRing_202 rfl rfl (fun hc => ?_) (fun hc => ?_)
  · have h := ok_t hc h
    refine ax_iconst 0 d_Joined_isRing_216 ic_0 217 rfl ?_
    exact ax_zret (b := false) rfl d_Joined_isRing_217 (hR false (ok_some h))
  · have h := ok_f hc h
    refine ax_iload 1 d_Joined_isRing_205 rfl 207 rfl ?_
    refine ax_iload 2 d_Joined_isRing_207 rfl 209 rfl ?_
    refine ax_icmp_ne 216 212 d_Joined_isRing_209 rfl rfl (fun hc => ?_) (fun hc => ?_)
    · have h := ok_f hc h
      refine ax_iconst 0 d_Joined_isRing_216 ic_0 217 rfl ?_
      exact ax_zret (b := false) rfl d_Joined_isRing_217 (hR false (ok_some h))
    · have h := ok_t hc h
      refine ax_iconst 1 d_Joined_isRing_212 ic_1 213 rfl ?_
      refine ax_goto 217 d_Joined_isRing_213 rfl ?_
      exact ax_zret (b := true) rfl d_Joined_isRing_217 (hR true (ok_some h))
set_option maxRecDepth 4000 in
theorem c_Joined_isRing_J195 (v1 : Int32) (v2 : Nat) (v3 : Int32) (v4 : Int32) (v5 : Int32) (v6 : Int32) (m : zM) (hv2 : v2 ∈ li_Table) {Q : Option Value → zM → Prop} {K : ((Bool) ⊕ (Int32 × Int32 × Int32 × Int32)) → Prop} (hR : ∀ p : Bool, K (.inl p) → Q (some (.int (b2i p))) m) (h0 : ∀ s : Int32 × Int32 × Int32 × Int32, K (.inr s) → AX gX s_Joined_isRing 16 [(0, .ref 129), (1, .int v1), (2, .ref v2), (3, .int s.1), (4, .int s.2.1), (5, .int s.2.2.1), (6, .int s.2.2.2)] [] m Q) (h : ok (f_Joined_isRing_J195 v1 v2 v3 v4 v5 v6 m) K) : AX gX s_Joined_isRing 195 [(0, .ref 129), (1, .int v1), (2, .ref v2), (3, .int v3), (4, .int v4), (5, .int v5), (6, .int v6)] [] m Q := by
  unfold f_Joined_isRing_J195 at h
  refine ax_iinc (ls1 := [(6, .int (v6 + 1)), (0, .ref 129), (1, .int v1), (2, .ref v2), (3, .int v3), (4, .int v4), (5, .int v5)]) 6 1 d_Joined_isRing_195 rfl ic_1 (Nat.le_of_ble_eq_true rfl) rfl 198 rfl ?_
  refine ax_goto 16 d_Joined_isRing_198 rfl ?_
  exact ax_sub [1, 2, 3, 4, 5, 6, 0] rfl (h0 (v3, v4, v5, (v6 + 1)) (ok_some h))
set_option maxRecDepth 4000 in
theorem c_Joined_isRing_J189 (v1 : Int32) (v2 : Nat) (v3 : Int32) (v4 : Int32) (v5 : Int32) (v6 : Int32) (v7 : Int32) (v8 : Int32) (v9 : Int32) (m : zM) (hv2 : v2 ∈ li_Table) {Q : Option Value → zM → Prop} {K : (((Bool) ⊕ (Int32 × Int32 × Int32 × Int32)) ⊕ (Int32 × Int32 × Int32 × Int32)) → Prop} (hR : ∀ p : Bool, K (.inl (.inl p)) → Q (some (.int (b2i p))) m) (h0 : ∀ s : Int32 × Int32 × Int32 × Int32, K (.inl (.inr s)) → AX gX s_Joined_isRing 16 [(0, .ref 129), (1, .int v1), (2, .ref v2), (3, .int s.1), (4, .int s.2.1), (5, .int s.2.2.1), (6, .int s.2.2.2)] [] m Q) (h1 : ∀ s : Int32 × Int32 × Int32 × Int32, K (.inr s) → AX gX s_Joined_isRing 56 [(0, .ref 129), (1, .int v1), (2, .ref v2), (3, .int s.1), (4, .int s.2.1), (5, .int s.2.2.1), (6, .int v6), (7, .int v7), (8, .int v8), (9, .int s.2.2.2)] [] m Q) (h : ok (f_Joined_isRing_J189 v1 v2 v3 v4 v5 v6 v7 v8 v9 m) K) : AX gX s_Joined_isRing 189 [(0, .ref 129), (1, .int v1), (2, .ref v2), (3, .int v3), (4, .int v4), (5, .int v5), (6, .int v6), (7, .int v7), (8, .int v8), (9, .int v9)] [] m Q := by
  unfold f_Joined_isRing_J189 at h
  refine ax_iinc (ls1 := [(9, .int (v9 + 1)), (0, .ref 129), (1, .int v1), (2, .ref v2), (3, .int v3), (4, .int v4), (5, .int v5), (6, .int v6), (7, .int v7), (8, .int v8)]) 9 1 d_Joined_isRing_189 rfl ic_1 (Nat.le_of_ble_eq_true rfl) rfl 192 rfl ?_
  refine ax_goto 56 d_Joined_isRing_192 rfl ?_
  exact ax_sub [1, 2, 3, 4, 5, 6, 7, 8, 9, 0] rfl (h1 (v3, v4, v5, (v9 + 1)) (ok_some h))
set_option maxRecDepth 4000 in
theorem c_Joined_isRing_J186 (v1 : Int32) (v2 : Nat) (v3 : Int32) (v4 : Int32) (v6 : Int32) (v7 : Int32) (v8 : Int32) (v9 : Int32) (t0 : Int32) (t1 : Int32) (m : zM) (hv2 : v2 ∈ li_Table) {Q : Option Value → zM → Prop} {K : (((Bool) ⊕ (Int32 × Int32 × Int32 × Int32)) ⊕ (Int32 × Int32 × Int32 × Int32)) → Prop} (hR : ∀ p : Bool, K (.inl (.inl p)) → Q (some (.int (b2i p))) m) (h0 : ∀ s : Int32 × Int32 × Int32 × Int32, K (.inl (.inr s)) → AX gX s_Joined_isRing 16 [(0, .ref 129), (1, .int v1), (2, .ref v2), (3, .int s.1), (4, .int s.2.1), (5, .int s.2.2.1), (6, .int s.2.2.2)] [] m Q) (h1 : ∀ s : Int32 × Int32 × Int32 × Int32, K (.inr s) → AX gX s_Joined_isRing 56 [(0, .ref 129), (1, .int v1), (2, .ref v2), (3, .int s.1), (4, .int s.2.1), (5, .int s.2.2.1), (6, .int v6), (7, .int v7), (8, .int v8), (9, .int s.2.2.2)] [] m Q) (h : ok (f_Joined_isRing_J186 v1 v2 v3 v4 v6 v7 v8 v9 t0 t1 m) K) : AX gX s_Joined_isRing 186 [(0, .ref 129), (1, .int v1), (2, .ref v2), (3, .int v3), (4, .int v4), (6, .int v6), (7, .int v7), (8, .int v8), (9, .int v9)] [.int t1, .int t0] m Q := by
  unfold f_Joined_isRing_J186 at h
  refine ax_ior d_Joined_isRing_186 187 rfl ?_
  refine ax_istore (ls1 := [(5, .int (t0 ||| t1)), (0, .ref 129), (1, .int v1), (2, .ref v2), (3, .int v3), (4, .int v4), (6, .int v6), (7, .int v7), (8, .int v8), (9, .int v9)]) d_Joined_isRing_187 (Nat.le_of_ble_eq_true rfl) rfl 189 rfl ?_
  exact ax_sub [1, 2, 3, 4, 5, 0, 6, 7, 8, 9] rfl (c_Joined_isRing_J189 v1 v2 v3 v4 (t0 ||| t1) v6 v7 v8 v9 m hv2 (fun p hp => hR p hp) (fun s hs => h0 s hs) (fun s hs => h1 s hs) h)
set_option maxRecDepth 4000 in
theorem c_Joined_isRing_J105 (v1 : Int32) (v2 : Nat) (v3 : Int32) (v4 : Int32) (v5 : Int32) (v6 : Int32) (v7 : Int32) (v8 : Int32) (v9 : Int32) (t0 : Bool) (m : zM) (hv2 : v2 ∈ li_Table) {Q : Option Value → zM → Prop} {K : (((Bool) ⊕ (Int32 × Int32 × Int32 × Int32)) ⊕ (Int32 × Int32 × Int32 × Int32)) → Prop} (hR : ∀ p : Bool, K (.inl (.inl p)) → Q (some (.int (b2i p))) m) (h0 : ∀ s : Int32 × Int32 × Int32 × Int32, K (.inl (.inr s)) → AX gX s_Joined_isRing 16 [(0, .ref 129), (1, .int v1), (2, .ref v2), (3, .int s.1), (4, .int s.2.1), (5, .int s.2.2.1), (6, .int s.2.2.2)] [] m Q) (h1 : ∀ s : Int32 × Int32 × Int32 × Int32, K (.inr s) → AX gX s_Joined_isRing 56 [(0, .ref 129), (1, .int v1), (2, .ref v2), (3, .int s.1), (4, .int s.2.1), (5, .int s.2.2.1), (6, .int v6), (7, .int v7), (8, .int v8), (9, .int s.2.2.2)] [] m Q) (h : ok (f_Joined_isRing_J105 v1 v2 v3 v4 v5 v6 v7 v8 v9 t0 m) K) : AX gX s_Joined_isRing 105 [(0, .ref 129), (1, .int v1), (2, .ref v2), (3, .int v3), (4, .int v4), (5, .int v5), (6, .int v6), (7, .int v7), (8, .int v8), (9, .int v9)] [.int (b2i t0)] m Q := by
  unfold f_Joined_isRing_J105 at h
  refine ax_istore (ls1 := [(11, .int (b2i t0)), (0, .ref 129), (1, .int v1), (2, .ref v2), (3, .int v3), (4, .int v4), (5, .int v5), (6, .int v6), (7, .int v7), (8, .int v8), (9, .int v9)]) d_Joined_isRing_105 (Nat.le_of_ble_eq_true rfl) rfl 107 rfl ?_
  refine ax_iload_n 4 d_Joined_isRing_107 rfl rfl 108 rfl ?_
  refine ax_iload 0 d_Joined_isRing_108 rfl 110 rfl ?_
  refine ax_ior d_Joined_isRing_110 111 rfl ?_
  refine ax_istore_n (ls1 := [(3, .int (v3 ||| (b2i t0))), (11, .int (b2i t0)), (0, .ref 129), (1, .int v1), (2, .ref v2), (4, .int v4), (5, .int v5), (6, .int v6), (7, .int v7), (8, .int v8), (9, .int v9)]) d_Joined_isRing_111 rfl (Nat.le_of_ble_eq_true rfl) rfl 112 rfl ?_
  refine ax_aload_n 2 d_Joined_isRing_112 rfl rfl 113 rfl ?_
  refine ax_getR fl_Joined_59 x_129 rfl (rx_129_0 _) d_Joined_isRing_113 116 rfl ?_
  refine ax_iload 10 d_Joined_isRing_116 rfl 118 rfl ?_
  refine ax_callV mv_Joined_134 ⟨Nat.le_of_ble_eq_true rfl, Nat.le_of_ble_eq_true rfl⟩ ⟨rfl, rfl⟩ [.int v9] [.int v9, .ref 24] rfl rfl (rc_x_24 _) (Nat.le_of_ble_eq_true rfl) d_Joined_isRing_118 121 rfl (zc_Atlas_mover v9 m (ok_b h (fun r8 h => ?_)))
  refine ax_iload 8 d_Joined_isRing_121 rfl 123 rfl ?_
  refine ax_iconst 4 d_Joined_isRing_123 ic_4 124 rfl ?_
  refine ax_irem d_Joined_isRing_124 (by decide) 125 rfl ?_
  refine ax_icmp_ne 189 128 d_Joined_isRing_125 rfl rfl (fun hc => ?_) (fun hc => ?_)
  · have h := ok_f hc h
    exact ax_sub [2, 3, 4, 0, 5, 6, 7, 8, 9, 10] rfl (c_Joined_isRing_J189 v1 v2 (v3 ||| (b2i t0)) v4 v5 v6 v7 v8 v9 m hv2 (fun p hp => hR p hp) (fun s hs => h0 s hs) (fun s hs => h1 s hs) h)
  · have h := ok_t hc h
    refine ax_aload_n 4 d_Joined_isRing_128 rfl rfl 129 rfl ?_
    refine ax_getR fl_Joined_137 (sx_Table hv2) rfl (ro_Table_5 hv2 _) d_Joined_isRing_129 132 rfl ?_
    refine ax_aload_n 2 d_Joined_isRing_132 rfl rfl 133 rfl ?_
    refine ax_getR fl_Joined_59 x_129 rfl (rx_129_0 _) d_Joined_isRing_133 136 rfl ?_
    refine ax_iload 10 d_Joined_isRing_136 rfl 138 rfl ?_
    refine ax_callV mv_Joined_94 ⟨Nat.le_of_ble_eq_true rfl, Nat.le_of_ble_eq_true rfl⟩ ⟨rfl, rfl⟩ [.int v9] [.int v9, .ref 24, .ref (v2 + 3)] rfl rfl (rc_x_24 _) (Nat.le_of_ble_eq_true rfl) d_Joined_isRing_138 141 rfl (zc_Atlas_by v9 m (ok_b h (fun r9 h => ?_)))
    refine ax_aaload (fun i => v2 + 7 + i) (sa_Table_5 hv2) (ra_row hv2 _) d_Joined_isRing_141 142 rfl h (fun i10 hli10 h => ?_)
    refine ax_getI fl_Joined_143 (sx_Row (in_row hv2 hli10)) rfl d_Joined_isRing_142 145 rfl ?_
    refine ax_if_ne 189 148 d_Joined_isRing_145 rfl rfl (fun hc => ?_) (fun hc => ?_)
    · have h := ok_f hc h
      exact ax_sub [2, 3, 4, 0, 5, 6, 7, 8, 9, 10] rfl (c_Joined_isRing_J189 v1 v2 (v3 ||| (b2i t0)) v4 v5 v6 v7 v8 v9 m hv2 (fun p hp => hR p hp) (fun s hs => h0 s hs) (fun s hs => h1 s hs) h)
    · have h := ok_t hc h
      refine ax_iload 5 d_Joined_isRing_148 rfl 150 rfl ?_
      refine ax_iconst 1 d_Joined_isRing_150 ic_1 151 rfl ?_
      refine ax_aload_n 2 d_Joined_isRing_151 rfl rfl 152 rfl ?_
      refine ax_getR fl_Joined_59 x_129 rfl (rx_129_0 _) d_Joined_isRing_152 155 rfl ?_
      refine ax_iload 10 d_Joined_isRing_155 rfl 157 rfl ?_
      refine ax_callV mv_Joined_94 ⟨Nat.le_of_ble_eq_true rfl, Nat.le_of_ble_eq_true rfl⟩ ⟨rfl, rfl⟩ [.int v9] [.int v9, .ref 24, .int 1, .int v4] rfl rfl (rc_x_24 _) (Nat.le_of_ble_eq_true rfl) d_Joined_isRing_157 160 rfl (zc_Atlas_by v9 m (ok_b h (fun r11 h => ?_)))
      refine ax_ishl d_Joined_isRing_160 161 rfl ?_
      refine ax_ior d_Joined_isRing_161 162 rfl ?_
      refine ax_istore (ls1 := [(4, .int (v4 ||| (shl 1 r11))), (3, .int (v3 ||| (b2i t0))), (11, .int (b2i t0)), (0, .ref 129), (1, .int v1), (2, .ref v2), (5, .int v5), (6, .int v6), (7, .int v7), (8, .int v8), (9, .int v9)]) d_Joined_isRing_162 (Nat.le_of_ble_eq_true rfl) rfl 164 rfl ?_
      refine ax_iload 6 d_Joined_isRing_164 rfl 166 rfl ?_
      refine ax_iload 2 d_Joined_isRing_166 rfl 168 rfl ?_
      refine ax_ifb_eq 185 171 d_Joined_isRing_168 rfl rfl (fun hc => ?_) (fun hc => ?_)
      · have h := ok_f (bf hc) h
        refine ax_iconst 0 d_Joined_isRing_185 ic_0 186 rfl ?_
        exact ax_sub [3, 4, 5, 1, 0, 7, 8, 9, 10] rfl (c_Joined_isRing_J186 v1 v2 (v3 ||| (b2i t0)) (v4 ||| (shl 1 r11)) v6 v7 v8 v9 v5 0 m hv2 (fun p hp => hR p hp) (fun s hs => h0 s hs) (fun s hs => h1 s hs) h)
      · have h := ok_t hc h
        refine ax_iconst 1 d_Joined_isRing_171 ic_1 172 rfl ?_
        refine ax_aload_n 3 d_Joined_isRing_172 rfl rfl 173 rfl ?_
        refine ax_getR fl_Joined_59 x_129 rfl (rx_129_0 _) d_Joined_isRing_173 176 rfl ?_
        refine ax_iload 10 d_Joined_isRing_176 rfl 178 rfl ?_
        refine ax_callV mv_Joined_94 ⟨Nat.le_of_ble_eq_true rfl, Nat.le_of_ble_eq_true rfl⟩ ⟨rfl, rfl⟩ [.int v9] [.int v9, .ref 24, .int 1, .int v5] rfl rfl (rc_x_24 _) (Nat.le_of_ble_eq_true rfl) d_Joined_isRing_178 181 rfl (zc_Atlas_by v9 m (ok_b h (fun r12 h => ?_)))
        refine ax_ishl d_Joined_isRing_181 182 rfl ?_
        refine ax_goto 186 d_Joined_isRing_182 rfl ?_
        exact ax_sub [3, 4, 5, 1, 0, 7, 8, 9, 10] rfl (c_Joined_isRing_J186 v1 v2 (v3 ||| (b2i t0)) (v4 ||| (shl 1 r11)) v6 v7 v8 v9 v5 (shl 1 r12) m hv2 (fun p hp => hR p hp) (fun s hs => h0 s hs) (fun s hs => h1 s hs) h)
set_option maxRecDepth 4000 in
theorem c_Joined_isRing_J104 (v1 : Int32) (v2 : Nat) (v3 : Int32) (v4 : Int32) (v5 : Int32) (v6 : Int32) (v7 : Int32) (v8 : Int32) (v9 : Int32) (m : zM) (hv2 : v2 ∈ li_Table) {Q : Option Value → zM → Prop} {K : (((Bool) ⊕ (Int32 × Int32 × Int32 × Int32)) ⊕ (Int32 × Int32 × Int32 × Int32)) → Prop} (hR : ∀ p : Bool, K (.inl (.inl p)) → Q (some (.int (b2i p))) m) (h0 : ∀ s : Int32 × Int32 × Int32 × Int32, K (.inl (.inr s)) → AX gX s_Joined_isRing 16 [(0, .ref 129), (1, .int v1), (2, .ref v2), (3, .int s.1), (4, .int s.2.1), (5, .int s.2.2.1), (6, .int s.2.2.2)] [] m Q) (h1 : ∀ s : Int32 × Int32 × Int32 × Int32, K (.inr s) → AX gX s_Joined_isRing 56 [(0, .ref 129), (1, .int v1), (2, .ref v2), (3, .int s.1), (4, .int s.2.1), (5, .int s.2.2.1), (6, .int v6), (7, .int v7), (8, .int v8), (9, .int s.2.2.2)] [] m Q) (h : ok (f_Joined_isRing_J104 v1 v2 v3 v4 v5 v6 v7 v8 v9 m) K) : AX gX s_Joined_isRing 104 [(0, .ref 129), (1, .int v1), (2, .ref v2), (3, .int v3), (4, .int v4), (5, .int v5), (6, .int v6), (7, .int v7), (8, .int v8), (9, .int v9)] [] m Q := by
  unfold f_Joined_isRing_J104 at h
  refine ax_iconst 0 d_Joined_isRing_104 ic_0 105 rfl ?_
  exact ax_sub [0, 1, 2, 3, 4, 5, 6, 7, 8, 9] rfl (c_Joined_isRing_J105 v1 v2 v3 v4 v5 v6 v7 v8 v9 false m hv2 (fun p hp => hR p hp) (fun s hs => h0 s hs) (fun s hs => h1 s hs) h)
set_option maxRecDepth 4000 in
theorem c_Joined_isRing_B56 (v1 : Int32) (v2 : Nat) (v3 : Int32) (v4 : Int32) (v5 : Int32) (v6 : Int32) (v7 : Int32) (v8 : Int32) (v9 : Int32) (m : zM) (hv2 : v2 ∈ li_Table) {Q : Option Value → zM → Prop} {K : (((Bool) ⊕ (Int32 × Int32 × Int32 × Int32)) ⊕ (Int32 × Int32 × Int32 × Int32)) → Prop} (hR : ∀ p : Bool, K (.inl (.inl p)) → Q (some (.int (b2i p))) m) (h0 : ∀ s : Int32 × Int32 × Int32 × Int32, K (.inl (.inr s)) → AX gX s_Joined_isRing 16 [(0, .ref 129), (1, .int v1), (2, .ref v2), (3, .int s.1), (4, .int s.2.1), (5, .int s.2.2.1), (6, .int s.2.2.2)] [] m Q) (h1 : ∀ s : Int32 × Int32 × Int32 × Int32, K (.inr s) → AX gX s_Joined_isRing 56 [(0, .ref 129), (1, .int v1), (2, .ref v2), (3, .int s.1), (4, .int s.2.1), (5, .int s.2.2.1), (6, .int v6), (7, .int v7), (8, .int v8), (9, .int s.2.2.2)] [] m Q) (h : ok (f_Joined_isRing_B56 v1 v2 v3 v4 v5 v6 v7 v8 v9 m) K) : AX gX s_Joined_isRing 56 [(0, .ref 129), (1, .int v1), (2, .ref v2), (3, .int v3), (4, .int v4), (5, .int v5), (6, .int v6), (7, .int v7), (8, .int v8), (9, .int v9)] [] m Q := by
  unfold f_Joined_isRing_B56 at h
  refine ax_iload 9 d_Joined_isRing_56 rfl 58 rfl ?_
  refine ax_aload_n 0 d_Joined_isRing_58 rfl rfl 59 rfl ?_
  refine ax_getR fl_Joined_59 x_129 rfl (rx_129_0 _) d_Joined_isRing_59 62 rfl ?_
  refine ax_getR fl_Joined_109 x_24 rfl (rx_24_11 _) d_Joined_isRing_62 65 rfl ?_
  refine ax_iload 8 d_Joined_isRing_65 rfl 67 rfl ?_
  refine ax_iconst 1 d_Joined_isRing_67 ic_1 68 rfl ?_
  refine ax_iadd d_Joined_isRing_68 69 rfl ?_
  refine ax_iaload x_36 d_Joined_isRing_69 70 rfl h (fun i5 h => ?_)
  refine ax_icmp_ge 195 73 d_Joined_isRing_70 rfl rfl (fun hc => ?_) (fun hc => ?_)
  · have h := ok_t hc h
    exact ax_sub [0, 1, 2, 3, 4, 5, 6] rfl (c_Joined_isRing_J195 v1 v2 v3 v4 v5 v6 m hv2 (fun p hp => hR p hp) (fun s hs => h0 s hs) (ok_z h))
  · have h := ok_f hc h
    refine ax_aload_n 0 d_Joined_isRing_73 rfl rfl 74 rfl ?_
    refine ax_iload 7 d_Joined_isRing_74 rfl 76 rfl ?_
    refine ax_iload 9 d_Joined_isRing_76 rfl 78 rfl ?_
    refine ax_callV mv_Joined_112 ⟨Nat.le_of_ble_eq_true rfl, Nat.le_of_ble_eq_true rfl⟩ ⟨rfl, rfl⟩ [.int v7, .int v9] [.int v9, .int v7, .ref 129] rfl rfl (rc_x_129 _) (Nat.le_of_ble_eq_true rfl) d_Joined_isRing_78 81 rfl (zc_Joined_next v7 v9 m (ok_b h (fun r6 h => ?_)))
    refine ax_istore (ls1 := [(10, .int r6), (0, .ref 129), (1, .int v1), (2, .ref v2), (3, .int v3), (4, .int v4), (5, .int v5), (6, .int v6), (7, .int v7), (8, .int v8), (9, .int v9)]) d_Joined_isRing_81 (Nat.le_of_ble_eq_true rfl) rfl 83 rfl ?_
    refine ax_iload 0 d_Joined_isRing_83 rfl 85 rfl ?_
    refine ax_iconst (-1) d_Joined_isRing_85 ic_m1 86 rfl ?_
    refine ax_icmp_eq 104 89 d_Joined_isRing_86 rfl rfl (fun hc => ?_) (fun hc => ?_)
    · have h := ok_t hc h
      exact ax_sub [1, 2, 3, 4, 5, 6, 7, 8, 9, 10] rfl (c_Joined_isRing_J104 v1 v2 v3 v4 v5 v6 v7 v8 v9 m hv2 (fun p hp => hR p hp) (fun s hs => h0 s hs) (fun s hs => h1 s hs) h)
    · have h := ok_f hc h
      refine ax_aload_n 1 d_Joined_isRing_89 rfl rfl 90 rfl ?_
      refine ax_getR fl_Joined_25 x_129 rfl (rx_129_5 _) d_Joined_isRing_90 93 rfl ?_
      refine ax_iload 0 d_Joined_isRing_93 rfl 95 rfl ?_
      refine ax_iaload x_130 d_Joined_isRing_95 96 rfl h (fun i7 h => ?_)
      refine ax_iload_n 2 d_Joined_isRing_96 rfl rfl 97 rfl ?_
      refine ax_icmp_ne 104 100 d_Joined_isRing_97 rfl rfl (fun hc => ?_) (fun hc => ?_)
      · have h := ok_f hc h
        exact ax_sub [1, 2, 3, 4, 5, 6, 7, 8, 9, 10] rfl (c_Joined_isRing_J104 v1 v2 v3 v4 v5 v6 v7 v8 v9 m hv2 (fun p hp => hR p hp) (fun s hs => h0 s hs) (fun s hs => h1 s hs) h)
      · have h := ok_t hc h
        refine ax_iconst 1 d_Joined_isRing_100 ic_1 101 rfl ?_
        refine ax_goto 105 d_Joined_isRing_101 rfl ?_
        exact ax_sub [1, 2, 3, 4, 5, 6, 7, 8, 9, 10] rfl (c_Joined_isRing_J105 v1 v2 v3 v4 v5 v6 v7 v8 v9 true m hv2 (fun p hp => hR p hp) (fun s hs => h0 s hs) (fun s hs => h1 s hs) h)
theorem c_Joined_isRing_L56 (v1 : Int32) (v2 : Nat) (v3 : Int32) (v4 : Int32) (v5 : Int32) (v6 : Int32) (v7 : Int32) (v8 : Int32) (v9 : Int32) (m : zM) (hv2 : v2 ∈ li_Table) {Q : Option Value → zM → Prop} {K : ((Bool) ⊕ (Int32 × Int32 × Int32 × Int32)) → Prop} (hR : ∀ p : Bool, K (.inl p) → Q (some (.int (b2i p))) m) (h0 : ∀ s : Int32 × Int32 × Int32 × Int32, K (.inr s) → AX gX s_Joined_isRing 16 [(0, .ref 129), (1, .int v1), (2, .ref v2), (3, .int s.1), (4, .int s.2.1), (5, .int s.2.2.1), (6, .int s.2.2.2)] [] m Q) (h : ok (f_Joined_isRing_L56 v1 v2 v3 v4 v5 v6 v7 v8 v9 m) K) : AX gX s_Joined_isRing 56 [(0, .ref 129), (1, .int v1), (2, .ref v2), (3, .int v3), (4, .int v4), (5, .int v5), (6, .int v6), (7, .int v7), (8, .int v8), (9, .int v9)] [] m Q :=
  ok_lp (K := K) (G := fun s : Int32 × Int32 × Int32 × Int32 => AX gX s_Joined_isRing 56 [(0, .ref 129), (1, .int v1), (2, .ref v2), (3, .int s.1), (4, .int s.2.1), (5, .int s.2.2.1), (6, .int v6), (7, .int v7), (8, .int v8), (9, .int s.2.2.2)] [] m Q) (fun s h => c_Joined_isRing_B56 v1 v2 s.1 s.2.1 s.2.2.1 v6 v7 v8 s.2.2.2 m hv2 (fun p hp => hR p hp) (fun s hs => h0 s hs) (fun s hs => hs) h) FU (v3, v4, v5, v9) h
set_option maxRecDepth 4000 in
theorem c_Joined_isRing_B16 (v1 : Int32) (v2 : Nat) (v3 : Int32) (v4 : Int32) (v5 : Int32) (v6 : Int32) (m : zM) (hv2 : v2 ∈ li_Table) {Q : Option Value → zM → Prop} {K : ((Bool) ⊕ (Int32 × Int32 × Int32 × Int32)) → Prop} (hR : ∀ p : Bool, K (.inl p) → Q (some (.int (b2i p))) m) (h0 : ∀ s : Int32 × Int32 × Int32 × Int32, K (.inr s) → AX gX s_Joined_isRing 16 [(0, .ref 129), (1, .int v1), (2, .ref v2), (3, .int s.1), (4, .int s.2.1), (5, .int s.2.2.1), (6, .int s.2.2.2)] [] m Q) (h : ok (f_Joined_isRing_B16 v1 v2 v3 v4 v5 v6 m) K) : AX gX s_Joined_isRing 16 [(0, .ref 129), (1, .int v1), (2, .ref v2), (3, .int v3), (4, .int v4), (5, .int v5), (6, .int v6)] [] m Q := by
  unfold f_Joined_isRing_B16 at h
  refine ax_iload 6 d_Joined_isRing_16 rfl 18 rfl ?_
  refine ax_aload_n 0 d_Joined_isRing_18 rfl rfl 19 rfl ?_
  refine ax_getR fl_Joined_29 x_129 rfl (rx_129_6 _) d_Joined_isRing_19 22 rfl ?_
  refine ax_iload_n 1 d_Joined_isRing_22 rfl rfl 23 rfl ?_
  refine ax_iconst 1 d_Joined_isRing_23 ic_1 24 rfl ?_
  refine ax_iadd d_Joined_isRing_24 25 rfl ?_
  refine ax_iaload x_131 d_Joined_isRing_25 26 rfl h (fun i2 h => ?_)
  refine ax_icmp_ge 201 29 d_Joined_isRing_26 rfl rfl (fun hc => ?_) (fun hc => ?_)
  · have h := ok_t hc h
    exact ax_sub [3, 4, 5] rfl (c_Joined_isRing_J201 v3 v4 v5 m (fun p hp => hR p hp) (ok_z h))
  · have h := ok_f hc h
    refine ax_aload_n 0 d_Joined_isRing_29 rfl rfl 30 rfl ?_
    refine ax_getR fl_Joined_32 x_129 rfl (rx_129_7 _) d_Joined_isRing_30 33 rfl ?_
    refine ax_iload 6 d_Joined_isRing_33 rfl 35 rfl ?_
    refine ax_iaload x_132 d_Joined_isRing_35 36 rfl h (fun i3 h => ?_)
    refine ax_istore (ls1 := [(7, .int (m.1 132 i3)), (0, .ref 129), (1, .int v1), (2, .ref v2), (3, .int v3), (4, .int v4), (5, .int v5), (6, .int v6)]) d_Joined_isRing_36 (Nat.le_of_ble_eq_true rfl) rfl 38 rfl ?_
    refine ax_iload 0 d_Joined_isRing_38 rfl 40 rfl ?_
    refine ax_iconst 4 d_Joined_isRing_40 ic_4 41 rfl ?_
    refine ax_idiv d_Joined_isRing_41 (by decide) 42 rfl ?_
    refine ax_istore (ls1 := [(8, .int ((m.1 132 i3) / 4)), (7, .int (m.1 132 i3)), (0, .ref 129), (1, .int v1), (2, .ref v2), (3, .int v3), (4, .int v4), (5, .int v5), (6, .int v6)]) d_Joined_isRing_42 (Nat.le_of_ble_eq_true rfl) rfl 44 rfl ?_
    refine ax_aload_n 2 d_Joined_isRing_44 rfl rfl 45 rfl ?_
    refine ax_getR fl_Joined_59 x_129 rfl (rx_129_0 _) d_Joined_isRing_45 48 rfl ?_
    refine ax_getR fl_Joined_109 x_24 rfl (rx_24_11 _) d_Joined_isRing_48 51 rfl ?_
    refine ax_iload 0 d_Joined_isRing_51 rfl 53 rfl ?_
    refine ax_iaload x_36 d_Joined_isRing_53 54 rfl h (fun i4 h => ?_)
    refine ax_istore (ls1 := [(9, .int (m.1 36 i4)), (8, .int ((m.1 132 i3) / 4)), (7, .int (m.1 132 i3)), (0, .ref 129), (1, .int v1), (2, .ref v2), (3, .int v3), (4, .int v4), (5, .int v5), (6, .int v6)]) d_Joined_isRing_54 (Nat.le_of_ble_eq_true rfl) rfl 56 rfl ?_
    exact ax_sub [3, 4, 5, 6, 7, 8, 9, 2, 1, 0] rfl (c_Joined_isRing_L56 v1 v2 v3 v4 v5 v6 (m.1 132 i3) ((m.1 132 i3) / 4) (m.1 36 i4) m hv2 (fun p hp => hR p hp) (fun s hs => h0 s hs) h)
theorem c_Joined_isRing_L16 (v1 : Int32) (v2 : Nat) (v3 : Int32) (v4 : Int32) (v5 : Int32) (v6 : Int32) (m : zM) (hv2 : v2 ∈ li_Table) {Q : Option Value → zM → Prop} {K : Bool → Prop} (hR : ∀ p : Bool, K (p) → Q (some (.int (b2i p))) m)  (h : ok (f_Joined_isRing_L16 v1 v2 v3 v4 v5 v6 m) K) : AX gX s_Joined_isRing 16 [(0, .ref 129), (1, .int v1), (2, .ref v2), (3, .int v3), (4, .int v4), (5, .int v5), (6, .int v6)] [] m Q :=
  ok_lp (K := K) (G := fun s : Int32 × Int32 × Int32 × Int32 => AX gX s_Joined_isRing 16 [(0, .ref 129), (1, .int v1), (2, .ref v2), (3, .int s.1), (4, .int s.2.1), (5, .int s.2.2.1), (6, .int s.2.2.2)] [] m Q) (fun s h => c_Joined_isRing_B16 v1 v2 s.1 s.2.1 s.2.2.1 s.2.2.2 m hv2 (fun p hp => hR p hp) (fun s hs => hs) h) FU (v3, v4, v5, v6) h
set_option maxRecDepth 4000 in
theorem zc_Joined_isRing (v1 : Int32) (v2 : Nat) (m : zM) (hv2 : v2 ∈ li_Table) {Q : Option Value → zM → Prop} (h : ok (f_Joined_isRing v1 v2 m) (fun p => Q (some (.int (b2i p))) m)) : zc gX s_Joined_isRing [.ref 129, .int v1, .ref v2] m Q := by
  refine zc_of rfl (Nat.le_of_ble_eq_true rfl) ?_
  show AX gX s_Joined_isRing 0 [(0, .ref 129), (1, .int v1), (2, .ref v2)] [] m Q
  obtain ⟨K, hK⟩ : ∃ K : Bool → Prop, K = (fun p : Bool => Q (some (.int (b2i p))) m) := ⟨_, rfl⟩
  have hR : ∀ p : Bool, K p → Q (some (.int (b2i p))) m := fun p hp => by rw [hK] at hp; exact hp
  replace h : ok (f_Joined_isRing v1 v2 m) (fun p : Bool => Q (some (.int (b2i p))) m) := h
  rw [← hK] at h
  unfold f_Joined_isRing at h
  refine ax_iconst 0 d_Joined_isRing_0 ic_0 1 rfl ?_
  refine ax_istore_n (ls1 := [(3, .int 0), (0, .ref 129), (1, .int v1), (2, .ref v2)]) d_Joined_isRing_1 rfl (Nat.le_of_ble_eq_true rfl) rfl 2 rfl ?_
  refine ax_iconst 0 d_Joined_isRing_2 ic_0 3 rfl ?_
  refine ax_istore (ls1 := [(4, .int 0), (3, .int 0), (0, .ref 129), (1, .int v1), (2, .ref v2)]) d_Joined_isRing_3 (Nat.le_of_ble_eq_true rfl) rfl 5 rfl ?_
  refine ax_iconst 0 d_Joined_isRing_5 ic_0 6 rfl ?_
  refine ax_istore (ls1 := [(5, .int 0), (4, .int 0), (3, .int 0), (0, .ref 129), (1, .int v1), (2, .ref v2)]) d_Joined_isRing_6 (Nat.le_of_ble_eq_true rfl) rfl 8 rfl ?_
  refine ax_aload_n 3 d_Joined_isRing_8 rfl rfl 9 rfl ?_
  refine ax_getR fl_Joined_29 x_129 rfl (rx_129_6 _) d_Joined_isRing_9 12 rfl ?_
  refine ax_iload_n 4 d_Joined_isRing_12 rfl rfl 13 rfl ?_
  refine ax_iaload x_131 d_Joined_isRing_13 14 rfl h (fun i1 h => ?_)
  refine ax_istore (ls1 := [(6, .int (m.1 131 i1)), (5, .int 0), (4, .int 0), (3, .int 0), (0, .ref 129), (1, .int v1), (2, .ref v2)]) d_Joined_isRing_14 (Nat.le_of_ble_eq_true rfl) rfl 16 rfl ?_
  exact ax_sub [4, 5, 6, 3, 2, 1, 0] rfl (c_Joined_isRing_L16 v1 v2 0 0 0 (m.1 131 i1) m hv2 (fun p hp => hR p hp) h)
set_option maxRecDepth 4000 in
theorem c_Study_markRings_J103  (m : zM)  {Q : Option Value → zM → Prop} {K : zM → Prop} (hR : ∀ p : zM, K (p) → Q none p)  (h : ok (f_Study_markRings_J103  m) K) : AX gX s_Study_markRings 103 [(0, .ref 116)] [] m Q := by
  unfold f_Study_markRings_J103 at h
  refine ax_aload_n 0 d_Study_markRings_103 rfl rfl 104 rfl ?_
  refine ax_getR fl_Study_62 x_116 rfl (rx_116_1 _) d_Study_markRings_104 107 rfl ?_
  refine ax_aload_n 0 d_Study_markRings_107 rfl rfl 108 rfl ?_
  refine ax_getR fl_Study_38 x_116 rfl (rx_116_11 _) d_Study_markRings_108 111 rfl ?_
  refine ax_callV mv_Study_125 ⟨Nat.le_of_ble_eq_true rfl, Nat.le_of_ble_eq_true rfl⟩ ⟨rfl, rfl⟩ [.ref 124] [.ref 124, .ref 129] rfl rfl (rc_x_129 _) (Nat.le_of_ble_eq_true rfl) d_Study_markRings_111 114 rfl (zc_Joined_spread 124 m x_124z (ok_b h (fun p7 h => ?_)))
  exact ax_vret rfl d_Study_markRings_114 (hR p7 (ok_some h))
set_option maxRecDepth 4000 in
theorem c_Study_markRings_J97 (v1 : Int32) (m : zM)  {Q : Option Value → zM → Prop} {K : ((zM) ⊕ (Int32 × zM)) → Prop} (hR : ∀ p : zM, K (.inl p) → Q none p) (h0 : ∀ s : Int32 × zM, K (.inr s) → AX gX s_Study_markRings 25 [(0, .ref 116), (1, .int s.1)] [] s.2 Q) (h : ok (f_Study_markRings_J97 v1 m) K) : AX gX s_Study_markRings 97 [(0, .ref 116), (1, .int v1)] [] m Q := by
  unfold f_Study_markRings_J97 at h
  refine ax_iinc (ls1 := [(1, .int (v1 + 1)), (0, .ref 116)]) 1 1 d_Study_markRings_97 rfl ic_1 (Nat.le_of_ble_eq_true rfl) rfl 100 rfl ?_
  refine ax_goto 25 d_Study_markRings_100 rfl ?_
  exact ax_sub [1, 0] rfl (h0 ((v1 + 1), m) (ok_some h))
set_option maxRecDepth 4000 in
theorem c_Study_markRings_B61 (v1 : Int32) (v2 : Int32) (m : zM)  {Q : Option Value → zM → Prop} {K : (((zM) ⊕ (Int32 × zM)) ⊕ (Int32 × zM)) → Prop} (hR : ∀ p : zM, K (.inl (.inl p)) → Q none p) (h0 : ∀ s : Int32 × zM, K (.inl (.inr s)) → AX gX s_Study_markRings 25 [(0, .ref 116), (1, .int s.1)] [] s.2 Q) (h1 : ∀ s : Int32 × zM, K (.inr s) → AX gX s_Study_markRings 61 [(0, .ref 116), (1, .int v1), (2, .int s.1)] [] s.2 Q) (h : ok (f_Study_markRings_B61 v1 v2 m) K) : AX gX s_Study_markRings 61 [(0, .ref 116), (1, .int v1), (2, .int v2)] [] m Q := by
  unfold f_Study_markRings_B61 at h
  refine ax_iload_n 2 d_Study_markRings_61 rfl rfl 62 rfl ?_
  refine ax_aload_n 0 d_Study_markRings_62 rfl rfl 63 rfl ?_
  refine ax_getR fl_Study_62 x_116 rfl (rx_116_1 _) d_Study_markRings_63 66 rfl ?_
  refine ax_getR fl_Study_135 x_129 rfl (rx_129_6 _) d_Study_markRings_66 69 rfl ?_
  refine ax_iload_n 1 d_Study_markRings_69 rfl rfl 70 rfl ?_
  refine ax_iconst 1 d_Study_markRings_70 ic_1 71 rfl ?_
  refine ax_iadd d_Study_markRings_71 72 rfl ?_
  refine ax_iaload x_131 d_Study_markRings_72 73 rfl h (fun i8 h => ?_)
  refine ax_icmp_ge 97 76 d_Study_markRings_73 rfl rfl (fun hc => ?_) (fun hc => ?_)
  · have h := ok_t hc h
    exact ax_sub [0, 1] rfl (c_Study_markRings_J97 v1 m (fun p hp => hR p hp) (fun s hs => h0 s hs) (ok_z h))
  · have h := ok_f hc h
    refine ax_aload_n 0 d_Study_markRings_76 rfl rfl 77 rfl ?_
    refine ax_getR fl_Study_38 x_116 rfl (rx_116_11 _) d_Study_markRings_77 80 rfl ?_
    refine ax_aload_n 0 d_Study_markRings_80 rfl rfl 81 rfl ?_
    refine ax_getR fl_Study_62 x_116 rfl (rx_116_1 _) d_Study_markRings_81 84 rfl ?_
    refine ax_getR fl_Study_138 x_129 rfl (rx_129_7 _) d_Study_markRings_84 87 rfl ?_
    refine ax_iload_n 2 d_Study_markRings_87 rfl rfl 88 rfl ?_
    refine ax_iaload x_132 d_Study_markRings_88 89 rfl h (fun i9 h => ?_)
    refine ax_iconst 1 d_Study_markRings_89 ic_1 90 rfl ?_
    refine ax_zastore (y := true) x_124 d_Study_markRings_90 91 rfl h (fun i10 m11 h => ?_)
    refine ax_iinc (ls1 := [(2, .int (v2 + 1)), (0, .ref 116), (1, .int v1)]) 2 1 d_Study_markRings_91 rfl ic_1 (Nat.le_of_ble_eq_true rfl) rfl 94 rfl ?_
    refine ax_goto 61 d_Study_markRings_94 rfl ?_
    exact ax_sub [1, 2, 0] rfl (h1 ((v2 + 1), m11) (ok_some h))
theorem c_Study_markRings_L61 (v1 : Int32) (v2 : Int32) (m : zM)  {Q : Option Value → zM → Prop} {K : ((zM) ⊕ (Int32 × zM)) → Prop} (hR : ∀ p : zM, K (.inl p) → Q none p) (h0 : ∀ s : Int32 × zM, K (.inr s) → AX gX s_Study_markRings 25 [(0, .ref 116), (1, .int s.1)] [] s.2 Q) (h : ok (f_Study_markRings_L61 v1 v2 m) K) : AX gX s_Study_markRings 61 [(0, .ref 116), (1, .int v1), (2, .int v2)] [] m Q :=
  ok_lp (K := K) (G := fun s : Int32 × zM => AX gX s_Study_markRings 61 [(0, .ref 116), (1, .int v1), (2, .int s.1)] [] s.2 Q) (fun s h => c_Study_markRings_B61 v1 s.1 s.2  (fun p hp => hR p hp) (fun s hs => h0 s hs) (fun s hs => hs) h) FU (v2, m) h
set_option maxRecDepth 4000 in
theorem c_Study_markRings_B25 (v1 : Int32) (m : zM)  {Q : Option Value → zM → Prop} {K : ((zM) ⊕ (Int32 × zM)) → Prop} (hR : ∀ p : zM, K (.inl p) → Q none p) (h0 : ∀ s : Int32 × zM, K (.inr s) → AX gX s_Study_markRings 25 [(0, .ref 116), (1, .int s.1)] [] s.2 Q) (h : ok (f_Study_markRings_B25 v1 m) K) : AX gX s_Study_markRings 25 [(0, .ref 116), (1, .int v1)] [] m Q := by
  unfold f_Study_markRings_B25 at h
  refine ax_iload_n 1 d_Study_markRings_25 rfl rfl 26 rfl ?_
  refine ax_aload_n 0 d_Study_markRings_26 rfl rfl 27 rfl ?_
  refine ax_getR fl_Study_62 x_116 rfl (rx_116_1 _) d_Study_markRings_27 30 rfl ?_
  refine ax_getI fl_Study_128 x_129 rfl d_Study_markRings_30 33 rfl ?_
  refine ax_icmp_ge 103 36 d_Study_markRings_33 rfl rfl (fun hc => ?_) (fun hc => ?_)
  · have h := ok_t hc h
    exact ax_sub [0] rfl (c_Study_markRings_J103 m (fun p hp => hR p hp) (ok_z h))
  · have h := ok_f hc h
    refine ax_aload_n 0 d_Study_markRings_36 rfl rfl 37 rfl ?_
    refine ax_getR fl_Study_62 x_116 rfl (rx_116_1 _) d_Study_markRings_37 40 rfl ?_
    refine ax_iload_n 1 d_Study_markRings_40 rfl rfl 41 rfl ?_
    refine ax_aload_n 0 d_Study_markRings_41 rfl rfl 42 rfl ?_
    refine ok_tb h (fun t4 ht4 et4 h => ?_)
    refine ax_getR fl_Study_66 x_116 rfl (ry_2 et4) d_Study_markRings_42 45 rfl ?_
    refine ax_callV mv_Study_131 ⟨Nat.le_of_ble_eq_true rfl, Nat.le_of_ble_eq_true rfl⟩ ⟨rfl, rfl⟩ [.int v1, .ref t4] [.ref t4, .int v1, .ref 129] rfl rfl (rc_x_129 _) (Nat.le_of_ble_eq_true rfl) d_Study_markRings_45 48 rfl (zc_Joined_isRing v1 t4 m ht4 (ok_b h (fun r5 h => ?_)))
    refine ax_ifb_eq 97 51 d_Study_markRings_48 rfl rfl (fun hc => ?_) (fun hc => ?_)
    · have h := ok_f (bf hc) h
      exact ax_sub [0, 1] rfl (c_Study_markRings_J97 v1 m (fun p hp => hR p hp) (fun s hs => h0 s hs) h)
    · have h := ok_t hc h
      refine ax_aload_n 0 d_Study_markRings_51 rfl rfl 52 rfl ?_
      refine ax_getR fl_Study_62 x_116 rfl (rx_116_1 _) d_Study_markRings_52 55 rfl ?_
      refine ax_getR fl_Study_135 x_129 rfl (rx_129_6 _) d_Study_markRings_55 58 rfl ?_
      refine ax_iload_n 1 d_Study_markRings_58 rfl rfl 59 rfl ?_
      refine ax_iaload x_131 d_Study_markRings_59 60 rfl h (fun i6 h => ?_)
      refine ax_istore_n (ls1 := [(2, .int (m.1 131 i6)), (0, .ref 116), (1, .int v1)]) d_Study_markRings_60 rfl (Nat.le_of_ble_eq_true rfl) rfl 61 rfl ?_
      exact ax_sub [1, 2, 0] rfl (c_Study_markRings_L61 v1 (m.1 131 i6) m (fun p hp => hR p hp) (fun s hs => h0 s hs) h)
theorem c_Study_markRings_L25 (v1 : Int32) (m : zM)  {Q : Option Value → zM → Prop} {K : zM → Prop} (hR : ∀ p : zM, K (p) → Q none p)  (h : ok (f_Study_markRings_L25 v1 m) K) : AX gX s_Study_markRings 25 [(0, .ref 116), (1, .int v1)] [] m Q :=
  ok_lp (K := K) (G := fun s : Int32 × zM => AX gX s_Study_markRings 25 [(0, .ref 116), (1, .int s.1)] [] s.2 Q) (fun s h => c_Study_markRings_B25 s.1 s.2  (fun p hp => hR p hp) (fun s hs => hs) h) FU (v1, m) h
set_option maxRecDepth 4000 in
theorem zc_Study_markRings  (m : zM)  {Q : Option Value → zM → Prop} (h : ok (f_Study_markRings m) (fun p => Q none p)) : zc gX s_Study_markRings [.ref 116] m Q := by
  refine zc_of rfl (Nat.le_of_ble_eq_true rfl) ?_
  show AX gX s_Study_markRings 0 [(0, .ref 116)] [] m Q
  obtain ⟨K, hK⟩ : ∃ K : zM → Prop, K = (fun p : zM => Q none p) := ⟨_, rfl⟩
  have hR : ∀ p : zM, K p → Q none p := fun p hp => by rw [hK] at hp; exact hp
  replace h : ok (f_Study_markRings m) (fun p : zM => Q none p) := h
  rw [← hK] at h
  unfold f_Study_markRings at h
  refine ax_aload_n 0 d_Study_markRings_0 rfl rfl 1 rfl ?_
  refine ax_getR fl_Study_38 x_116 rfl (rx_116_11 _) d_Study_markRings_1 4 rfl ?_
  refine ax_callS mv_Study_73 ⟨Nat.le_of_ble_eq_true rfl, Nat.le_of_ble_eq_true rfl⟩ ⟨rfl, rfl⟩ [.ref 124] [.ref 124] rfl rfl (Nat.le_of_ble_eq_true rfl) d_Study_markRings_4 7 rfl (zc_Study_clear 124 m x_124z (ok_b h (fun p1 h => ?_)))
  refine ax_aload_n 0 d_Study_markRings_7 rfl rfl 8 rfl ?_
  refine ax_getR fl_Study_62 x_116 rfl (rx_116_1 _) d_Study_markRings_8 11 rfl ?_
  refine ax_iconst 1 d_Study_markRings_11 ic_1 12 rfl ?_
  refine ax_iconst (-1) d_Study_markRings_12 ic_m1 13 rfl ?_
  refine ax_aload_n 0 d_Study_markRings_13 rfl rfl 14 rfl ?_
  refine ok_tb h (fun t2 ht2 et2 h => ?_)
  refine ax_getR fl_Study_66 x_116 rfl (ry_2 et2) d_Study_markRings_14 17 rfl ?_
  refine ax_getI fl_Study_118 (sx_Table ht2) rfl d_Study_markRings_17 20 rfl ?_
  refine ax_callV mv_Study_93 ⟨Nat.le_of_ble_eq_true rfl, Nat.le_of_ble_eq_true rfl⟩ ⟨rfl, rfl⟩ [.int 1, .int (-1), .int (p1.1 t2 11)] [.int (p1.1 t2 11), .int (-1), .int 1, .ref 129] rfl rfl (rc_x_129 _) (Nat.le_of_ble_eq_true rfl) d_Study_markRings_20 23 rfl (zc_Joined_join 1 (-1) (p1.1 t2 11) p1 (ok_b h (fun p3 h => ?_)))
  refine ax_iconst 0 d_Study_markRings_23 ic_0 24 rfl ?_
  refine ax_istore_n (ls1 := [(1, .int 0), (0, .ref 116)]) d_Study_markRings_24 rfl (Nat.le_of_ble_eq_true rfl) rfl 25 rfl ?_
  exact ax_sub [1, 0] rfl (c_Study_markRings_L25 0 p3 (fun p hp => hR p hp) h)
set_option maxRecDepth 4000 in
theorem c_Study_begin_B63 (v2 : Int32) (m : zM)  {Q : Option Value → zM → Prop} {K : ((zM) ⊕ (Int32 × zM)) → Prop} (hR : ∀ p : zM, K (.inl p) → Q none p) (h0 : ∀ s : Int32 × zM, K (.inr s) → AX gX s_Study_begin 63 [(0, .ref 116), (2, .int s.1)] [] s.2 Q) (h : ok (f_Study_begin_B63 v2 m) K) : AX gX s_Study_begin 63 [(0, .ref 116), (2, .int v2)] [] m Q := by
  unfold f_Study_begin_B63 at h
  refine ax_iload_n 1 d_Study_begin_63 rfl rfl 64 rfl ?_
  refine ax_bipush 16 d_Study_begin_64 bp_16 66 rfl ?_
  refine ax_icmp_ge 82 69 d_Study_begin_66 rfl rfl (fun hc => ?_) (fun hc => ?_)
  · have h := ok_t hc h
    exact ax_vret rfl d_Study_begin_82 (hR m (ok_some h))
  · have h := ok_f hc h
    refine ax_aload_n 0 d_Study_begin_69 rfl rfl 70 rfl ?_
    refine ax_getR fl_Study_47 x_116 rfl (rx_116_14 _) d_Study_begin_70 73 rfl ?_
    refine ax_iload_n 1 d_Study_begin_73 rfl rfl 74 rfl ?_
    refine ax_iconst 0 d_Study_begin_74 ic_0 75 rfl ?_
    refine ax_zastore (y := false) x_127 d_Study_begin_75 76 rfl h (fun i10 m11 h => ?_)
    refine ax_iinc (ls1 := [(2, .int (v2 + 1)), (0, .ref 116)]) 1 1 d_Study_begin_76 rfl ic_1 (Nat.le_of_ble_eq_true rfl) rfl 79 rfl ?_
    refine ax_goto 63 d_Study_begin_79 rfl ?_
    exact ax_sub [1, 0] rfl (h0 ((v2 + 1), m11) (ok_some h))
theorem c_Study_begin_L63 (v2 : Int32) (m : zM)  {Q : Option Value → zM → Prop} {K : zM → Prop} (hR : ∀ p : zM, K (p) → Q none p)  (h : ok (f_Study_begin_L63 v2 m) K) : AX gX s_Study_begin 63 [(0, .ref 116), (2, .int v2)] [] m Q :=
  ok_lp (K := K) (G := fun s : Int32 × zM => AX gX s_Study_begin 63 [(0, .ref 116), (2, .int s.1)] [] s.2 Q) (fun s h => c_Study_begin_B63 s.1 s.2  (fun p hp => hR p hp) (fun s hs => hs) h) FU (v2, m) h
set_option maxRecDepth 4000 in
theorem c_Study_begin_J61  (m : zM)  {Q : Option Value → zM → Prop} {K : zM → Prop} (hR : ∀ p : zM, K (p) → Q none p)  (h : ok (f_Study_begin_J61  m) K) : AX gX s_Study_begin 61 [(0, .ref 116)] [] m Q := by
  unfold f_Study_begin_J61 at h
  refine ax_iconst 0 d_Study_begin_61 ic_0 62 rfl ?_
  refine ax_istore_n (ls1 := [(2, .int 0), (0, .ref 116)]) d_Study_begin_62 rfl (Nat.le_of_ble_eq_true rfl) rfl 63 rfl ?_
  exact ax_sub [1, 0] rfl (c_Study_begin_L63 0 m (fun p hp => hR p hp) h)
set_option maxRecDepth 4000 in
theorem zc_Study_begin (v1 : Nat) (m : zM) (hv1 : v1 ∈ li_Table) {Q : Option Value → zM → Prop} (h : ok (f_Study_begin v1 m) (fun p => Q none p)) : zc gX s_Study_begin [.ref 116, .ref v1] m Q := by
  refine zc_of rfl (Nat.le_of_ble_eq_true rfl) ?_
  show AX gX s_Study_begin 0 [(0, .ref 116), (1, .ref v1)] [] m Q
  obtain ⟨K, hK⟩ : ∃ K : zM → Prop, K = (fun p : zM => Q none p) := ⟨_, rfl⟩
  have hR : ∀ p : zM, K p → Q none p := fun p hp => by rw [hK] at hp; exact hp
  replace h : ok (f_Study_begin v1 m) (fun p : zM => Q none p) := h
  rw [← hK] at h
  unfold f_Study_begin at h
  refine ax_aload_n 0 d_Study_begin_0 rfl rfl 1 rfl ?_
  refine ax_aload_n 1 d_Study_begin_1 rfl rfl 2 rfl ?_
  refine ax_putT (K := K) (ti := 2) (cn := "ProtocolAtlas$Table") fl_Study_66 x_116 up_2 rfl rfl rfl (Nat.le_of_ble_eq_true rfl) d_Study_begin_2 5 rfl h (fun m1 h => ?_)
  refine ax_aload_n 0 d_Study_begin_5 rfl rfl 6 rfl ?_
  refine ax_callV mv_Study_70 ⟨Nat.le_of_ble_eq_true rfl, Nat.le_of_ble_eq_true rfl⟩ ⟨rfl, rfl⟩ [] [.ref 116] rfl rfl (rc_x_116 _) (Nat.le_of_ble_eq_true rfl) d_Study_begin_6 9 rfl (zc_Study_findParts m1 (ok_b h (fun p2 h => ?_)))
  refine ax_aload_n 0 d_Study_begin_9 rfl rfl 10 rfl ?_
  refine ax_getR fl_Study_32 x_116 rfl (rx_116_9 _) d_Study_begin_10 13 rfl ?_
  refine ax_callS mv_Study_73 ⟨Nat.le_of_ble_eq_true rfl, Nat.le_of_ble_eq_true rfl⟩ ⟨rfl, rfl⟩ [.ref 122] [.ref 122] rfl rfl (Nat.le_of_ble_eq_true rfl) d_Study_begin_13 16 rfl (zc_Study_clear 122 p2 x_122z (ok_b h (fun p3 h => ?_)))
  refine ax_aload_n 0 d_Study_begin_16 rfl rfl 17 rfl ?_
  refine ax_getR fl_Study_35 x_116 rfl (rx_116_10 _) d_Study_begin_17 20 rfl ?_
  refine ax_callS mv_Study_73 ⟨Nat.le_of_ble_eq_true rfl, Nat.le_of_ble_eq_true rfl⟩ ⟨rfl, rfl⟩ [.ref 123] [.ref 123] rfl rfl (Nat.le_of_ble_eq_true rfl) d_Study_begin_20 23 rfl (zc_Study_clear 123 p3 x_123z (ok_b h (fun p4 h => ?_)))
  refine ax_aload_n 0 d_Study_begin_23 rfl rfl 24 rfl ?_
  refine ok_tb h (fun t5 ht5 et5 h => ?_)
  refine ax_getR fl_Study_66 x_116 rfl (ry_2 et5) d_Study_begin_24 27 rfl ?_
  refine ax_getI fl_Study_77 (sx_Table ht5) rfl d_Study_begin_27 30 rfl ?_
  refine ax_iconst (-1) d_Study_begin_30 ic_m1 31 rfl ?_
  refine ax_icmp_eq 61 34 d_Study_begin_31 rfl rfl (fun hc => ?_) (fun hc => ?_)
  · have h := ok_t hc h
    exact ax_sub [0] rfl (c_Study_begin_J61 p4 (fun p hp => hR p hp) h)
  · have h := ok_f hc h
    refine ax_aload_n 0 d_Study_begin_34 rfl rfl 35 rfl ?_
    refine ax_iconst (-1) d_Study_begin_35 ic_m1 36 rfl ?_
    refine ax_callV mv_Study_82 ⟨Nat.le_of_ble_eq_true rfl, Nat.le_of_ble_eq_true rfl⟩ ⟨rfl, rfl⟩ [.int (-1)] [.int (-1), .ref 116] rfl rfl (rc_x_116 _) (Nat.le_of_ble_eq_true rfl) d_Study_begin_36 39 rfl (zc_Study_markHoping (-1) p4 (ok_b h (fun p6 h => ?_)))
    refine ax_aload_n 0 d_Study_begin_39 rfl rfl 40 rfl ?_
    refine ax_aload_n 0 d_Study_begin_40 rfl rfl 41 rfl ?_
    refine ax_getR fl_Study_32 x_116 rfl (rx_116_9 _) d_Study_begin_41 44 rfl ?_
    refine ax_iconst 0 d_Study_begin_44 ic_0 45 rfl ?_
    refine ax_callV mv_Study_86 ⟨Nat.le_of_ble_eq_true rfl, Nat.le_of_ble_eq_true rfl⟩ ⟨rfl, rfl⟩ [.ref 122, .int 0] [.int 0, .ref 122, .ref 116] rfl rfl (rc_x_116 _) (Nat.le_of_ble_eq_true rfl) d_Study_begin_45 48 rfl (zc_Study_tellWanting 122 0 p6 x_122z (ok_b h (fun p7 h => ?_)))
    refine ax_aload_n 0 d_Study_begin_48 rfl rfl 49 rfl ?_
    refine ax_callV mv_Study_90 ⟨Nat.le_of_ble_eq_true rfl, Nat.le_of_ble_eq_true rfl⟩ ⟨rfl, rfl⟩ [] [.ref 116] rfl rfl (rc_x_116 _) (Nat.le_of_ble_eq_true rfl) d_Study_begin_49 52 rfl (zc_Study_markRings p7 (ok_b h (fun p8 h => ?_)))
    refine ax_aload_n 0 d_Study_begin_52 rfl rfl 53 rfl ?_
    refine ax_aload_n 0 d_Study_begin_53 rfl rfl 54 rfl ?_
    refine ax_getR fl_Study_35 x_116 rfl (rx_116_10 _) d_Study_begin_54 57 rfl ?_
    refine ax_iconst 1 d_Study_begin_57 ic_1 58 rfl ?_
    refine ax_callV mv_Study_86 ⟨Nat.le_of_ble_eq_true rfl, Nat.le_of_ble_eq_true rfl⟩ ⟨rfl, rfl⟩ [.ref 123, .int 1] [.int 1, .ref 123, .ref 116] rfl rfl (rc_x_116 _) (Nat.le_of_ble_eq_true rfl) d_Study_begin_58 61 rfl (zc_Study_tellWanting 123 1 p8 x_123z (ok_b h (fun p9 h => ?_)))
    exact ax_sub [0] rfl (c_Study_begin_J61 p9 (fun p hp => hR p hp) h)
set_option maxRecDepth 4000 in
theorem zc_Sight_forget  (m : zM)  {Q : Option Value → zM → Prop} (h : Q none (f_Sight_forget m)) : zc gX s_Sight_forget [.ref 48] m Q := by
  refine zc_of rfl (Nat.le_of_ble_eq_true rfl) ?_
  show AX gX s_Sight_forget 0 [(0, .ref 48)] [] m Q
  obtain ⟨K, hK⟩ : ∃ K : zM → Prop, K = (fun p : zM => Q none p) := ⟨_, rfl⟩
  have hR : ∀ p : zM, K p → Q none p := fun p hp => by rw [hK] at hp; exact hp
  replace h : (fun p : zM => Q none p) (f_Sight_forget m) := h
  rw [← hK] at h
  unfold f_Sight_forget at h
  refine ax_aload_n 0 d_Sight_forget_0 rfl rfl 1 rfl ?_
  refine ax_iconst 0 d_Sight_forget_1 ic_0 2 rfl ?_
  refine ax_putIk (K := K) fl_Sight_18 x_48 rfl rfl rfl (Nat.le_of_ble_eq_true rfl) d_Sight_forget_2 5 rfl h (fun m1 h => ?_)
  refine ax_aload_n 0 d_Sight_forget_5 rfl rfl 6 rfl ?_
  refine ax_iconst 0 d_Sight_forget_6 ic_0 7 rfl ?_
  refine ax_putIk (K := K) fl_Sight_22 x_48 rfl rfl rfl (Nat.le_of_ble_eq_true rfl) d_Sight_forget_7 10 rfl h (fun m2 h => ?_)
  refine ax_aload_n 0 d_Sight_forget_10 rfl rfl 11 rfl ?_
  refine ax_iconst (-1) d_Sight_forget_11 ic_m1 12 rfl ?_
  refine ax_putIk (K := K) fl_Sight_38 x_48 rfl rfl rfl (Nat.le_of_ble_eq_true rfl) d_Sight_forget_12 15 rfl h (fun m3 h => ?_)
  exact ax_vret rfl d_Sight_forget_15 (hR m3 h)
set_option maxRecDepth 4000 in
theorem c_PA_table_J53 (v1 : Int32) (m : zM)  {Q : Option Value → zM → Prop} {K : (Int32 × zM) → Prop} (hR : ∀ p : Int32 × zM, K (p) → Q (some (.int p.1)) p.2)  (h : ok (f_PA_table_J53 v1 m) K) : AX gX s_PA_table 53 [(0, .ref 0), (1, .int v1)] [] m Q := by
  unfold f_PA_table_J53 at h
  refine ax_aload_n 0 d_PA_table_53 rfl rfl 54 rfl ?_
  refine ax_getR fl_PA_12 x_0 rfl (rx_0_0 _) d_PA_table_54 57 rfl ?_
  refine ax_iconst 0 d_PA_table_57 ic_0 58 rfl ?_
  refine ax_callV mv_PA_108 ⟨Nat.le_of_ble_eq_true rfl, Nat.le_of_ble_eq_true rfl⟩ ⟨rfl, rfl⟩ [.int 0] [.int 0, .ref 1] rfl rfl (rc_Bytes in_1 _) (Nat.le_of_ble_eq_true rfl) d_PA_table_58 61 rfl (zc_Bytes_cut 1 0 m in_1 ?_)
  refine ok_l (G := fun p => AX gX s_PA_table 61 [(0, .ref 0), (1, .int v1)] [] p Q) h (fun p5 h => ?_)
  refine ax_iload_n 1 d_PA_table_61 rfl rfl 62 rfl ?_
  refine ax_iconst (-1) d_PA_table_62 ic_m1 63 rfl ?_
  refine ax_icmp_ne 72 66 d_PA_table_63 rfl rfl (fun hc => ?_) (fun hc => ?_)
  · have h := ok_f hc h
    refine ax_aload_n 0 d_PA_table_72 rfl rfl 73 rfl ?_
    refine ok_tb h (fun t6 ht6 et6 h => ?_)
    refine ax_getR fl_PA_71 x_0 rfl (ry_0 et6) d_PA_table_73 76 rfl ?_
    refine ax_astore_n (ls1 := [(2, .ref t6), (0, .ref 0), (1, .int v1)]) d_PA_table_76 rfl (Nat.le_of_ble_eq_true rfl) rfl 77 rfl ?_
    refine ax_aload_n 1 d_PA_table_77 rfl rfl 78 rfl ?_
    refine ax_aload_n 1 d_PA_table_78 rfl rfl 79 rfl ?_
    refine ax_getR fl_PA_64 x_0 rfl (rx_0_10 _) d_PA_table_79 82 rfl ?_
    refine ok_tb h (fun t7 ht7 et7 h => ?_)
    refine ax_getR fl_PA_115 x_65 rfl (ry_1 et7) d_PA_table_82 85 rfl ?_
    refine ax_putT (K := K) (ti := 0) (cn := "ProtocolAtlas$Table") fl_PA_71 x_0 up_0 rfl rfl rfl (Nat.le_of_ble_eq_true rfl) d_PA_table_85 88 rfl h (fun m8 h => ?_)
    refine ax_aload_n 1 d_PA_table_88 rfl rfl 89 rfl ?_
    refine ax_getR fl_PA_64 x_0 rfl (rx_0_10 _) d_PA_table_89 92 rfl ?_
    refine ax_aload_n 0 d_PA_table_92 rfl rfl 93 rfl ?_
    refine ax_putT (K := K) (ti := 1) (cn := "ProtocolAtlas$Table") fl_PA_115 x_65 up_1 rfl rfl rfl (Nat.le_of_ble_eq_true rfl) d_PA_table_93 96 rfl h (fun m9 h => ?_)
    refine ax_aload_n 1 d_PA_table_96 rfl rfl 97 rfl ?_
    refine ax_iconst 1 d_PA_table_97 ic_1 98 rfl ?_
    refine ax_putZ (K := K) fl_PA_84 x_0 (Or.inr rfl) rfl rfl rfl (Nat.le_of_ble_eq_true rfl) d_PA_table_98 101 rfl h (fun m10 h => ?_)
    refine ax_aload_n 1 d_PA_table_101 rfl rfl 102 rfl ?_
    refine ax_getR fl_PA_32 x_0 rfl (rx_0_4 _) d_PA_table_102 105 rfl ?_
    refine ax_aload_n 1 d_PA_table_105 rfl rfl 106 rfl ?_
    refine ax_getR fl_PA_25 x_0 rfl (rx_0_3 _) d_PA_table_106 109 rfl ?_
    refine ax_aload_n 1 d_PA_table_109 rfl rfl 110 rfl ?_
    refine ok_tb h (fun t11 ht11 et11 h => ?_)
    refine ax_getR fl_PA_71 x_0 rfl (ry_0 et11) d_PA_table_110 113 rfl ?_
    refine ax_callV mv_PA_125 ⟨Nat.le_of_ble_eq_true rfl, Nat.le_of_ble_eq_true rfl⟩ ⟨rfl, rfl⟩ [.ref 7, .ref t11] [.ref t11, .ref 7, .ref 24] rfl rfl (rc_x_24 _) (Nat.le_of_ble_eq_true rfl) d_PA_table_113 116 rfl (zc_Atlas_fill t11 m10 ht11 (ok_b h (fun p12 h => ?_)))
    refine ax_aload_n 1 d_PA_table_116 rfl rfl 117 rfl ?_
    refine ax_getR fl_PA_80 x_0 rfl (rx_0_12 _) d_PA_table_117 120 rfl ?_
    refine ax_aload_n 1 d_PA_table_120 rfl rfl 121 rfl ?_
    refine ok_tb h (fun t13 ht13 et13 h => ?_)
    refine ax_getR fl_PA_71 x_0 rfl (ry_0 et13) d_PA_table_121 124 rfl ?_
    refine ax_callV mv_PA_129 ⟨Nat.le_of_ble_eq_true rfl, Nat.le_of_ble_eq_true rfl⟩ ⟨rfl, rfl⟩ [.ref t13] [.ref t13, .ref 116] rfl rfl (rc_x_116 _) (Nat.le_of_ble_eq_true rfl) d_PA_table_124 127 rfl (zc_Study_begin t13 p12 ht13 (ok_b h (fun p14 h => ?_)))
    refine ax_aload_n 1 d_PA_table_127 rfl rfl 128 rfl ?_
    refine ax_getR fl_PA_39 x_0 rfl (rx_0_5 _) d_PA_table_128 131 rfl ?_
    refine ax_callV mv_PA_133 ⟨Nat.le_of_ble_eq_true rfl, Nat.le_of_ble_eq_true rfl⟩ ⟨rfl, rfl⟩ [] [.ref 48] rfl rfl (rc_x_48 _) (Nat.le_of_ble_eq_true rfl) d_PA_table_131 134 rfl (zc_Sight_forget p14 ?_)
    refine ok_l (G := fun p => AX gX s_PA_table 134 [(2, .ref t6), (0, .ref 0), (1, .int v1)] [] p Q) h (fun p15 h => ?_)
    refine ax_aload_n 1 d_PA_table_134 rfl rfl 135 rfl ?_
    refine ax_getR fl_PA_46 x_0 rfl (rx_0_6 _) d_PA_table_135 138 rfl ?_
    refine ax_aload_n 1 d_PA_table_138 rfl rfl 139 rfl ?_
    refine ok_tb h (fun t16 ht16 et16 h => ?_)
    refine ax_getR fl_PA_71 x_0 rfl (ry_0 et16) d_PA_table_139 142 rfl ?_
    refine ax_callV mv_PA_136 ⟨Nat.le_of_ble_eq_true rfl, Nat.le_of_ble_eq_true rfl⟩ ⟨rfl, rfl⟩ [.ref t16] [.ref t16, .ref 55] rfl rfl (rc_World in_55 _) (Nat.le_of_ble_eq_true rfl) d_PA_table_142 145 rfl (zc_World_begin 55 t16 p15 in_55 ht16 (ok_b h (fun p17 h => ?_)))
    refine ax_aload_n 1 d_PA_table_145 rfl rfl 146 rfl ?_
    refine ax_iconst 0 d_PA_table_146 ic_0 147 rfl ?_
    refine ax_putI (K := K) fl_PA_88 x_0 rfl rfl rfl (Nat.le_of_ble_eq_true rfl) d_PA_table_147 150 rfl h (fun m18 h => ?_)
    refine ax_iload_n 2 d_PA_table_150 rfl rfl 151 rfl ?_
    exact ax_iret rfl d_PA_table_151 (hR (v1, m18) (ok_some h))
  · have h := ok_t hc h
    refine ax_aload_n 0 d_PA_table_66 rfl rfl 67 rfl ?_
    refine ax_iconst 1 d_PA_table_67 ic_1 68 rfl ?_
    refine ax_callV mv_PA_100 ⟨Nat.le_of_ble_eq_true rfl, Nat.le_of_ble_eq_true rfl⟩ ⟨rfl, rfl⟩ [.int 1] [.int 1, .ref 0] rfl rfl (rc_x_0 _) (Nat.le_of_ble_eq_true rfl) d_PA_table_68 71 rfl (zc_PA_refuse 1 p5 (ok_b h (fun p19 h => ?_)))
    exact ax_iret rfl d_PA_table_71 (hR (p19.1, p19.2) (ok_some h))
set_option maxRecDepth 4000 in
theorem zc_PA_table  (m : zM)  {Q : Option Value → zM → Prop} (h : ok (f_PA_table m) (fun p => Q (some (.int p.1)) p.2)) : zc gX s_PA_table [.ref 0] m Q := by
  refine zc_of rfl (Nat.le_of_ble_eq_true rfl) ?_
  show AX gX s_PA_table 0 [(0, .ref 0)] [] m Q
  obtain ⟨K, hK⟩ : ∃ K : (Int32 × zM) → Prop, K = (fun p : Int32 × zM => Q (some (.int p.1)) p.2) := ⟨_, rfl⟩
  have hR : ∀ p : Int32 × zM, K p → Q (some (.int p.1)) p.2 := fun p hp => by rw [hK] at hp; exact hp
  replace h : ok (f_PA_table m) (fun p : Int32 × zM => Q (some (.int p.1)) p.2) := h
  rw [← hK] at h
  unfold f_PA_table at h
  refine ax_aload_n 0 d_PA_table_0 rfl rfl 1 rfl ?_
  refine ax_getR fl_PA_64 x_0 rfl (rx_0_10 _) d_PA_table_1 4 rfl ?_
  refine ax_aload_n 0 d_PA_table_4 rfl rfl 5 rfl ?_
  refine ax_getR fl_PA_12 x_0 rfl (rx_0_0 _) d_PA_table_5 8 rfl ?_
  refine ax_callV mv_PA_111 ⟨Nat.le_of_ble_eq_true rfl, Nat.le_of_ble_eq_true rfl⟩ ⟨rfl, rfl⟩ [.ref 1] [.ref 1, .ref 65] rfl rfl (rc_x_65 _) (Nat.le_of_ble_eq_true rfl) d_PA_table_8 11 rfl (zc_Reader_read 1 m in_1 (ok_b h (fun p1 h => ?_)))
  refine ax_istore_n (ls1 := [(1, .int p1.1), (0, .ref 0)]) d_PA_table_11 rfl (Nat.le_of_ble_eq_true rfl) rfl 12 rfl ?_
  refine ax_iload_n 0 d_PA_table_12 rfl rfl 13 rfl ?_
  refine ax_iconst (-1) d_PA_table_13 ic_m1 14 rfl ?_
  refine ax_icmp_eq 53 17 d_PA_table_14 rfl rfl (fun hc => ?_) (fun hc => ?_)
  · have h := ok_t hc h
    exact ax_sub [1, 0] rfl (c_PA_table_J53 p1.1 p1.2 (fun p hp => hR p hp) h)
  · have h := ok_f hc h
    refine ax_aload_n 1 d_PA_table_17 rfl rfl 18 rfl ?_
    refine ax_getR fl_PA_25 x_0 rfl (rx_0_3 _) d_PA_table_18 21 rfl ?_
    refine ax_aload_n 1 d_PA_table_21 rfl rfl 22 rfl ?_
    refine ax_getR fl_PA_64 x_0 rfl (rx_0_10 _) d_PA_table_22 25 rfl ?_
    refine ok_tb h (fun t2 ht2 et2 h => ?_)
    refine ax_getR fl_PA_115 x_65 rfl (ry_1 et2) d_PA_table_25 28 rfl ?_
    refine ax_callV mv_PA_118 ⟨Nat.le_of_ble_eq_true rfl, Nat.le_of_ble_eq_true rfl⟩ ⟨rfl, rfl⟩ [.ref t2] [.ref t2, .ref 7] rfl rfl (rc_x_7 _) (Nat.le_of_ble_eq_true rfl) d_PA_table_28 31 rfl (zc_Search_explore t2 p1.2 ht2 (ok_b h (fun p3 h => ?_)))
    refine ax_ifb_ne 53 34 d_PA_table_31 rfl rfl (fun hc => ?_) (fun hc => ?_)
    · have h := ok_t hc h
      exact ax_sub [1, 0] rfl (c_PA_table_J53 p1.1 p3.2 (fun p hp => hR p hp) h)
    · have h := ok_f (bf hc) h
      refine ax_aload_n 1 d_PA_table_34 rfl rfl 35 rfl ?_
      refine ax_getR fl_PA_64 x_0 rfl (rx_0_10 _) d_PA_table_35 38 rfl ?_
      refine ax_bipush 6 d_PA_table_38 bp_6 40 rfl ?_
      refine ax_aload_n 1 d_PA_table_40 rfl rfl 41 rfl ?_
      refine ax_getR fl_PA_12 x_0 rfl (rx_0_0 _) d_PA_table_41 44 rfl ?_
      refine ax_callV mv_PA_96 ⟨Nat.le_of_ble_eq_true rfl, Nat.le_of_ble_eq_true rfl⟩ ⟨rfl, rfl⟩ [] [.ref 1, .int 6, .ref 65] rfl rfl (rc_Bytes in_1 _) (Nat.le_of_ble_eq_true rfl) d_PA_table_44 47 rfl (zc_Bytes_size 1 p3.2 in_1 ?_)
      refine ax_callV mv_PA_122 ⟨Nat.le_of_ble_eq_true rfl, Nat.le_of_ble_eq_true rfl⟩ ⟨rfl, rfl⟩ [.int 6, .int (f_Bytes_size 1 p3.2)] [.int (f_Bytes_size 1 p3.2), .int 6, .ref 65] rfl rfl (rc_x_65 _) (Nat.le_of_ble_eq_true rfl) d_PA_table_47 50 rfl (zc_Reader_refuse 6 (f_Bytes_size 1 p3.2) p3.2 ?_)
      refine ok_l (G := fun p => AX gX s_PA_table 50 [(1, .int p1.1), (0, .ref 0)] [.int (b2i p.1)] p.2 Q) h (fun p4 h => ?_)
      refine ax_pop d_PA_table_50 rfl 51 rfl ?_
      refine ax_iconst (-1) d_PA_table_51 ic_m1 52 rfl ?_
      refine ax_istore_n (ls1 := [(1, .int (-1)), (0, .ref 0)]) d_PA_table_52 rfl (Nat.le_of_ble_eq_true rfl) rfl 53 rfl ?_
      exact ax_sub [1, 0] rfl (c_PA_table_J53 (-1) p4.2 (fun p hp => hR p hp) h)
set_option maxRecDepth 4000 in
theorem zc_PA_fault (v1 : Int32) (m : zM)  {Q : Option Value → zM → Prop} (h : Q (some (.int (f_PA_fault v1 m))) m) : zc gX s_PA_fault [.ref 0, .int v1] m Q := by
  refine zc_of rfl (Nat.le_of_ble_eq_true rfl) ?_
  show AX gX s_PA_fault 0 [(0, .ref 0), (1, .int v1)] [] m Q
  obtain ⟨K, hK⟩ : ∃ K : Int32 → Prop, K = (fun p : Int32 => Q (some (.int p)) m) := ⟨_, rfl⟩
  have hR : ∀ p : Int32, K p → Q (some (.int p)) m := fun p hp => by rw [hK] at hp; exact hp
  replace h : (fun p : Int32 => Q (some (.int p)) m) (f_PA_fault v1 m) := h
  rw [← hK] at h
  unfold f_PA_fault at h
  refine ax_iload_n 1 d_PA_fault_0 rfl rfl 1 rfl ?_
  refine ax_if_ne 12 4 d_PA_fault_1 rfl rfl (fun hc => ?_) (fun hc => ?_)
  · have h := kt_f (K := K) hc h
    refine ax_iload_n 1 d_PA_fault_12 rfl rfl 13 rfl ?_
    refine ax_iconst 1 d_PA_fault_13 ic_1 14 rfl ?_
    refine ax_icmp_ne 27 17 d_PA_fault_14 rfl rfl (fun hc => ?_) (fun hc => ?_)
    · have h := kt_f (K := K) hc h
      refine ax_iconst (-1) d_PA_fault_27 ic_m1 28 rfl ?_
      exact ax_iret rfl d_PA_fault_28 (hR (-1) h)
    · have h := kt_t (K := K) hc h
      refine ax_aload_n 0 d_PA_fault_17 rfl rfl 18 rfl ?_
      refine ax_getR fl_PA_64 x_0 rfl (rx_0_10 _) d_PA_fault_18 21 rfl ?_
      refine ax_getI fl_PA_140 x_65 rfl d_PA_fault_21 24 rfl ?_
      refine ax_goto 28 d_PA_fault_24 rfl ?_
      exact ax_iret rfl d_PA_fault_28 (hR (m.1 65 8) h)
  · have h := kt_t (K := K) hc h
    refine ax_aload_n 0 d_PA_fault_4 rfl rfl 5 rfl ?_
    refine ax_getR fl_PA_64 x_0 rfl (rx_0_10 _) d_PA_fault_5 8 rfl ?_
    refine ax_getI fl_PA_137 x_65 rfl d_PA_fault_8 11 rfl ?_
    exact ax_iret rfl d_PA_fault_11 (hR (m.1 65 7) h)
set_option maxRecDepth 4000 in
theorem c_Atlas_allWorlds_B4 (v1 : Int32) (v2 : Int32) (m : zM)  {Q : Option Value → zM → Prop} {K : ((Int32) ⊕ (Int32 × Int32)) → Prop} (hR : ∀ p : Int32, K (.inl p) → Q (some (.int p)) m) (h0 : ∀ s : Int32 × Int32, K (.inr s) → AX gX s_Atlas_allWorlds 4 [(0, .ref 24), (1, .int s.1), (2, .int s.2)] [] m Q) (h : ok (f_Atlas_allWorlds_B4 v1 v2 m) K) : AX gX s_Atlas_allWorlds 4 [(0, .ref 24), (1, .int v1), (2, .int v2)] [] m Q := by
  unfold f_Atlas_allWorlds_B4 at h
  refine ax_iload_n 2 d_Atlas_allWorlds_4 rfl rfl 5 rfl ?_
  refine ax_aload_n 0 d_Atlas_allWorlds_5 rfl rfl 6 rfl ?_
  refine ax_getI fl_Atlas_9 x_24 rfl d_Atlas_allWorlds_6 9 rfl ?_
  refine ax_icmp_ge 27 12 d_Atlas_allWorlds_9 rfl rfl (fun hc => ?_) (fun hc => ?_)
  · have h := ok_t hc h
    refine ax_iload_n 1 d_Atlas_allWorlds_27 rfl rfl 28 rfl ?_
    exact ax_iret rfl d_Atlas_allWorlds_28 (hR v1 (ok_some h))
  · have h := ok_f hc h
    refine ax_iload_n 1 d_Atlas_allWorlds_12 rfl rfl 13 rfl ?_
    refine ax_aload_n 0 d_Atlas_allWorlds_13 rfl rfl 14 rfl ?_
    refine ax_getR fl_Atlas_39 x_24 rfl (rx_24_7 _) d_Atlas_allWorlds_14 17 rfl ?_
    refine ax_iload_n 2 d_Atlas_allWorlds_17 rfl rfl 18 rfl ?_
    refine ax_iaload x_32 d_Atlas_allWorlds_18 19 rfl h (fun i1 h => ?_)
    refine ax_iadd d_Atlas_allWorlds_19 20 rfl ?_
    refine ax_istore_n (ls1 := [(1, .int (v1 + (m.1 32 i1))), (0, .ref 24), (2, .int v2)]) d_Atlas_allWorlds_20 rfl (Nat.le_of_ble_eq_true rfl) rfl 21 rfl ?_
    refine ax_iinc (ls1 := [(2, .int (v2 + 1)), (1, .int (v1 + (m.1 32 i1))), (0, .ref 24)]) 2 1 d_Atlas_allWorlds_21 rfl ic_1 (Nat.le_of_ble_eq_true rfl) rfl 24 rfl ?_
    refine ax_goto 4 d_Atlas_allWorlds_24 rfl ?_
    exact ax_sub [2, 1, 0] rfl (h0 ((v1 + (m.1 32 i1)), (v2 + 1)) (ok_some h))
theorem c_Atlas_allWorlds_L4 (v1 : Int32) (v2 : Int32) (m : zM)  {Q : Option Value → zM → Prop} {K : Int32 → Prop} (hR : ∀ p : Int32, K (p) → Q (some (.int p)) m)  (h : ok (f_Atlas_allWorlds_L4 v1 v2 m) K) : AX gX s_Atlas_allWorlds 4 [(0, .ref 24), (1, .int v1), (2, .int v2)] [] m Q :=
  ok_lp (K := K) (G := fun s : Int32 × Int32 => AX gX s_Atlas_allWorlds 4 [(0, .ref 24), (1, .int s.1), (2, .int s.2)] [] m Q) (fun s h => c_Atlas_allWorlds_B4 s.1 s.2 m  (fun p hp => hR p hp) (fun s hs => hs) h) FU (v1, v2) h
set_option maxRecDepth 4000 in
theorem zc_Atlas_allWorlds  (m : zM)  {Q : Option Value → zM → Prop} (h : ok (f_Atlas_allWorlds m) (fun p => Q (some (.int p)) m)) : zc gX s_Atlas_allWorlds [.ref 24] m Q := by
  refine zc_of rfl (Nat.le_of_ble_eq_true rfl) ?_
  show AX gX s_Atlas_allWorlds 0 [(0, .ref 24)] [] m Q
  obtain ⟨K, hK⟩ : ∃ K : Int32 → Prop, K = (fun p : Int32 => Q (some (.int p)) m) := ⟨_, rfl⟩
  have hR : ∀ p : Int32, K p → Q (some (.int p)) m := fun p hp => by rw [hK] at hp; exact hp
  replace h : ok (f_Atlas_allWorlds m) (fun p : Int32 => Q (some (.int p)) m) := h
  rw [← hK] at h
  unfold f_Atlas_allWorlds at h
  refine ax_iconst 0 d_Atlas_allWorlds_0 ic_0 1 rfl ?_
  refine ax_istore_n (ls1 := [(1, .int 0), (0, .ref 24)]) d_Atlas_allWorlds_1 rfl (Nat.le_of_ble_eq_true rfl) rfl 2 rfl ?_
  refine ax_iconst 0 d_Atlas_allWorlds_2 ic_0 3 rfl ?_
  refine ax_istore_n (ls1 := [(2, .int 0), (1, .int 0), (0, .ref 24)]) d_Atlas_allWorlds_3 rfl (Nat.le_of_ble_eq_true rfl) rfl 4 rfl ?_
  exact ax_sub [2, 1, 0] rfl (c_Atlas_allWorlds_L4 0 0 m (fun p hp => hR p hp) h)
set_option maxRecDepth 4000 in
theorem c_Atlas_allMoves_J67 (v1 : Int32) (v2 : Int32) (v3 : Int32) (m : zM)  {Q : Option Value → zM → Prop} {K : ((Int32) ⊕ (Int32 × Int32)) → Prop} (hR : ∀ p : Int32, K (.inl p) → Q (some (.int p)) m) (h0 : ∀ s : Int32 × Int32, K (.inr s) → AX gX s_Atlas_allMoves 4 [(0, .ref 24), (1, .int v1), (2, .int s.1), (3, .int s.2)] [] m Q) (h : ok (f_Atlas_allMoves_J67 v1 v2 v3 m) K) : AX gX s_Atlas_allMoves 67 [(0, .ref 24), (1, .int v1), (2, .int v2), (3, .int v3)] [] m Q := by
  unfold f_Atlas_allMoves_J67 at h
  refine ax_iinc (ls1 := [(3, .int (v3 + 1)), (0, .ref 24), (1, .int v1), (2, .int v2)]) 3 1 d_Atlas_allMoves_67 rfl ic_1 (Nat.le_of_ble_eq_true rfl) rfl 70 rfl ?_
  refine ax_goto 4 d_Atlas_allMoves_70 rfl ?_
  exact ax_sub [1, 2, 3, 0] rfl (h0 (v2, (v3 + 1)) (ok_some h))
set_option maxRecDepth 4000 in
theorem c_Atlas_allMoves_J59 (v1 : Int32) (v3 : Int32) (v4 : Int32) (t0 : Int32) (t1 : Int32) (m : zM)  {Q : Option Value → zM → Prop} {K : (((Int32) ⊕ (Int32 × Int32)) ⊕ (Int32 × Int32)) → Prop} (hR : ∀ p : Int32, K (.inl (.inl p)) → Q (some (.int p)) m) (h0 : ∀ s : Int32 × Int32, K (.inl (.inr s)) → AX gX s_Atlas_allMoves 4 [(0, .ref 24), (1, .int v1), (2, .int s.1), (3, .int s.2)] [] m Q) (h1 : ∀ s : Int32 × Int32, K (.inr s) → AX gX s_Atlas_allMoves 20 [(0, .ref 24), (1, .int v1), (2, .int s.1), (3, .int v3), (4, .int s.2)] [] m Q) (h : ok (f_Atlas_allMoves_J59 v1 v3 v4 t0 t1 m) K) : AX gX s_Atlas_allMoves 59 [(0, .ref 24), (1, .int v1), (3, .int v3), (4, .int v4)] [.int t1, .int t0] m Q := by
  unfold f_Atlas_allMoves_J59 at h
  refine ax_iadd d_Atlas_allMoves_59 60 rfl ?_
  refine ax_istore_n (ls1 := [(2, .int (t0 + t1)), (0, .ref 24), (1, .int v1), (3, .int v3), (4, .int v4)]) d_Atlas_allMoves_60 rfl (Nat.le_of_ble_eq_true rfl) rfl 61 rfl ?_
  refine ax_iinc (ls1 := [(4, .int (v4 + 1)), (2, .int (t0 + t1)), (0, .ref 24), (1, .int v1), (3, .int v3)]) 4 1 d_Atlas_allMoves_61 rfl ic_1 (Nat.le_of_ble_eq_true rfl) rfl 64 rfl ?_
  refine ax_goto 20 d_Atlas_allMoves_64 rfl ?_
  exact ax_sub [2, 3, 1, 4, 0] rfl (h1 ((t0 + t1), (v4 + 1)) (ok_some h))
set_option maxRecDepth 4000 in
theorem c_Atlas_allMoves_J49 (v1 : Int32) (v3 : Int32) (v4 : Int32) (t0 : Int32) (m : zM)  {Q : Option Value → zM → Prop} {K : (((Int32) ⊕ (Int32 × Int32)) ⊕ (Int32 × Int32)) → Prop} (hR : ∀ p : Int32, K (.inl (.inl p)) → Q (some (.int p)) m) (h0 : ∀ s : Int32 × Int32, K (.inl (.inr s)) → AX gX s_Atlas_allMoves 4 [(0, .ref 24), (1, .int v1), (2, .int s.1), (3, .int s.2)] [] m Q) (h1 : ∀ s : Int32 × Int32, K (.inr s) → AX gX s_Atlas_allMoves 20 [(0, .ref 24), (1, .int v1), (2, .int s.1), (3, .int v3), (4, .int s.2)] [] m Q) (h : ok (f_Atlas_allMoves_J49 v1 v3 v4 t0 m) K) : AX gX s_Atlas_allMoves 49 [(0, .ref 24), (1, .int v1), (3, .int v3), (4, .int v4)] [.int t0] m Q := by
  unfold f_Atlas_allMoves_J49 at h
  refine ax_aload_n 0 d_Atlas_allMoves_49 rfl rfl 50 rfl ?_
  refine ax_getR fl_Atlas_39 x_24 rfl (rx_24_7 _) d_Atlas_allMoves_50 53 rfl ?_
  refine ax_iload_n 2 d_Atlas_allMoves_53 rfl rfl 54 rfl ?_
  refine ax_iaload x_32 d_Atlas_allMoves_54 55 rfl h (fun i4 h => ?_)
  refine ax_goto 59 d_Atlas_allMoves_55 rfl ?_
  exact ax_sub [0, 1, 2, 3] rfl (c_Atlas_allMoves_J59 v1 v3 v4 t0 (m.1 32 i4) m (fun p hp => hR p hp) (fun s hs => h0 s hs) (fun s hs => h1 s hs) h)
set_option maxRecDepth 4000 in
theorem c_Atlas_allMoves_B20 (v1 : Int32) (v2 : Int32) (v3 : Int32) (v4 : Int32) (m : zM)  {Q : Option Value → zM → Prop} {K : (((Int32) ⊕ (Int32 × Int32)) ⊕ (Int32 × Int32)) → Prop} (hR : ∀ p : Int32, K (.inl (.inl p)) → Q (some (.int p)) m) (h0 : ∀ s : Int32 × Int32, K (.inl (.inr s)) → AX gX s_Atlas_allMoves 4 [(0, .ref 24), (1, .int v1), (2, .int s.1), (3, .int s.2)] [] m Q) (h1 : ∀ s : Int32 × Int32, K (.inr s) → AX gX s_Atlas_allMoves 20 [(0, .ref 24), (1, .int v1), (2, .int s.1), (3, .int v3), (4, .int s.2)] [] m Q) (h : ok (f_Atlas_allMoves_B20 v1 v2 v3 v4 m) K) : AX gX s_Atlas_allMoves 20 [(0, .ref 24), (1, .int v1), (2, .int v2), (3, .int v3), (4, .int v4)] [] m Q := by
  unfold f_Atlas_allMoves_B20 at h
  refine ax_iload 4 d_Atlas_allMoves_20 rfl 22 rfl ?_
  refine ax_aload_n 0 d_Atlas_allMoves_22 rfl rfl 23 rfl ?_
  refine ax_getR fl_Atlas_52 x_24 rfl (rx_24_11 _) d_Atlas_allMoves_23 26 rfl ?_
  refine ax_iload_n 3 d_Atlas_allMoves_26 rfl rfl 27 rfl ?_
  refine ax_iconst 1 d_Atlas_allMoves_27 ic_1 28 rfl ?_
  refine ax_iadd d_Atlas_allMoves_28 29 rfl ?_
  refine ax_iaload x_36 d_Atlas_allMoves_29 30 rfl h (fun i2 h => ?_)
  refine ax_icmp_ge 67 33 d_Atlas_allMoves_30 rfl rfl (fun hc => ?_) (fun hc => ?_)
  · have h := ok_t hc h
    exact ax_sub [0, 1, 2, 3] rfl (c_Atlas_allMoves_J67 v1 v2 v3 m (fun p hp => hR p hp) (fun s hs => h0 s hs) (ok_z h))
  · have h := ok_f hc h
    refine ax_iload_n 2 d_Atlas_allMoves_33 rfl rfl 34 rfl ?_
    refine ax_iload_n 1 d_Atlas_allMoves_34 rfl rfl 35 rfl ?_
    refine ax_iconst (-1) d_Atlas_allMoves_35 ic_m1 36 rfl ?_
    refine ax_icmp_eq 49 39 d_Atlas_allMoves_36 rfl rfl (fun hc => ?_) (fun hc => ?_)
    · have h := ok_t hc h
      exact ax_sub [0, 1, 3, 4] rfl (c_Atlas_allMoves_J49 v1 v3 v4 v2 m (fun p hp => hR p hp) (fun s hs => h0 s hs) (fun s hs => h1 s hs) h)
    · have h := ok_f hc h
      refine ax_aload_n 0 d_Atlas_allMoves_39 rfl rfl 40 rfl ?_
      refine ax_iload 4 d_Atlas_allMoves_40 rfl 42 rfl ?_
      refine ax_callV mv_Atlas_147 ⟨Nat.le_of_ble_eq_true rfl, Nat.le_of_ble_eq_true rfl⟩ ⟨rfl, rfl⟩ [.int v4] [.int v4, .ref 24, .int v2] rfl rfl (rc_x_24 _) (Nat.le_of_ble_eq_true rfl) d_Atlas_allMoves_42 45 rfl (zc_Atlas_by v4 m (ok_b h (fun r3 h => ?_)))
      refine ax_iload_n 1 d_Atlas_allMoves_45 rfl rfl 46 rfl ?_
      refine ax_icmp_ne 58 49 d_Atlas_allMoves_46 rfl rfl (fun hc => ?_) (fun hc => ?_)
      · have h := ok_f hc h
        refine ax_iconst 0 d_Atlas_allMoves_58 ic_0 59 rfl ?_
        exact ax_sub [0, 1, 3, 4] rfl (c_Atlas_allMoves_J59 v1 v3 v4 v2 0 m (fun p hp => hR p hp) (fun s hs => h0 s hs) (fun s hs => h1 s hs) h)
      · have h := ok_t hc h
        exact ax_sub [0, 1, 3, 4] rfl (c_Atlas_allMoves_J49 v1 v3 v4 v2 m (fun p hp => hR p hp) (fun s hs => h0 s hs) (fun s hs => h1 s hs) h)
theorem c_Atlas_allMoves_L20 (v1 : Int32) (v2 : Int32) (v3 : Int32) (v4 : Int32) (m : zM)  {Q : Option Value → zM → Prop} {K : ((Int32) ⊕ (Int32 × Int32)) → Prop} (hR : ∀ p : Int32, K (.inl p) → Q (some (.int p)) m) (h0 : ∀ s : Int32 × Int32, K (.inr s) → AX gX s_Atlas_allMoves 4 [(0, .ref 24), (1, .int v1), (2, .int s.1), (3, .int s.2)] [] m Q) (h : ok (f_Atlas_allMoves_L20 v1 v2 v3 v4 m) K) : AX gX s_Atlas_allMoves 20 [(0, .ref 24), (1, .int v1), (2, .int v2), (3, .int v3), (4, .int v4)] [] m Q :=
  ok_lp (K := K) (G := fun s : Int32 × Int32 => AX gX s_Atlas_allMoves 20 [(0, .ref 24), (1, .int v1), (2, .int s.1), (3, .int v3), (4, .int s.2)] [] m Q) (fun s h => c_Atlas_allMoves_B20 v1 s.1 v3 s.2 m  (fun p hp => hR p hp) (fun s hs => h0 s hs) (fun s hs => hs) h) FU (v2, v4) h
set_option maxRecDepth 4000 in
theorem c_Atlas_allMoves_B4 (v1 : Int32) (v2 : Int32) (v3 : Int32) (m : zM)  {Q : Option Value → zM → Prop} {K : ((Int32) ⊕ (Int32 × Int32)) → Prop} (hR : ∀ p : Int32, K (.inl p) → Q (some (.int p)) m) (h0 : ∀ s : Int32 × Int32, K (.inr s) → AX gX s_Atlas_allMoves 4 [(0, .ref 24), (1, .int v1), (2, .int s.1), (3, .int s.2)] [] m Q) (h : ok (f_Atlas_allMoves_B4 v1 v2 v3 m) K) : AX gX s_Atlas_allMoves 4 [(0, .ref 24), (1, .int v1), (2, .int v2), (3, .int v3)] [] m Q := by
  unfold f_Atlas_allMoves_B4 at h
  refine ax_iload_n 3 d_Atlas_allMoves_4 rfl rfl 5 rfl ?_
  refine ax_aload_n 0 d_Atlas_allMoves_5 rfl rfl 6 rfl ?_
  refine ax_getI fl_Atlas_9 x_24 rfl d_Atlas_allMoves_6 9 rfl ?_
  refine ax_icmp_ge 73 12 d_Atlas_allMoves_9 rfl rfl (fun hc => ?_) (fun hc => ?_)
  · have h := ok_t hc h
    refine ax_iload_n 2 d_Atlas_allMoves_73 rfl rfl 74 rfl ?_
    exact ax_iret rfl d_Atlas_allMoves_74 (hR v2 (ok_some h))
  · have h := ok_f hc h
    refine ax_aload_n 0 d_Atlas_allMoves_12 rfl rfl 13 rfl ?_
    refine ax_getR fl_Atlas_52 x_24 rfl (rx_24_11 _) d_Atlas_allMoves_13 16 rfl ?_
    refine ax_iload_n 3 d_Atlas_allMoves_16 rfl rfl 17 rfl ?_
    refine ax_iaload x_36 d_Atlas_allMoves_17 18 rfl h (fun i1 h => ?_)
    refine ax_istore (ls1 := [(4, .int (m.1 36 i1)), (0, .ref 24), (1, .int v1), (2, .int v2), (3, .int v3)]) d_Atlas_allMoves_18 (Nat.le_of_ble_eq_true rfl) rfl 20 rfl ?_
    exact ax_sub [1, 2, 3, 4, 0] rfl (c_Atlas_allMoves_L20 v1 v2 v3 (m.1 36 i1) m (fun p hp => hR p hp) (fun s hs => h0 s hs) h)
theorem c_Atlas_allMoves_L4 (v1 : Int32) (v2 : Int32) (v3 : Int32) (m : zM)  {Q : Option Value → zM → Prop} {K : Int32 → Prop} (hR : ∀ p : Int32, K (p) → Q (some (.int p)) m)  (h : ok (f_Atlas_allMoves_L4 v1 v2 v3 m) K) : AX gX s_Atlas_allMoves 4 [(0, .ref 24), (1, .int v1), (2, .int v2), (3, .int v3)] [] m Q :=
  ok_lp (K := K) (G := fun s : Int32 × Int32 => AX gX s_Atlas_allMoves 4 [(0, .ref 24), (1, .int v1), (2, .int s.1), (3, .int s.2)] [] m Q) (fun s h => c_Atlas_allMoves_B4 v1 s.1 s.2 m  (fun p hp => hR p hp) (fun s hs => hs) h) FU (v2, v3) h
set_option maxRecDepth 4000 in
theorem zc_Atlas_allMoves (v1 : Int32) (m : zM)  {Q : Option Value → zM → Prop} (h : ok (f_Atlas_allMoves v1 m) (fun p => Q (some (.int p)) m)) : zc gX s_Atlas_allMoves [.ref 24, .int v1] m Q := by
  refine zc_of rfl (Nat.le_of_ble_eq_true rfl) ?_
  show AX gX s_Atlas_allMoves 0 [(0, .ref 24), (1, .int v1)] [] m Q
  obtain ⟨K, hK⟩ : ∃ K : Int32 → Prop, K = (fun p : Int32 => Q (some (.int p)) m) := ⟨_, rfl⟩
  have hR : ∀ p : Int32, K p → Q (some (.int p)) m := fun p hp => by rw [hK] at hp; exact hp
  replace h : ok (f_Atlas_allMoves v1 m) (fun p : Int32 => Q (some (.int p)) m) := h
  rw [← hK] at h
  unfold f_Atlas_allMoves at h
  refine ax_iconst 0 d_Atlas_allMoves_0 ic_0 1 rfl ?_
  refine ax_istore_n (ls1 := [(2, .int 0), (0, .ref 24), (1, .int v1)]) d_Atlas_allMoves_1 rfl (Nat.le_of_ble_eq_true rfl) rfl 2 rfl ?_
  refine ax_iconst 0 d_Atlas_allMoves_2 ic_0 3 rfl ?_
  refine ax_istore_n (ls1 := [(3, .int 0), (2, .int 0), (0, .ref 24), (1, .int v1)]) d_Atlas_allMoves_3 rfl (Nat.le_of_ble_eq_true rfl) rfl 4 rfl ?_
  exact ax_sub [2, 3, 1, 0] rfl (c_Atlas_allMoves_L4 v1 0 0 m (fun p hp => hR p hp) h)
set_option maxRecDepth 4000 in
theorem c_Atlas_allBad_J32 (v2 : Int32) (t0 : Int32) (t1 : Int32) (m : zM)  {Q : Option Value → zM → Prop} {K : ((Int32) ⊕ (Int32 × Int32)) → Prop} (hR : ∀ p : Int32, K (.inl p) → Q (some (.int p)) m) (h0 : ∀ s : Int32 × Int32, K (.inr s) → AX gX s_Atlas_allBad 4 [(0, .ref 24), (1, .int s.1), (2, .int s.2)] [] m Q) (h : ok (f_Atlas_allBad_J32 v2 t0 t1 m) K) : AX gX s_Atlas_allBad 32 [(0, .ref 24), (2, .int v2)] [.int t1, .int t0] m Q := by
  unfold f_Atlas_allBad_J32 at h
  refine ax_iadd d_Atlas_allBad_32 33 rfl ?_
  refine ax_istore_n (ls1 := [(1, .int (t0 + t1)), (0, .ref 24), (2, .int v2)]) d_Atlas_allBad_33 rfl (Nat.le_of_ble_eq_true rfl) rfl 34 rfl ?_
  refine ax_iinc (ls1 := [(2, .int (v2 + 1)), (1, .int (t0 + t1)), (0, .ref 24)]) 2 1 d_Atlas_allBad_34 rfl ic_1 (Nat.le_of_ble_eq_true rfl) rfl 37 rfl ?_
  refine ax_goto 4 d_Atlas_allBad_37 rfl ?_
  exact ax_sub [2, 1, 0] rfl (h0 ((t0 + t1), (v2 + 1)) (ok_some h))
set_option maxRecDepth 4000 in
theorem c_Atlas_allBad_B4 (v1 : Int32) (v2 : Int32) (m : zM)  {Q : Option Value → zM → Prop} {K : ((Int32) ⊕ (Int32 × Int32)) → Prop} (hR : ∀ p : Int32, K (.inl p) → Q (some (.int p)) m) (h0 : ∀ s : Int32 × Int32, K (.inr s) → AX gX s_Atlas_allBad 4 [(0, .ref 24), (1, .int s.1), (2, .int s.2)] [] m Q) (h : ok (f_Atlas_allBad_B4 v1 v2 m) K) : AX gX s_Atlas_allBad 4 [(0, .ref 24), (1, .int v1), (2, .int v2)] [] m Q := by
  unfold f_Atlas_allBad_B4 at h
  refine ax_iload_n 2 d_Atlas_allBad_4 rfl rfl 5 rfl ?_
  refine ax_aload_n 0 d_Atlas_allBad_5 rfl rfl 6 rfl ?_
  refine ax_getI fl_Atlas_9 x_24 rfl d_Atlas_allBad_6 9 rfl ?_
  refine ax_icmp_ge 40 12 d_Atlas_allBad_9 rfl rfl (fun hc => ?_) (fun hc => ?_)
  · have h := ok_t hc h
    refine ax_iload_n 1 d_Atlas_allBad_40 rfl rfl 41 rfl ?_
    exact ax_iret rfl d_Atlas_allBad_41 (hR v1 (ok_some h))
  · have h := ok_f hc h
    refine ax_iload_n 1 d_Atlas_allBad_12 rfl rfl 13 rfl ?_
    refine ax_aload_n 0 d_Atlas_allBad_13 rfl rfl 14 rfl ?_
    refine ax_getR fl_Atlas_42 x_24 rfl (rx_24_8 _) d_Atlas_allBad_14 17 rfl ?_
    refine ax_iload_n 2 d_Atlas_allBad_17 rfl rfl 18 rfl ?_
    refine ax_baload x_33 d_Atlas_allBad_18 19 rfl h (fun i1 h => ?_)
    refine ax_if_eq 31 22 d_Atlas_allBad_19 rfl rfl (fun hc => ?_) (fun hc => ?_)
    · have h := ok_t hc h
      refine ax_iconst 0 d_Atlas_allBad_31 ic_0 32 rfl ?_
      exact ax_sub [0, 2] rfl (c_Atlas_allBad_J32 v2 v1 0 m (fun p hp => hR p hp) (fun s hs => h0 s hs) h)
    · have h := ok_f hc h
      refine ax_aload_n 0 d_Atlas_allBad_22 rfl rfl 23 rfl ?_
      refine ax_getR fl_Atlas_39 x_24 rfl (rx_24_7 _) d_Atlas_allBad_23 26 rfl ?_
      refine ax_iload_n 2 d_Atlas_allBad_26 rfl rfl 27 rfl ?_
      refine ax_iaload x_32 d_Atlas_allBad_27 28 rfl h (fun i2 h => ?_)
      refine ax_goto 32 d_Atlas_allBad_28 rfl ?_
      exact ax_sub [0, 2] rfl (c_Atlas_allBad_J32 v2 v1 (m.1 32 i2) m (fun p hp => hR p hp) (fun s hs => h0 s hs) h)
theorem c_Atlas_allBad_L4 (v1 : Int32) (v2 : Int32) (m : zM)  {Q : Option Value → zM → Prop} {K : Int32 → Prop} (hR : ∀ p : Int32, K (p) → Q (some (.int p)) m)  (h : ok (f_Atlas_allBad_L4 v1 v2 m) K) : AX gX s_Atlas_allBad 4 [(0, .ref 24), (1, .int v1), (2, .int v2)] [] m Q :=
  ok_lp (K := K) (G := fun s : Int32 × Int32 => AX gX s_Atlas_allBad 4 [(0, .ref 24), (1, .int s.1), (2, .int s.2)] [] m Q) (fun s h => c_Atlas_allBad_B4 s.1 s.2 m  (fun p hp => hR p hp) (fun s hs => hs) h) FU (v1, v2) h
set_option maxRecDepth 4000 in
theorem zc_Atlas_allBad  (m : zM)  {Q : Option Value → zM → Prop} (h : ok (f_Atlas_allBad m) (fun p => Q (some (.int p)) m)) : zc gX s_Atlas_allBad [.ref 24] m Q := by
  refine zc_of rfl (Nat.le_of_ble_eq_true rfl) ?_
  show AX gX s_Atlas_allBad 0 [(0, .ref 24)] [] m Q
  obtain ⟨K, hK⟩ : ∃ K : Int32 → Prop, K = (fun p : Int32 => Q (some (.int p)) m) := ⟨_, rfl⟩
  have hR : ∀ p : Int32, K p → Q (some (.int p)) m := fun p hp => by rw [hK] at hp; exact hp
  replace h : ok (f_Atlas_allBad m) (fun p : Int32 => Q (some (.int p)) m) := h
  rw [← hK] at h
  unfold f_Atlas_allBad at h
  refine ax_iconst 0 d_Atlas_allBad_0 ic_0 1 rfl ?_
  refine ax_istore_n (ls1 := [(1, .int 0), (0, .ref 24)]) d_Atlas_allBad_1 rfl (Nat.le_of_ble_eq_true rfl) rfl 2 rfl ?_
  refine ax_iconst 0 d_Atlas_allBad_2 ic_0 3 rfl ?_
  refine ax_istore_n (ls1 := [(2, .int 0), (1, .int 0), (0, .ref 24)]) d_Atlas_allBad_3 rfl (Nat.le_of_ble_eq_true rfl) rfl 4 rfl ?_
  exact ax_sub [2, 1, 0] rfl (c_Atlas_allBad_L4 0 0 m (fun p hp => hR p hp) h)
set_option maxRecDepth 4000 in
theorem zc_Atlas_movesFrom (v1 : Int32) (m : zM)  {Q : Option Value → zM → Prop} (h : ok (f_Atlas_movesFrom v1 m) (fun p => Q (some (.int p)) m)) : zc gX s_Atlas_movesFrom [.ref 24, .int v1] m Q := by
  refine zc_of rfl (Nat.le_of_ble_eq_true rfl) ?_
  show AX gX s_Atlas_movesFrom 0 [(0, .ref 24), (1, .int v1)] [] m Q
  obtain ⟨K, hK⟩ : ∃ K : Int32 → Prop, K = (fun p : Int32 => Q (some (.int p)) m) := ⟨_, rfl⟩
  have hR : ∀ p : Int32, K p → Q (some (.int p)) m := fun p hp => by rw [hK] at hp; exact hp
  replace h : ok (f_Atlas_movesFrom v1 m) (fun p : Int32 => Q (some (.int p)) m) := h
  rw [← hK] at h
  unfold f_Atlas_movesFrom at h
  refine ax_aload_n 0 d_Atlas_movesFrom_0 rfl rfl 1 rfl ?_
  refine ax_getR fl_Atlas_52 x_24 rfl (rx_24_11 _) d_Atlas_movesFrom_1 4 rfl ?_
  refine ax_iload_n 1 d_Atlas_movesFrom_4 rfl rfl 5 rfl ?_
  refine ax_iconst 1 d_Atlas_movesFrom_5 ic_1 6 rfl ?_
  refine ax_iadd d_Atlas_movesFrom_6 7 rfl ?_
  refine ax_iaload x_36 d_Atlas_movesFrom_7 8 rfl h (fun i1 h => ?_)
  refine ax_aload_n 0 d_Atlas_movesFrom_8 rfl rfl 9 rfl ?_
  refine ax_getR fl_Atlas_52 x_24 rfl (rx_24_11 _) d_Atlas_movesFrom_9 12 rfl ?_
  refine ax_iload_n 1 d_Atlas_movesFrom_12 rfl rfl 13 rfl ?_
  refine ax_iaload x_36 d_Atlas_movesFrom_13 14 rfl h (fun i2 h => ?_)
  refine ax_isub d_Atlas_movesFrom_14 15 rfl ?_
  exact ax_iret rfl d_Atlas_movesFrom_15 (hR ((m.1 36 i1) - (m.1 36 i2)) (ok_some h))
set_option maxRecDepth 4000 in
theorem c_Atlas_allStuck_J31 (v2 : Int32) (t0 : Int32) (t1 : Int32) (m : zM)  {Q : Option Value → zM → Prop} {K : ((Int32) ⊕ (Int32 × Int32)) → Prop} (hR : ∀ p : Int32, K (.inl p) → Q (some (.int p)) m) (h0 : ∀ s : Int32 × Int32, K (.inr s) → AX gX s_Atlas_allStuck 4 [(0, .ref 24), (1, .int s.1), (2, .int s.2)] [] m Q) (h : ok (f_Atlas_allStuck_J31 v2 t0 t1 m) K) : AX gX s_Atlas_allStuck 31 [(0, .ref 24), (2, .int v2)] [.int t1, .int t0] m Q := by
  unfold f_Atlas_allStuck_J31 at h
  refine ax_iadd d_Atlas_allStuck_31 32 rfl ?_
  refine ax_istore_n (ls1 := [(1, .int (t0 + t1)), (0, .ref 24), (2, .int v2)]) d_Atlas_allStuck_32 rfl (Nat.le_of_ble_eq_true rfl) rfl 33 rfl ?_
  refine ax_iinc (ls1 := [(2, .int (v2 + 1)), (1, .int (t0 + t1)), (0, .ref 24)]) 2 1 d_Atlas_allStuck_33 rfl ic_1 (Nat.le_of_ble_eq_true rfl) rfl 36 rfl ?_
  refine ax_goto 4 d_Atlas_allStuck_36 rfl ?_
  exact ax_sub [2, 1, 0] rfl (h0 ((t0 + t1), (v2 + 1)) (ok_some h))
set_option maxRecDepth 4000 in
theorem c_Atlas_allStuck_B4 (v1 : Int32) (v2 : Int32) (m : zM)  {Q : Option Value → zM → Prop} {K : ((Int32) ⊕ (Int32 × Int32)) → Prop} (hR : ∀ p : Int32, K (.inl p) → Q (some (.int p)) m) (h0 : ∀ s : Int32 × Int32, K (.inr s) → AX gX s_Atlas_allStuck 4 [(0, .ref 24), (1, .int s.1), (2, .int s.2)] [] m Q) (h : ok (f_Atlas_allStuck_B4 v1 v2 m) K) : AX gX s_Atlas_allStuck 4 [(0, .ref 24), (1, .int v1), (2, .int v2)] [] m Q := by
  unfold f_Atlas_allStuck_B4 at h
  refine ax_iload_n 2 d_Atlas_allStuck_4 rfl rfl 5 rfl ?_
  refine ax_aload_n 0 d_Atlas_allStuck_5 rfl rfl 6 rfl ?_
  refine ax_getI fl_Atlas_9 x_24 rfl d_Atlas_allStuck_6 9 rfl ?_
  refine ax_icmp_ge 39 12 d_Atlas_allStuck_9 rfl rfl (fun hc => ?_) (fun hc => ?_)
  · have h := ok_t hc h
    refine ax_iload_n 1 d_Atlas_allStuck_39 rfl rfl 40 rfl ?_
    exact ax_iret rfl d_Atlas_allStuck_40 (hR v1 (ok_some h))
  · have h := ok_f hc h
    refine ax_iload_n 1 d_Atlas_allStuck_12 rfl rfl 13 rfl ?_
    refine ax_aload_n 0 d_Atlas_allStuck_13 rfl rfl 14 rfl ?_
    refine ax_iload_n 2 d_Atlas_allStuck_14 rfl rfl 15 rfl ?_
    refine ax_callV mv_Atlas_157 ⟨Nat.le_of_ble_eq_true rfl, Nat.le_of_ble_eq_true rfl⟩ ⟨rfl, rfl⟩ [.int v2] [.int v2, .ref 24, .int v1] rfl rfl (rc_x_24 _) (Nat.le_of_ble_eq_true rfl) d_Atlas_allStuck_15 18 rfl (zc_Atlas_movesFrom v2 m (ok_b h (fun r1 h => ?_)))
    refine ax_if_ne 30 21 d_Atlas_allStuck_18 rfl rfl (fun hc => ?_) (fun hc => ?_)
    · have h := ok_f hc h
      refine ax_iconst 0 d_Atlas_allStuck_30 ic_0 31 rfl ?_
      exact ax_sub [0, 2] rfl (c_Atlas_allStuck_J31 v2 v1 0 m (fun p hp => hR p hp) (fun s hs => h0 s hs) h)
    · have h := ok_t hc h
      refine ax_aload_n 0 d_Atlas_allStuck_21 rfl rfl 22 rfl ?_
      refine ax_getR fl_Atlas_39 x_24 rfl (rx_24_7 _) d_Atlas_allStuck_22 25 rfl ?_
      refine ax_iload_n 2 d_Atlas_allStuck_25 rfl rfl 26 rfl ?_
      refine ax_iaload x_32 d_Atlas_allStuck_26 27 rfl h (fun i2 h => ?_)
      refine ax_goto 31 d_Atlas_allStuck_27 rfl ?_
      exact ax_sub [0, 2] rfl (c_Atlas_allStuck_J31 v2 v1 (m.1 32 i2) m (fun p hp => hR p hp) (fun s hs => h0 s hs) h)
theorem c_Atlas_allStuck_L4 (v1 : Int32) (v2 : Int32) (m : zM)  {Q : Option Value → zM → Prop} {K : Int32 → Prop} (hR : ∀ p : Int32, K (p) → Q (some (.int p)) m)  (h : ok (f_Atlas_allStuck_L4 v1 v2 m) K) : AX gX s_Atlas_allStuck 4 [(0, .ref 24), (1, .int v1), (2, .int v2)] [] m Q :=
  ok_lp (K := K) (G := fun s : Int32 × Int32 => AX gX s_Atlas_allStuck 4 [(0, .ref 24), (1, .int s.1), (2, .int s.2)] [] m Q) (fun s h => c_Atlas_allStuck_B4 s.1 s.2 m  (fun p hp => hR p hp) (fun s hs => hs) h) FU (v1, v2) h
set_option maxRecDepth 4000 in
theorem zc_Atlas_allStuck  (m : zM)  {Q : Option Value → zM → Prop} (h : ok (f_Atlas_allStuck m) (fun p => Q (some (.int p)) m)) : zc gX s_Atlas_allStuck [.ref 24] m Q := by
  refine zc_of rfl (Nat.le_of_ble_eq_true rfl) ?_
  show AX gX s_Atlas_allStuck 0 [(0, .ref 24)] [] m Q
  obtain ⟨K, hK⟩ : ∃ K : Int32 → Prop, K = (fun p : Int32 => Q (some (.int p)) m) := ⟨_, rfl⟩
  have hR : ∀ p : Int32, K p → Q (some (.int p)) m := fun p hp => by rw [hK] at hp; exact hp
  replace h : ok (f_Atlas_allStuck m) (fun p : Int32 => Q (some (.int p)) m) := h
  rw [← hK] at h
  unfold f_Atlas_allStuck at h
  refine ax_iconst 0 d_Atlas_allStuck_0 ic_0 1 rfl ?_
  refine ax_istore_n (ls1 := [(1, .int 0), (0, .ref 24)]) d_Atlas_allStuck_1 rfl (Nat.le_of_ble_eq_true rfl) rfl 2 rfl ?_
  refine ax_iconst 0 d_Atlas_allStuck_2 ic_0 3 rfl ?_
  refine ax_istore_n (ls1 := [(2, .int 0), (1, .int 0), (0, .ref 24)]) d_Atlas_allStuck_3 rfl (Nat.le_of_ble_eq_true rfl) rfl 4 rfl ?_
  exact ax_sub [2, 1, 0] rfl (c_Atlas_allStuck_L4 0 0 m (fun p hp => hR p hp) h)
set_option maxRecDepth 4000 in
theorem zc_PA_has (v1 : Int32) (m : zM)  {Q : Option Value → zM → Prop} (h : ok (f_PA_has v1 m) (fun p => Q (some (.int p)) m)) : zc gX s_PA_has [.ref 0, .int v1] m Q := by
  refine zc_of rfl (Nat.le_of_ble_eq_true rfl) ?_
  show AX gX s_PA_has 0 [(0, .ref 0), (1, .int v1)] [] m Q
  obtain ⟨K, hK⟩ : ∃ K : Int32 → Prop, K = (fun p : Int32 => Q (some (.int p)) m) := ⟨_, rfl⟩
  have hR : ∀ p : Int32, K p → Q (some (.int p)) m := fun p hp => by rw [hK] at hp; exact hp
  replace h : ok (f_PA_has v1 m) (fun p : Int32 => Q (some (.int p)) m) := h
  rw [← hK] at h
  unfold f_PA_has at h
  refine ax_iload_n 1 d_PA_has_0 rfl rfl 1 rfl ?_
  refine ax_if_lt 10 4 d_PA_has_1 rfl rfl (fun hc => ?_) (fun hc => ?_)
  · have h := ok_t hc h
    refine ax_iconst (-1) d_PA_has_10 ic_m1 11 rfl ?_
    exact ax_iret rfl d_PA_has_11 (hR (-1) (ok_some h))
  · have h := ok_f hc h
    refine ax_iload_n 1 d_PA_has_4 rfl rfl 5 rfl ?_
    refine ax_bipush 13 d_PA_has_5 bp_13 7 rfl ?_
    refine ax_icmp_le 12 10 d_PA_has_7 rfl rfl (fun hc => ?_) (fun hc => ?_)
    · have h := ok_t hc h
      refine ax_aload_n 0 d_PA_has_12 rfl rfl 13 rfl ?_
      refine ax_getI fl_PA_84 x_0 rfl d_PA_has_13 16 rfl ?_
      refine ax_if_ne 21 19 d_PA_has_16 rfl rfl (fun hc => ?_) (fun hc => ?_)
      · have h := ok_f hc h
        refine ax_iload_n 1 d_PA_has_21 rfl rfl 22 rfl ?_
        by_cases hc22_0 : v1 = 0
        · have h := ok_t hc22_0 h
          refine ax_tableIn (off := 66) 88 d_PA_has_22 (by rw [hc22_0]; decide) (by rw [hc22_0]; decide) (by rw [hc22_0]; rfl) rfl ?_
          refine ax_aload_n 0 d_PA_has_88 rfl rfl 89 rfl ?_
          refine ok_tb h (fun t1 ht1 et1 h => ?_)
          refine ax_getR fl_PA_71 x_0 rfl (ry_0 et1) d_PA_has_89 92 rfl ?_
          refine ax_getI fl_PA_143 (sx_Table ht1) rfl d_PA_has_92 95 rfl ?_
          exact ax_iret rfl d_PA_has_95 (hR (m.1 t1 0) (ok_some h))
        have h := ok_f hc22_0 h
        by_cases hc22_1 : v1 = 1
        · have h := ok_t hc22_1 h
          refine ax_tableIn (off := 74) 96 d_PA_has_22 (by rw [hc22_1]; decide) (by rw [hc22_1]; decide) (by rw [hc22_1]; rfl) rfl ?_
          refine ax_aload_n 0 d_PA_has_96 rfl rfl 97 rfl ?_
          refine ok_tb h (fun t2 ht2 et2 h => ?_)
          refine ax_getR fl_PA_71 x_0 rfl (ry_0 et2) d_PA_has_97 100 rfl ?_
          refine ax_getR fl_PA_146 (sx_Table ht2) rfl (ro_Table_1 ht2 _) d_PA_has_100 103 rfl ?_
          refine ax_iconst 0 d_PA_has_103 ic_0 104 rfl ?_
          refine ax_iaload (sa_Table_1 ht2) d_PA_has_104 105 rfl h (fun i3 h => ?_)
          exact ax_iret rfl d_PA_has_105 (hR (m.1 (t2 + 1) i3) (ok_some h))
        have h := ok_f hc22_1 h
        by_cases hc22_2 : v1 = 2
        · have h := ok_t hc22_2 h
          refine ax_tableIn (off := 84) 106 d_PA_has_22 (by rw [hc22_2]; decide) (by rw [hc22_2]; decide) (by rw [hc22_2]; rfl) rfl ?_
          refine ax_aload_n 0 d_PA_has_106 rfl rfl 107 rfl ?_
          refine ok_tb h (fun t4 ht4 et4 h => ?_)
          refine ax_getR fl_PA_71 x_0 rfl (ry_0 et4) d_PA_has_107 110 rfl ?_
          refine ax_getR fl_PA_146 (sx_Table ht4) rfl (ro_Table_1 ht4 _) d_PA_has_110 113 rfl ?_
          refine ax_iconst 1 d_PA_has_113 ic_1 114 rfl ?_
          refine ax_iaload (sa_Table_1 ht4) d_PA_has_114 115 rfl h (fun i5 h => ?_)
          exact ax_iret rfl d_PA_has_115 (hR (m.1 (t4 + 1) i5) (ok_some h))
        have h := ok_f hc22_2 h
        by_cases hc22_3 : v1 = 3
        · have h := ok_t hc22_3 h
          refine ax_tableIn (off := 94) 116 d_PA_has_22 (by rw [hc22_3]; decide) (by rw [hc22_3]; decide) (by rw [hc22_3]; rfl) rfl ?_
          refine ax_aload_n 0 d_PA_has_116 rfl rfl 117 rfl ?_
          refine ok_tb h (fun t6 ht6 et6 h => ?_)
          refine ax_getR fl_PA_71 x_0 rfl (ry_0 et6) d_PA_has_117 120 rfl ?_
          refine ax_getR fl_PA_146 (sx_Table ht6) rfl (ro_Table_1 ht6 _) d_PA_has_120 123 rfl ?_
          refine ax_iconst 2 d_PA_has_123 ic_2 124 rfl ?_
          refine ax_iaload (sa_Table_1 ht6) d_PA_has_124 125 rfl h (fun i7 h => ?_)
          exact ax_iret rfl d_PA_has_125 (hR (m.1 (t6 + 1) i7) (ok_some h))
        have h := ok_f hc22_3 h
        by_cases hc22_4 : v1 = 4
        · have h := ok_t hc22_4 h
          refine ax_tableIn (off := 104) 126 d_PA_has_22 (by rw [hc22_4]; decide) (by rw [hc22_4]; decide) (by rw [hc22_4]; rfl) rfl ?_
          refine ax_aload_n 0 d_PA_has_126 rfl rfl 127 rfl ?_
          refine ok_tb h (fun t8 ht8 et8 h => ?_)
          refine ax_getR fl_PA_71 x_0 rfl (ry_0 et8) d_PA_has_127 130 rfl ?_
          refine ax_getI fl_PA_149 (sx_Table ht8) rfl d_PA_has_130 133 rfl ?_
          exact ax_iret rfl d_PA_has_133 (hR (m.1 t8 4) (ok_some h))
        have h := ok_f hc22_4 h
        by_cases hc22_5 : v1 = 5
        · have h := ok_t hc22_5 h
          refine ax_tableIn (off := 112) 134 d_PA_has_22 (by rw [hc22_5]; decide) (by rw [hc22_5]; decide) (by rw [hc22_5]; rfl) rfl ?_
          refine ax_aload_n 0 d_PA_has_134 rfl rfl 135 rfl ?_
          refine ax_getR fl_PA_32 x_0 rfl (rx_0_4 _) d_PA_has_135 138 rfl ?_
          refine ax_getI fl_PA_152 x_24 rfl d_PA_has_138 141 rfl ?_
          exact ax_iret rfl d_PA_has_141 (hR (m.1 24 0) (ok_some h))
        have h := ok_f hc22_5 h
        by_cases hc22_6 : v1 = 6
        · have h := ok_t hc22_6 h
          refine ax_tableIn (off := 120) 142 d_PA_has_22 (by rw [hc22_6]; decide) (by rw [hc22_6]; decide) (by rw [hc22_6]; rfl) rfl ?_
          refine ax_aload_n 0 d_PA_has_142 rfl rfl 143 rfl ?_
          refine ax_getR fl_PA_32 x_0 rfl (rx_0_4 _) d_PA_has_143 146 rfl ?_
          refine ax_callV mv_PA_155 ⟨Nat.le_of_ble_eq_true rfl, Nat.le_of_ble_eq_true rfl⟩ ⟨rfl, rfl⟩ [] [.ref 24] rfl rfl (rc_x_24 _) (Nat.le_of_ble_eq_true rfl) d_PA_has_146 149 rfl (zc_Atlas_allWorlds m (ok_b h (fun r9 h => ?_)))
          exact ax_iret rfl d_PA_has_149 (hR r9 (ok_some h))
        have h := ok_f hc22_6 h
        by_cases hc22_7 : v1 = 7
        · have h := ok_t hc22_7 h
          refine ax_tableIn (off := 128) 150 d_PA_has_22 (by rw [hc22_7]; decide) (by rw [hc22_7]; decide) (by rw [hc22_7]; rfl) rfl ?_
          refine ax_aload_n 0 d_PA_has_150 rfl rfl 151 rfl ?_
          refine ax_getR fl_PA_32 x_0 rfl (rx_0_4 _) d_PA_has_151 154 rfl ?_
          refine ax_getR fl_PA_158 x_24 rfl (rx_24_4 _) d_PA_has_154 157 rfl ?_
          refine ax_aload_n 0 d_PA_has_157 rfl rfl 158 rfl ?_
          refine ax_getR fl_PA_32 x_0 rfl (rx_0_4 _) d_PA_has_158 161 rfl ?_
          refine ax_getI fl_PA_152 x_24 rfl d_PA_has_161 164 rfl ?_
          refine ax_iconst 1 d_PA_has_164 ic_1 165 rfl ?_
          refine ax_isub d_PA_has_165 166 rfl ?_
          refine ax_iaload x_29 d_PA_has_166 167 rfl h (fun i10 h => ?_)
          exact ax_iret rfl d_PA_has_167 (hR (m.1 29 i10) (ok_some h))
        have h := ok_f hc22_7 h
        by_cases hc22_8 : v1 = 8
        · have h := ok_t hc22_8 h
          refine ax_tableIn (off := 146) 168 d_PA_has_22 (by rw [hc22_8]; decide) (by rw [hc22_8]; decide) (by rw [hc22_8]; rfl) rfl ?_
          refine ax_aload_n 0 d_PA_has_168 rfl rfl 169 rfl ?_
          refine ax_getR fl_PA_32 x_0 rfl (rx_0_4 _) d_PA_has_169 172 rfl ?_
          refine ax_iconst (-1) d_PA_has_172 ic_m1 173 rfl ?_
          refine ax_callV mv_PA_161 ⟨Nat.le_of_ble_eq_true rfl, Nat.le_of_ble_eq_true rfl⟩ ⟨rfl, rfl⟩ [.int (-1)] [.int (-1), .ref 24] rfl rfl (rc_x_24 _) (Nat.le_of_ble_eq_true rfl) d_PA_has_173 176 rfl (zc_Atlas_allMoves (-1) m (ok_b h (fun r11 h => ?_)))
          exact ax_iret rfl d_PA_has_176 (hR r11 (ok_some h))
        have h := ok_f hc22_8 h
        by_cases hc22_9 : v1 = 9
        · have h := ok_t hc22_9 h
          refine ax_tableIn (off := 155) 177 d_PA_has_22 (by rw [hc22_9]; decide) (by rw [hc22_9]; decide) (by rw [hc22_9]; rfl) rfl ?_
          refine ax_aload_n 0 d_PA_has_177 rfl rfl 178 rfl ?_
          refine ax_getR fl_PA_32 x_0 rfl (rx_0_4 _) d_PA_has_178 181 rfl ?_
          refine ax_callV mv_PA_164 ⟨Nat.le_of_ble_eq_true rfl, Nat.le_of_ble_eq_true rfl⟩ ⟨rfl, rfl⟩ [] [.ref 24] rfl rfl (rc_x_24 _) (Nat.le_of_ble_eq_true rfl) d_PA_has_181 184 rfl (zc_Atlas_allBad m (ok_b h (fun r12 h => ?_)))
          exact ax_iret rfl d_PA_has_184 (hR r12 (ok_some h))
        have h := ok_f hc22_9 h
        by_cases hc22_10 : v1 = 10
        · have h := ok_t hc22_10 h
          refine ax_tableIn (off := 163) 185 d_PA_has_22 (by rw [hc22_10]; decide) (by rw [hc22_10]; decide) (by rw [hc22_10]; rfl) rfl ?_
          refine ax_aload_n 0 d_PA_has_185 rfl rfl 186 rfl ?_
          refine ax_getR fl_PA_32 x_0 rfl (rx_0_4 _) d_PA_has_186 189 rfl ?_
          refine ax_callV mv_PA_167 ⟨Nat.le_of_ble_eq_true rfl, Nat.le_of_ble_eq_true rfl⟩ ⟨rfl, rfl⟩ [] [.ref 24] rfl rfl (rc_x_24 _) (Nat.le_of_ble_eq_true rfl) d_PA_has_189 192 rfl (zc_Atlas_allStuck m (ok_b h (fun r13 h => ?_)))
          exact ax_iret rfl d_PA_has_192 (hR r13 (ok_some h))
        have h := ok_f hc22_10 h
        by_cases hc22_11 : v1 = 11
        · have h := ok_t hc22_11 h
          refine ax_tableIn (off := 171) 193 d_PA_has_22 (by rw [hc22_11]; decide) (by rw [hc22_11]; decide) (by rw [hc22_11]; rfl) rfl ?_
          refine ax_aload_n 0 d_PA_has_193 rfl rfl 194 rfl ?_
          refine ax_getR fl_PA_80 x_0 rfl (rx_0_12 _) d_PA_has_194 197 rfl ?_
          refine ax_getI fl_PA_170 x_116 rfl d_PA_has_197 200 rfl ?_
          exact ax_iret rfl d_PA_has_200 (hR (m.1 116 3) (ok_some h))
        have h := ok_f hc22_11 h
        by_cases hc22_12 : v1 = 12
        · have h := ok_t hc22_12 h
          refine ax_tableIn (off := 179) 201 d_PA_has_22 (by rw [hc22_12]; decide) (by rw [hc22_12]; decide) (by rw [hc22_12]; rfl) rfl ?_
          refine ax_aload_n 0 d_PA_has_201 rfl rfl 202 rfl ?_
          refine ax_getI fl_PA_88 x_0 rfl d_PA_has_202 205 rfl ?_
          exact ax_iret rfl d_PA_has_205 (hR (m.1 0 14) (ok_some h))
        have h := ok_f hc22_12 h
        have n0 := zne (n := 0) hc22_0 (by decide)
        have n1 := zne (n := 1) hc22_1 (by decide)
        have n2 := zne (n := 2) hc22_2 (by decide)
        have n3 := zne (n := 3) hc22_3 (by decide)
        have n4 := zne (n := 4) hc22_4 (by decide)
        have n5 := zne (n := 5) hc22_5 (by decide)
        have n6 := zne (n := 6) hc22_6 (by decide)
        have n7 := zne (n := 7) hc22_7 (by decide)
        have n8 := zne (n := 8) hc22_8 (by decide)
        have n9 := zne (n := 9) hc22_9 (by decide)
        have n10 := zne (n := 10) hc22_10 (by decide)
        have n11 := zne (n := 11) hc22_11 (by decide)
        have n12 := zne (n := 12) hc22_12 (by decide)
        refine ax_tableOut 206 d_PA_has_22 (by omega) rfl ?_
        refine ax_aload_n 0 d_PA_has_206 rfl rfl 207 rfl ?_
        refine ax_getR fl_PA_39 x_0 rfl (rx_0_5 _) d_PA_has_207 210 rfl ?_
        refine ax_getI fl_PA_173 x_48 rfl d_PA_has_210 213 rfl ?_
        exact ax_iret rfl d_PA_has_213 (hR (m.1 48 2) (ok_some h))
      · have h := ok_t hc h
        refine ax_iconst 0 d_PA_has_19 ic_0 20 rfl ?_
        exact ax_iret rfl d_PA_has_20 (hR 0 (ok_some h))
    · have h := ok_f hc h
      refine ax_iconst (-1) d_PA_has_10 ic_m1 11 rfl ?_
      exact ax_iret rfl d_PA_has_11 (hR (-1) (ok_some h))
set_option maxRecDepth 4000 in
theorem zc_Table_name (v0 : Nat) (v1 : Int32) (v2 : Int32) (m : zM) (hv0 : v0 ∈ li_Table) {Q : Option Value → zM → Prop} (h : ok (f_Table_name v0 v1 v2 m) (fun p => Q (some (.int p)) m)) : zc gX s_Table_name [.ref v0, .int v1, .int v2] m Q := by
  refine zc_of rfl (Nat.le_of_ble_eq_true rfl) ?_
  show AX gX s_Table_name 0 [(0, .ref v0), (1, .int v1), (2, .int v2)] [] m Q
  obtain ⟨K, hK⟩ : ∃ K : Int32 → Prop, K = (fun p : Int32 => Q (some (.int p)) m) := ⟨_, rfl⟩
  have hR : ∀ p : Int32, K p → Q (some (.int p)) m := fun p hp => by rw [hK] at hp; exact hp
  replace h : ok (f_Table_name v0 v1 v2 m) (fun p : Int32 => Q (some (.int p)) m) := h
  rw [← hK] at h
  unfold f_Table_name at h
  refine ax_iload_n 2 d_Table_name_0 rfl rfl 1 rfl ?_
  refine ax_if_lt 28 4 d_Table_name_1 rfl rfl (fun hc => ?_) (fun hc => ?_)
  · have h := ok_t hc h
    refine ax_iconst 0 d_Table_name_28 ic_0 29 rfl ?_
    exact ax_iret rfl d_Table_name_29 (hR 0 (ok_some h))
  · have h := ok_f hc h
    refine ax_iload_n 2 d_Table_name_4 rfl rfl 5 rfl ?_
    refine ax_aload_n 0 d_Table_name_5 rfl rfl 6 rfl ?_
    refine ax_getR fl_Table_15 (sx_Table hv0) rfl (ro_Table_1 hv0 _) d_Table_name_6 9 rfl ?_
    refine ax_iload_n 1 d_Table_name_9 rfl rfl 10 rfl ?_
    refine ax_iaload (sa_Table_1 hv0) d_Table_name_10 11 rfl h (fun i1 h => ?_)
    refine ax_icmp_ge 28 14 d_Table_name_11 rfl rfl (fun hc => ?_) (fun hc => ?_)
    · have h := ok_t hc h
      refine ax_iconst 0 d_Table_name_28 ic_0 29 rfl ?_
      exact ax_iret rfl d_Table_name_29 (hR 0 (ok_some h))
    · have h := ok_f hc h
      refine ax_aload_n 0 d_Table_name_14 rfl rfl 15 rfl ?_
      refine ax_getR fl_Table_19 (sx_Table hv0) rfl (ro_Table_2 hv0 _) d_Table_name_15 18 rfl ?_
      refine ax_iload_n 1 d_Table_name_18 rfl rfl 19 rfl ?_
      refine ax_bipush 6 d_Table_name_19 bp_6 21 rfl ?_
      refine ax_imul d_Table_name_21 22 rfl ?_
      refine ax_iload_n 2 d_Table_name_22 rfl rfl 23 rfl ?_
      refine ax_iadd d_Table_name_23 24 rfl ?_
      refine ax_iaload (sa_Table_2 hv0) d_Table_name_24 25 rfl h (fun i2 h => ?_)
      refine ax_goto 29 d_Table_name_25 rfl ?_
      exact ax_iret rfl d_Table_name_29 (hR (m.1 (v0 + 2) i2) (ok_some h))
set_option maxRecDepth 4000 in
theorem zc_PA_letterOf (v0 : Int32) (v1 : Int32) (m : zM)  {Q : Option Value → zM → Prop} (h : Q (some (.int (f_PA_letterOf v0 v1))) m) : zc gX s_PA_letterOf [.int v0, .int v1] m Q := by
  refine zc_of rfl (Nat.le_of_ble_eq_true rfl) ?_
  show AX gX s_PA_letterOf 0 [(0, .int v0), (1, .int v1)] [] m Q
  obtain ⟨K, hK⟩ : ∃ K : Int32 → Prop, K = (fun p : Int32 => Q (some (.int p)) m) := ⟨_, rfl⟩
  have hR : ∀ p : Int32, K p → Q (some (.int p)) m := fun p hp => by rw [hK] at hp; exact hp
  replace h : (fun p : Int32 => Q (some (.int p)) m) (f_PA_letterOf v0 v1) := h
  rw [← hK] at h
  unfold f_PA_letterOf at h
  refine ax_iload_n 0 d_PA_letterOf_0 rfl rfl 1 rfl ?_
  refine ax_iconst 5 d_PA_letterOf_1 ic_5 2 rfl ?_
  refine ax_iconst 5 d_PA_letterOf_2 ic_5 3 rfl ?_
  refine ax_iload_n 1 d_PA_letterOf_3 rfl rfl 4 rfl ?_
  refine ax_isub d_PA_letterOf_4 5 rfl ?_
  refine ax_imul d_PA_letterOf_5 6 rfl ?_
  refine ax_ishr d_PA_letterOf_6 7 rfl ?_
  refine ax_bipush 31 d_PA_letterOf_7 bp_31 9 rfl ?_
  refine ax_iand d_PA_letterOf_9 10 rfl ?_
  exact ax_iret rfl d_PA_letterOf_10 (hR ((shr v0 (5 * (5 - v1))) &&& 31) h)
