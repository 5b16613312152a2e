set_option maxRecDepth 4000 in
theorem zc_MO_refuses (v1 : Int32) (m : zM)  {Q : Option Value → zM → Prop} (h : ok (f_MO_refuses v1 m) (fun p => Q (some (.int p.1)) p.2)) : zc gM s_MO_refuses [.ref 0, .int v1] m Q := by
  refine zc_of rfl (Nat.le_of_ble_eq_true rfl) ?_
  show AX gM s_MO_refuses 0 [(0, .ref 0), (1, .int v1)] [] m Q
  obtain ⟨K, hK⟩ : ∃ K : (Int32 × zM) → Prop, K = (fun p : Int32 × zM => Q (some (.int p.1)) p.2) := ⟨_, rfl⟩
  have hR : ∀ p : Int32 × zM, K p → Q (some (.int p.1)) p.2 := fun p hp => by rw [hK] at hp; exact hp
  replace h : ok (f_MO_refuses v1 m) (fun p : Int32 × zM => Q (some (.int p.1)) p.2) := h
  rw [← hK] at h
  unfold f_MO_refuses at h
  refine ax_aload_n 0 d_MO_refuses_0 rfl rfl 1 rfl ?_
  refine ax_getR fl_MO_17 m_0 rfl (rm_0_9 _) d_MO_refuses_1 4 rfl ?_
  refine ax_iload_n 1 d_MO_refuses_4 rfl rfl 5 rfl ?_
  refine ax_dup2 d_MO_refuses_5 rfl rfl 6 rfl ?_
  refine ax_iaload m_2 d_MO_refuses_6 7 rfl h (fun i1 h => ?_)
  refine ax_iconst 1 d_MO_refuses_7 ic_1 8 rfl ?_
  refine ax_iadd d_MO_refuses_8 9 rfl ?_
  refine ax_iastore m_2 d_MO_refuses_9 10 rfl h (fun i2 m3 h => ?_)
  refine ax_iconst (-1) d_MO_refuses_10 ic_m1 11 rfl ?_
  exact ax_iret rfl d_MO_refuses_11 (hR ((-1), m3) (ok_some h))
set_option maxRecDepth 4000 in
theorem c_MO_feed_J118  (m : zM)  {Q : Option Value → zM → Prop} {K : (Int32 × zM) → Prop} (hR : ∀ p : Int32 × zM, K (p) → Q (some (.int p.1)) p.2)  (h : ok (f_MO_feed_J118  m) K) : AX gM s_MO_feed 118 [(0, .ref 0)] [] m Q := by
  unfold f_MO_feed_J118 at h
  refine ax_aload_n 0 d_MO_feed_118 rfl rfl 119 rfl ?_
  refine ax_getI fl_MO_197 m_0 rfl d_MO_feed_119 122 rfl ?_
  exact ax_iret rfl d_MO_feed_122 (hR ((m.1 0 1), m) (ok_some h))
set_option maxRecDepth 4000 in
theorem c_MO_feed_J75 (v1 : Int32) (v2 : Int32) (v3 : Int32) (v4 : Int32) (v5 : Int32) (v6 : Int32) (t0 : Int32) (m : zM)  {Q : Option Value → zM → Prop} {K : ((Int32 × zM) ⊕ (Int32 × zM)) → Prop} (hR : ∀ p : Int32 × zM, K (.inl p) → Q (some (.int p.1)) p.2) (h0 : ∀ s : Int32 × zM, K (.inr s) → AX gM s_MO_feed 22 [(0, .ref 0), (1, .int v1), (2, .int v2), (3, .int v3), (4, .int v4), (5, .int v5), (6, .int s.1)] [] s.2 Q) (h : ok (f_MO_feed_J75 v1 v2 v3 v4 v5 v6 t0 m) K) : AX gM s_MO_feed 75 [(0, .ref 0), (1, .int v1), (2, .int v2), (3, .int v3), (4, .int v4), (5, .int v5), (6, .int v6)] [.int t0] m Q := by
  unfold f_MO_feed_J75 at h
  refine ax_istore (ls1 := [(7, .int t0), (0, .ref 0), (1, .int v1), (2, .int v2), (3, .int v3), (4, .int v4), (5, .int v5), (6, .int v6)]) d_MO_feed_75 (Nat.le_of_ble_eq_true rfl) rfl 77 rfl ?_
  refine ax_aload_n 1 d_MO_feed_77 rfl rfl 78 rfl ?_
  refine ax_getR fl_MO_7 m_0 rfl (rm_0_0 _) d_MO_feed_78 81 rfl ?_
  refine ax_aload_n 1 d_MO_feed_81 rfl rfl 82 rfl ?_
  refine ax_getI fl_MO_197 m_0 rfl d_MO_feed_82 85 rfl ?_
  refine ax_iload 0 d_MO_feed_85 rfl 87 rfl ?_
  refine ax_bipush 8 d_MO_feed_87 bp_8 89 rfl ?_
  refine ax_iconst 3 d_MO_feed_89 ic_3 90 rfl ?_
  refine ax_iload 7 d_MO_feed_90 rfl 92 rfl ?_
  refine ax_iconst 4 d_MO_feed_92 ic_4 93 rfl ?_
  refine ax_irem d_MO_feed_93 (by decide) 94 rfl ?_
  refine ax_isub d_MO_feed_94 95 rfl ?_
  refine ax_imul d_MO_feed_95 96 rfl ?_
  refine ax_ishr d_MO_feed_96 97 rfl ?_
  refine ax_sipush 255 d_MO_feed_97 sp_255 100 rfl ?_
  refine ax_iand d_MO_feed_100 101 rfl ?_
  refine ax_iastore m_1 d_MO_feed_101 102 rfl h (fun i2 m3 h => ?_)
  refine ax_aload_n 1 d_MO_feed_102 rfl rfl 103 rfl ?_
  refine ax_dup d_MO_feed_103 rfl 104 rfl ?_
  refine ax_getI fl_MO_197 m_0 rfl d_MO_feed_104 107 rfl ?_
  refine ax_iconst 1 d_MO_feed_107 ic_1 108 rfl ?_
  refine ax_iadd d_MO_feed_108 109 rfl ?_
  refine ax_putI (K := K) fl_MO_197 m_0 rfl rfl rfl (Nat.le_of_ble_eq_true rfl) d_MO_feed_109 112 rfl h (fun m4 h => ?_)
  refine ax_iinc (ls1 := [(6, .int (v6 + 1)), (7, .int t0), (0, .ref 0), (1, .int v1), (2, .int v2), (3, .int v3), (4, .int v4), (5, .int v5)]) 7 1 d_MO_feed_112 rfl ic_1 (Nat.le_of_ble_eq_true rfl) rfl 115 rfl ?_
  refine ax_goto 22 d_MO_feed_115 rfl ?_
  exact ax_sub [2, 3, 4, 5, 6, 7, 0] rfl (h0 ((v6 + 1), m4) (ok_some h))
set_option maxRecDepth 4000 in
theorem c_MO_feed_B22 (v1 : Int32) (v2 : Int32) (v3 : Int32) (v4 : Int32) (v5 : Int32) (v6 : Int32) (m : zM)  {Q : Option Value → zM → Prop} {K : ((Int32 × zM) ⊕ (Int32 × zM)) → Prop} (hR : ∀ p : Int32 × zM, K (.inl p) → Q (some (.int p.1)) p.2) (h0 : ∀ s : Int32 × zM, K (.inr s) → AX gM s_MO_feed 22 [(0, .ref 0), (1, .int v1), (2, .int v2), (3, .int v3), (4, .int v4), (5, .int v5), (6, .int s.1)] [] s.2 Q) (h : ok (f_MO_feed_B22 v1 v2 v3 v4 v5 v6 m) K) : AX gM s_MO_feed 22 [(0, .ref 0), (1, .int v1), (2, .int v2), (3, .int v3), (4, .int v4), (5, .int v5), (6, .int v6)] [] m Q := by
  unfold f_MO_feed_B22 at h
  refine ax_iload 6 d_MO_feed_22 rfl 24 rfl ?_
  refine ax_bipush 20 d_MO_feed_24 bp_20 26 rfl ?_
  refine ax_icmp_ge 118 29 d_MO_feed_26 rfl rfl (fun hc => ?_) (fun hc => ?_)
  · have h := ok_t hc h
    exact ax_sub [0] rfl (c_MO_feed_J118 m (fun p hp => hR p hp) (ok_z h))
  · have h := ok_f hc h
    refine ax_iload 6 d_MO_feed_29 rfl 31 rfl ?_
    refine ax_iconst 4 d_MO_feed_31 ic_4 32 rfl ?_
    refine ax_icmp_ge 39 35 d_MO_feed_32 rfl rfl (fun hc => ?_) (fun hc => ?_)
    · have h := ok_t hc h
      refine ax_iload 6 d_MO_feed_39 rfl 41 rfl ?_
      refine ax_bipush 8 d_MO_feed_41 bp_8 43 rfl ?_
      refine ax_icmp_ge 50 46 d_MO_feed_43 rfl rfl (fun hc => ?_) (fun hc => ?_)
      · have h := ok_t hc h
        refine ax_iload 6 d_MO_feed_50 rfl 52 rfl ?_
        refine ax_bipush 12 d_MO_feed_52 bp_12 54 rfl ?_
        refine ax_icmp_ge 61 57 d_MO_feed_54 rfl rfl (fun hc => ?_) (fun hc => ?_)
        · have h := ok_t hc h
          refine ax_iload 6 d_MO_feed_61 rfl 63 rfl ?_
          refine ax_bipush 16 d_MO_feed_63 bp_16 65 rfl ?_
          refine ax_icmp_ge 73 68 d_MO_feed_65 rfl rfl (fun hc => ?_) (fun hc => ?_)
          · have h := ok_t hc h
            refine ax_iload 5 d_MO_feed_73 rfl 75 rfl ?_
            exact ax_sub [0, 1, 2, 3, 4, 5, 6] rfl (c_MO_feed_J75 v1 v2 v3 v4 v5 v6 v5 m (fun p hp => hR p hp) (fun s hs => h0 s hs) h)
          · have h := ok_f hc h
            refine ax_iload 4 d_MO_feed_68 rfl 70 rfl ?_
            refine ax_goto 75 d_MO_feed_70 rfl ?_
            exact ax_sub [0, 1, 2, 3, 4, 5, 6] rfl (c_MO_feed_J75 v1 v2 v3 v4 v5 v6 v4 m (fun p hp => hR p hp) (fun s hs => h0 s hs) h)
        · have h := ok_f hc h
          refine ax_iload_n 3 d_MO_feed_57 rfl rfl 58 rfl ?_
          refine ax_goto 75 d_MO_feed_58 rfl ?_
          exact ax_sub [0, 1, 2, 3, 4, 5, 6] rfl (c_MO_feed_J75 v1 v2 v3 v4 v5 v6 v3 m (fun p hp => hR p hp) (fun s hs => h0 s hs) h)
      · have h := ok_f hc h
        refine ax_iload_n 2 d_MO_feed_46 rfl rfl 47 rfl ?_
        refine ax_goto 75 d_MO_feed_47 rfl ?_
        exact ax_sub [0, 1, 2, 3, 4, 5, 6] rfl (c_MO_feed_J75 v1 v2 v3 v4 v5 v6 v2 m (fun p hp => hR p hp) (fun s hs => h0 s hs) h)
    · have h := ok_f hc h
      refine ax_iload_n 1 d_MO_feed_35 rfl rfl 36 rfl ?_
      refine ax_goto 75 d_MO_feed_36 rfl ?_
      exact ax_sub [0, 1, 2, 3, 4, 5, 6] rfl (c_MO_feed_J75 v1 v2 v3 v4 v5 v6 v1 m (fun p hp => hR p hp) (fun s hs => h0 s hs) h)
theorem c_MO_feed_L22 (v1 : Int32) (v2 : Int32) (v3 : Int32) (v4 : Int32) (v5 : Int32) (v6 : Int32) (m : zM)  {Q : Option Value → zM → Prop} {K : (Int32 × zM) → Prop} (hR : ∀ p : Int32 × zM, K (p) → Q (some (.int p.1)) p.2)  (h : ok (f_MO_feed_L22 v1 v2 v3 v4 v5 v6 m) K) : AX gM s_MO_feed 22 [(0, .ref 0), (1, .int v1), (2, .int v2), (3, .int v3), (4, .int v4), (5, .int v5), (6, .int v6)] [] m Q :=
  ok_lp (K := K) (G := fun s : Int32 × zM => AX gM s_MO_feed 22 [(0, .ref 0), (1, .int v1), (2, .int v2), (3, .int v3), (4, .int v4), (5, .int v5), (6, .int s.1)] [] s.2 Q) (fun s h => c_MO_feed_B22 v1 v2 v3 v4 v5 s.1 s.2  (fun p hp => hR p hp) (fun s hs => hs) h) FU (v6, m) h
set_option maxRecDepth 4000 in
theorem zc_MO_feed (v1 : Int32) (v2 : Int32) (v3 : Int32) (v4 : Int32) (v5 : Int32) (m : zM)  {Q : Option Value → zM → Prop} (h : ok (f_MO_feed v1 v2 v3 v4 v5 m) (fun p => Q (some (.int p.1)) p.2)) : zc gM s_MO_feed [.ref 0, .int v1, .int v2, .int v3, .int v4, .int v5] m Q := by
  refine zc_of rfl (Nat.le_of_ble_eq_true rfl) ?_
  show AX gM s_MO_feed 0 [(0, .ref 0), (1, .int v1), (2, .int v2), (3, .int v3), (4, .int v4), (5, .int v5)] [] m Q
  obtain ⟨K, hK⟩ : ∃ K : (Int32 × zM) → Prop, K = (fun p : Int32 × zM => Q (some (.int p.1)) p.2) := ⟨_, rfl⟩
  have hR : ∀ p : Int32 × zM, K p → Q (some (.int p.1)) p.2 := fun p hp => by rw [hK] at hp; exact hp
  replace h : ok (f_MO_feed v1 v2 v3 v4 v5 m) (fun p : Int32 × zM => Q (some (.int p.1)) p.2) := h
  rw [← hK] at h
  unfold f_MO_feed at h
  refine ax_aload_n 0 d_MO_feed_0 rfl rfl 1 rfl ?_
  refine ax_getI fl_MO_197 m_0 rfl d_MO_feed_1 4 rfl ?_
  refine ax_bipush 20 d_MO_feed_4 bp_20 6 rfl ?_
  refine ax_iadd d_MO_feed_6 7 rfl ?_
  refine ax_sipush 1600 d_MO_feed_7 sp_1600 10 rfl ?_
  refine ax_icmp_le 19 13 d_MO_feed_10 rfl rfl (fun hc => ?_) (fun hc => ?_)
  · have h := ok_t hc h
    refine ax_iconst 0 d_MO_feed_19 ic_0 20 rfl ?_
    refine ax_istore (ls1 := [(6, .int 0), (0, .ref 0), (1, .int v1), (2, .int v2), (3, .int v3), (4, .int v4), (5, .int v5)]) d_MO_feed_20 (Nat.le_of_ble_eq_true rfl) rfl 22 rfl ?_
    exact ax_sub [1, 2, 3, 4, 5, 6, 0] rfl (c_MO_feed_L22 v1 v2 v3 v4 v5 0 m (fun p hp => hR p hp) h)
  · have h := ok_f hc h
    refine ax_aload_n 0 d_MO_feed_13 rfl rfl 14 rfl ?_
    refine ax_iconst 0 d_MO_feed_14 ic_0 15 rfl ?_
    refine ax_callV mv_MO_200 ⟨Nat.le_of_ble_eq_true rfl, Nat.le_of_ble_eq_true rfl⟩ ⟨rfl, rfl⟩ [.int 0] [.int 0, .ref 0] rfl rfl (rc_m_0 _) (Nat.le_of_ble_eq_true rfl) d_MO_feed_15 18 rfl (zc_MO_refuses 0 m (ok_b h (fun p1 h => ?_)))
    exact ax_iret rfl d_MO_feed_18 (hR (p1.1, p1.2) (ok_some h))
set_option maxRecDepth 4000 in
theorem zc_MO_isRefused (v1 : Int32) (m : zM)  {Q : Option Value → zM → Prop} (h : ok (f_MO_isRefused v1 m) (fun p => Q (some (.int (b2i p.1))) p.2)) : zc gM s_MO_isRefused [.ref 0, .int v1] m Q := by
  refine zc_of rfl (Nat.le_of_ble_eq_true rfl) ?_
  show AX gM s_MO_isRefused 0 [(0, .ref 0), (1, .int v1)] [] m Q
  obtain ⟨K, hK⟩ : ∃ K : (Bool × zM) → Prop, K = (fun p : Bool × zM => Q (some (.int (b2i p.1))) p.2) := ⟨_, rfl⟩
  have hR : ∀ p : Bool × zM, K p → Q (some (.int (b2i p.1))) p.2 := fun p hp => by rw [hK] at hp; exact hp
  replace h : ok (f_MO_isRefused v1 m) (fun p : Bool × zM => Q (some (.int (b2i p.1))) p.2) := h
  rw [← hK] at h
  unfold f_MO_isRefused at h
  refine ax_aload_n 0 d_MO_isRefused_0 rfl rfl 1 rfl ?_
  refine ax_getR fl_MO_17 m_0 rfl (rm_0_9 _) d_MO_isRefused_1 4 rfl ?_
  refine ax_iload_n 1 d_MO_isRefused_4 rfl rfl 5 rfl ?_
  refine ax_dup2 d_MO_isRefused_5 rfl rfl 6 rfl ?_
  refine ax_iaload m_2 d_MO_isRefused_6 7 rfl h (fun i1 h => ?_)
  refine ax_iconst 1 d_MO_isRefused_7 ic_1 8 rfl ?_
  refine ax_iadd d_MO_isRefused_8 9 rfl ?_
  refine ax_iastore m_2 d_MO_isRefused_9 10 rfl h (fun i2 m3 h => ?_)
  refine ax_iconst 0 d_MO_isRefused_10 ic_0 11 rfl ?_
  exact ax_zret (b := false) rfl d_MO_isRefused_11 (hR (false, m3) (ok_some h))
set_option maxRecDepth 4000 in
theorem c_MO_end_J12  (m : zM)  {Q : Option Value → zM → Prop} {K : (Bool × zM) → Prop} (hR : ∀ p : Bool × zM, K (p) → Q (some (.int (b2i p.1))) p.2)  (h : ok (f_MO_end_J12  m) K) : AX gM s_MO_end 12 [(0, .ref 0)] [] m Q := by
  unfold f_MO_end_J12 at h
  refine ax_aload_n 0 d_MO_end_12 rfl rfl 13 rfl ?_
  refine ax_iconst 0 d_MO_end_13 ic_0 14 rfl ?_
  refine ax_callV mv_MO_204 ⟨Nat.le_of_ble_eq_true rfl, Nat.le_of_ble_eq_true rfl⟩ ⟨rfl, rfl⟩ [.int 0] [.int 0, .ref 0] rfl rfl (rc_m_0 _) (Nat.le_of_ble_eq_true rfl) d_MO_end_14 17 rfl (zc_MO_isRefused 0 m (ok_b h (fun p2 h => ?_)))
  exact ax_zret (b := p2.1) rfl d_MO_end_17 (hR (p2.1, p2.2) (ok_some h))
set_option maxRecDepth 4000 in
theorem zc_MO_end (v1 : Int32) (m : zM)  {Q : Option Value → zM → Prop} (h : ok (f_MO_end v1 m) (fun p => Q (some (.int (b2i p.1))) p.2)) : zc gM s_MO_end [.ref 0, .int v1] m Q := by
  refine zc_of rfl (Nat.le_of_ble_eq_true rfl) ?_
  show AX gM s_MO_end 0 [(0, .ref 0), (1, .int v1)] [] m Q
  obtain ⟨K, hK⟩ : ∃ K : (Bool × zM) → Prop, K = (fun p : Bool × zM => Q (some (.int (b2i p.1))) p.2) := ⟨_, rfl⟩
  have hR : ∀ p : Bool × zM, K p → Q (some (.int (b2i p.1))) p.2 := fun p hp => by rw [hK] at hp; exact hp
  replace h : ok (f_MO_end v1 m) (fun p : Bool × zM => Q (some (.int (b2i p.1))) p.2) := h
  rw [← hK] at h
  unfold f_MO_end at h
  refine ax_iload_n 1 d_MO_end_0 rfl rfl 1 rfl ?_
  refine ax_if_lt 12 4 d_MO_end_1 rfl rfl (fun hc => ?_) (fun hc => ?_)
  · have h := ok_t hc h
    exact ax_sub [0] rfl (c_MO_end_J12 m (fun p hp => hR p hp) h)
  · have h := ok_f hc h
    refine ax_iload_n 1 d_MO_end_4 rfl rfl 5 rfl ?_
    refine ax_aload_n 0 d_MO_end_5 rfl rfl 6 rfl ?_
    refine ax_getI fl_MO_197 m_0 rfl d_MO_end_6 9 rfl ?_
    refine ax_icmp_le 18 12 d_MO_end_9 rfl rfl (fun hc => ?_) (fun hc => ?_)
    · have h := ok_t hc h
      refine ax_aload_n 0 d_MO_end_18 rfl rfl 19 rfl ?_
      refine ax_iload_n 1 d_MO_end_19 rfl rfl 20 rfl ?_
      refine ax_putI (K := K) fl_MO_197 m_0 rfl rfl rfl (Nat.le_of_ble_eq_true rfl) d_MO_end_20 23 rfl h (fun m1 h => ?_)
      refine ax_iconst 1 d_MO_end_23 ic_1 24 rfl ?_
      exact ax_zret (b := true) rfl d_MO_end_24 (hR (true, m1) (ok_some h))
    · have h := ok_f hc h
      exact ax_sub [0] rfl (c_MO_end_J12 m (fun p hp => hR p hp) h)
set_option maxRecDepth 4000 in
theorem zc_MO_isIn (v0 : Int64) (v2 : Int64) (v4 : Int64) (m : zM)  {Q : Option Value → zM → Prop} (h : Q (some (.int (b2i (f_MO_isIn v0 v2 v4)))) m) : zc gM s_MO_isIn [.long v0, .long v2, .long v4] m Q := by
  refine zc_of rfl (Nat.le_of_ble_eq_true rfl) ?_
  show AX gM s_MO_isIn 0 [(0, .long v0), (2, .long v2), (4, .long v4)] [] m Q
  obtain ⟨K, hK⟩ : ∃ K : Bool → Prop, K = (fun p : Bool => Q (some (.int (b2i p))) m) := ⟨_, rfl⟩
  have hR : ∀ p : Bool, K p → Q (some (.int (b2i p))) m := fun p hp => by rw [hK] at hp; exact hp
  replace h : (fun p : Bool => Q (some (.int (b2i p))) m) (f_MO_isIn v0 v2 v4) := h
  rw [← hK] at h
  unfold f_MO_isIn at h
  refine ax_lload_n 0 d_MO_isIn_0 rfl rfl 1 rfl ?_
  refine ax_lload_n 1 d_MO_isIn_1 rfl rfl 2 rfl ?_
  refine ax_lcmp d_MO_isIn_2 3 rfl ?_
  refine ax_if_lt 17 6 d_MO_isIn_3 rfl rfl (fun hc => ?_) (fun hc => ?_)
  · have h := kt_t (K := K) hc h
    refine ax_iconst 0 d_MO_isIn_17 ic_0 18 rfl ?_
    exact ax_zret (b := false) rfl d_MO_isIn_18 (hR false h)
  · have h := kt_f (K := K) hc h
    refine ax_lload_n 0 d_MO_isIn_6 rfl rfl 7 rfl ?_
    refine ax_lload 2 d_MO_isIn_7 rfl 9 rfl ?_
    refine ax_lcmp d_MO_isIn_9 10 rfl ?_
    refine ax_if_gt 17 13 d_MO_isIn_10 rfl rfl (fun hc => ?_) (fun hc => ?_)
    · have h := kt_t (K := K) hc h
      refine ax_iconst 0 d_MO_isIn_17 ic_0 18 rfl ?_
      exact ax_zret (b := false) rfl d_MO_isIn_18 (hR false h)
    · have h := kt_f (K := K) hc h
      refine ax_iconst 1 d_MO_isIn_13 ic_1 14 rfl ?_
      refine ax_goto 18 d_MO_isIn_14 rfl ?_
      exact ax_zret (b := true) rfl d_MO_isIn_18 (hR true h)
set_option maxRecDepth 4000 in
theorem zc_MO_status (v1 : Int32) (m : zM)  {Q : Option Value → zM → Prop} (h : ok (f_MO_status v1 m) (fun p => Q (some (.int p)) m)) : zc gM s_MO_status [.ref 0, .int v1] m Q := by
  refine zc_of rfl (Nat.le_of_ble_eq_true rfl) ?_
  show AX gM s_MO_status 0 [(0, .ref 0), (1, .int v1)] [] m Q
  obtain ⟨K, hK⟩ : ∃ K : Int32 → Prop, K = (fun p : Int32 => Q (some (.int p)) m) := ⟨_, rfl⟩
  have hR : ∀ p : Int32, K p → Q (some (.int p)) m := fun p hp => by rw [hK] at hp; exact hp
  replace h : ok (f_MO_status v1 m) (fun p : Int32 => Q (some (.int p)) m) := h
  rw [← hK] at h
  unfold f_MO_status at h
  refine ax_iload_n 1 d_MO_status_0 rfl rfl 1 rfl ?_
  refine ax_i2l d_MO_status_1 2 rfl ?_
  refine ax_lconst 0 d_MO_status_2 lc_0 3 rfl ?_
  refine ax_ldc2 5 wk_MO_208 d_MO_status_3 6 rfl ?_
  refine ax_callS mv_MO_210 ⟨Nat.le_of_ble_eq_true rfl, Nat.le_of_ble_eq_true rfl⟩ ⟨rfl, rfl⟩ [.long v1.toInt64, .long 0, .long 5] [.long 5, .long 0, .long v1.toInt64] rfl rfl (Nat.le_of_ble_eq_true rfl) d_MO_status_6 9 rfl (zc_MO_isIn v1.toInt64 0 5 m ?_)
  refine ax_ifb_eq 21 12 d_MO_status_9 rfl rfl (fun hc => ?_) (fun hc => ?_)
  · have h := ok_f (bf hc) h
    refine ax_iconst (-1) d_MO_status_21 ic_m1 22 rfl ?_
    exact ax_iret rfl d_MO_status_22 (hR (-1) (ok_some h))
  · have h := ok_t hc h
    refine ax_aload_n 0 d_MO_status_12 rfl rfl 13 rfl ?_
    refine ax_getR fl_MO_17 m_0 rfl (rm_0_9 _) d_MO_status_13 16 rfl ?_
    refine ax_iload_n 1 d_MO_status_16 rfl rfl 17 rfl ?_
    refine ax_iaload m_2 d_MO_status_17 18 rfl h (fun i1 h => ?_)
    refine ax_goto 22 d_MO_status_18 rfl ?_
    exact ax_iret rfl d_MO_status_22 (hR (m.1 2 i1) (ok_some h))
set_option maxRecDepth 4000 in
theorem zc_MO_fault (v1 : Int32) (m : zM)  {Q : Option Value → zM → Prop} (h : Q (some (.int (f_MO_fault v1 m))) m) : zc gM s_MO_fault [.ref 0, .int v1] m Q := by
  refine zc_of rfl (Nat.le_of_ble_eq_true rfl) ?_
  show AX gM s_MO_fault 0 [(0, .ref 0), (1, .int v1)] [] m Q
  obtain ⟨K, hK⟩ : ∃ K : Int32 → Prop, K = (fun p : Int32 => Q (some (.int p)) m) := ⟨_, rfl⟩
  have hR : ∀ p : Int32, K p → Q (some (.int p)) m := fun p hp => by rw [hK] at hp; exact hp
  replace h : (fun p : Int32 => Q (some (.int p)) m) (f_MO_fault v1 m) := h
  rw [← hK] at h
  unfold f_MO_fault at h
  refine ax_iload_n 1 d_MO_fault_0 rfl rfl 1 rfl ?_
  refine ax_if_ne 11 4 d_MO_fault_1 rfl rfl (fun hc => ?_) (fun hc => ?_)
  · have h := kt_f (K := K) hc h
    refine ax_iload_n 1 d_MO_fault_11 rfl rfl 12 rfl ?_
    refine ax_iconst 1 d_MO_fault_12 ic_1 13 rfl ?_
    refine ax_icmp_ne 23 16 d_MO_fault_13 rfl rfl (fun hc => ?_) (fun hc => ?_)
    · have h := kt_f (K := K) hc h
      refine ax_iconst (-1) d_MO_fault_23 ic_m1 24 rfl ?_
      exact ax_iret rfl d_MO_fault_24 (hR (-1) h)
    · have h := kt_t (K := K) hc h
      refine ax_aload_n 0 d_MO_fault_16 rfl rfl 17 rfl ?_
      refine ax_getI fl_MO_13 m_0 rfl d_MO_fault_17 20 rfl ?_
      refine ax_goto 24 d_MO_fault_20 rfl ?_
      exact ax_iret rfl d_MO_fault_24 (hR (m.1 0 8) h)
  · have h := kt_t (K := K) hc h
    refine ax_aload_n 0 d_MO_fault_4 rfl rfl 5 rfl ?_
    refine ax_getI fl_MO_214 m_0 rfl d_MO_fault_5 8 rfl ?_
    refine ax_goto 24 d_MO_fault_8 rfl ?_
    exact ax_iret rfl d_MO_fault_24 (hR (m.1 0 7) h)
set_option maxRecDepth 4000 in
theorem c_MO_look_J52  (m : zM)  {Q : Option Value → zM → Prop} {K : (Int32 × zM) → Prop} (hR : ∀ p : Int32 × zM, K (p) → Q (some (.int p.1)) p.2)  (h : ok (f_MO_look_J52  m) K) : AX gM s_MO_look 52 [(0, .ref 0)] [] m Q := by
  unfold f_MO_look_J52 at h
  refine ax_aload_n 0 d_MO_look_52 rfl rfl 53 rfl ?_
  refine ax_getI fl_MO_223 m_0 rfl d_MO_look_53 56 rfl ?_
  refine ax_aload_n 0 d_MO_look_56 rfl rfl 57 rfl ?_
  refine ax_getI fl_MO_226 m_0 rfl d_MO_look_57 60 rfl ?_
  refine ax_icmp_ge 75 63 d_MO_look_60 rfl rfl (fun hc => ?_) (fun hc => ?_)
  · have h := ok_t hc h
    refine ax_iconst (-1) d_MO_look_75 ic_m1 76 rfl ?_
    exact ax_iret rfl d_MO_look_76 (hR ((-1), m) (ok_some h))
  · have h := ok_f hc h
    refine ax_aload_n 0 d_MO_look_63 rfl rfl 64 rfl ?_
    refine ax_getR fl_MO_7 m_0 rfl (rm_0_0 _) d_MO_look_64 67 rfl ?_
    refine ax_aload_n 0 d_MO_look_67 rfl rfl 68 rfl ?_
    refine ax_getI fl_MO_223 m_0 rfl d_MO_look_68 71 rfl ?_
    refine ax_iaload m_1 d_MO_look_71 72 rfl h (fun i3 h => ?_)
    refine ax_goto 76 d_MO_look_72 rfl ?_
    exact ax_iret rfl d_MO_look_76 (hR ((m.1 1 i3), m) (ok_some h))
set_option maxRecDepth 4000 in
theorem c_MO_look_J39  (m : zM)  {Q : Option Value → zM → Prop} {K : ((Int32 × zM) ⊕ (zM)) → Prop} (hR : ∀ p : Int32 × zM, K (.inl p) → Q (some (.int p.1)) p.2) (h0 : ∀ s : zM, K (.inr s) → AX gM s_MO_look 0 [(0, .ref 0)] [] s Q) (h : ok (f_MO_look_J39  m) K) : AX gM s_MO_look 39 [(0, .ref 0)] [] m Q := by
  unfold f_MO_look_J39 at h
  refine ax_aload_n 0 d_MO_look_39 rfl rfl 40 rfl ?_
  refine ax_dup d_MO_look_40 rfl 41 rfl ?_
  refine ax_getI fl_MO_223 m_0 rfl d_MO_look_41 44 rfl ?_
  refine ax_iconst 1 d_MO_look_44 ic_1 45 rfl ?_
  refine ax_iadd d_MO_look_45 46 rfl ?_
  refine ax_putI (K := K) fl_MO_223 m_0 rfl rfl rfl (Nat.le_of_ble_eq_true rfl) d_MO_look_46 49 rfl h (fun m4 h => ?_)
  refine ax_goto 0 d_MO_look_49 rfl ?_
  exact ax_sub [0] rfl (h0 m4 (ok_some h))
set_option maxRecDepth 4000 in
theorem c_MO_look_B0  (m : zM)  {Q : Option Value → zM → Prop} {K : ((Int32 × zM) ⊕ (zM)) → Prop} (hR : ∀ p : Int32 × zM, K (.inl p) → Q (some (.int p.1)) p.2) (h0 : ∀ s : zM, K (.inr s) → AX gM s_MO_look 0 [(0, .ref 0)] [] s Q) (h : ok (f_MO_look_B0  m) K) : AX gM s_MO_look 0 [(0, .ref 0)] [] m Q := by
  unfold f_MO_look_B0 at h
  refine ax_aload_n 0 d_MO_look_0 rfl rfl 1 rfl ?_
  refine ax_getI fl_MO_223 m_0 rfl d_MO_look_1 4 rfl ?_
  refine ax_aload_n 0 d_MO_look_4 rfl rfl 5 rfl ?_
  refine ax_getI fl_MO_226 m_0 rfl d_MO_look_5 8 rfl ?_
  refine ax_icmp_ge 52 11 d_MO_look_8 rfl rfl (fun hc => ?_) (fun hc => ?_)
  · have h := ok_t hc h
    exact ax_sub [0] rfl (c_MO_look_J52 m (fun p hp => hR p hp) (ok_z h))
  · have h := ok_f hc h
    refine ax_aload_n 0 d_MO_look_11 rfl rfl 12 rfl ?_
    refine ax_getR fl_MO_7 m_0 rfl (rm_0_0 _) d_MO_look_12 15 rfl ?_
    refine ax_aload_n 0 d_MO_look_15 rfl rfl 16 rfl ?_
    refine ax_getI fl_MO_223 m_0 rfl d_MO_look_16 19 rfl ?_
    refine ax_iaload m_1 d_MO_look_19 20 rfl h (fun i1 h => ?_)
    refine ax_bipush 10 d_MO_look_20 bp_10 22 rfl ?_
    refine ax_icmp_eq 39 25 d_MO_look_22 rfl rfl (fun hc => ?_) (fun hc => ?_)
    · have h := ok_t hc h
      exact ax_sub [0] rfl (c_MO_look_J39 m (fun p hp => hR p hp) (fun s hs => h0 s hs) h)
    · have h := ok_f hc h
      refine ax_aload_n 0 d_MO_look_25 rfl rfl 26 rfl ?_
      refine ax_getR fl_MO_7 m_0 rfl (rm_0_0 _) d_MO_look_26 29 rfl ?_
      refine ax_aload_n 0 d_MO_look_29 rfl rfl 30 rfl ?_
      refine ax_getI fl_MO_223 m_0 rfl d_MO_look_30 33 rfl ?_
      refine ax_iaload m_1 d_MO_look_33 34 rfl h (fun i2 h => ?_)
      refine ax_bipush 32 d_MO_look_34 bp_32 36 rfl ?_
      refine ax_icmp_ne 52 39 d_MO_look_36 rfl rfl (fun hc => ?_) (fun hc => ?_)
      · have h := ok_f hc h
        exact ax_sub [0] rfl (c_MO_look_J52 m (fun p hp => hR p hp) (ok_z h))
      · have h := ok_t hc h
        exact ax_sub [0] rfl (c_MO_look_J39 m (fun p hp => hR p hp) (fun s hs => h0 s hs) h)
theorem c_MO_look_L0  (m : zM)  {Q : Option Value → zM → Prop} {K : (Int32 × zM) → Prop} (hR : ∀ p : Int32 × zM, K (p) → Q (some (.int p.1)) p.2)  (h : ok (f_MO_look_L0  m) K) : AX gM s_MO_look 0 [(0, .ref 0)] [] m Q :=
  ok_lp (K := K) (G := fun s : zM => AX gM s_MO_look 0 [(0, .ref 0)] [] s Q) (fun s h => c_MO_look_B0  s  (fun p hp => hR p hp) (fun s hs => hs) h) FU m h
set_option maxRecDepth 4000 in
theorem zc_MO_look  (m : zM)  {Q : Option Value → zM → Prop} (h : ok (f_MO_look m) (fun p => Q (some (.int p.1)) p.2)) : zc gM s_MO_look [.ref 0] m Q := by
  refine zc_of rfl (Nat.le_of_ble_eq_true rfl) ?_
  show AX gM s_MO_look 0 [(0, .ref 0)] [] m Q
  obtain ⟨K, hK⟩ : ∃ K : (Int32 × zM) → Prop, K = (fun p : Int32 × zM => Q (some (.int p.1)) p.2) := ⟨_, rfl⟩
  have hR : ∀ p : Int32 × zM, K p → Q (some (.int p.1)) p.2 := fun p hp => by rw [hK] at hp; exact hp
  replace h : ok (f_MO_look m) (fun p : Int32 × zM => Q (some (.int p.1)) p.2) := h
  rw [← hK] at h
  unfold f_MO_look at h
  exact ax_sub [0] rfl (c_MO_look_L0 m (fun p hp => hR p hp) h)
set_option maxRecDepth 4000 in
theorem zc_MO_isLetter (v0 : Int32) (m : zM)  {Q : Option Value → zM → Prop} (h : Q (some (.int (b2i (f_MO_isLetter v0)))) m) : zc gM s_MO_isLetter [.int v0] m Q := by
  refine zc_of rfl (Nat.le_of_ble_eq_true rfl) ?_
  show AX gM s_MO_isLetter 0 [(0, .int v0)] [] m Q
  obtain ⟨K, hK⟩ : ∃ K : Bool → Prop, K = (fun p : Bool => Q (some (.int (b2i p))) m) := ⟨_, rfl⟩
  have hR : ∀ p : Bool, K p → Q (some (.int (b2i p))) m := fun p hp => by rw [hK] at hp; exact hp
  replace h : (fun p : Bool => Q (some (.int (b2i p))) m) (f_MO_isLetter v0) := h
  rw [← hK] at h
  unfold f_MO_isLetter at h
  refine ax_iload_n 0 d_MO_isLetter_0 rfl rfl 1 rfl ?_
  refine ax_bipush 97 d_MO_isLetter_1 bp_97 3 rfl ?_
  refine ax_icmp_lt 16 6 d_MO_isLetter_3 rfl rfl (fun hc => ?_) (fun hc => ?_)
  · have h := kt_t (K := K) hc h
    refine ax_iconst 0 d_MO_isLetter_16 ic_0 17 rfl ?_
    exact ax_zret (b := false) rfl d_MO_isLetter_17 (hR false h)
  · have h := kt_f (K := K) hc h
    refine ax_iload_n 0 d_MO_isLetter_6 rfl rfl 7 rfl ?_
    refine ax_bipush 122 d_MO_isLetter_7 bp_122 9 rfl ?_
    refine ax_icmp_gt 16 12 d_MO_isLetter_9 rfl rfl (fun hc => ?_) (fun hc => ?_)
    · have h := kt_t (K := K) hc h
      refine ax_iconst 0 d_MO_isLetter_16 ic_0 17 rfl ?_
      exact ax_zret (b := false) rfl d_MO_isLetter_17 (hR false h)
    · have h := kt_f (K := K) hc h
      refine ax_iconst 1 d_MO_isLetter_12 ic_1 13 rfl ?_
      refine ax_goto 17 d_MO_isLetter_13 rfl ?_
      exact ax_zret (b := true) rfl d_MO_isLetter_17 (hR true h)
set_option maxRecDepth 4000 in
theorem c_MO_isHere_B76 (v1 : Nat) (v3 : Int32) (m : zM) (hv1 : gM.1[v1]? = some (.inr (2, zlen gM v1))) {Q : Option Value → zM → Prop} {K : ((Bool × zM) ⊕ (Int32)) → Prop} (hR : ∀ p : Bool × zM, K (.inl p) → Q (some (.int (b2i p.1))) p.2) (h0 : ∀ s : Int32, K (.inr s) → AX gM s_MO_isHere 76 [(0, .ref 0), (1, .ref v1), (3, .int s)] [] m Q) (h : ok (f_MO_isHere_B76 v1 v3 m) K) : AX gM s_MO_isHere 76 [(0, .ref 0), (1, .ref v1), (3, .int v3)] [] m Q := by
  unfold f_MO_isHere_B76 at h
  refine ax_iload_n 2 d_MO_isHere_76 rfl rfl 77 rfl ?_
  refine ax_aload_n 1 d_MO_isHere_77 rfl rfl 78 rfl ?_
  refine ax_alen (Int32.ofNat (zlen gM v1)) hv1 (by decide) rfl d_MO_isHere_78 79 rfl ?_
  refine ax_icmp_ge 107 82 d_MO_isHere_79 rfl rfl (fun hc => ?_) (fun hc => ?_)
  · have h := ok_t hc h
    refine ax_iconst 1 d_MO_isHere_107 ic_1 108 rfl ?_
    exact ax_zret (b := true) rfl d_MO_isHere_108 (hR (true, m) (ok_some h))
  · have h := ok_f hc h
    refine ax_aload_n 0 d_MO_isHere_82 rfl rfl 83 rfl ?_
    refine ax_getR fl_MO_7 m_0 rfl (rm_0_0 _) d_MO_isHere_83 86 rfl ?_
    refine ax_aload_n 0 d_MO_isHere_86 rfl rfl 87 rfl ?_
    refine ax_getI fl_MO_223 m_0 rfl d_MO_isHere_87 90 rfl ?_
    refine ax_iload_n 2 d_MO_isHere_90 rfl rfl 91 rfl ?_
    refine ax_iadd d_MO_isHere_91 92 rfl ?_
    refine ax_iaload m_1 d_MO_isHere_92 93 rfl h (fun i3 h => ?_)
    refine ax_aload_n 1 d_MO_isHere_93 rfl rfl 94 rfl ?_
    refine ax_iload_n 2 d_MO_isHere_94 rfl rfl 95 rfl ?_
    refine ax_caload hv1 d_MO_isHere_95 96 rfl h (fun i4 h => ?_)
    refine ax_icmp_eq 101 99 d_MO_isHere_96 rfl rfl (fun hc => ?_) (fun hc => ?_)
    · have h := ok_t hc h
      refine ax_iinc (ls1 := [(3, .int (v3 + 1)), (0, .ref 0), (1, .ref v1)]) 2 1 d_MO_isHere_101 rfl ic_1 (Nat.le_of_ble_eq_true rfl) rfl 104 rfl ?_
      refine ax_goto 76 d_MO_isHere_104 rfl ?_
      exact ax_sub [1, 2, 0] rfl (h0 (v3 + 1) (ok_some h))
    · have h := ok_f hc h
      refine ax_iconst 0 d_MO_isHere_99 ic_0 100 rfl ?_
      exact ax_zret (b := false) rfl d_MO_isHere_100 (hR (false, m) (ok_some h))
theorem c_MO_isHere_L76 (v1 : Nat) (v3 : Int32) (m : zM) (hv1 : gM.1[v1]? = some (.inr (2, zlen gM v1))) {Q : Option Value → zM → Prop} {K : (Bool × zM) → Prop} (hR : ∀ p : Bool × zM, K (p) → Q (some (.int (b2i p.1))) p.2)  (h : ok (f_MO_isHere_L76 v1 v3 m) K) : AX gM s_MO_isHere 76 [(0, .ref 0), (1, .ref v1), (3, .int v3)] [] m Q :=
  ok_lp (K := K) (G := fun s : Int32 => AX gM s_MO_isHere 76 [(0, .ref 0), (1, .ref v1), (3, .int s)] [] m Q) (fun s h => c_MO_isHere_B76 v1 s m hv1 (fun p hp => hR p hp) (fun s hs => hs) h) FU v3 h
set_option maxRecDepth 4000 in
theorem c_MO_isHere_J61 (v1 : Nat) (v2 : Int32) (m : zM) (hv1 : gM.1[v1]? = some (.inr (2, zlen gM v1))) {Q : Option Value → zM → Prop} {K : (Bool × zM) → Prop} (hR : ∀ p : Bool × zM, K (p) → Q (some (.int (b2i p.1))) p.2)  (h : ok (f_MO_isHere_J61 v1 v2 m) K) : AX gM s_MO_isHere 61 [(0, .ref 0), (1, .ref v1), (2, .int v2)] [] m Q := by
  unfold f_MO_isHere_J61 at h
  refine ax_iload_n 2 d_MO_isHere_61 rfl rfl 62 rfl ?_
  refine ax_aload_n 0 d_MO_isHere_62 rfl rfl 63 rfl ?_
  refine ax_getI fl_MO_223 m_0 rfl d_MO_isHere_63 66 rfl ?_
  refine ax_isub d_MO_isHere_66 67 rfl ?_
  refine ax_aload_n 1 d_MO_isHere_67 rfl rfl 68 rfl ?_
  refine ax_alen (Int32.ofNat (zlen gM v1)) hv1 (by decide) rfl d_MO_isHere_68 69 rfl ?_
  refine ax_icmp_eq 74 72 d_MO_isHere_69 rfl rfl (fun hc => ?_) (fun hc => ?_)
  · have h := ok_t hc h
    refine ax_iconst 0 d_MO_isHere_74 ic_0 75 rfl ?_
    refine ax_istore_n (ls1 := [(3, .int 0), (0, .ref 0), (1, .ref v1), (2, .int v2)]) d_MO_isHere_75 rfl (Nat.le_of_ble_eq_true rfl) rfl 76 rfl ?_
    exact ax_sub [1, 2, 0] rfl (c_MO_isHere_L76 v1 0 m hv1 (fun p hp => hR p hp) h)
  · have h := ok_f hc h
    refine ax_iconst 0 d_MO_isHere_72 ic_0 73 rfl ?_
    exact ax_zret (b := false) rfl d_MO_isHere_73 (hR (false, m) (ok_some h))
set_option maxRecDepth 4000 in
theorem c_MO_isHere_B35 (v1 : Nat) (v2 : Int32) (m : zM) (hv1 : gM.1[v1]? = some (.inr (2, zlen gM v1))) {Q : Option Value → zM → Prop} {K : ((Bool × zM) ⊕ (Int32)) → Prop} (hR : ∀ p : Bool × zM, K (.inl p) → Q (some (.int (b2i p.1))) p.2) (h0 : ∀ s : Int32, K (.inr s) → AX gM s_MO_isHere 35 [(0, .ref 0), (1, .ref v1), (2, .int s)] [] m Q) (h : ok (f_MO_isHere_B35 v1 v2 m) K) : AX gM s_MO_isHere 35 [(0, .ref 0), (1, .ref v1), (2, .int v2)] [] m Q := by
  unfold f_MO_isHere_B35 at h
  refine ax_iload_n 2 d_MO_isHere_35 rfl rfl 36 rfl ?_
  refine ax_aload_n 0 d_MO_isHere_36 rfl rfl 37 rfl ?_
  refine ax_getI fl_MO_226 m_0 rfl d_MO_isHere_37 40 rfl ?_
  refine ax_icmp_ge 61 43 d_MO_isHere_40 rfl rfl (fun hc => ?_) (fun hc => ?_)
  · have h := ok_t hc h
    exact ax_sub [0, 1, 2] rfl (c_MO_isHere_J61 v1 v2 m hv1 (fun p hp => hR p hp) (ok_z h))
  · have h := ok_f hc h
    refine ax_aload_n 0 d_MO_isHere_43 rfl rfl 44 rfl ?_
    refine ax_getR fl_MO_7 m_0 rfl (rm_0_0 _) d_MO_isHere_44 47 rfl ?_
    refine ax_iload_n 2 d_MO_isHere_47 rfl rfl 48 rfl ?_
    refine ax_iaload m_1 d_MO_isHere_48 49 rfl h (fun i2 h => ?_)
    refine ax_callS mv_MO_233 ⟨Nat.le_of_ble_eq_true rfl, Nat.le_of_ble_eq_true rfl⟩ ⟨rfl, rfl⟩ [.int (m.1 1 i2)] [.int (m.1 1 i2)] rfl rfl (Nat.le_of_ble_eq_true rfl) d_MO_isHere_49 52 rfl (zc_MO_isLetter (m.1 1 i2) m ?_)
    refine ax_ifb_eq 61 55 d_MO_isHere_52 rfl rfl (fun hc => ?_) (fun hc => ?_)
    · have h := ok_f (bf hc) h
      exact ax_sub [0, 1, 2] rfl (c_MO_isHere_J61 v1 v2 m hv1 (fun p hp => hR p hp) (ok_z h))
    · have h := ok_t hc h
      refine ax_iinc (ls1 := [(2, .int (v2 + 1)), (0, .ref 0), (1, .ref v1)]) 2 1 d_MO_isHere_55 rfl ic_1 (Nat.le_of_ble_eq_true rfl) rfl 58 rfl ?_
      refine ax_goto 35 d_MO_isHere_58 rfl ?_
      exact ax_sub [1, 2, 0] rfl (h0 (v2 + 1) (ok_some h))
theorem c_MO_isHere_L35 (v1 : Nat) (v2 : Int32) (m : zM) (hv1 : gM.1[v1]? = some (.inr (2, zlen gM v1))) {Q : Option Value → zM → Prop} {K : (Bool × zM) → Prop} (hR : ∀ p : Bool × zM, K (p) → Q (some (.int (b2i p.1))) p.2)  (h : ok (f_MO_isHere_L35 v1 v2 m) K) : AX gM s_MO_isHere 35 [(0, .ref 0), (1, .ref v1), (2, .int v2)] [] m Q :=
  ok_lp (K := K) (G := fun s : Int32 => AX gM s_MO_isHere 35 [(0, .ref 0), (1, .ref v1), (2, .int s)] [] m Q) (fun s h => c_MO_isHere_B35 v1 s m hv1 (fun p hp => hR p hp) (fun s hs => hs) h) FU v2 h
set_option maxRecDepth 4000 in
theorem zc_MO_isHere (v1 : Nat) (m : zM) (hv1 : gM.1[v1]? = some (.inr (2, zlen gM v1))) {Q : Option Value → zM → Prop} (h : ok (f_MO_isHere v1 m) (fun p => Q (some (.int (b2i p.1))) p.2)) : zc gM s_MO_isHere [.ref 0, .ref v1] m Q := by
  refine zc_of rfl (Nat.le_of_ble_eq_true rfl) ?_
  show AX gM s_MO_isHere 0 [(0, .ref 0), (1, .ref v1)] [] m Q
  obtain ⟨K, hK⟩ : ∃ K : (Bool × zM) → Prop, K = (fun p : Bool × zM => Q (some (.int (b2i p.1))) p.2) := ⟨_, rfl⟩
  have hR : ∀ p : Bool × zM, K p → Q (some (.int (b2i p.1))) p.2 := fun p hp => by rw [hK] at hp; exact hp
  replace h : ok (f_MO_isHere v1 m) (fun p : Bool × zM => Q (some (.int (b2i p.1))) p.2) := h
  rw [← hK] at h
  unfold f_MO_isHere at h
  refine ax_aload_n 0 d_MO_isHere_0 rfl rfl 1 rfl ?_
  refine ax_getI fl_MO_217 m_0 rfl d_MO_isHere_1 4 rfl ?_
  refine ax_if_ne 28 7 d_MO_isHere_4 rfl rfl (fun hc => ?_) (fun hc => ?_)
  · have h := ok_f hc h
    refine ax_iconst 0 d_MO_isHere_28 ic_0 29 rfl ?_
    exact ax_zret (b := false) rfl d_MO_isHere_29 (hR (false, m) (ok_some h))
  · have h := ok_t hc h
    refine ax_aload_n 0 d_MO_isHere_7 rfl rfl 8 rfl ?_
    refine ax_callV mv_MO_229 ⟨Nat.le_of_ble_eq_true rfl, Nat.le_of_ble_eq_true rfl⟩ ⟨rfl, rfl⟩ [] [.ref 0] rfl rfl (rc_m_0 _) (Nat.le_of_ble_eq_true rfl) d_MO_isHere_8 11 rfl (zc_MO_look m (ok_b h (fun p1 h => ?_)))
    refine ax_callS mv_MO_233 ⟨Nat.le_of_ble_eq_true rfl, Nat.le_of_ble_eq_true rfl⟩ ⟨rfl, rfl⟩ [.int p1.1] [.int p1.1] rfl rfl (Nat.le_of_ble_eq_true rfl) d_MO_isHere_11 14 rfl (zc_MO_isLetter p1.1 p1.2 ?_)
    refine ax_ifb_eq 28 17 d_MO_isHere_14 rfl rfl (fun hc => ?_) (fun hc => ?_)
    · have h := ok_f (bf hc) h
      refine ax_iconst 0 d_MO_isHere_28 ic_0 29 rfl ?_
      exact ax_zret (b := false) rfl d_MO_isHere_29 (hR (false, p1.2) (ok_some h))
    · have h := ok_t hc h
      refine ax_aload_n 0 d_MO_isHere_17 rfl rfl 18 rfl ?_
      refine ax_getI fl_MO_223 m_0 rfl d_MO_isHere_18 21 rfl ?_
      refine ax_aload_n 0 d_MO_isHere_21 rfl rfl 22 rfl ?_
      refine ax_getI fl_MO_236 m_0 rfl d_MO_isHere_22 25 rfl ?_
      refine ax_icmp_ne 30 28 d_MO_isHere_25 rfl rfl (fun hc => ?_) (fun hc => ?_)
      · have h := ok_f hc h
        refine ax_aload_n 0 d_MO_isHere_30 rfl rfl 31 rfl ?_
        refine ax_getI fl_MO_223 m_0 rfl d_MO_isHere_31 34 rfl ?_
        refine ax_istore_n (ls1 := [(2, .int (p1.2.1 0 2)), (0, .ref 0), (1, .ref v1)]) d_MO_isHere_34 rfl (Nat.le_of_ble_eq_true rfl) rfl 35 rfl ?_
        exact ax_sub [1, 2, 0] rfl (c_MO_isHere_L35 v1 (p1.2.1 0 2) p1.2 hv1 (fun p hp => hR p hp) h)
      · have h := ok_t hc h
        refine ax_iconst 0 d_MO_isHere_28 ic_0 29 rfl ?_
        exact ax_zret (b := false) rfl d_MO_isHere_29 (hR (false, p1.2) (ok_some h))
set_option maxRecDepth 4000 in
theorem zc_MO_takes (v1 : Nat) (m : zM) (hv1 : gM.1[v1]? = some (.inr (2, zlen gM v1))) {Q : Option Value → zM → Prop} (h : ok (f_MO_takes v1 m) (fun p => Q (some (.int (b2i p.1))) p.2)) : zc gM s_MO_takes [.ref 0, .ref v1] m Q := by
  refine zc_of rfl (Nat.le_of_ble_eq_true rfl) ?_
  show AX gM s_MO_takes 0 [(0, .ref 0), (1, .ref v1)] [] m Q
  obtain ⟨K, hK⟩ : ∃ K : (Bool × zM) → Prop, K = (fun p : Bool × zM => Q (some (.int (b2i p.1))) p.2) := ⟨_, rfl⟩
  have hR : ∀ p : Bool × zM, K p → Q (some (.int (b2i p.1))) p.2 := fun p hp => by rw [hK] at hp; exact hp
  replace h : ok (f_MO_takes v1 m) (fun p : Bool × zM => Q (some (.int (b2i p.1))) p.2) := h
  rw [← hK] at h
  unfold f_MO_takes at h
  refine ax_aload_n 0 d_MO_takes_0 rfl rfl 1 rfl ?_
  refine ax_aload_n 1 d_MO_takes_1 rfl rfl 2 rfl ?_
  refine ax_callV mv_MO_239 ⟨Nat.le_of_ble_eq_true rfl, Nat.le_of_ble_eq_true rfl⟩ ⟨rfl, rfl⟩ [.ref v1] [.ref v1, .ref 0] rfl rfl (rc_m_0 _) (Nat.le_of_ble_eq_true rfl) d_MO_takes_2 5 rfl (zc_MO_isHere v1 m hv1 (ok_b h (fun p1 h => ?_)))
  refine ax_ifb_ne 10 8 d_MO_takes_5 rfl rfl (fun hc => ?_) (fun hc => ?_)
  · have h := ok_t hc h
    refine ax_aload_n 0 d_MO_takes_10 rfl rfl 11 rfl ?_
    refine ax_dup d_MO_takes_11 rfl 12 rfl ?_
    refine ax_getI fl_MO_223 m_0 rfl d_MO_takes_12 15 rfl ?_
    refine ax_aload_n 1 d_MO_takes_15 rfl rfl 16 rfl ?_
    refine ax_alen (Int32.ofNat (zlen gM v1)) hv1 (by decide) rfl d_MO_takes_16 17 rfl ?_
    refine ax_iadd d_MO_takes_17 18 rfl ?_
    refine ax_putI (K := K) fl_MO_223 m_0 rfl rfl rfl (Nat.le_of_ble_eq_true rfl) d_MO_takes_18 21 rfl h (fun m2 h => ?_)
    refine ax_aload_n 0 d_MO_takes_21 rfl rfl 22 rfl ?_
    refine ax_aload_n 0 d_MO_takes_22 rfl rfl 23 rfl ?_
    refine ax_getI fl_MO_223 m_0 rfl d_MO_takes_23 26 rfl ?_
    refine ax_putI (K := K) fl_MO_236 m_0 rfl rfl rfl (Nat.le_of_ble_eq_true rfl) d_MO_takes_26 29 rfl h (fun m3 h => ?_)
    refine ax_iconst 1 d_MO_takes_29 ic_1 30 rfl ?_
    exact ax_zret (b := true) rfl d_MO_takes_30 (hR (true, m3) (ok_some h))
  · have h := ok_f (bf hc) h
    refine ax_iconst 0 d_MO_takes_8 ic_0 9 rfl ?_
    exact ax_zret (b := false) rfl d_MO_takes_9 (hR (false, p1.2) (ok_some h))
set_option maxRecDepth 4000 in
theorem zc_MO_fail (v1 : Int32) (v2 : Int32) (m : zM)  {Q : Option Value → zM → Prop} (h : Q none (f_MO_fail v1 v2 m)) : zc gM s_MO_fail [.ref 0, .int v1, .int v2] m Q := by
  refine zc_of rfl (Nat.le_of_ble_eq_true rfl) ?_
  show AX gM s_MO_fail 0 [(0, .ref 0), (1, .int v1), (2, .int v2)] [] m Q
  obtain ⟨K, hK⟩ : ∃ K : zM → Prop, K = (fun p : zM => Q none p) := ⟨_, rfl⟩
  have hR : ∀ p : zM, K p → Q none p := fun p hp => by rw [hK] at hp; exact hp
  replace h : (fun p : zM => Q none p) (f_MO_fail v1 v2 m) := h
  rw [← hK] at h
  unfold f_MO_fail at h
  refine ax_aload_n 0 d_MO_fail_0 rfl rfl 1 rfl ?_
  refine ax_getI fl_MO_217 m_0 rfl d_MO_fail_1 4 rfl ?_
  refine ax_if_eq 8 7 d_MO_fail_4 rfl rfl (fun hc => ?_) (fun hc => ?_)
  · have h := kt_t (K := K) hc h
    refine ax_aload_n 0 d_MO_fail_8 rfl rfl 9 rfl ?_
    refine ax_iload_n 1 d_MO_fail_9 rfl rfl 10 rfl ?_
    refine ax_putIk (K := K) fl_MO_217 m_0 rfl rfl rfl (Nat.le_of_ble_eq_true rfl) d_MO_fail_10 13 rfl h (fun m1 h => ?_)
    refine ax_aload_n 0 d_MO_fail_13 rfl rfl 14 rfl ?_
    refine ax_iload_n 2 d_MO_fail_14 rfl rfl 15 rfl ?_
    refine ax_putIk (K := K) fl_MO_220 m_0 rfl rfl rfl (Nat.le_of_ble_eq_true rfl) d_MO_fail_15 18 rfl h (fun m2 h => ?_)
    exact ax_vret rfl d_MO_fail_18 (hR m2 h)
  · have h := kt_f (K := K) hc h
    exact ax_vret rfl d_MO_fail_7 (hR m h)
set_option maxRecDepth 4000 in
theorem zc_MO_asks (v1 : Nat) (m : zM) (hv1 : gM.1[v1]? = some (.inr (2, zlen gM v1))) {Q : Option Value → zM → Prop} (h : ok (f_MO_asks v1 m) (fun p => Q none p)) : zc gM s_MO_asks [.ref 0, .ref v1] m Q := by
  refine zc_of rfl (Nat.le_of_ble_eq_true rfl) ?_
  show AX gM s_MO_asks 0 [(0, .ref 0), (1, .ref v1)] [] m Q
  obtain ⟨K, hK⟩ : ∃ K : zM → Prop, K = (fun p : zM => Q none p) := ⟨_, rfl⟩
  have hR : ∀ p : zM, K p → Q none p := fun p hp => by rw [hK] at hp; exact hp
  replace h : ok (f_MO_asks v1 m) (fun p : zM => Q none p) := h
  rw [← hK] at h
  unfold f_MO_asks at h
  refine ax_aload_n 0 d_MO_asks_0 rfl rfl 1 rfl ?_
  refine ax_getI fl_MO_217 m_0 rfl d_MO_asks_1 4 rfl ?_
  refine ax_if_ne 24 7 d_MO_asks_4 rfl rfl (fun hc => ?_) (fun hc => ?_)
  · have h := ok_f hc h
    exact ax_vret rfl d_MO_asks_24 (hR m (ok_some h))
  · have h := ok_t hc h
    refine ax_aload_n 0 d_MO_asks_7 rfl rfl 8 rfl ?_
    refine ax_aload_n 1 d_MO_asks_8 rfl rfl 9 rfl ?_
    refine ax_callV mv_MO_243 ⟨Nat.le_of_ble_eq_true rfl, Nat.le_of_ble_eq_true rfl⟩ ⟨rfl, rfl⟩ [.ref v1] [.ref v1, .ref 0] rfl rfl (rc_m_0 _) (Nat.le_of_ble_eq_true rfl) d_MO_asks_9 12 rfl (zc_MO_takes v1 m hv1 (ok_b h (fun p1 h => ?_)))
    refine ax_ifb_ne 24 15 d_MO_asks_12 rfl rfl (fun hc => ?_) (fun hc => ?_)
    · have h := ok_t hc h
      exact ax_vret rfl d_MO_asks_24 (hR p1.2 (ok_some h))
    · have h := ok_f (bf hc) h
      refine ax_aload_n 0 d_MO_asks_15 rfl rfl 16 rfl ?_
      refine ax_iconst 1 d_MO_asks_16 ic_1 17 rfl ?_
      refine ax_aload_n 0 d_MO_asks_17 rfl rfl 18 rfl ?_
      refine ax_getI fl_MO_223 m_0 rfl d_MO_asks_18 21 rfl ?_
      refine ax_callV mv_MO_246 ⟨Nat.le_of_ble_eq_true rfl, Nat.le_of_ble_eq_true rfl⟩ ⟨rfl, rfl⟩ [.int 1, .int (p1.2.1 0 2)] [.int (p1.2.1 0 2), .int 1, .ref 0] rfl rfl (rc_m_0 _) (Nat.le_of_ble_eq_true rfl) d_MO_asks_21 24 rfl (zc_MO_fail 1 (p1.2.1 0 2) p1.2 ?_)
      refine ok_l (G := fun p => AX gM s_MO_asks 24 [(0, .ref 0), (1, .ref v1)] [] p Q) h (fun p2 h => ?_)
      exact ax_vret rfl d_MO_asks_24 (hR p2 (ok_some h))
set_option maxRecDepth 4000 in
theorem zc_MO_isDigit (v0 : Int32) (m : zM)  {Q : Option Value → zM → Prop} (h : Q (some (.int (b2i (f_MO_isDigit v0)))) m) : zc gM s_MO_isDigit [.int v0] m Q := by
  refine zc_of rfl (Nat.le_of_ble_eq_true rfl) ?_
  show AX gM s_MO_isDigit 0 [(0, .int v0)] [] m Q
  obtain ⟨K, hK⟩ : ∃ K : Bool → Prop, K = (fun p : Bool => Q (some (.int (b2i p))) m) := ⟨_, rfl⟩
  have hR : ∀ p : Bool, K p → Q (some (.int (b2i p))) m := fun p hp => by rw [hK] at hp; exact hp
  replace h : (fun p : Bool => Q (some (.int (b2i p))) m) (f_MO_isDigit v0) := h
  rw [← hK] at h
  unfold f_MO_isDigit at h
  refine ax_iload_n 0 d_MO_isDigit_0 rfl rfl 1 rfl ?_
  refine ax_bipush 48 d_MO_isDigit_1 bp_48 3 rfl ?_
  refine ax_icmp_lt 16 6 d_MO_isDigit_3 rfl rfl (fun hc => ?_) (fun hc => ?_)
  · have h := kt_t (K := K) hc h
    refine ax_iconst 0 d_MO_isDigit_16 ic_0 17 rfl ?_
    exact ax_zret (b := false) rfl d_MO_isDigit_17 (hR false h)
  · have h := kt_f (K := K) hc h
    refine ax_iload_n 0 d_MO_isDigit_6 rfl rfl 7 rfl ?_
    refine ax_bipush 57 d_MO_isDigit_7 bp_57 9 rfl ?_
    refine ax_icmp_gt 16 12 d_MO_isDigit_9 rfl rfl (fun hc => ?_) (fun hc => ?_)
    · have h := kt_t (K := K) hc h
      refine ax_iconst 0 d_MO_isDigit_16 ic_0 17 rfl ?_
      exact ax_zret (b := false) rfl d_MO_isDigit_17 (hR false h)
    · have h := kt_f (K := K) hc h
      refine ax_iconst 1 d_MO_isDigit_12 ic_1 13 rfl ?_
      refine ax_goto 17 d_MO_isDigit_13 rfl ?_
      exact ax_zret (b := true) rfl d_MO_isDigit_17 (hR true h)
set_option maxRecDepth 4000 in
theorem c_MO_number_J30 (v1 : Int32) (m : zM)  {Q : Option Value → zM → Prop} {K : (Int32 × zM) → Prop} (hR : ∀ p : Int32 × zM, K (p) → Q (some (.int p.1)) p.2)  (h : ok (f_MO_number_J30 v1 m) K) : AX gM s_MO_number 30 [(0, .ref 0), (1, .int v1)] [] m Q := by
  unfold f_MO_number_J30 at h
  refine ax_aload_n 0 d_MO_number_30 rfl rfl 31 rfl ?_
  refine ax_iconst 1 d_MO_number_31 ic_1 32 rfl ?_
  refine ax_aload_n 0 d_MO_number_32 rfl rfl 33 rfl ?_
  refine ax_getI fl_MO_223 m_0 rfl d_MO_number_33 36 rfl ?_
  refine ax_callV mv_MO_246 ⟨Nat.le_of_ble_eq_true rfl, Nat.le_of_ble_eq_true rfl⟩ ⟨rfl, rfl⟩ [.int 1, .int (m.1 0 2)] [.int (m.1 0 2), .int 1, .ref 0] rfl rfl (rc_m_0 _) (Nat.le_of_ble_eq_true rfl) d_MO_number_36 39 rfl (zc_MO_fail 1 (m.1 0 2) m ?_)
  refine ok_l (G := fun p => AX gM s_MO_number 39 [(0, .ref 0), (1, .int v1)] [] p Q) h (fun p7 h => ?_)
  refine ax_iload_n 1 d_MO_number_39 rfl rfl 40 rfl ?_
  exact ax_iret rfl d_MO_number_40 (hR (v1, p7) (ok_some h))
set_option maxRecDepth 4000 in
theorem c_MO_number_J116 (v1 : Int32) (v2 : Int32) (v3 : Int32) (v4 : Int32) (m : zM)  {Q : Option Value → zM → Prop} {K : (Int32 × zM) → Prop} (hR : ∀ p : Int32 × zM, K (p) → Q (some (.int p.1)) p.2)  (h : ok (f_MO_number_J116 v1 v2 v3 v4 m) K) : AX gM s_MO_number 116 [(0, .ref 0), (1, .int v1), (2, .int v2), (3, .int v3), (4, .int v4)] [] m Q := by
  unfold f_MO_number_J116 at h
  refine ax_iload 4 d_MO_number_116 rfl 118 rfl ?_
  refine ax_i2l d_MO_number_118 119 rfl ?_
  refine ax_iload_n 1 d_MO_number_119 rfl rfl 120 rfl ?_
  refine ax_i2l d_MO_number_120 121 rfl ?_
  refine ax_iload_n 2 d_MO_number_121 rfl rfl 122 rfl ?_
  refine ax_i2l d_MO_number_122 123 rfl ?_
  refine ax_callS mv_MO_210 ⟨Nat.le_of_ble_eq_true rfl, Nat.le_of_ble_eq_true rfl⟩ ⟨rfl, rfl⟩ [.long v4.toInt64, .long v1.toInt64, .long v2.toInt64] [.long v2.toInt64, .long v1.toInt64, .long v4.toInt64] rfl rfl (Nat.le_of_ble_eq_true rfl) d_MO_number_123 126 rfl (zc_MO_isIn v4.toInt64 v1.toInt64 v2.toInt64 m ?_)
  refine ax_ifb_ne 135 129 d_MO_number_126 rfl rfl (fun hc => ?_) (fun hc => ?_)
  · have h := ok_t hc h
    refine ax_iload 4 d_MO_number_135 rfl 137 rfl ?_
    exact ax_iret rfl d_MO_number_137 (hR (v4, m) (ok_some h))
  · have h := ok_f (bf hc) h
    refine ax_aload_n 0 d_MO_number_129 rfl rfl 130 rfl ?_
    refine ax_iconst 2 d_MO_number_130 ic_2 131 rfl ?_
    refine ax_iload_n 3 d_MO_number_131 rfl rfl 132 rfl ?_
    refine ax_callV mv_MO_246 ⟨Nat.le_of_ble_eq_true rfl, Nat.le_of_ble_eq_true rfl⟩ ⟨rfl, rfl⟩ [.int 2, .int v3] [.int v3, .int 2, .ref 0] rfl rfl (rc_m_0 _) (Nat.le_of_ble_eq_true rfl) d_MO_number_132 135 rfl (zc_MO_fail 2 v3 m ?_)
    refine ok_l (G := fun p => AX gM s_MO_number 135 [(0, .ref 0), (1, .int v1), (2, .int v2), (3, .int v3), (4, .int v4)] [] p Q) h (fun p8 h => ?_)
    refine ax_iload 4 d_MO_number_135 rfl 137 rfl ?_
    exact ax_iret rfl d_MO_number_137 (hR (v4, p8) (ok_some h))
set_option maxRecDepth 4000 in
theorem zc_MO_number (v1 : Int32) (v2 : Int32) (m : zM)  {Q : Option Value → zM → Prop} (h : ok (f_MO_number v1 v2 m) (fun p => Q (some (.int p.1)) p.2)) : zc gM s_MO_number [.ref 0, .int v1, .int v2] m Q := by
  refine zc_of rfl (Nat.le_of_ble_eq_true rfl) ?_
  show AX gM s_MO_number 0 [(0, .ref 0), (1, .int v1), (2, .int v2)] [] m Q
  obtain ⟨K, hK⟩ : ∃ K : (Int32 × zM) → Prop, K = (fun p : Int32 × zM => Q (some (.int p.1)) p.2) := ⟨_, rfl⟩
  have hR : ∀ p : Int32 × zM, K p → Q (some (.int p.1)) p.2 := fun p hp => by rw [hK] at hp; exact hp
  replace h : ok (f_MO_number v1 v2 m) (fun p : Int32 × zM => Q (some (.int p.1)) p.2) := h
  rw [← hK] at h
  unfold f_MO_number at h
  refine ax_aload_n 0 d_MO_number_0 rfl rfl 1 rfl ?_
  refine ax_getI fl_MO_217 m_0 rfl d_MO_number_1 4 rfl ?_
  refine ax_if_eq 9 7 d_MO_number_4 rfl rfl (fun hc => ?_) (fun hc => ?_)
  · have h := ok_t hc h
    refine ax_aload_n 0 d_MO_number_9 rfl rfl 10 rfl ?_
    refine ax_callV mv_MO_229 ⟨Nat.le_of_ble_eq_true rfl, Nat.le_of_ble_eq_true rfl⟩ ⟨rfl, rfl⟩ [] [.ref 0] rfl rfl (rc_m_0 _) (Nat.le_of_ble_eq_true rfl) d_MO_number_10 13 rfl (zc_MO_look m (ok_b h (fun p1 h => ?_)))
    refine ax_callS mv_MO_253 ⟨Nat.le_of_ble_eq_true rfl, Nat.le_of_ble_eq_true rfl⟩ ⟨rfl, rfl⟩ [.int p1.1] [.int p1.1] rfl rfl (Nat.le_of_ble_eq_true rfl) d_MO_number_13 16 rfl (zc_MO_isDigit p1.1 p1.2 ?_)
    refine ax_ifb_eq 30 19 d_MO_number_16 rfl rfl (fun hc => ?_) (fun hc => ?_)
    · have h := ok_f (bf hc) h
      exact ax_sub [0, 1] rfl (c_MO_number_J30 v1 p1.2 (fun p hp => hR p hp) h)
    · have h := ok_t hc h
      refine ax_aload_n 0 d_MO_number_19 rfl rfl 20 rfl ?_
      refine ax_getI fl_MO_223 m_0 rfl d_MO_number_20 23 rfl ?_
      refine ax_aload_n 0 d_MO_number_23 rfl rfl 24 rfl ?_
      refine ax_getI fl_MO_236 m_0 rfl d_MO_number_24 27 rfl ?_
      refine ax_icmp_ne 41 30 d_MO_number_27 rfl rfl (fun hc => ?_) (fun hc => ?_)
      · have h := ok_f hc h
        refine ax_aload_n 0 d_MO_number_41 rfl rfl 42 rfl ?_
        refine ax_getI fl_MO_223 m_0 rfl d_MO_number_42 45 rfl ?_
        refine ax_istore_n (ls1 := [(3, .int (p1.2.1 0 2)), (0, .ref 0), (1, .int v1), (2, .int v2)]) d_MO_number_45 rfl (Nat.le_of_ble_eq_true rfl) rfl 46 rfl ?_
        refine ax_aload_n 1 d_MO_number_46 rfl rfl 47 rfl ?_
        refine ax_getR fl_MO_7 m_0 rfl (rm_0_0 _) d_MO_number_47 50 rfl ?_
        refine ax_aload_n 1 d_MO_number_50 rfl rfl 51 rfl ?_
        refine ax_getI fl_MO_223 m_0 rfl d_MO_number_51 54 rfl ?_
        refine ax_iaload m_1 d_MO_number_54 55 rfl h (fun i2 h => ?_)
        refine ax_bipush 48 d_MO_number_55 bp_48 57 rfl ?_
        refine ax_isub d_MO_number_57 58 rfl ?_
        refine ax_istore (ls1 := [(4, .int ((p1.2.1 1 i2) - 48)), (3, .int (p1.2.1 0 2)), (0, .ref 0), (1, .int v1), (2, .int v2)]) d_MO_number_58 (Nat.le_of_ble_eq_true rfl) rfl 60 rfl ?_
        refine ax_aload_n 2 d_MO_number_60 rfl rfl 61 rfl ?_
        refine ax_dup d_MO_number_61 rfl 62 rfl ?_
        refine ax_getI fl_MO_223 m_0 rfl d_MO_number_62 65 rfl ?_
        refine ax_iconst 1 d_MO_number_65 ic_1 66 rfl ?_
        refine ax_iadd d_MO_number_66 67 rfl ?_
        refine ax_putI (K := K) fl_MO_223 m_0 rfl rfl rfl (Nat.le_of_ble_eq_true rfl) d_MO_number_67 70 rfl h (fun m3 h => ?_)
        refine ax_aload_n 2 d_MO_number_70 rfl rfl 71 rfl ?_
        refine ax_aload_n 2 d_MO_number_71 rfl rfl 72 rfl ?_
        refine ax_getI fl_MO_223 m_0 rfl d_MO_number_72 75 rfl ?_
        refine ax_putI (K := K) fl_MO_236 m_0 rfl rfl rfl (Nat.le_of_ble_eq_true rfl) d_MO_number_75 78 rfl h (fun m4 h => ?_)
        refine ax_aload_n 2 d_MO_number_78 rfl rfl 79 rfl ?_
        refine ax_getI fl_MO_223 m_0 rfl d_MO_number_79 82 rfl ?_
        refine ax_aload_n 2 d_MO_number_82 rfl rfl 83 rfl ?_
        refine ax_getI fl_MO_226 m_0 rfl d_MO_number_83 86 rfl ?_
        refine ax_icmp_ge 116 89 d_MO_number_86 rfl rfl (fun hc => ?_) (fun hc => ?_)
        · have h := ok_t hc h
          exact ax_sub [2, 3, 4, 1, 0] rfl (c_MO_number_J116 v1 v2 (p1.2.1 0 2) ((p1.2.1 1 i2) - 48) m4 (fun p hp => hR p hp) h)
        · have h := ok_f hc h
          refine ax_aload_n 2 d_MO_number_89 rfl rfl 90 rfl ?_
          refine ax_getR fl_MO_7 m_0 rfl (rm_0_0 _) d_MO_number_90 93 rfl ?_
          refine ax_aload_n 2 d_MO_number_93 rfl rfl 94 rfl ?_
          refine ax_getI fl_MO_223 m_0 rfl d_MO_number_94 97 rfl ?_
          refine ax_iaload m_1 d_MO_number_97 98 rfl h (fun i5 h => ?_)
          refine ax_callS mv_MO_253 ⟨Nat.le_of_ble_eq_true rfl, Nat.le_of_ble_eq_true rfl⟩ ⟨rfl, rfl⟩ [.int (m4.1 1 i5)] [.int (m4.1 1 i5)] rfl rfl (Nat.le_of_ble_eq_true rfl) d_MO_number_98 101 rfl (zc_MO_isDigit (m4.1 1 i5) m4 ?_)
          refine ax_ifb_eq 116 104 d_MO_number_101 rfl rfl (fun hc => ?_) (fun hc => ?_)
          · have h := ok_f (bf hc) h
            exact ax_sub [2, 3, 4, 1, 0] rfl (c_MO_number_J116 v1 v2 (p1.2.1 0 2) ((p1.2.1 1 i2) - 48) m4 (fun p hp => hR p hp) h)
          · have h := ok_t hc h
            refine ax_aload_n 2 d_MO_number_104 rfl rfl 105 rfl ?_
            refine ax_iconst 1 d_MO_number_105 ic_1 106 rfl ?_
            refine ax_aload_n 2 d_MO_number_106 rfl rfl 107 rfl ?_
            refine ax_getI fl_MO_223 m_0 rfl d_MO_number_107 110 rfl ?_
            refine ax_callV mv_MO_246 ⟨Nat.le_of_ble_eq_true rfl, Nat.le_of_ble_eq_true rfl⟩ ⟨rfl, rfl⟩ [.int 1, .int (m4.1 0 2)] [.int (m4.1 0 2), .int 1, .ref 0] rfl rfl (rc_m_0 _) (Nat.le_of_ble_eq_true rfl) d_MO_number_110 113 rfl (zc_MO_fail 1 (m4.1 0 2) m4 ?_)
            refine ok_l (G := fun p => AX gM s_MO_number 113 [(4, .int ((p1.2.1 1 i2) - 48)), (3, .int (p1.2.1 0 2)), (0, .ref 0), (1, .int v1), (2, .int v2)] [] p Q) h (fun p6 h => ?_)
            refine ax_goto 135 d_MO_number_113 rfl ?_
            refine ax_iload 0 d_MO_number_135 rfl 137 rfl ?_
            exact ax_iret rfl d_MO_number_137 (hR (((p1.2.1 1 i2) - 48), p6) (ok_some h))
      · have h := ok_t hc h
        exact ax_sub [0, 1] rfl (c_MO_number_J30 v1 p1.2 (fun p hp => hR p hp) h)
  · have h := ok_f hc h
    refine ax_iload_n 1 d_MO_number_7 rfl rfl 8 rfl ?_
    exact ax_iret rfl d_MO_number_8 (hR (v1, m) (ok_some h))
set_option maxRecDepth 4000 in
theorem c_MO_isOwnHere_J239  (m : zM)  {Q : Option Value → zM → Prop} {K : (Bool × zM) → Prop} (hR : ∀ p : Bool × zM, K (p) → Q (some (.int (b2i p.1))) p.2)  (h : ok (f_MO_isOwnHere_J239  m) K) : AX gM s_MO_isOwnHere 239 [] [] m Q := by
  unfold f_MO_isOwnHere_J239 at h
  refine ax_iconst 1 d_MO_isOwnHere_239 ic_1 240 rfl ?_
  refine ax_goto 244 d_MO_isOwnHere_240 rfl ?_
  exact ax_zret (b := true) rfl d_MO_isOwnHere_244 (hR (true, m) (ok_some h))
set_option maxRecDepth 4000 in
theorem c_MO_isOwnHere_J190 (t0 : Bool) (m : zM)  {Q : Option Value → zM → Prop} {K : (Bool × zM) → Prop} (hR : ∀ p : Bool × zM, K (p) → Q (some (.int (b2i p.1))) p.2)  (h : ok (f_MO_isOwnHere_J190 t0 m) K) : AX gM s_MO_isOwnHere 190 [(0, .ref 0)] [.int (b2i t0)] m Q := by
  unfold f_MO_isOwnHere_J190 at h
  refine ax_istore_n (ls1 := [(1, .int (b2i t0)), (0, .ref 0)]) d_MO_isOwnHere_190 rfl (Nat.le_of_ble_eq_true rfl) rfl 191 rfl ?_
  refine ax_iload_n 0 d_MO_isOwnHere_191 rfl rfl 192 rfl ?_
  refine ax_ifb_ne 239 195 d_MO_isOwnHere_192 rfl rfl (fun hc => ?_) (fun hc => ?_)
  · have h := ok_t hc h
    exact ax_sub [] rfl (c_MO_isOwnHere_J239 m (fun p hp => hR p hp) h)
  · have h := ok_f (bf hc) h
    refine ax_aload_n 1 d_MO_isOwnHere_195 rfl rfl 196 rfl ?_
    refine ax_aload_n 1 d_MO_isOwnHere_196 rfl rfl 197 rfl ?_
    refine ax_getR fl_MO_66 m_0 rfl (rm_0_25 _) d_MO_isOwnHere_197 200 rfl ?_
    refine ax_callV mv_MO_239 ⟨Nat.le_of_ble_eq_true rfl, Nat.le_of_ble_eq_true rfl⟩ ⟨rfl, rfl⟩ [.ref 18] [.ref 18, .ref 0] rfl rfl (rc_m_0 _) (Nat.le_of_ble_eq_true rfl) d_MO_isOwnHere_200 203 rfl (zc_MO_isHere 18 m m_18z (ok_b h (fun p16 h => ?_)))
    refine ax_ifb_ne 239 206 d_MO_isOwnHere_203 rfl rfl (fun hc => ?_) (fun hc => ?_)
    · have h := ok_t hc h
      exact ax_sub [] rfl (c_MO_isOwnHere_J239 p16.2 (fun p hp => hR p hp) h)
    · have h := ok_f (bf hc) h
      refine ax_aload_n 1 d_MO_isOwnHere_206 rfl rfl 207 rfl ?_
      refine ax_aload_n 1 d_MO_isOwnHere_207 rfl rfl 208 rfl ?_
      refine ax_getR fl_MO_69 m_0 rfl (rm_0_26 _) d_MO_isOwnHere_208 211 rfl ?_
      refine ax_callV mv_MO_239 ⟨Nat.le_of_ble_eq_true rfl, Nat.le_of_ble_eq_true rfl⟩ ⟨rfl, rfl⟩ [.ref 19] [.ref 19, .ref 0] rfl rfl (rc_m_0 _) (Nat.le_of_ble_eq_true rfl) d_MO_isOwnHere_211 214 rfl (zc_MO_isHere 19 p16.2 m_19z (ok_b h (fun p17 h => ?_)))
      refine ax_ifb_ne 239 217 d_MO_isOwnHere_214 rfl rfl (fun hc => ?_) (fun hc => ?_)
      · have h := ok_t hc h
        exact ax_sub [] rfl (c_MO_isOwnHere_J239 p17.2 (fun p hp => hR p hp) h)
      · have h := ok_f (bf hc) h
        refine ax_aload_n 1 d_MO_isOwnHere_217 rfl rfl 218 rfl ?_
        refine ax_aload_n 1 d_MO_isOwnHere_218 rfl rfl 219 rfl ?_
        refine ax_getR fl_MO_72 m_0 rfl (rm_0_27 _) d_MO_isOwnHere_219 222 rfl ?_
        refine ax_callV mv_MO_239 ⟨Nat.le_of_ble_eq_true rfl, Nat.le_of_ble_eq_true rfl⟩ ⟨rfl, rfl⟩ [.ref 20] [.ref 20, .ref 0] rfl rfl (rc_m_0 _) (Nat.le_of_ble_eq_true rfl) d_MO_isOwnHere_222 225 rfl (zc_MO_isHere 20 p17.2 m_20z (ok_b h (fun p18 h => ?_)))
        refine ax_ifb_ne 239 228 d_MO_isOwnHere_225 rfl rfl (fun hc => ?_) (fun hc => ?_)
        · have h := ok_t hc h
          exact ax_sub [] rfl (c_MO_isOwnHere_J239 p18.2 (fun p hp => hR p hp) h)
        · have h := ok_f (bf hc) h
          refine ax_aload_n 1 d_MO_isOwnHere_228 rfl rfl 229 rfl ?_
          refine ax_aload_n 1 d_MO_isOwnHere_229 rfl rfl 230 rfl ?_
          refine ax_getR fl_MO_75 m_0 rfl (rm_0_28 _) d_MO_isOwnHere_230 233 rfl ?_
          refine ax_callV mv_MO_239 ⟨Nat.le_of_ble_eq_true rfl, Nat.le_of_ble_eq_true rfl⟩ ⟨rfl, rfl⟩ [.ref 21] [.ref 21, .ref 0] rfl rfl (rc_m_0 _) (Nat.le_of_ble_eq_true rfl) d_MO_isOwnHere_233 236 rfl (zc_MO_isHere 21 p18.2 m_21z (ok_b h (fun p19 h => ?_)))
          refine ax_ifb_eq 243 239 d_MO_isOwnHere_236 rfl rfl (fun hc => ?_) (fun hc => ?_)
          · have h := ok_f (bf hc) h
            refine ax_iconst 0 d_MO_isOwnHere_243 ic_0 244 rfl ?_
            exact ax_zret (b := false) rfl d_MO_isOwnHere_244 (hR (false, p19.2) (ok_some h))
          · have h := ok_t hc h
            exact ax_sub [] rfl (c_MO_isOwnHere_J239 p19.2 (fun p hp => hR p hp) h)
set_option maxRecDepth 4000 in
theorem c_MO_isOwnHere_J185  (m : zM)  {Q : Option Value → zM → Prop} {K : (Bool × zM) → Prop} (hR : ∀ p : Bool × zM, K (p) → Q (some (.int (b2i p.1))) p.2)  (h : ok (f_MO_isOwnHere_J185  m) K) : AX gM s_MO_isOwnHere 185 [(0, .ref 0)] [] m Q := by
  unfold f_MO_isOwnHere_J185 at h
  refine ax_iconst 1 d_MO_isOwnHere_185 ic_1 186 rfl ?_
  refine ax_goto 190 d_MO_isOwnHere_186 rfl ?_
  exact ax_sub [0] rfl (c_MO_isOwnHere_J190 true m (fun p hp => hR p hp) h)
set_option maxRecDepth 4000 in
theorem c_MO_isOwnHere_J125 (t0 : Bool) (m : zM)  {Q : Option Value → zM → Prop} {K : (Bool × zM) → Prop} (hR : ∀ p : Bool × zM, K (p) → Q (some (.int (b2i p.1))) p.2)  (h : ok (f_MO_isOwnHere_J125 t0 m) K) : AX gM s_MO_isOwnHere 125 [(0, .ref 0)] [.int (b2i t0)] m Q := by
  unfold f_MO_isOwnHere_J125 at h
  refine ax_istore_n (ls1 := [(1, .int (b2i t0)), (0, .ref 0)]) d_MO_isOwnHere_125 rfl (Nat.le_of_ble_eq_true rfl) rfl 126 rfl ?_
  refine ax_iload_n 0 d_MO_isOwnHere_126 rfl rfl 127 rfl ?_
  refine ax_ifb_ne 185 130 d_MO_isOwnHere_127 rfl rfl (fun hc => ?_) (fun hc => ?_)
  · have h := ok_t hc h
    exact ax_sub [1] rfl (c_MO_isOwnHere_J185 m (fun p hp => hR p hp) h)
  · have h := ok_f (bf hc) h
    refine ax_aload_n 1 d_MO_isOwnHere_130 rfl rfl 131 rfl ?_
    refine ax_aload_n 1 d_MO_isOwnHere_131 rfl rfl 132 rfl ?_
    refine ax_getR fl_MO_51 m_0 rfl (rm_0_20 _) d_MO_isOwnHere_132 135 rfl ?_
    refine ax_callV mv_MO_239 ⟨Nat.le_of_ble_eq_true rfl, Nat.le_of_ble_eq_true rfl⟩ ⟨rfl, rfl⟩ [.ref 13] [.ref 13, .ref 0] rfl rfl (rc_m_0 _) (Nat.le_of_ble_eq_true rfl) d_MO_isOwnHere_135 138 rfl (zc_MO_isHere 13 m m_13z (ok_b h (fun p11 h => ?_)))
    refine ax_ifb_ne 185 141 d_MO_isOwnHere_138 rfl rfl (fun hc => ?_) (fun hc => ?_)
    · have h := ok_t hc h
      exact ax_sub [1] rfl (c_MO_isOwnHere_J185 p11.2 (fun p hp => hR p hp) h)
    · have h := ok_f (bf hc) h
      refine ax_aload_n 1 d_MO_isOwnHere_141 rfl rfl 142 rfl ?_
      refine ax_aload_n 1 d_MO_isOwnHere_142 rfl rfl 143 rfl ?_
      refine ax_getR fl_MO_54 m_0 rfl (rm_0_21 _) d_MO_isOwnHere_143 146 rfl ?_
      refine ax_callV mv_MO_239 ⟨Nat.le_of_ble_eq_true rfl, Nat.le_of_ble_eq_true rfl⟩ ⟨rfl, rfl⟩ [.ref 14] [.ref 14, .ref 0] rfl rfl (rc_m_0 _) (Nat.le_of_ble_eq_true rfl) d_MO_isOwnHere_146 149 rfl (zc_MO_isHere 14 p11.2 m_14z (ok_b h (fun p12 h => ?_)))
      refine ax_ifb_ne 185 152 d_MO_isOwnHere_149 rfl rfl (fun hc => ?_) (fun hc => ?_)
      · have h := ok_t hc h
        exact ax_sub [1] rfl (c_MO_isOwnHere_J185 p12.2 (fun p hp => hR p hp) h)
      · have h := ok_f (bf hc) h
        refine ax_aload_n 1 d_MO_isOwnHere_152 rfl rfl 153 rfl ?_
        refine ax_aload_n 1 d_MO_isOwnHere_153 rfl rfl 154 rfl ?_
        refine ax_getR fl_MO_57 m_0 rfl (rm_0_22 _) d_MO_isOwnHere_154 157 rfl ?_
        refine ax_callV mv_MO_239 ⟨Nat.le_of_ble_eq_true rfl, Nat.le_of_ble_eq_true rfl⟩ ⟨rfl, rfl⟩ [.ref 15] [.ref 15, .ref 0] rfl rfl (rc_m_0 _) (Nat.le_of_ble_eq_true rfl) d_MO_isOwnHere_157 160 rfl (zc_MO_isHere 15 p12.2 m_15z (ok_b h (fun p13 h => ?_)))
        refine ax_ifb_ne 185 163 d_MO_isOwnHere_160 rfl rfl (fun hc => ?_) (fun hc => ?_)
        · have h := ok_t hc h
          exact ax_sub [1] rfl (c_MO_isOwnHere_J185 p13.2 (fun p hp => hR p hp) h)
        · have h := ok_f (bf hc) h
          refine ax_aload_n 1 d_MO_isOwnHere_163 rfl rfl 164 rfl ?_
          refine ax_aload_n 1 d_MO_isOwnHere_164 rfl rfl 165 rfl ?_
          refine ax_getR fl_MO_60 m_0 rfl (rm_0_23 _) d_MO_isOwnHere_165 168 rfl ?_
          refine ax_callV mv_MO_239 ⟨Nat.le_of_ble_eq_true rfl, Nat.le_of_ble_eq_true rfl⟩ ⟨rfl, rfl⟩ [.ref 16] [.ref 16, .ref 0] rfl rfl (rc_m_0 _) (Nat.le_of_ble_eq_true rfl) d_MO_isOwnHere_168 171 rfl (zc_MO_isHere 16 p13.2 m_16z (ok_b h (fun p14 h => ?_)))
          refine ax_ifb_ne 185 174 d_MO_isOwnHere_171 rfl rfl (fun hc => ?_) (fun hc => ?_)
          · have h := ok_t hc h
            exact ax_sub [1] rfl (c_MO_isOwnHere_J185 p14.2 (fun p hp => hR p hp) h)
          · have h := ok_f (bf hc) h
            refine ax_aload_n 1 d_MO_isOwnHere_174 rfl rfl 175 rfl ?_
            refine ax_aload_n 1 d_MO_isOwnHere_175 rfl rfl 176 rfl ?_
            refine ax_getR fl_MO_63 m_0 rfl (rm_0_24 _) d_MO_isOwnHere_176 179 rfl ?_
            refine ax_callV mv_MO_239 ⟨Nat.le_of_ble_eq_true rfl, Nat.le_of_ble_eq_true rfl⟩ ⟨rfl, rfl⟩ [.ref 17] [.ref 17, .ref 0] rfl rfl (rc_m_0 _) (Nat.le_of_ble_eq_true rfl) d_MO_isOwnHere_179 182 rfl (zc_MO_isHere 17 p14.2 m_17z (ok_b h (fun p15 h => ?_)))
            refine ax_ifb_eq 189 185 d_MO_isOwnHere_182 rfl rfl (fun hc => ?_) (fun hc => ?_)
            · have h := ok_f (bf hc) h
              refine ax_iconst 0 d_MO_isOwnHere_189 ic_0 190 rfl ?_
              exact ax_sub [1] rfl (c_MO_isOwnHere_J190 false p15.2 (fun p hp => hR p hp) h)
            · have h := ok_t hc h
              exact ax_sub [1] rfl (c_MO_isOwnHere_J185 p15.2 (fun p hp => hR p hp) h)
set_option maxRecDepth 4000 in
theorem c_MO_isOwnHere_J120  (m : zM)  {Q : Option Value → zM → Prop} {K : (Bool × zM) → Prop} (hR : ∀ p : Bool × zM, K (p) → Q (some (.int (b2i p.1))) p.2)  (h : ok (f_MO_isOwnHere_J120  m) K) : AX gM s_MO_isOwnHere 120 [(0, .ref 0)] [] m Q := by
  unfold f_MO_isOwnHere_J120 at h
  refine ax_iconst 1 d_MO_isOwnHere_120 ic_1 121 rfl ?_
  refine ax_goto 125 d_MO_isOwnHere_121 rfl ?_
  exact ax_sub [0] rfl (c_MO_isOwnHere_J125 true m (fun p hp => hR p hp) h)
set_option maxRecDepth 4000 in
theorem c_MO_isOwnHere_J60 (t0 : Bool) (m : zM)  {Q : Option Value → zM → Prop} {K : (Bool × zM) → Prop} (hR : ∀ p : Bool × zM, K (p) → Q (some (.int (b2i p.1))) p.2)  (h : ok (f_MO_isOwnHere_J60 t0 m) K) : AX gM s_MO_isOwnHere 60 [(0, .ref 0)] [.int (b2i t0)] m Q := by
  unfold f_MO_isOwnHere_J60 at h
  refine ax_istore_n (ls1 := [(1, .int (b2i t0)), (0, .ref 0)]) d_MO_isOwnHere_60 rfl (Nat.le_of_ble_eq_true rfl) rfl 61 rfl ?_
  refine ax_iload_n 0 d_MO_isOwnHere_61 rfl rfl 62 rfl ?_
  refine ax_ifb_ne 120 65 d_MO_isOwnHere_62 rfl rfl (fun hc => ?_) (fun hc => ?_)
  · have h := ok_t hc h
    exact ax_sub [1] rfl (c_MO_isOwnHere_J120 m (fun p hp => hR p hp) h)
  · have h := ok_f (bf hc) h
    refine ax_aload_n 1 d_MO_isOwnHere_65 rfl rfl 66 rfl ?_
    refine ax_aload_n 1 d_MO_isOwnHere_66 rfl rfl 67 rfl ?_
    refine ax_getR fl_MO_36 m_0 rfl (rm_0_15 _) d_MO_isOwnHere_67 70 rfl ?_
    refine ax_callV mv_MO_239 ⟨Nat.le_of_ble_eq_true rfl, Nat.le_of_ble_eq_true rfl⟩ ⟨rfl, rfl⟩ [.ref 8] [.ref 8, .ref 0] rfl rfl (rc_m_0 _) (Nat.le_of_ble_eq_true rfl) d_MO_isOwnHere_70 73 rfl (zc_MO_isHere 8 m m_8z (ok_b h (fun p6 h => ?_)))
    refine ax_ifb_ne 120 76 d_MO_isOwnHere_73 rfl rfl (fun hc => ?_) (fun hc => ?_)
    · have h := ok_t hc h
      exact ax_sub [1] rfl (c_MO_isOwnHere_J120 p6.2 (fun p hp => hR p hp) h)
    · have h := ok_f (bf hc) h
      refine ax_aload_n 1 d_MO_isOwnHere_76 rfl rfl 77 rfl ?_
      refine ax_aload_n 1 d_MO_isOwnHere_77 rfl rfl 78 rfl ?_
      refine ax_getR fl_MO_39 m_0 rfl (rm_0_16 _) d_MO_isOwnHere_78 81 rfl ?_
      refine ax_callV mv_MO_239 ⟨Nat.le_of_ble_eq_true rfl, Nat.le_of_ble_eq_true rfl⟩ ⟨rfl, rfl⟩ [.ref 9] [.ref 9, .ref 0] rfl rfl (rc_m_0 _) (Nat.le_of_ble_eq_true rfl) d_MO_isOwnHere_81 84 rfl (zc_MO_isHere 9 p6.2 m_9z (ok_b h (fun p7 h => ?_)))
      refine ax_ifb_ne 120 87 d_MO_isOwnHere_84 rfl rfl (fun hc => ?_) (fun hc => ?_)
      · have h := ok_t hc h
        exact ax_sub [1] rfl (c_MO_isOwnHere_J120 p7.2 (fun p hp => hR p hp) h)
      · have h := ok_f (bf hc) h
        refine ax_aload_n 1 d_MO_isOwnHere_87 rfl rfl 88 rfl ?_
        refine ax_aload_n 1 d_MO_isOwnHere_88 rfl rfl 89 rfl ?_
        refine ax_getR fl_MO_42 m_0 rfl (rm_0_17 _) d_MO_isOwnHere_89 92 rfl ?_
        refine ax_callV mv_MO_239 ⟨Nat.le_of_ble_eq_true rfl, Nat.le_of_ble_eq_true rfl⟩ ⟨rfl, rfl⟩ [.ref 10] [.ref 10, .ref 0] rfl rfl (rc_m_0 _) (Nat.le_of_ble_eq_true rfl) d_MO_isOwnHere_92 95 rfl (zc_MO_isHere 10 p7.2 m_10z (ok_b h (fun p8 h => ?_)))
        refine ax_ifb_ne 120 98 d_MO_isOwnHere_95 rfl rfl (fun hc => ?_) (fun hc => ?_)
        · have h := ok_t hc h
          exact ax_sub [1] rfl (c_MO_isOwnHere_J120 p8.2 (fun p hp => hR p hp) h)
        · have h := ok_f (bf hc) h
          refine ax_aload_n 1 d_MO_isOwnHere_98 rfl rfl 99 rfl ?_
          refine ax_aload_n 1 d_MO_isOwnHere_99 rfl rfl 100 rfl ?_
          refine ax_getR fl_MO_45 m_0 rfl (rm_0_18 _) d_MO_isOwnHere_100 103 rfl ?_
          refine ax_callV mv_MO_239 ⟨Nat.le_of_ble_eq_true rfl, Nat.le_of_ble_eq_true rfl⟩ ⟨rfl, rfl⟩ [.ref 11] [.ref 11, .ref 0] rfl rfl (rc_m_0 _) (Nat.le_of_ble_eq_true rfl) d_MO_isOwnHere_103 106 rfl (zc_MO_isHere 11 p8.2 m_11z (ok_b h (fun p9 h => ?_)))
          refine ax_ifb_ne 120 109 d_MO_isOwnHere_106 rfl rfl (fun hc => ?_) (fun hc => ?_)
          · have h := ok_t hc h
            exact ax_sub [1] rfl (c_MO_isOwnHere_J120 p9.2 (fun p hp => hR p hp) h)
          · have h := ok_f (bf hc) h
            refine ax_aload_n 1 d_MO_isOwnHere_109 rfl rfl 110 rfl ?_
            refine ax_aload_n 1 d_MO_isOwnHere_110 rfl rfl 111 rfl ?_
            refine ax_getR fl_MO_48 m_0 rfl (rm_0_19 _) d_MO_isOwnHere_111 114 rfl ?_
            refine ax_callV mv_MO_239 ⟨Nat.le_of_ble_eq_true rfl, Nat.le_of_ble_eq_true rfl⟩ ⟨rfl, rfl⟩ [.ref 12] [.ref 12, .ref 0] rfl rfl (rc_m_0 _) (Nat.le_of_ble_eq_true rfl) d_MO_isOwnHere_114 117 rfl (zc_MO_isHere 12 p9.2 m_12z (ok_b h (fun p10 h => ?_)))
            refine ax_ifb_eq 124 120 d_MO_isOwnHere_117 rfl rfl (fun hc => ?_) (fun hc => ?_)
            · have h := ok_f (bf hc) h
              refine ax_iconst 0 d_MO_isOwnHere_124 ic_0 125 rfl ?_
              exact ax_sub [1] rfl (c_MO_isOwnHere_J125 false p10.2 (fun p hp => hR p hp) h)
            · have h := ok_t hc h
              exact ax_sub [1] rfl (c_MO_isOwnHere_J120 p10.2 (fun p hp => hR p hp) h)
set_option maxRecDepth 4000 in
theorem c_MO_isOwnHere_J55  (m : zM)  {Q : Option Value → zM → Prop} {K : (Bool × zM) → Prop} (hR : ∀ p : Bool × zM, K (p) → Q (some (.int (b2i p.1))) p.2)  (h : ok (f_MO_isOwnHere_J55  m) K) : AX gM s_MO_isOwnHere 55 [(0, .ref 0)] [] m Q := by
  unfold f_MO_isOwnHere_J55 at h
  refine ax_iconst 1 d_MO_isOwnHere_55 ic_1 56 rfl ?_
  refine ax_goto 60 d_MO_isOwnHere_56 rfl ?_
  exact ax_sub [0] rfl (c_MO_isOwnHere_J60 true m (fun p hp => hR p hp) h)
set_option maxRecDepth 4000 in
theorem zc_MO_isOwnHere  (m : zM)  {Q : Option Value → zM → Prop} (h : ok (f_MO_isOwnHere m) (fun p => Q (some (.int (b2i p.1))) p.2)) : zc gM s_MO_isOwnHere [.ref 0] m Q := by
  refine zc_of rfl (Nat.le_of_ble_eq_true rfl) ?_
  show AX gM s_MO_isOwnHere 0 [(0, .ref 0)] [] m Q
  obtain ⟨K, hK⟩ : ∃ K : (Bool × zM) → Prop, K = (fun p : Bool × zM => Q (some (.int (b2i p.1))) p.2) := ⟨_, rfl⟩
  have hR : ∀ p : Bool × zM, K p → Q (some (.int (b2i p.1))) p.2 := fun p hp => by rw [hK] at hp; exact hp
  replace h : ok (f_MO_isOwnHere m) (fun p : Bool × zM => Q (some (.int (b2i p.1))) p.2) := h
  rw [← hK] at h
  unfold f_MO_isOwnHere at h
  refine ax_aload_n 0 d_MO_isOwnHere_0 rfl rfl 1 rfl ?_
  refine ax_aload_n 0 d_MO_isOwnHere_1 rfl rfl 2 rfl ?_
  refine ax_getR fl_MO_20 m_0 rfl (rm_0_10 _) d_MO_isOwnHere_2 5 rfl ?_
  refine ax_callV mv_MO_239 ⟨Nat.le_of_ble_eq_true rfl, Nat.le_of_ble_eq_true rfl⟩ ⟨rfl, rfl⟩ [.ref 3] [.ref 3, .ref 0] rfl rfl (rc_m_0 _) (Nat.le_of_ble_eq_true rfl) d_MO_isOwnHere_5 8 rfl (zc_MO_isHere 3 m m_3z (ok_b h (fun p1 h => ?_)))
  refine ax_ifb_ne 55 11 d_MO_isOwnHere_8 rfl rfl (fun hc => ?_) (fun hc => ?_)
  · have h := ok_t hc h
    exact ax_sub [0] rfl (c_MO_isOwnHere_J55 p1.2 (fun p hp => hR p hp) h)
  · have h := ok_f (bf hc) h
    refine ax_aload_n 0 d_MO_isOwnHere_11 rfl rfl 12 rfl ?_
    refine ax_aload_n 0 d_MO_isOwnHere_12 rfl rfl 13 rfl ?_
    refine ax_getR fl_MO_24 m_0 rfl (rm_0_11 _) d_MO_isOwnHere_13 16 rfl ?_
    refine ax_callV mv_MO_239 ⟨Nat.le_of_ble_eq_true rfl, Nat.le_of_ble_eq_true rfl⟩ ⟨rfl, rfl⟩ [.ref 4] [.ref 4, .ref 0] rfl rfl (rc_m_0 _) (Nat.le_of_ble_eq_true rfl) d_MO_isOwnHere_16 19 rfl (zc_MO_isHere 4 p1.2 m_4z (ok_b h (fun p2 h => ?_)))
    refine ax_ifb_ne 55 22 d_MO_isOwnHere_19 rfl rfl (fun hc => ?_) (fun hc => ?_)
    · have h := ok_t hc h
      exact ax_sub [0] rfl (c_MO_isOwnHere_J55 p2.2 (fun p hp => hR p hp) h)
    · have h := ok_f (bf hc) h
      refine ax_aload_n 0 d_MO_isOwnHere_22 rfl rfl 23 rfl ?_
      refine ax_aload_n 0 d_MO_isOwnHere_23 rfl rfl 24 rfl ?_
      refine ax_getR fl_MO_27 m_0 rfl (rm_0_12 _) d_MO_isOwnHere_24 27 rfl ?_
      refine ax_callV mv_MO_239 ⟨Nat.le_of_ble_eq_true rfl, Nat.le_of_ble_eq_true rfl⟩ ⟨rfl, rfl⟩ [.ref 5] [.ref 5, .ref 0] rfl rfl (rc_m_0 _) (Nat.le_of_ble_eq_true rfl) d_MO_isOwnHere_27 30 rfl (zc_MO_isHere 5 p2.2 m_5z (ok_b h (fun p3 h => ?_)))
      refine ax_ifb_ne 55 33 d_MO_isOwnHere_30 rfl rfl (fun hc => ?_) (fun hc => ?_)
      · have h := ok_t hc h
        exact ax_sub [0] rfl (c_MO_isOwnHere_J55 p3.2 (fun p hp => hR p hp) h)
      · have h := ok_f (bf hc) h
        refine ax_aload_n 0 d_MO_isOwnHere_33 rfl rfl 34 rfl ?_
        refine ax_aload_n 0 d_MO_isOwnHere_34 rfl rfl 35 rfl ?_
        refine ax_getR fl_MO_30 m_0 rfl (rm_0_13 _) d_MO_isOwnHere_35 38 rfl ?_
        refine ax_callV mv_MO_239 ⟨Nat.le_of_ble_eq_true rfl, Nat.le_of_ble_eq_true rfl⟩ ⟨rfl, rfl⟩ [.ref 6] [.ref 6, .ref 0] rfl rfl (rc_m_0 _) (Nat.le_of_ble_eq_true rfl) d_MO_isOwnHere_38 41 rfl (zc_MO_isHere 6 p3.2 m_6z (ok_b h (fun p4 h => ?_)))
        refine ax_ifb_ne 55 44 d_MO_isOwnHere_41 rfl rfl (fun hc => ?_) (fun hc => ?_)
        · have h := ok_t hc h
          exact ax_sub [0] rfl (c_MO_isOwnHere_J55 p4.2 (fun p hp => hR p hp) h)
        · have h := ok_f (bf hc) h
          refine ax_aload_n 0 d_MO_isOwnHere_44 rfl rfl 45 rfl ?_
          refine ax_aload_n 0 d_MO_isOwnHere_45 rfl rfl 46 rfl ?_
          refine ax_getR fl_MO_33 m_0 rfl (rm_0_14 _) d_MO_isOwnHere_46 49 rfl ?_
          refine ax_callV mv_MO_239 ⟨Nat.le_of_ble_eq_true rfl, Nat.le_of_ble_eq_true rfl⟩ ⟨rfl, rfl⟩ [.ref 7] [.ref 7, .ref 0] rfl rfl (rc_m_0 _) (Nat.le_of_ble_eq_true rfl) d_MO_isOwnHere_49 52 rfl (zc_MO_isHere 7 p4.2 m_7z (ok_b h (fun p5 h => ?_)))
          refine ax_ifb_eq 59 55 d_MO_isOwnHere_52 rfl rfl (fun hc => ?_) (fun hc => ?_)
          · have h := ok_f (bf hc) h
            refine ax_iconst 0 d_MO_isOwnHere_59 ic_0 60 rfl ?_
            exact ax_sub [0] rfl (c_MO_isOwnHere_J60 false p5.2 (fun p hp => hR p hp) h)
          · have h := ok_t hc h
            exact ax_sub [0] rfl (c_MO_isOwnHere_J55 p5.2 (fun p hp => hR p hp) h)
set_option maxRecDepth 4000 in
theorem c_MO_name_J37  (m : zM)  {Q : Option Value → zM → Prop} {K : (Int32 × zM) → Prop} (hR : ∀ p : Int32 × zM, K (p) → Q (some (.int p.1)) p.2)  (h : ok (f_MO_name_J37  m) K) : AX gM s_MO_name 37 [(0, .ref 0)] [] m Q := by
  unfold f_MO_name_J37 at h
  refine ax_aload_n 0 d_MO_name_37 rfl rfl 38 rfl ?_
  refine ax_iconst 1 d_MO_name_38 ic_1 39 rfl ?_
  refine ax_aload_n 0 d_MO_name_39 rfl rfl 40 rfl ?_
  refine ax_getI fl_MO_223 m_0 rfl d_MO_name_40 43 rfl ?_
  refine ax_callV mv_MO_246 ⟨Nat.le_of_ble_eq_true rfl, Nat.le_of_ble_eq_true rfl⟩ ⟨rfl, rfl⟩ [.int 1, .int (m.1 0 2)] [.int (m.1 0 2), .int 1, .ref 0] rfl rfl (rc_m_0 _) (Nat.le_of_ble_eq_true rfl) d_MO_name_43 46 rfl (zc_MO_fail 1 (m.1 0 2) m ?_)
  refine ok_l (G := fun p => AX gM s_MO_name 46 [(0, .ref 0)] [] p Q) h (fun p4 h => ?_)
  refine ax_iconst 0 d_MO_name_46 ic_0 47 rfl ?_
  exact ax_iret rfl d_MO_name_47 (hR (0, p4) (ok_some h))
set_option maxRecDepth 4000 in
theorem c_MO_name_J142 (v1 : Int32) (m : zM)  {Q : Option Value → zM → Prop} {K : (Int32 × zM) → Prop} (hR : ∀ p : Int32 × zM, K (p) → Q (some (.int p.1)) p.2)  (h : ok (f_MO_name_J142 v1 m) K) : AX gM s_MO_name 142 [(0, .ref 0), (1, .int v1)] [] m Q := by
  unfold f_MO_name_J142 at h
  refine ax_aload_n 0 d_MO_name_142 rfl rfl 143 rfl ?_
  refine ax_aload_n 0 d_MO_name_143 rfl rfl 144 rfl ?_
  refine ax_getI fl_MO_223 m_0 rfl d_MO_name_144 147 rfl ?_
  refine ax_putI (K := K) fl_MO_236 m_0 rfl rfl rfl (Nat.le_of_ble_eq_true rfl) d_MO_name_147 150 rfl h (fun m8 h => ?_)
  refine ax_iload_n 1 d_MO_name_150 rfl rfl 151 rfl ?_
  exact ax_iret rfl d_MO_name_151 (hR (v1, m8) (ok_some h))
set_option maxRecDepth 4000 in
theorem c_MO_name_J98  (m : zM)  {Q : Option Value → zM → Prop} {K : (Int32 × zM) → Prop} (hR : ∀ p : Int32 × zM, K (p) → Q (some (.int p.1)) p.2)  (h : ok (f_MO_name_J98  m) K) : AX gM s_MO_name 98 [(0, .ref 0)] [] m Q := by
  unfold f_MO_name_J98 at h
  refine ax_aload_n 0 d_MO_name_98 rfl rfl 99 rfl ?_
  refine ax_iconst 1 d_MO_name_99 ic_1 100 rfl ?_
  refine ax_aload_n 0 d_MO_name_100 rfl rfl 101 rfl ?_
  refine ax_getI fl_MO_223 m_0 rfl d_MO_name_101 104 rfl ?_
  refine ax_callV mv_MO_246 ⟨Nat.le_of_ble_eq_true rfl, Nat.le_of_ble_eq_true rfl⟩ ⟨rfl, rfl⟩ [.int 1, .int (m.1 0 2)] [.int (m.1 0 2), .int 1, .ref 0] rfl rfl (rc_m_0 _) (Nat.le_of_ble_eq_true rfl) d_MO_name_104 107 rfl (zc_MO_fail 1 (m.1 0 2) m ?_)
  refine ok_l (G := fun p => AX gM s_MO_name 107 [(0, .ref 0)] [] p Q) h (fun p9 h => ?_)
  refine ax_iconst 0 d_MO_name_107 ic_0 108 rfl ?_
  exact ax_iret rfl d_MO_name_108 (hR (0, p9) (ok_some h))
set_option maxRecDepth 4000 in
theorem c_MO_name_B58 (v1 : Int32) (m : zM)  {Q : Option Value → zM → Prop} {K : ((Int32 × zM) ⊕ (Int32 × zM)) → Prop} (hR : ∀ p : Int32 × zM, K (.inl p) → Q (some (.int p.1)) p.2) (h0 : ∀ s : Int32 × zM, K (.inr s) → AX gM s_MO_name 58 [(0, .ref 0), (1, .int s.1)] [] s.2 Q) (h : ok (f_MO_name_B58 v1 m) K) : AX gM s_MO_name 58 [(0, .ref 0), (1, .int v1)] [] m Q := by
  unfold f_MO_name_B58 at h
  refine ax_aload_n 0 d_MO_name_58 rfl rfl 59 rfl ?_
  refine ax_getI fl_MO_223 m_0 rfl d_MO_name_59 62 rfl ?_
  refine ax_aload_n 0 d_MO_name_62 rfl rfl 63 rfl ?_
  refine ax_getI fl_MO_226 m_0 rfl d_MO_name_63 66 rfl ?_
  refine ax_icmp_ge 142 69 d_MO_name_66 rfl rfl (fun hc => ?_) (fun hc => ?_)
  · have h := ok_t hc h
    exact ax_sub [0, 1] rfl (c_MO_name_J142 v1 m (fun p hp => hR p hp) (ok_z h))
  · have h := ok_f hc h
    refine ax_aload_n 0 d_MO_name_69 rfl rfl 70 rfl ?_
    refine ax_getR fl_MO_7 m_0 rfl (rm_0_0 _) d_MO_name_70 73 rfl ?_
    refine ax_aload_n 0 d_MO_name_73 rfl rfl 74 rfl ?_
    refine ax_getI fl_MO_223 m_0 rfl d_MO_name_74 77 rfl ?_
    refine ax_iaload m_1 d_MO_name_77 78 rfl h (fun i5 h => ?_)
    refine ax_callS mv_MO_233 ⟨Nat.le_of_ble_eq_true rfl, Nat.le_of_ble_eq_true rfl⟩ ⟨rfl, rfl⟩ [.int (m.1 1 i5)] [.int (m.1 1 i5)] rfl rfl (Nat.le_of_ble_eq_true rfl) d_MO_name_78 81 rfl (zc_MO_isLetter (m.1 1 i5) m ?_)
    refine ax_ifb_eq 142 84 d_MO_name_81 rfl rfl (fun hc => ?_) (fun hc => ?_)
    · have h := ok_f (bf hc) h
      exact ax_sub [0, 1] rfl (c_MO_name_J142 v1 m (fun p hp => hR p hp) (ok_z h))
    · have h := ok_t hc h
      refine ax_aload_n 0 d_MO_name_84 rfl rfl 85 rfl ?_
      refine ax_getI fl_MO_223 m_0 rfl d_MO_name_85 88 rfl ?_
      refine ax_aload_n 0 d_MO_name_88 rfl rfl 89 rfl ?_
      refine ax_getI fl_MO_260 m_0 rfl d_MO_name_89 92 rfl ?_
      refine ax_isub d_MO_name_92 93 rfl ?_
      refine ax_bipush 6 d_MO_name_93 bp_6 95 rfl ?_
      refine ax_icmp_ne 109 98 d_MO_name_95 rfl rfl (fun hc => ?_) (fun hc => ?_)
      · have h := ok_f hc h
        refine ax_bipush 27 d_MO_name_109 bp_27 111 rfl ?_
        refine ax_iload_n 1 d_MO_name_111 rfl rfl 112 rfl ?_
        refine ax_imul d_MO_name_112 113 rfl ?_
        refine ax_aload_n 0 d_MO_name_113 rfl rfl 114 rfl ?_
        refine ax_getR fl_MO_7 m_0 rfl (rm_0_0 _) d_MO_name_114 117 rfl ?_
        refine ax_aload_n 0 d_MO_name_117 rfl rfl 118 rfl ?_
        refine ax_getI fl_MO_223 m_0 rfl d_MO_name_118 121 rfl ?_
        refine ax_iaload m_1 d_MO_name_121 122 rfl h (fun i6 h => ?_)
        refine ax_iadd d_MO_name_122 123 rfl ?_
        refine ax_bipush 97 d_MO_name_123 bp_97 125 rfl ?_
        refine ax_isub d_MO_name_125 126 rfl ?_
        refine ax_iconst 1 d_MO_name_126 ic_1 127 rfl ?_
        refine ax_iadd d_MO_name_127 128 rfl ?_
        refine ax_istore_n (ls1 := [(1, .int ((((27 * v1) + (m.1 1 i6)) - 97) + 1)), (0, .ref 0)]) d_MO_name_128 rfl (Nat.le_of_ble_eq_true rfl) rfl 129 rfl ?_
        refine ax_aload_n 1 d_MO_name_129 rfl rfl 130 rfl ?_
        refine ax_dup d_MO_name_130 rfl 131 rfl ?_
        refine ax_getI fl_MO_223 m_0 rfl d_MO_name_131 134 rfl ?_
        refine ax_iconst 1 d_MO_name_134 ic_1 135 rfl ?_
        refine ax_iadd d_MO_name_135 136 rfl ?_
        refine ax_putI (K := K) fl_MO_223 m_0 rfl rfl rfl (Nat.le_of_ble_eq_true rfl) d_MO_name_136 139 rfl h (fun m7 h => ?_)
        refine ax_goto 58 d_MO_name_139 rfl ?_
        exact ax_sub [1, 0] rfl (h0 (((((27 * v1) + (m.1 1 i6)) - 97) + 1), m7) (ok_some h))
      · have h := ok_t hc h
        exact ax_sub [0] rfl (c_MO_name_J98 m (fun p hp => hR p hp) (ok_z h))
theorem c_MO_name_L58 (v1 : Int32) (m : zM)  {Q : Option Value → zM → Prop} {K : (Int32 × zM) → Prop} (hR : ∀ p : Int32 × zM, K (p) → Q (some (.int p.1)) p.2)  (h : ok (f_MO_name_L58 v1 m) K) : AX gM s_MO_name 58 [(0, .ref 0), (1, .int v1)] [] m Q :=
  ok_lp (K := K) (G := fun s : Int32 × zM => AX gM s_MO_name 58 [(0, .ref 0), (1, .int s.1)] [] s.2 Q) (fun s h => c_MO_name_B58 s.1 s.2  (fun p hp => hR p hp) (fun s hs => hs) h) FU (v1, m) h
set_option maxRecDepth 4000 in
theorem zc_MO_name  (m : zM)  {Q : Option Value → zM → Prop} (h : ok (f_MO_name m) (fun p => Q (some (.int p.1)) p.2)) : zc gM s_MO_name [.ref 0] m Q := by
  refine zc_of rfl (Nat.le_of_ble_eq_true rfl) ?_
  show AX gM s_MO_name 0 [(0, .ref 0)] [] m Q
  obtain ⟨K, hK⟩ : ∃ K : (Int32 × zM) → Prop, K = (fun p : Int32 × zM => Q (some (.int p.1)) p.2) := ⟨_, rfl⟩
  have hR : ∀ p : Int32 × zM, K p → Q (some (.int p.1)) p.2 := fun p hp => by rw [hK] at hp; exact hp
  replace h : ok (f_MO_name m) (fun p : Int32 × zM => Q (some (.int p.1)) p.2) := h
  rw [← hK] at h
  unfold f_MO_name at h
  refine ax_aload_n 0 d_MO_name_0 rfl rfl 1 rfl ?_
  refine ax_getI fl_MO_217 m_0 rfl d_MO_name_1 4 rfl ?_
  refine ax_if_eq 9 7 d_MO_name_4 rfl rfl (fun hc => ?_) (fun hc => ?_)
  · have h := ok_t hc h
    refine ax_aload_n 0 d_MO_name_9 rfl rfl 10 rfl ?_
    refine ax_callV mv_MO_229 ⟨Nat.le_of_ble_eq_true rfl, Nat.le_of_ble_eq_true rfl⟩ ⟨rfl, rfl⟩ [] [.ref 0] rfl rfl (rc_m_0 _) (Nat.le_of_ble_eq_true rfl) d_MO_name_10 13 rfl (zc_MO_look m (ok_b h (fun p1 h => ?_)))
    refine ax_callS mv_MO_233 ⟨Nat.le_of_ble_eq_true rfl, Nat.le_of_ble_eq_true rfl⟩ ⟨rfl, rfl⟩ [.int p1.1] [.int p1.1] rfl rfl (Nat.le_of_ble_eq_true rfl) d_MO_name_13 16 rfl (zc_MO_isLetter p1.1 p1.2 ?_)
    refine ax_ifb_eq 37 19 d_MO_name_16 rfl rfl (fun hc => ?_) (fun hc => ?_)
    · have h := ok_f (bf hc) h
      exact ax_sub [0] rfl (c_MO_name_J37 p1.2 (fun p hp => hR p hp) h)
    · have h := ok_t hc h
      refine ax_aload_n 0 d_MO_name_19 rfl rfl 20 rfl ?_
      refine ax_getI fl_MO_223 m_0 rfl d_MO_name_20 23 rfl ?_
      refine ax_aload_n 0 d_MO_name_23 rfl rfl 24 rfl ?_
      refine ax_getI fl_MO_236 m_0 rfl d_MO_name_24 27 rfl ?_
      refine ax_icmp_eq 37 30 d_MO_name_27 rfl rfl (fun hc => ?_) (fun hc => ?_)
      · have h := ok_t hc h
        exact ax_sub [0] rfl (c_MO_name_J37 p1.2 (fun p hp => hR p hp) h)
      · have h := ok_f hc h
        refine ax_aload_n 0 d_MO_name_30 rfl rfl 31 rfl ?_
        refine ax_callV mv_MO_256 ⟨Nat.le_of_ble_eq_true rfl, Nat.le_of_ble_eq_true rfl⟩ ⟨rfl, rfl⟩ [] [.ref 0] rfl rfl (rc_m_0 _) (Nat.le_of_ble_eq_true rfl) d_MO_name_31 34 rfl (zc_MO_isOwnHere p1.2 (ok_b h (fun p2 h => ?_)))
        refine ax_ifb_eq 48 37 d_MO_name_34 rfl rfl (fun hc => ?_) (fun hc => ?_)
        · have h := ok_f (bf hc) h
          refine ax_aload_n 0 d_MO_name_48 rfl rfl 49 rfl ?_
          refine ax_aload_n 0 d_MO_name_49 rfl rfl 50 rfl ?_
          refine ax_getI fl_MO_223 m_0 rfl d_MO_name_50 53 rfl ?_
          refine ax_putI (K := K) fl_MO_260 m_0 rfl rfl rfl (Nat.le_of_ble_eq_true rfl) d_MO_name_53 56 rfl h (fun m3 h => ?_)
          refine ax_iconst 0 d_MO_name_56 ic_0 57 rfl ?_
          refine ax_istore_n (ls1 := [(1, .int 0), (0, .ref 0)]) d_MO_name_57 rfl (Nat.le_of_ble_eq_true rfl) rfl 58 rfl ?_
          exact ax_sub [1, 0] rfl (c_MO_name_L58 0 m3 (fun p hp => hR p hp) h)
        · have h := ok_t hc h
          exact ax_sub [0] rfl (c_MO_name_J37 p2.2 (fun p hp => hR p hp) h)
  · have h := ok_f hc h
    refine ax_iconst 0 d_MO_name_7 ic_0 8 rfl ?_
    exact ax_iret rfl d_MO_name_8 (hR (0, m) (ok_some h))
set_option maxRecDepth 4000 in
theorem zc_MO_nameAt (v0 : Int32) (v1 : Int32) (m : zM)  {Q : Option Value → zM → Prop} (h : Q (some (.int (f_MO_nameAt v0 v1))) m) : zc gM s_MO_nameAt [.int v0, .int v1] m Q := by
  refine zc_of rfl (Nat.le_of_ble_eq_true rfl) ?_
  show AX gM s_MO_nameAt 0 [(0, .int v0), (1, .int v1)] [] m Q
  obtain ⟨K, hK⟩ : ∃ K : Int32 → Prop, K = (fun p : Int32 => Q (some (.int p)) m) := ⟨_, rfl⟩
  have hR : ∀ p : Int32, K p → Q (some (.int p)) m := fun p hp => by rw [hK] at hp; exact hp
  replace h : (fun p : Int32 => Q (some (.int p)) m) (f_MO_nameAt v0 v1) := h
  rw [← hK] at h
  unfold f_MO_nameAt at h
  refine ax_bipush 10 d_MO_nameAt_0 bp_10 2 rfl ?_
  refine ax_bipush 6 d_MO_nameAt_2 bp_6 4 rfl ?_
  refine ax_iload_n 0 d_MO_nameAt_4 rfl rfl 5 rfl ?_
  refine ax_imul d_MO_nameAt_5 6 rfl ?_
  refine ax_iadd d_MO_nameAt_6 7 rfl ?_
  refine ax_iload_n 1 d_MO_nameAt_7 rfl rfl 8 rfl ?_
  refine ax_iadd d_MO_nameAt_8 9 rfl ?_
  exact ax_iret rfl d_MO_nameAt_9 (hR ((10 + (6 * v0)) + v1) h)
set_option maxRecDepth 4000 in
theorem c_MO_known_B2 (v1 : Int32) (v2 : Int32) (v3 : Int32) (m : zM)  {Q : Option Value → zM → Prop} {K : ((Int32) ⊕ (Int32)) → Prop} (hR : ∀ p : Int32, K (.inl p) → Q (some (.int p)) m) (h0 : ∀ s : Int32, K (.inr s) → AX gM s_MO_known 2 [(0, .ref 0), (1, .int v1), (2, .int v2), (3, .int s)] [] m Q) (h : ok (f_MO_known_B2 v1 v2 v3 m) K) : AX gM s_MO_known 2 [(0, .ref 0), (1, .int v1), (2, .int v2), (3, .int v3)] [] m Q := by
  unfold f_MO_known_B2 at h
  refine ax_iload_n 3 d_MO_known_2 rfl rfl 3 rfl ?_
  refine ax_aload_n 0 d_MO_known_3 rfl rfl 4 rfl ?_
  refine ax_getR fl_MO_78 m_0 rfl (rm_0_30 _) d_MO_known_4 7 rfl ?_
  refine ax_iconst 0 d_MO_known_7 ic_0 8 rfl ?_
  refine ax_iload_n 1 d_MO_known_8 rfl rfl 9 rfl ?_
  refine ax_iadd d_MO_known_9 10 rfl ?_
  refine ax_iaload m_22 d_MO_known_10 11 rfl h (fun i1 h => ?_)
  refine ax_icmp_ge 36 14 d_MO_known_11 rfl rfl (fun hc => ?_) (fun hc => ?_)
  · have h := ok_t hc h
    refine ax_iconst (-1) d_MO_known_36 ic_m1 37 rfl ?_
    exact ax_iret rfl d_MO_known_37 (hR (-1) (ok_some h))
  · have h := ok_f hc h
    refine ax_aload_n 0 d_MO_known_14 rfl rfl 15 rfl ?_
    refine ax_getR fl_MO_78 m_0 rfl (rm_0_30 _) d_MO_known_15 18 rfl ?_
    refine ax_iload_n 1 d_MO_known_18 rfl rfl 19 rfl ?_
    refine ax_iload_n 3 d_MO_known_19 rfl rfl 20 rfl ?_
    refine ax_callS mv_MO_263 ⟨Nat.le_of_ble_eq_true rfl, Nat.le_of_ble_eq_true rfl⟩ ⟨rfl, rfl⟩ [.int v1, .int v3] [.int v3, .int v1, .ref 22] rfl rfl (Nat.le_of_ble_eq_true rfl) d_MO_known_20 23 rfl (zc_MO_nameAt v1 v3 m ?_)
    refine ax_iaload m_22 d_MO_known_23 24 rfl h (fun i2 h => ?_)
    refine ax_iload_n 2 d_MO_known_24 rfl rfl 25 rfl ?_
    refine ax_icmp_ne 30 28 d_MO_known_25 rfl rfl (fun hc => ?_) (fun hc => ?_)
    · have h := ok_f hc h
      refine ax_iinc (ls1 := [(3, .int (v3 + 1)), (0, .ref 0), (1, .int v1), (2, .int v2)]) 3 1 d_MO_known_30 rfl ic_1 (Nat.le_of_ble_eq_true rfl) rfl 33 rfl ?_
      refine ax_goto 2 d_MO_known_33 rfl ?_
      exact ax_sub [1, 2, 3, 0] rfl (h0 (v3 + 1) (ok_some h))
    · have h := ok_t hc h
      refine ax_iload_n 3 d_MO_known_28 rfl rfl 29 rfl ?_
      exact ax_iret rfl d_MO_known_29 (hR v3 (ok_some h))
theorem c_MO_known_L2 (v1 : Int32) (v2 : Int32) (v3 : Int32) (m : zM)  {Q : Option Value → zM → Prop} {K : Int32 → Prop} (hR : ∀ p : Int32, K (p) → Q (some (.int p)) m)  (h : ok (f_MO_known_L2 v1 v2 v3 m) K) : AX gM s_MO_known 2 [(0, .ref 0), (1, .int v1), (2, .int v2), (3, .int v3)] [] m Q :=
  ok_lp (K := K) (G := fun s : Int32 => AX gM s_MO_known 2 [(0, .ref 0), (1, .int v1), (2, .int v2), (3, .int s)] [] m Q) (fun s h => c_MO_known_B2 v1 v2 s m  (fun p hp => hR p hp) (fun s hs => hs) h) FU v3 h
set_option maxRecDepth 4000 in
theorem zc_MO_known (v1 : Int32) (v2 : Int32) (m : zM)  {Q : Option Value → zM → Prop} (h : ok (f_MO_known v1 v2 m) (fun p => Q (some (.int p)) m)) : zc gM s_MO_known [.ref 0, .int v1, .int v2] m Q := by
  refine zc_of rfl (Nat.le_of_ble_eq_true rfl) ?_
  show AX gM s_MO_known 0 [(0, .ref 0), (1, .int v1), (2, .int v2)] [] m Q
  obtain ⟨K, hK⟩ : ∃ K : Int32 → Prop, K = (fun p : Int32 => Q (some (.int p)) m) := ⟨_, rfl⟩
  have hR : ∀ p : Int32, K p → Q (some (.int p)) m := fun p hp => by rw [hK] at hp; exact hp
  replace h : ok (f_MO_known v1 v2 m) (fun p : Int32 => Q (some (.int p)) m) := h
  rw [← hK] at h
  unfold f_MO_known at h
  refine ax_iconst 0 d_MO_known_0 ic_0 1 rfl ?_
  refine ax_istore_n (ls1 := [(3, .int 0), (0, .ref 0), (1, .int v1), (2, .int v2)]) d_MO_known_1 rfl (Nat.le_of_ble_eq_true rfl) rfl 2 rfl ?_
  exact ax_sub [1, 2, 3, 0] rfl (c_MO_known_L2 v1 v2 0 m (fun p hp => hR p hp) h)
set_option maxRecDepth 4000 in
theorem zc_MO_takesSign (v1 : Int32) (m : zM)  {Q : Option Value → zM → Prop} (h : ok (f_MO_takesSign v1 m) (fun p => Q (some (.int (b2i p.1))) p.2)) : zc gM s_MO_takesSign [.ref 0, .int v1] m Q := by
  refine zc_of rfl (Nat.le_of_ble_eq_true rfl) ?_
  show AX gM s_MO_takesSign 0 [(0, .ref 0), (1, .int v1)] [] m Q
  obtain ⟨K, hK⟩ : ∃ K : (Bool × zM) → Prop, K = (fun p : Bool × zM => Q (some (.int (b2i p.1))) p.2) := ⟨_, rfl⟩
  have hR : ∀ p : Bool × zM, K p → Q (some (.int (b2i p.1))) p.2 := fun p hp => by rw [hK] at hp; exact hp
  replace h : ok (f_MO_takesSign v1 m) (fun p : Bool × zM => Q (some (.int (b2i p.1))) p.2) := h
  rw [← hK] at h
  unfold f_MO_takesSign at h
  refine ax_aload_n 0 d_MO_takesSign_0 rfl rfl 1 rfl ?_
  refine ax_getI fl_MO_217 m_0 rfl d_MO_takesSign_1 4 rfl ?_
  refine ax_if_ne 15 7 d_MO_takesSign_4 rfl rfl (fun hc => ?_) (fun hc => ?_)
  · have h := ok_f hc h
    refine ax_iconst 0 d_MO_takesSign_15 ic_0 16 rfl ?_
    exact ax_zret (b := false) rfl d_MO_takesSign_16 (hR (false, m) (ok_some h))
  · have h := ok_t hc h
    refine ax_aload_n 0 d_MO_takesSign_7 rfl rfl 8 rfl ?_
    refine ax_callV mv_MO_229 ⟨Nat.le_of_ble_eq_true rfl, Nat.le_of_ble_eq_true rfl⟩ ⟨rfl, rfl⟩ [] [.ref 0] rfl rfl (rc_m_0 _) (Nat.le_of_ble_eq_true rfl) d_MO_takesSign_8 11 rfl (zc_MO_look m (ok_b h (fun p1 h => ?_)))
    refine ax_iload_n 1 d_MO_takesSign_11 rfl rfl 12 rfl ?_
    refine ax_icmp_eq 17 15 d_MO_takesSign_12 rfl rfl (fun hc => ?_) (fun hc => ?_)
    · have h := ok_t hc h
      refine ax_aload_n 0 d_MO_takesSign_17 rfl rfl 18 rfl ?_
      refine ax_dup d_MO_takesSign_18 rfl 19 rfl ?_
      refine ax_getI fl_MO_223 m_0 rfl d_MO_takesSign_19 22 rfl ?_
      refine ax_iconst 1 d_MO_takesSign_22 ic_1 23 rfl ?_
      refine ax_iadd d_MO_takesSign_23 24 rfl ?_
      refine ax_putI (K := K) fl_MO_223 m_0 rfl rfl rfl (Nat.le_of_ble_eq_true rfl) d_MO_takesSign_24 27 rfl h (fun m2 h => ?_)
      refine ax_iconst 1 d_MO_takesSign_27 ic_1 28 rfl ?_
      exact ax_zret (b := true) rfl d_MO_takesSign_28 (hR (true, m2) (ok_some h))
    · have h := ok_f hc h
      refine ax_iconst 0 d_MO_takesSign_15 ic_0 16 rfl ?_
      exact ax_zret (b := false) rfl d_MO_takesSign_16 (hR (false, p1.2) (ok_some h))
set_option maxRecDepth 4000 in
theorem c_MO_newNames_J87 (v1 : Int32) (v2 : Int32) (v3 : Int32) (m : zM)  {Q : Option Value → zM → Prop} {K : ((zM) ⊕ (Int32 × zM)) → Prop} (hR : ∀ p : zM, K (.inl p) → Q none p) (h0 : ∀ s : Int32 × zM, K (.inr s) → AX gM s_MO_newNames 2 [(0, .ref 0), (1, .int v1), (2, .int s.1)] [] s.2 Q) (h : ok (f_MO_newNames_J87 v1 v2 v3 m) K) : AX gM s_MO_newNames 87 [(0, .ref 0), (1, .int v1), (2, .int v2), (3, .int v3)] [] m Q := by
  unfold f_MO_newNames_J87 at h
  refine ax_aload_n 0 d_MO_newNames_87 rfl rfl 88 rfl ?_
  refine ax_getI fl_MO_217 m_0 rfl d_MO_newNames_88 91 rfl ?_
  refine ax_if_eq 95 94 d_MO_newNames_91 rfl rfl (fun hc => ?_) (fun hc => ?_)
  · have h := ok_t hc h
    refine ax_aload_n 0 d_MO_newNames_95 rfl rfl 96 rfl ?_
    refine ax_getR fl_MO_78 m_0 rfl (rm_0_30 _) d_MO_newNames_96 99 rfl ?_
    refine ax_iload_n 1 d_MO_newNames_99 rfl rfl 100 rfl ?_
    refine ax_iload_n 2 d_MO_newNames_100 rfl rfl 101 rfl ?_
    refine ax_callS mv_MO_263 ⟨Nat.le_of_ble_eq_true rfl, Nat.le_of_ble_eq_true rfl⟩ ⟨rfl, rfl⟩ [.int v1, .int v2] [.int v2, .int v1, .ref 22] rfl rfl (Nat.le_of_ble_eq_true rfl) d_MO_newNames_101 104 rfl (zc_MO_nameAt v1 v2 m ?_)
    refine ax_iload_n 3 d_MO_newNames_104 rfl rfl 105 rfl ?_
    refine ax_iastore m_22 d_MO_newNames_105 106 rfl h (fun i7 m8 h => ?_)
    refine ax_iinc (ls1 := [(2, .int (v2 + 1)), (0, .ref 0), (1, .int v1), (3, .int v3)]) 2 1 d_MO_newNames_106 rfl ic_1 (Nat.le_of_ble_eq_true rfl) rfl 109 rfl ?_
    refine ax_aload_n 1 d_MO_newNames_109 rfl rfl 110 rfl ?_
    refine ax_getR fl_MO_78 m_0 rfl (rm_0_30 _) d_MO_newNames_110 113 rfl ?_
    refine ax_iconst 0 d_MO_newNames_113 ic_0 114 rfl ?_
    refine ax_iload_n 2 d_MO_newNames_114 rfl rfl 115 rfl ?_
    refine ax_iadd d_MO_newNames_115 116 rfl ?_
    refine ax_iload_n 0 d_MO_newNames_116 rfl rfl 117 rfl ?_
    refine ax_iastore m_22 d_MO_newNames_117 118 rfl h (fun i9 m10 h => ?_)
    refine ax_aload_n 1 d_MO_newNames_118 rfl rfl 119 rfl ?_
    refine ax_bipush 44 d_MO_newNames_119 bp_44 121 rfl ?_
    refine ax_callV mv_MO_250 ⟨Nat.le_of_ble_eq_true rfl, Nat.le_of_ble_eq_true rfl⟩ ⟨rfl, rfl⟩ [.int 44] [.int 44, .ref 0] rfl rfl (rc_m_0 _) (Nat.le_of_ble_eq_true rfl) d_MO_newNames_121 124 rfl (zc_MO_takesSign 44 m10 (ok_b h (fun p11 h => ?_)))
    refine ax_ifb_ne 2 127 d_MO_newNames_124 rfl rfl (fun hc => ?_) (fun hc => ?_)
    · have h := ok_t hc h
      exact ax_sub [1, 2, 0] rfl (h0 ((v2 + 1), p11.2) (ok_some h))
    · have h := ok_f (bf hc) h
      exact ax_vret rfl d_MO_newNames_127 (hR p11.2 (ok_some h))
  · have h := ok_f hc h
    exact ax_vret rfl d_MO_newNames_94 (hR m (ok_some h))
set_option maxRecDepth 4000 in
theorem c_MO_newNames_J78 (v1 : Int32) (v2 : Int32) (v3 : Int32) (m : zM)  {Q : Option Value → zM → Prop} {K : ((zM) ⊕ (Int32 × zM)) → Prop} (hR : ∀ p : zM, K (.inl p) → Q none p) (h0 : ∀ s : Int32 × zM, K (.inr s) → AX gM s_MO_newNames 2 [(0, .ref 0), (1, .int v1), (2, .int s.1)] [] s.2 Q) (h : ok (f_MO_newNames_J78 v1 v2 v3 m) K) : AX gM s_MO_newNames 78 [(0, .ref 0), (1, .int v1), (2, .int v2), (3, .int v3)] [] m Q := by
  unfold f_MO_newNames_J78 at h
  refine ax_aload_n 0 d_MO_newNames_78 rfl rfl 79 rfl ?_
  refine ax_iconst 3 d_MO_newNames_79 ic_3 80 rfl ?_
  refine ax_aload_n 0 d_MO_newNames_80 rfl rfl 81 rfl ?_
  refine ax_getI fl_MO_260 m_0 rfl d_MO_newNames_81 84 rfl ?_
  refine ax_callV mv_MO_246 ⟨Nat.le_of_ble_eq_true rfl, Nat.le_of_ble_eq_true rfl⟩ ⟨rfl, rfl⟩ [.int 3, .int (m.1 0 29)] [.int (m.1 0 29), .int 3, .ref 0] rfl rfl (rc_m_0 _) (Nat.le_of_ble_eq_true rfl) d_MO_newNames_84 87 rfl (zc_MO_fail 3 (m.1 0 29) m ?_)
  refine ok_l (G := fun p => AX gM s_MO_newNames 87 [(0, .ref 0), (1, .int v1), (2, .int v2), (3, .int v3)] [] p Q) h (fun p12 h => ?_)
  exact ax_sub [0, 1, 2, 3] rfl (c_MO_newNames_J87 v1 v2 v3 p12 (fun p hp => hR p hp) (fun s hs => h0 s hs) h)
set_option maxRecDepth 4000 in
theorem c_MO_newNames_J36 (v1 : Int32) (v2 : Int32) (m : zM)  {Q : Option Value → zM → Prop} {K : ((zM) ⊕ (Int32 × zM)) → Prop} (hR : ∀ p : zM, K (.inl p) → Q none p) (h0 : ∀ s : Int32 × zM, K (.inr s) → AX gM s_MO_newNames 2 [(0, .ref 0), (1, .int v1), (2, .int s.1)] [] s.2 Q) (h : ok (f_MO_newNames_J36 v1 v2 m) K) : AX gM s_MO_newNames 36 [(0, .ref 0), (1, .int v1), (2, .int v2)] [] m Q := by
  unfold f_MO_newNames_J36 at h
  refine ax_aload_n 0 d_MO_newNames_36 rfl rfl 37 rfl ?_
  refine ax_callV mv_MO_267 ⟨Nat.le_of_ble_eq_true rfl, Nat.le_of_ble_eq_true rfl⟩ ⟨rfl, rfl⟩ [] [.ref 0] rfl rfl (rc_m_0 _) (Nat.le_of_ble_eq_true rfl) d_MO_newNames_37 40 rfl (zc_MO_name m (ok_b h (fun p3 h => ?_)))
  refine ax_istore_n (ls1 := [(3, .int p3.1), (0, .ref 0), (1, .int v1), (2, .int v2)]) d_MO_newNames_40 rfl (Nat.le_of_ble_eq_true rfl) rfl 41 rfl ?_
  refine ax_aload_n 1 d_MO_newNames_41 rfl rfl 42 rfl ?_
  refine ax_getI fl_MO_217 m_0 rfl d_MO_newNames_42 45 rfl ?_
  refine ax_if_ne 87 48 d_MO_newNames_45 rfl rfl (fun hc => ?_) (fun hc => ?_)
  · have h := ok_f hc h
    exact ax_sub [1, 2, 3, 0] rfl (c_MO_newNames_J87 v1 v2 p3.1 p3.2 (fun p hp => hR p hp) (fun s hs => h0 s hs) h)
  · have h := ok_t hc h
    refine ax_aload_n 1 d_MO_newNames_48 rfl rfl 49 rfl ?_
    refine ax_iconst 0 d_MO_newNames_49 ic_0 50 rfl ?_
    refine ax_iload_n 0 d_MO_newNames_50 rfl rfl 51 rfl ?_
    refine ax_callV mv_MO_270 ⟨Nat.le_of_ble_eq_true rfl, Nat.le_of_ble_eq_true rfl⟩ ⟨rfl, rfl⟩ [.int 0, .int p3.1] [.int p3.1, .int 0, .ref 0] rfl rfl (rc_m_0 _) (Nat.le_of_ble_eq_true rfl) d_MO_newNames_51 54 rfl (zc_MO_known 0 p3.1 p3.2 (ok_b h (fun r4 h => ?_)))
    refine ax_iconst (-1) d_MO_newNames_54 ic_m1 55 rfl ?_
    refine ax_icmp_ne 78 58 d_MO_newNames_55 rfl rfl (fun hc => ?_) (fun hc => ?_)
    · have h := ok_f hc h
      exact ax_sub [1, 2, 3, 0] rfl (c_MO_newNames_J78 v1 v2 p3.1 p3.2 (fun p hp => hR p hp) (fun s hs => h0 s hs) h)
    · have h := ok_t hc h
      refine ax_aload_n 1 d_MO_newNames_58 rfl rfl 59 rfl ?_
      refine ax_iconst 1 d_MO_newNames_59 ic_1 60 rfl ?_
      refine ax_iload_n 0 d_MO_newNames_60 rfl rfl 61 rfl ?_
      refine ax_callV mv_MO_270 ⟨Nat.le_of_ble_eq_true rfl, Nat.le_of_ble_eq_true rfl⟩ ⟨rfl, rfl⟩ [.int 1, .int p3.1] [.int p3.1, .int 1, .ref 0] rfl rfl (rc_m_0 _) (Nat.le_of_ble_eq_true rfl) d_MO_newNames_61 64 rfl (zc_MO_known 1 p3.1 p3.2 (ok_b h (fun r5 h => ?_)))
      refine ax_iconst (-1) d_MO_newNames_64 ic_m1 65 rfl ?_
      refine ax_icmp_ne 78 68 d_MO_newNames_65 rfl rfl (fun hc => ?_) (fun hc => ?_)
      · have h := ok_f hc h
        exact ax_sub [1, 2, 3, 0] rfl (c_MO_newNames_J78 v1 v2 p3.1 p3.2 (fun p hp => hR p hp) (fun s hs => h0 s hs) h)
      · have h := ok_t hc h
        refine ax_aload_n 1 d_MO_newNames_68 rfl rfl 69 rfl ?_
        refine ax_iconst 2 d_MO_newNames_69 ic_2 70 rfl ?_
        refine ax_iload_n 0 d_MO_newNames_70 rfl rfl 71 rfl ?_
        refine ax_callV mv_MO_270 ⟨Nat.le_of_ble_eq_true rfl, Nat.le_of_ble_eq_true rfl⟩ ⟨rfl, rfl⟩ [.int 2, .int p3.1] [.int p3.1, .int 2, .ref 0] rfl rfl (rc_m_0 _) (Nat.le_of_ble_eq_true rfl) d_MO_newNames_71 74 rfl (zc_MO_known 2 p3.1 p3.2 (ok_b h (fun r6 h => ?_)))
        refine ax_iconst (-1) d_MO_newNames_74 ic_m1 75 rfl ?_
        refine ax_icmp_eq 87 78 d_MO_newNames_75 rfl rfl (fun hc => ?_) (fun hc => ?_)
        · have h := ok_t hc h
          exact ax_sub [1, 2, 3, 0] rfl (c_MO_newNames_J87 v1 v2 p3.1 p3.2 (fun p hp => hR p hp) (fun s hs => h0 s hs) h)
        · have h := ok_f hc h
          exact ax_sub [1, 2, 3, 0] rfl (c_MO_newNames_J78 v1 v2 p3.1 p3.2 (fun p hp => hR p hp) (fun s hs => h0 s hs) h)
set_option maxRecDepth 4000 in
theorem c_MO_newNames_J29 (v1 : Int32) (v2 : Int32) (t1 : Int32) (m : zM)  {Q : Option Value → zM → Prop} {K : ((zM) ⊕ (Int32 × zM)) → Prop} (hR : ∀ p : zM, K (.inl p) → Q none p) (h0 : ∀ s : Int32 × zM, K (.inr s) → AX gM s_MO_newNames 2 [(0, .ref 0), (1, .int v1), (2, .int s.1)] [] s.2 Q) (h : ok (f_MO_newNames_J29 v1 v2 t1 m) K) : AX gM s_MO_newNames 29 [(0, .ref 0), (1, .int v1), (2, .int v2)] [.int t1, .ref 0] m Q := by
  unfold f_MO_newNames_J29 at h
  refine ax_aload_n 0 d_MO_newNames_29 rfl rfl 30 rfl ?_
  refine ax_getI fl_MO_223 m_0 rfl d_MO_newNames_30 33 rfl ?_
  refine ax_callV mv_MO_246 ⟨Nat.le_of_ble_eq_true rfl, Nat.le_of_ble_eq_true rfl⟩ ⟨rfl, rfl⟩ [.int t1, .int (m.1 0 2)] [.int (m.1 0 2), .int t1, .ref 0] rfl rfl (rc_m_0 _) (Nat.le_of_ble_eq_true rfl) d_MO_newNames_33 36 rfl (zc_MO_fail t1 (m.1 0 2) m ?_)
  refine ok_l (G := fun p => AX gM s_MO_newNames 36 [(0, .ref 0), (1, .int v1), (2, .int v2)] [] p Q) h (fun p2 h => ?_)
  exact ax_sub [0, 1, 2] rfl (c_MO_newNames_J36 v1 v2 p2 (fun p hp => hR p hp) (fun s hs => h0 s hs) h)
set_option maxRecDepth 4000 in
theorem c_MO_newNames_B2 (v1 : Int32) (v2 : Int32) (m : zM)  {Q : Option Value → zM → Prop} {K : ((zM) ⊕ (Int32 × zM)) → Prop} (hR : ∀ p : zM, K (.inl p) → Q none p) (h0 : ∀ s : Int32 × zM, K (.inr s) → AX gM s_MO_newNames 2 [(0, .ref 0), (1, .int v1), (2, .int s.1)] [] s.2 Q) (h : ok (f_MO_newNames_B2 v1 v2 m) K) : AX gM s_MO_newNames 2 [(0, .ref 0), (1, .int v1), (2, .int v2)] [] m Q := by
  unfold f_MO_newNames_B2 at h
  refine ax_aload_n 0 d_MO_newNames_2 rfl rfl 3 rfl ?_
  refine ax_getI fl_MO_217 m_0 rfl d_MO_newNames_3 6 rfl ?_
  refine ax_if_ne 36 9 d_MO_newNames_6 rfl rfl (fun hc => ?_) (fun hc => ?_)
  · have h := ok_f hc h
    exact ax_sub [0, 1, 2] rfl (c_MO_newNames_J36 v1 v2 m (fun p hp => hR p hp) (fun s hs => h0 s hs) h)
  · have h := ok_t hc h
    refine ax_iload_n 2 d_MO_newNames_9 rfl rfl 10 rfl ?_
    refine ax_bipush 6 d_MO_newNames_10 bp_6 12 rfl ?_
    refine ax_icmp_ne 36 15 d_MO_newNames_12 rfl rfl (fun hc => ?_) (fun hc => ?_)
    · have h := ok_f hc h
      exact ax_sub [0, 1, 2] rfl (c_MO_newNames_J36 v1 v2 m (fun p hp => hR p hp) (fun s hs => h0 s hs) h)
    · have h := ok_t hc h
      refine ax_aload_n 0 d_MO_newNames_15 rfl rfl 16 rfl ?_
      refine ax_aload_n 0 d_MO_newNames_16 rfl rfl 17 rfl ?_
      refine ax_callV mv_MO_229 ⟨Nat.le_of_ble_eq_true rfl, Nat.le_of_ble_eq_true rfl⟩ ⟨rfl, rfl⟩ [] [.ref 0, .ref 0] rfl rfl (rc_m_0 _) (Nat.le_of_ble_eq_true rfl) d_MO_newNames_17 20 rfl (zc_MO_look m (ok_b h (fun p1 h => ?_)))
      refine ax_iconst (-1) d_MO_newNames_20 ic_m1 21 rfl ?_
      refine ax_icmp_ne 28 24 d_MO_newNames_21 rfl rfl (fun hc => ?_) (fun hc => ?_)
      · have h := ok_f hc h
        refine ax_iconst 5 d_MO_newNames_28 ic_5 29 rfl ?_
        exact ax_sub [0, 1, 2] rfl (c_MO_newNames_J29 v1 v2 5 p1.2 (fun p hp => hR p hp) (fun s hs => h0 s hs) h)
      · have h := ok_t hc h
        refine ax_iconst 1 d_MO_newNames_24 ic_1 25 rfl ?_
        refine ax_goto 29 d_MO_newNames_25 rfl ?_
        exact ax_sub [0, 1, 2] rfl (c_MO_newNames_J29 v1 v2 1 p1.2 (fun p hp => hR p hp) (fun s hs => h0 s hs) h)
theorem c_MO_newNames_L2 (v1 : Int32) (v2 : Int32) (m : zM)  {Q : Option Value → zM → Prop} {K : zM → Prop} (hR : ∀ p : zM, K (p) → Q none p)  (h : ok (f_MO_newNames_L2 v1 v2 m) K) : AX gM s_MO_newNames 2 [(0, .ref 0), (1, .int v1), (2, .int v2)] [] m Q :=
  ok_lp (K := K) (G := fun s : Int32 × zM => AX gM s_MO_newNames 2 [(0, .ref 0), (1, .int v1), (2, .int s.1)] [] s.2 Q) (fun s h => c_MO_newNames_B2 v1 s.1 s.2  (fun p hp => hR p hp) (fun s hs => hs) h) FU (v2, m) h
set_option maxRecDepth 4000 in
theorem zc_MO_newNames (v1 : Int32) (m : zM)  {Q : Option Value → zM → Prop} (h : ok (f_MO_newNames v1 m) (fun p => Q none p)) : zc gM s_MO_newNames [.ref 0, .int v1] m Q := by
  refine zc_of rfl (Nat.le_of_ble_eq_true rfl) ?_
  show AX gM s_MO_newNames 0 [(0, .ref 0), (1, .int v1)] [] m Q
  obtain ⟨K, hK⟩ : ∃ K : zM → Prop, K = (fun p : zM => Q none p) := ⟨_, rfl⟩
  have hR : ∀ p : zM, K p → Q none p := fun p hp => by rw [hK] at hp; exact hp
  replace h : ok (f_MO_newNames v1 m) (fun p : zM => Q none p) := h
  rw [← hK] at h
  unfold f_MO_newNames at h
  refine ax_iconst 0 d_MO_newNames_0 ic_0 1 rfl ?_
  refine ax_istore_n (ls1 := [(2, .int 0), (0, .ref 0), (1, .int v1)]) d_MO_newNames_1 rfl (Nat.le_of_ble_eq_true rfl) rfl 2 rfl ?_
  exact ax_sub [1, 2, 0] rfl (c_MO_newNames_L2 v1 0 m (fun p hp => hR p hp) h)
set_option maxRecDepth 4000 in
theorem zc_MO_asksSign (v1 : Int32) (m : zM)  {Q : Option Value → zM → Prop} (h : ok (f_MO_asksSign v1 m) (fun p => Q none p)) : zc gM s_MO_asksSign [.ref 0, .int v1] m Q := by
  refine zc_of rfl (Nat.le_of_ble_eq_true rfl) ?_
  show AX gM s_MO_asksSign 0 [(0, .ref 0), (1, .int v1)] [] m Q
  obtain ⟨K, hK⟩ : ∃ K : zM → Prop, K = (fun p : zM => Q none p) := ⟨_, rfl⟩
  have hR : ∀ p : zM, K p → Q none p := fun p hp => by rw [hK] at hp; exact hp
  replace h : ok (f_MO_asksSign v1 m) (fun p : zM => Q none p) := h
  rw [← hK] at h
  unfold f_MO_asksSign at h
  refine ax_aload_n 0 d_MO_asksSign_0 rfl rfl 1 rfl ?_
  refine ax_getI fl_MO_217 m_0 rfl d_MO_asksSign_1 4 rfl ?_
  refine ax_if_ne 24 7 d_MO_asksSign_4 rfl rfl (fun hc => ?_) (fun hc => ?_)
  · have h := ok_f hc h
    exact ax_vret rfl d_MO_asksSign_24 (hR m (ok_some h))
  · have h := ok_t hc h
    refine ax_aload_n 0 d_MO_asksSign_7 rfl rfl 8 rfl ?_
    refine ax_iload_n 1 d_MO_asksSign_8 rfl rfl 9 rfl ?_
    refine ax_callV mv_MO_250 ⟨Nat.le_of_ble_eq_true rfl, Nat.le_of_ble_eq_true rfl⟩ ⟨rfl, rfl⟩ [.int v1] [.int v1, .ref 0] rfl rfl (rc_m_0 _) (Nat.le_of_ble_eq_true rfl) d_MO_asksSign_9 12 rfl (zc_MO_takesSign v1 m (ok_b h (fun p1 h => ?_)))
    refine ax_ifb_ne 24 15 d_MO_asksSign_12 rfl rfl (fun hc => ?_) (fun hc => ?_)
    · have h := ok_t hc h
      exact ax_vret rfl d_MO_asksSign_24 (hR p1.2 (ok_some h))
    · have h := ok_f (bf hc) h
      refine ax_aload_n 0 d_MO_asksSign_15 rfl rfl 16 rfl ?_
      refine ax_iconst 1 d_MO_asksSign_16 ic_1 17 rfl ?_
      refine ax_aload_n 0 d_MO_asksSign_17 rfl rfl 18 rfl ?_
      refine ax_getI fl_MO_223 m_0 rfl d_MO_asksSign_18 21 rfl ?_
      refine ax_callV mv_MO_246 ⟨Nat.le_of_ble_eq_true rfl, Nat.le_of_ble_eq_true rfl⟩ ⟨rfl, rfl⟩ [.int 1, .int (p1.2.1 0 2)] [.int (p1.2.1 0 2), .int 1, .ref 0] rfl rfl (rc_m_0 _) (Nat.le_of_ble_eq_true rfl) d_MO_asksSign_21 24 rfl (zc_MO_fail 1 (p1.2.1 0 2) p1.2 ?_)
      refine ok_l (G := fun p => AX gM s_MO_asksSign 24 [(0, .ref 0), (1, .int v1)] [] p Q) h (fun p2 h => ?_)
      exact ax_vret rfl d_MO_asksSign_24 (hR p2 (ok_some h))
set_option maxRecDepth 4000 in
theorem c_MO_isOnce_J25 (v2 : Int32) (m : zM)  {Q : Option Value → zM → Prop} {K : (Bool × zM) → Prop} (hR : ∀ p : Bool × zM, K (p) → Q (some (.int (b2i p.1))) p.2)  (h : ok (f_MO_isOnce_J25 v2 m) K) : AX gM s_MO_isOnce 25 [(0, .ref 0), (2, .int v2)] [] m Q := by
  unfold f_MO_isOnce_J25 at h
  refine ax_aload_n 0 d_MO_isOnce_25 rfl rfl 26 rfl ?_
  refine ax_dup d_MO_isOnce_26 rfl 27 rfl ?_
  refine ax_getI fl_MO_286 m_0 rfl d_MO_isOnce_27 30 rfl ?_
  refine ax_iload_n 1 d_MO_isOnce_30 rfl rfl 31 rfl ?_
  refine ax_ior d_MO_isOnce_31 32 rfl ?_
  refine ax_putI (K := K) fl_MO_286 m_0 rfl rfl rfl (Nat.le_of_ble_eq_true rfl) d_MO_isOnce_32 35 rfl h (fun m3 h => ?_)
  refine ax_iconst 1 d_MO_isOnce_35 ic_1 36 rfl ?_
  exact ax_zret (b := true) rfl d_MO_isOnce_36 (hR (true, m3) (ok_some h))
set_option maxRecDepth 4000 in
theorem zc_MO_isOnce (v1 : Nat) (v2 : Int32) (v3 : Int32) (m : zM) (hv1 : gM.1[v1]? = some (.inr (2, zlen gM v1))) {Q : Option Value → zM → Prop} (h : ok (f_MO_isOnce v1 v2 v3 m) (fun p => Q (some (.int (b2i p.1))) p.2)) : zc gM s_MO_isOnce [.ref 0, .ref v1, .int v2, .int v3] m Q := by
  refine zc_of rfl (Nat.le_of_ble_eq_true rfl) ?_
  show AX gM s_MO_isOnce 0 [(0, .ref 0), (1, .ref v1), (2, .int v2), (3, .int v3)] [] m Q
  obtain ⟨K, hK⟩ : ∃ K : (Bool × zM) → Prop, K = (fun p : Bool × zM => Q (some (.int (b2i p.1))) p.2) := ⟨_, rfl⟩
  have hR : ∀ p : Bool × zM, K p → Q (some (.int (b2i p.1))) p.2 := fun p hp => by rw [hK] at hp; exact hp
  replace h : ok (f_MO_isOnce v1 v2 v3 m) (fun p : Bool × zM => Q (some (.int (b2i p.1))) p.2) := h
  rw [← hK] at h
  unfold f_MO_isOnce at h
  refine ax_aload_n 0 d_MO_isOnce_0 rfl rfl 1 rfl ?_
  refine ax_aload_n 1 d_MO_isOnce_1 rfl rfl 2 rfl ?_
  refine ax_callV mv_MO_243 ⟨Nat.le_of_ble_eq_true rfl, Nat.le_of_ble_eq_true rfl⟩ ⟨rfl, rfl⟩ [.ref v1] [.ref v1, .ref 0] rfl rfl (rc_m_0 _) (Nat.le_of_ble_eq_true rfl) d_MO_isOnce_2 5 rfl (zc_MO_takes v1 m hv1 (ok_b h (fun p1 h => ?_)))
  refine ax_ifb_ne 10 8 d_MO_isOnce_5 rfl rfl (fun hc => ?_) (fun hc => ?_)
  · have h := ok_t hc h
    refine ax_aload_n 0 d_MO_isOnce_10 rfl rfl 11 rfl ?_
    refine ax_getI fl_MO_286 m_0 rfl d_MO_isOnce_11 14 rfl ?_
    refine ax_iload_n 2 d_MO_isOnce_14 rfl rfl 15 rfl ?_
    refine ax_iand d_MO_isOnce_15 16 rfl ?_
    refine ax_if_eq 25 19 d_MO_isOnce_16 rfl rfl (fun hc => ?_) (fun hc => ?_)
    · have h := ok_t hc h
      exact ax_sub [0, 2] rfl (c_MO_isOnce_J25 v2 p1.2 (fun p hp => hR p hp) h)
    · have h := ok_f hc h
      refine ax_aload_n 0 d_MO_isOnce_19 rfl rfl 20 rfl ?_
      refine ax_iconst 5 d_MO_isOnce_20 ic_5 21 rfl ?_
      refine ax_iload_n 3 d_MO_isOnce_21 rfl rfl 22 rfl ?_
      refine ax_callV mv_MO_246 ⟨Nat.le_of_ble_eq_true rfl, Nat.le_of_ble_eq_true rfl⟩ ⟨rfl, rfl⟩ [.int 5, .int v3] [.int v3, .int 5, .ref 0] rfl rfl (rc_m_0 _) (Nat.le_of_ble_eq_true rfl) d_MO_isOnce_22 25 rfl (zc_MO_fail 5 v3 p1.2 ?_)
      refine ok_l (G := fun p => AX gM s_MO_isOnce 25 [(0, .ref 0), (1, .ref v1), (2, .int v2), (3, .int v3)] [] p Q) h (fun p2 h => ?_)
      exact ax_sub [0, 2] rfl (c_MO_isOnce_J25 v2 p2 (fun p hp => hR p hp) h)
  · have h := ok_f (bf hc) h
    refine ax_iconst 0 d_MO_isOnce_8 ic_0 9 rfl ?_
    exact ax_zret (b := false) rfl d_MO_isOnce_9 (hR (false, p1.2) (ok_some h))
set_option maxRecDepth 4000 in
theorem c_MO_named_J22 (t0 : Int32) (m : zM)  {Q : Option Value → zM → Prop} {K : (Int32 × zM) → Prop} (hR : ∀ p : Int32 × zM, K (p) → Q (some (.int p.1)) p.2)  (h : ok (f_MO_named_J22 t0 m) K) : AX gM s_MO_named 22 [(0, .ref 0)] [.int t0] m Q := by
  unfold f_MO_named_J22 at h
  refine ax_istore_n (ls1 := [(3, .int t0), (0, .ref 0)]) d_MO_named_22 rfl (Nat.le_of_ble_eq_true rfl) rfl 23 rfl ?_
  refine ax_aload_n 1 d_MO_named_23 rfl rfl 24 rfl ?_
  refine ax_getI fl_MO_217 m_0 rfl d_MO_named_24 27 rfl ?_
  refine ax_if_ne 44 30 d_MO_named_27 rfl rfl (fun hc => ?_) (fun hc => ?_)
  · have h := ok_f hc h
    refine ax_iload_n 0 d_MO_named_44 rfl rfl 45 rfl ?_
    exact ax_iret rfl d_MO_named_45 (hR (t0, m) (ok_some h))
  · have h := ok_t hc h
    refine ax_iload_n 0 d_MO_named_30 rfl rfl 31 rfl ?_
    refine ax_iconst (-1) d_MO_named_31 ic_m1 32 rfl ?_
    refine ax_icmp_ne 44 35 d_MO_named_32 rfl rfl (fun hc => ?_) (fun hc => ?_)
    · have h := ok_f hc h
      refine ax_iload_n 0 d_MO_named_44 rfl rfl 45 rfl ?_
      exact ax_iret rfl d_MO_named_45 (hR (t0, m) (ok_some h))
    · have h := ok_t hc h
      refine ax_aload_n 1 d_MO_named_35 rfl rfl 36 rfl ?_
      refine ax_iconst 3 d_MO_named_36 ic_3 37 rfl ?_
      refine ax_aload_n 1 d_MO_named_37 rfl rfl 38 rfl ?_
      refine ax_getI fl_MO_260 m_0 rfl d_MO_named_38 41 rfl ?_
      refine ax_callV mv_MO_246 ⟨Nat.le_of_ble_eq_true rfl, Nat.le_of_ble_eq_true rfl⟩ ⟨rfl, rfl⟩ [.int 3, .int (m.1 0 29)] [.int (m.1 0 29), .int 3, .ref 0] rfl rfl (rc_m_0 _) (Nat.le_of_ble_eq_true rfl) d_MO_named_41 44 rfl (zc_MO_fail 3 (m.1 0 29) m ?_)
      refine ok_l (G := fun p => AX gM s_MO_named 44 [(3, .int t0), (0, .ref 0)] [] p Q) h (fun p3 h => ?_)
      refine ax_iload_n 0 d_MO_named_44 rfl rfl 45 rfl ?_
      exact ax_iret rfl d_MO_named_45 (hR (t0, p3) (ok_some h))
set_option maxRecDepth 4000 in
theorem zc_MO_named (v1 : Int32) (m : zM)  {Q : Option Value → zM → Prop} (h : ok (f_MO_named v1 m) (fun p => Q (some (.int p.1)) p.2)) : zc gM s_MO_named [.ref 0, .int v1] m Q := by
  refine zc_of rfl (Nat.le_of_ble_eq_true rfl) ?_
  show AX gM s_MO_named 0 [(0, .ref 0), (1, .int v1)] [] m Q
  obtain ⟨K, hK⟩ : ∃ K : (Int32 × zM) → Prop, K = (fun p : Int32 × zM => Q (some (.int p.1)) p.2) := ⟨_, rfl⟩
  have hR : ∀ p : Int32 × zM, K p → Q (some (.int p.1)) p.2 := fun p hp => by rw [hK] at hp; exact hp
  replace h : ok (f_MO_named v1 m) (fun p : Int32 × zM => Q (some (.int p.1)) p.2) := h
  rw [← hK] at h
  unfold f_MO_named at h
  refine ax_aload_n 0 d_MO_named_0 rfl rfl 1 rfl ?_
  refine ax_callV mv_MO_267 ⟨Nat.le_of_ble_eq_true rfl, Nat.le_of_ble_eq_true rfl⟩ ⟨rfl, rfl⟩ [] [.ref 0] rfl rfl (rc_m_0 _) (Nat.le_of_ble_eq_true rfl) d_MO_named_1 4 rfl (zc_MO_name m (ok_b h (fun p1 h => ?_)))
  refine ax_istore_n (ls1 := [(2, .int p1.1), (0, .ref 0), (1, .int v1)]) d_MO_named_4 rfl (Nat.le_of_ble_eq_true rfl) rfl 5 rfl ?_
  refine ax_aload_n 1 d_MO_named_5 rfl rfl 6 rfl ?_
  refine ax_getI fl_MO_217 m_0 rfl d_MO_named_6 9 rfl ?_
  refine ax_if_ne 21 12 d_MO_named_9 rfl rfl (fun hc => ?_) (fun hc => ?_)
  · have h := ok_f hc h
    refine ax_iconst 0 d_MO_named_21 ic_0 22 rfl ?_
    exact ax_sub [1] rfl (c_MO_named_J22 0 p1.2 (fun p hp => hR p hp) h)
  · have h := ok_t hc h
    refine ax_aload_n 1 d_MO_named_12 rfl rfl 13 rfl ?_
    refine ax_iload_n 2 d_MO_named_13 rfl rfl 14 rfl ?_
    refine ax_iload_n 0 d_MO_named_14 rfl rfl 15 rfl ?_
    refine ax_callV mv_MO_270 ⟨Nat.le_of_ble_eq_true rfl, Nat.le_of_ble_eq_true rfl⟩ ⟨rfl, rfl⟩ [.int v1, .int p1.1] [.int p1.1, .int v1, .ref 0] rfl rfl (rc_m_0 _) (Nat.le_of_ble_eq_true rfl) d_MO_named_15 18 rfl (zc_MO_known v1 p1.1 p1.2 (ok_b h (fun r2 h => ?_)))
    refine ax_goto 22 d_MO_named_18 rfl ?_
    exact ax_sub [1] rfl (c_MO_named_J22 r2 p1.2 (fun p hp => hR p hp) h)
set_option maxRecDepth 4000 in
theorem c_MO_neverTold_J111 (v1 : Int32) (v2 : Int32) (m : zM)  {Q : Option Value → zM → Prop} {K : zM → Prop} (hR : ∀ p : zM, K (p) → Q none p)  (h : ok (f_MO_neverTold_J111 v1 v2 m) K) : AX gM s_MO_neverTold 111 [(0, .ref 0), (1, .int v1), (2, .int v2)] [] m Q := by
  unfold f_MO_neverTold_J111 at h
  refine ax_aload_n 0 d_MO_neverTold_111 rfl rfl 112 rfl ?_
  refine ax_getR fl_MO_78 m_0 rfl (rm_0_30 _) d_MO_neverTold_112 115 rfl ?_
  refine ax_iload_n 1 d_MO_neverTold_115 rfl rfl 116 rfl ?_
  refine ax_iload_n 2 d_MO_neverTold_116 rfl rfl 117 rfl ?_
  refine ax_iastore m_22 d_MO_neverTold_117 118 rfl h (fun i11 m12 h => ?_)
  refine ax_aload_n 0 d_MO_neverTold_118 rfl rfl 119 rfl ?_
  refine ax_getR fl_MO_78 m_0 rfl (rm_0_30 _) d_MO_neverTold_119 122 rfl ?_
  refine ax_iconst 5 d_MO_neverTold_122 ic_5 123 rfl ?_
  refine ax_dup2 d_MO_neverTold_123 rfl rfl 124 rfl ?_
  refine ax_iaload m_22 d_MO_neverTold_124 125 rfl h (fun i13 h => ?_)
  refine ax_iconst 1 d_MO_neverTold_125 ic_1 126 rfl ?_
  refine ax_iadd d_MO_neverTold_126 127 rfl ?_
  refine ax_iastore m_22 d_MO_neverTold_127 128 rfl h (fun i14 m15 h => ?_)
  exact ax_vret rfl d_MO_neverTold_128 (hR m15 (ok_some h))
set_option maxRecDepth 4000 in
theorem c_MO_neverTold_J48 (v1 : Int32) (v2 : Int32) (m : zM)  {Q : Option Value → zM → Prop} {K : ((zM) ⊕ (Int32 × zM)) → Prop} (hR : ∀ p : zM, K (.inl p) → Q none p) (h0 : ∀ s : Int32 × zM, K (.inr s) → AX gM s_MO_neverTold 15 [(0, .ref 0), (1, .int v1), (2, .int s.1)] [] s.2 Q) (h : ok (f_MO_neverTold_J48 v1 v2 m) K) : AX gM s_MO_neverTold 48 [(0, .ref 0), (1, .int v1), (2, .int v2)] [] m Q := by
  unfold f_MO_neverTold_J48 at h
  refine ax_aload_n 0 d_MO_neverTold_48 rfl rfl 49 rfl ?_
  refine ax_iconst 1 d_MO_neverTold_49 ic_1 50 rfl ?_
  refine ax_iconst 4 d_MO_neverTold_50 ic_4 51 rfl ?_
  refine ax_callV mv_MO_273 ⟨Nat.le_of_ble_eq_true rfl, Nat.le_of_ble_eq_true rfl⟩ ⟨rfl, rfl⟩ [.int 1, .int 4] [.int 4, .int 1, .ref 0] rfl rfl (rc_m_0 _) (Nat.le_of_ble_eq_true rfl) d_MO_neverTold_51 54 rfl (zc_MO_number 1 4 m (ok_b h (fun p4 h => ?_)))
  refine ax_istore_n (ls1 := [(3, .int p4.1), (0, .ref 0), (1, .int v1), (2, .int v2)]) d_MO_neverTold_54 rfl (Nat.le_of_ble_eq_true rfl) rfl 55 rfl ?_
  refine ax_aload_n 1 d_MO_neverTold_55 rfl rfl 56 rfl ?_
  refine ax_iconst 0 d_MO_neverTold_56 ic_0 57 rfl ?_
  refine ax_callV mv_MO_276 ⟨Nat.le_of_ble_eq_true rfl, Nat.le_of_ble_eq_true rfl⟩ ⟨rfl, rfl⟩ [.int 0] [.int 0, .ref 0] rfl rfl (rc_m_0 _) (Nat.le_of_ble_eq_true rfl) d_MO_neverTold_57 60 rfl (zc_MO_named 0 p4.2 (ok_b h (fun p5 h => ?_)))
  refine ax_istore (ls1 := [(4, .int p5.1), (3, .int p4.1), (0, .ref 0), (1, .int v1), (2, .int v2)]) d_MO_neverTold_60 (Nat.le_of_ble_eq_true rfl) rfl 62 rfl ?_
  refine ax_aload_n 2 d_MO_neverTold_62 rfl rfl 63 rfl ?_
  refine ax_getI fl_MO_217 m_0 rfl d_MO_neverTold_63 66 rfl ?_
  refine ax_if_eq 70 69 d_MO_neverTold_66 rfl rfl (fun hc => ?_) (fun hc => ?_)
  · have h := ok_t hc h
    refine ax_aload_n 2 d_MO_neverTold_70 rfl rfl 71 rfl ?_
    refine ax_getR fl_MO_78 m_0 rfl (rm_0_30 _) d_MO_neverTold_71 74 rfl ?_
    refine ax_iload_n 3 d_MO_neverTold_74 rfl rfl 75 rfl ?_
    refine ax_iconst 1 d_MO_neverTold_75 ic_1 76 rfl ?_
    refine ax_iadd d_MO_neverTold_76 77 rfl ?_
    refine ax_iconst 2 d_MO_neverTold_77 ic_2 78 rfl ?_
    refine ax_iload_n 4 d_MO_neverTold_78 rfl rfl 79 rfl ?_
    refine ax_imul d_MO_neverTold_79 80 rfl ?_
    refine ax_iadd d_MO_neverTold_80 81 rfl ?_
    refine ax_iload_n 1 d_MO_neverTold_81 rfl rfl 82 rfl ?_
    refine ax_iastore m_22 d_MO_neverTold_82 83 rfl h (fun i6 m7 h => ?_)
    refine ax_aload_n 2 d_MO_neverTold_83 rfl rfl 84 rfl ?_
    refine ax_getR fl_MO_78 m_0 rfl (rm_0_30 _) d_MO_neverTold_84 87 rfl ?_
    refine ax_iload_n 3 d_MO_neverTold_87 rfl rfl 88 rfl ?_
    refine ax_iconst 2 d_MO_neverTold_88 ic_2 89 rfl ?_
    refine ax_iadd d_MO_neverTold_89 90 rfl ?_
    refine ax_iconst 2 d_MO_neverTold_90 ic_2 91 rfl ?_
    refine ax_iload_n 4 d_MO_neverTold_91 rfl rfl 92 rfl ?_
    refine ax_imul d_MO_neverTold_92 93 rfl ?_
    refine ax_iadd d_MO_neverTold_93 94 rfl ?_
    refine ax_iload 0 d_MO_neverTold_94 rfl 96 rfl ?_
    refine ax_iastore m_22 d_MO_neverTold_96 97 rfl h (fun i8 m9 h => ?_)
    refine ax_iinc (ls1 := [(2, .int (v2 + 1)), (4, .int p5.1), (3, .int p4.1), (0, .ref 0), (1, .int v1)]) 4 1 d_MO_neverTold_97 rfl ic_1 (Nat.le_of_ble_eq_true rfl) rfl 100 rfl ?_
    refine ax_aload_n 3 d_MO_neverTold_100 rfl rfl 101 rfl ?_
    refine ax_aload_n 3 d_MO_neverTold_101 rfl rfl 102 rfl ?_
    refine ax_getR fl_MO_45 m_0 rfl (rm_0_18 _) d_MO_neverTold_102 105 rfl ?_
    refine ax_callV mv_MO_243 ⟨Nat.le_of_ble_eq_true rfl, Nat.le_of_ble_eq_true rfl⟩ ⟨rfl, rfl⟩ [.ref 11] [.ref 11, .ref 0] rfl rfl (rc_m_0 _) (Nat.le_of_ble_eq_true rfl) d_MO_neverTold_105 108 rfl (zc_MO_takes 11 m9 m_11z (ok_b h (fun p10 h => ?_)))
    refine ax_ifb_ne 15 111 d_MO_neverTold_108 rfl rfl (fun hc => ?_) (fun hc => ?_)
    · have h := ok_t hc h
      exact ax_sub [3, 4, 0] rfl (h0 ((v2 + 1), p10.2) (ok_some h))
    · have h := ok_f (bf hc) h
      exact ax_sub [3, 4, 0] rfl (c_MO_neverTold_J111 v1 (v2 + 1) p10.2 (fun p hp => hR p hp) (ok_z h))
  · have h := ok_f hc h
    exact ax_vret rfl d_MO_neverTold_69 (hR p5.2 (ok_some h))
set_option maxRecDepth 4000 in
theorem c_MO_neverTold_J41 (v1 : Int32) (v2 : Int32) (t1 : Int32) (m : zM)  {Q : Option Value → zM → Prop} {K : ((zM) ⊕ (Int32 × zM)) → Prop} (hR : ∀ p : zM, K (.inl p) → Q none p) (h0 : ∀ s : Int32 × zM, K (.inr s) → AX gM s_MO_neverTold 15 [(0, .ref 0), (1, .int v1), (2, .int s.1)] [] s.2 Q) (h : ok (f_MO_neverTold_J41 v1 v2 t1 m) K) : AX gM s_MO_neverTold 41 [(0, .ref 0), (1, .int v1), (2, .int v2)] [.int t1, .ref 0] m Q := by
  unfold f_MO_neverTold_J41 at h
  refine ax_aload_n 0 d_MO_neverTold_41 rfl rfl 42 rfl ?_
  refine ax_getI fl_MO_223 m_0 rfl d_MO_neverTold_42 45 rfl ?_
  refine ax_callV mv_MO_246 ⟨Nat.le_of_ble_eq_true rfl, Nat.le_of_ble_eq_true rfl⟩ ⟨rfl, rfl⟩ [.int t1, .int (m.1 0 2)] [.int (m.1 0 2), .int t1, .ref 0] rfl rfl (rc_m_0 _) (Nat.le_of_ble_eq_true rfl) d_MO_neverTold_45 48 rfl (zc_MO_fail t1 (m.1 0 2) m ?_)
  refine ok_l (G := fun p => AX gM s_MO_neverTold 48 [(0, .ref 0), (1, .int v1), (2, .int v2)] [] p Q) h (fun p3 h => ?_)
  exact ax_sub [0, 1, 2] rfl (c_MO_neverTold_J48 v1 v2 p3 (fun p hp => hR p hp) (fun s hs => h0 s hs) h)
set_option maxRecDepth 4000 in
theorem c_MO_neverTold_B15 (v1 : Int32) (v2 : Int32) (m : zM)  {Q : Option Value → zM → Prop} {K : ((zM) ⊕ (Int32 × zM)) → Prop} (hR : ∀ p : zM, K (.inl p) → Q none p) (h0 : ∀ s : Int32 × zM, K (.inr s) → AX gM s_MO_neverTold 15 [(0, .ref 0), (1, .int v1), (2, .int s.1)] [] s.2 Q) (h : ok (f_MO_neverTold_B15 v1 v2 m) K) : AX gM s_MO_neverTold 15 [(0, .ref 0), (1, .int v1), (2, .int v2)] [] m Q := by
  unfold f_MO_neverTold_B15 at h
  refine ax_aload_n 0 d_MO_neverTold_15 rfl rfl 16 rfl ?_
  refine ax_getI fl_MO_217 m_0 rfl d_MO_neverTold_16 19 rfl ?_
  refine ax_if_ne 48 22 d_MO_neverTold_19 rfl rfl (fun hc => ?_) (fun hc => ?_)
  · have h := ok_f hc h
    exact ax_sub [0, 1, 2] rfl (c_MO_neverTold_J48 v1 v2 m (fun p hp => hR p hp) (fun s hs => h0 s hs) h)
  · have h := ok_t hc h
    refine ax_iload_n 2 d_MO_neverTold_22 rfl rfl 23 rfl ?_
    refine ax_iconst 3 d_MO_neverTold_23 ic_3 24 rfl ?_
    refine ax_icmp_ne 48 27 d_MO_neverTold_24 rfl rfl (fun hc => ?_) (fun hc => ?_)
    · have h := ok_f hc h
      exact ax_sub [0, 1, 2] rfl (c_MO_neverTold_J48 v1 v2 m (fun p hp => hR p hp) (fun s hs => h0 s hs) h)
    · have h := ok_t hc h
      refine ax_aload_n 0 d_MO_neverTold_27 rfl rfl 28 rfl ?_
      refine ax_aload_n 0 d_MO_neverTold_28 rfl rfl 29 rfl ?_
      refine ax_callV mv_MO_229 ⟨Nat.le_of_ble_eq_true rfl, Nat.le_of_ble_eq_true rfl⟩ ⟨rfl, rfl⟩ [] [.ref 0, .ref 0] rfl rfl (rc_m_0 _) (Nat.le_of_ble_eq_true rfl) d_MO_neverTold_29 32 rfl (zc_MO_look m (ok_b h (fun p2 h => ?_)))
      refine ax_iconst (-1) d_MO_neverTold_32 ic_m1 33 rfl ?_
      refine ax_icmp_ne 40 36 d_MO_neverTold_33 rfl rfl (fun hc => ?_) (fun hc => ?_)
      · have h := ok_f hc h
        refine ax_iconst 5 d_MO_neverTold_40 ic_5 41 rfl ?_
        exact ax_sub [0, 1, 2] rfl (c_MO_neverTold_J41 v1 v2 5 p2.2 (fun p hp => hR p hp) (fun s hs => h0 s hs) h)
      · have h := ok_t hc h
        refine ax_iconst 1 d_MO_neverTold_36 ic_1 37 rfl ?_
        refine ax_goto 41 d_MO_neverTold_37 rfl ?_
        exact ax_sub [0, 1, 2] rfl (c_MO_neverTold_J41 v1 v2 1 p2.2 (fun p hp => hR p hp) (fun s hs => h0 s hs) h)
theorem c_MO_neverTold_L15 (v1 : Int32) (v2 : Int32) (m : zM)  {Q : Option Value → zM → Prop} {K : zM → Prop} (hR : ∀ p : zM, K (p) → Q none p)  (h : ok (f_MO_neverTold_L15 v1 v2 m) K) : AX gM s_MO_neverTold 15 [(0, .ref 0), (1, .int v1), (2, .int v2)] [] m Q :=
  ok_lp (K := K) (G := fun s : Int32 × zM => AX gM s_MO_neverTold 15 [(0, .ref 0), (1, .int v1), (2, .int s.1)] [] s.2 Q) (fun s h => c_MO_neverTold_B15 v1 s.1 s.2  (fun p hp => hR p hp) (fun s hs => hs) h) FU (v2, m) h
set_option maxRecDepth 4000 in
theorem zc_MO_neverTold  (m : zM)  {Q : Option Value → zM → Prop} (h : ok (f_MO_neverTold m) (fun p => Q none p)) : zc gM s_MO_neverTold [.ref 0] m Q := by
  refine zc_of rfl (Nat.le_of_ble_eq_true rfl) ?_
  show AX gM s_MO_neverTold 0 [(0, .ref 0)] [] m Q
  obtain ⟨K, hK⟩ : ∃ K : zM → Prop, K = (fun p : zM => Q none p) := ⟨_, rfl⟩
  have hR : ∀ p : zM, K p → Q none p := fun p hp => by rw [hK] at hp; exact hp
  replace h : ok (f_MO_neverTold m) (fun p : zM => Q none p) := h
  rw [← hK] at h
  unfold f_MO_neverTold at h
  refine ax_bipush 28 d_MO_neverTold_0 bp_28 2 rfl ?_
  refine ax_bipush 7 d_MO_neverTold_2 bp_7 4 rfl ?_
  refine ax_aload_n 0 d_MO_neverTold_4 rfl rfl 5 rfl ?_
  refine ax_getR fl_MO_78 m_0 rfl (rm_0_30 _) d_MO_neverTold_5 8 rfl ?_
  refine ax_iconst 5 d_MO_neverTold_8 ic_5 9 rfl ?_
  refine ax_iaload m_22 d_MO_neverTold_9 10 rfl h (fun i1 h => ?_)
  refine ax_imul d_MO_neverTold_10 11 rfl ?_
  refine ax_iadd d_MO_neverTold_11 12 rfl ?_
  refine ax_istore_n (ls1 := [(1, .int (28 + (7 * (m.1 22 i1)))), (0, .ref 0)]) d_MO_neverTold_12 rfl (Nat.le_of_ble_eq_true rfl) rfl 13 rfl ?_
  refine ax_iconst 0 d_MO_neverTold_13 ic_0 14 rfl ?_
  refine ax_istore_n (ls1 := [(2, .int 0), (1, .int (28 + (7 * (m.1 22 i1)))), (0, .ref 0)]) d_MO_neverTold_14 rfl (Nat.le_of_ble_eq_true rfl) rfl 15 rfl ?_
  exact ax_sub [2, 1, 0] rfl (c_MO_neverTold_L15 (28 + (7 * (m.1 22 i1))) 0 m (fun p hp => hR p hp) h)
set_option maxRecDepth 4000 in
theorem zc_MO_ruleField (v1 : Int32) (v2 : Int32) (m : zM)  {Q : Option Value → zM → Prop} (h : ok (f_MO_ruleField v1 v2 m) (fun p => Q none p)) : zc gM s_MO_ruleField [.ref 0, .int v1, .int v2] m Q := by
  refine zc_of rfl (Nat.le_of_ble_eq_true rfl) ?_
  show AX gM s_MO_ruleField 0 [(0, .ref 0), (1, .int v1), (2, .int v2)] [] m Q
  obtain ⟨K, hK⟩ : ∃ K : zM → Prop, K = (fun p : zM => Q none p) := ⟨_, rfl⟩
  have hR : ∀ p : zM, K p → Q none p := fun p hp => by rw [hK] at hp; exact hp
  replace h : ok (f_MO_ruleField v1 v2 m) (fun p : zM => Q none p) := h
  rw [← hK] at h
  unfold f_MO_ruleField at h
  refine ax_aload_n 0 d_MO_ruleField_0 rfl rfl 1 rfl ?_
  refine ax_getI fl_MO_217 m_0 rfl d_MO_ruleField_1 4 rfl ?_
  refine ax_if_ne 28 7 d_MO_ruleField_4 rfl rfl (fun hc => ?_) (fun hc => ?_)
  · have h := ok_f hc h
    exact ax_vret rfl d_MO_ruleField_28 (hR m (ok_some h))
  · have h := ok_t hc h
    refine ax_aload_n 0 d_MO_ruleField_7 rfl rfl 8 rfl ?_
    refine ax_getR fl_MO_78 m_0 rfl (rm_0_30 _) d_MO_ruleField_8 11 rfl ?_
    refine ax_bipush 56 d_MO_ruleField_11 bp_56 13 rfl ?_
    refine ax_bipush 8 d_MO_ruleField_13 bp_8 15 rfl ?_
    refine ax_aload_n 0 d_MO_ruleField_15 rfl rfl 16 rfl ?_
    refine ax_getR fl_MO_78 m_0 rfl (rm_0_30 _) d_MO_ruleField_16 19 rfl ?_
    refine ax_bipush 8 d_MO_ruleField_19 bp_8 21 rfl ?_
    refine ax_iaload m_22 d_MO_ruleField_21 22 rfl h (fun i1 h => ?_)
    refine ax_imul d_MO_ruleField_22 23 rfl ?_
    refine ax_iadd d_MO_ruleField_23 24 rfl ?_
    refine ax_iload_n 1 d_MO_ruleField_24 rfl rfl 25 rfl ?_
    refine ax_iadd d_MO_ruleField_25 26 rfl ?_
    refine ax_iload_n 2 d_MO_ruleField_26 rfl rfl 27 rfl ?_
    refine ax_iastore m_22 d_MO_ruleField_27 28 rfl h (fun i2 m3 h => ?_)
    exact ax_vret rfl d_MO_ruleField_28 (hR m3 (ok_some h))
set_option maxRecDepth 4000 in
theorem c_MO_onTold_J104  (m : zM)  {Q : Option Value → zM → Prop} {K : zM → Prop} (hR : ∀ p : zM, K (p) → Q none p)  (h : ok (f_MO_onTold_J104  m) K) : AX gM s_MO_onTold 104 [(0, .ref 0)] [] m Q := by
  unfold f_MO_onTold_J104 at h
  refine ax_aload_n 0 d_MO_onTold_104 rfl rfl 105 rfl ?_
  refine ax_getR fl_MO_78 m_0 rfl (rm_0_30 _) d_MO_onTold_105 108 rfl ?_
  refine ax_bipush 8 d_MO_onTold_108 bp_8 110 rfl ?_
  refine ax_dup2 d_MO_onTold_110 rfl rfl 111 rfl ?_
  refine ax_iaload m_22 d_MO_onTold_111 112 rfl h (fun i12 h => ?_)
  refine ax_iconst 1 d_MO_onTold_112 ic_1 113 rfl ?_
  refine ax_iadd d_MO_onTold_113 114 rfl ?_
  refine ax_iastore m_22 d_MO_onTold_114 115 rfl h (fun i13 m14 h => ?_)
  exact ax_vret rfl d_MO_onTold_115 (hR m14 (ok_some h))
set_option maxRecDepth 4000 in
theorem c_MO_onTold_J65  (m : zM)  {Q : Option Value → zM → Prop} {K : zM → Prop} (hR : ∀ p : zM, K (p) → Q none p)  (h : ok (f_MO_onTold_J65  m) K) : AX gM s_MO_onTold 65 [(0, .ref 0)] [] m Q := by
  unfold f_MO_onTold_J65 at h
  refine ax_aload_n 0 d_MO_onTold_65 rfl rfl 66 rfl ?_
  refine ax_aload_n 0 d_MO_onTold_66 rfl rfl 67 rfl ?_
  refine ax_getR fl_MO_57 m_0 rfl (rm_0_22 _) d_MO_onTold_67 70 rfl ?_
  refine ax_callV mv_MO_282 ⟨Nat.le_of_ble_eq_true rfl, Nat.le_of_ble_eq_true rfl⟩ ⟨rfl, rfl⟩ [.ref 15] [.ref 15, .ref 0] rfl rfl (rc_m_0 _) (Nat.le_of_ble_eq_true rfl) d_MO_onTold_70 73 rfl (zc_MO_asks 15 m m_15z (ok_b h (fun p6 h => ?_)))
  refine ax_aload_n 0 d_MO_onTold_73 rfl rfl 74 rfl ?_
  refine ax_iconst 3 d_MO_onTold_74 ic_3 75 rfl ?_
  refine ax_aload_n 0 d_MO_onTold_75 rfl rfl 76 rfl ?_
  refine ax_iconst 0 d_MO_onTold_76 ic_0 77 rfl ?_
  refine ax_callV mv_MO_276 ⟨Nat.le_of_ble_eq_true rfl, Nat.le_of_ble_eq_true rfl⟩ ⟨rfl, rfl⟩ [.int 0] [.int 0, .ref 0, .int 3, .ref 0] rfl rfl (rc_m_0 _) (Nat.le_of_ble_eq_true rfl) d_MO_onTold_77 80 rfl (zc_MO_named 0 p6 (ok_b h (fun p7 h => ?_)))
  refine ax_callV mv_MO_279 ⟨Nat.le_of_ble_eq_true rfl, Nat.le_of_ble_eq_true rfl⟩ ⟨rfl, rfl⟩ [.int 3, .int p7.1] [.int p7.1, .int 3, .ref 0] rfl rfl (rc_m_0 _) (Nat.le_of_ble_eq_true rfl) d_MO_onTold_80 83 rfl (zc_MO_ruleField 3 p7.1 p7.2 (ok_b h (fun p8 h => ?_)))
  refine ax_aload_n 0 d_MO_onTold_83 rfl rfl 84 rfl ?_
  refine ax_aload_n 0 d_MO_onTold_84 rfl rfl 85 rfl ?_
  refine ax_getR fl_MO_60 m_0 rfl (rm_0_23 _) d_MO_onTold_85 88 rfl ?_
  refine ax_callV mv_MO_243 ⟨Nat.le_of_ble_eq_true rfl, Nat.le_of_ble_eq_true rfl⟩ ⟨rfl, rfl⟩ [.ref 16] [.ref 16, .ref 0] rfl rfl (rc_m_0 _) (Nat.le_of_ble_eq_true rfl) d_MO_onTold_88 91 rfl (zc_MO_takes 16 p8 m_16z (ok_b h (fun p9 h => ?_)))
  refine ax_ifb_eq 104 94 d_MO_onTold_91 rfl rfl (fun hc => ?_) (fun hc => ?_)
  · have h := ok_f (bf hc) h
    exact ax_sub [0] rfl (c_MO_onTold_J104 p9.2 (fun p hp => hR p hp) h)
  · have h := ok_t hc h
    refine ax_aload_n 0 d_MO_onTold_94 rfl rfl 95 rfl ?_
    refine ax_iconst 4 d_MO_onTold_95 ic_4 96 rfl ?_
    refine ax_aload_n 0 d_MO_onTold_96 rfl rfl 97 rfl ?_
    refine ax_iconst 2 d_MO_onTold_97 ic_2 98 rfl ?_
    refine ax_callV mv_MO_276 ⟨Nat.le_of_ble_eq_true rfl, Nat.le_of_ble_eq_true rfl⟩ ⟨rfl, rfl⟩ [.int 2] [.int 2, .ref 0, .int 4, .ref 0] rfl rfl (rc_m_0 _) (Nat.le_of_ble_eq_true rfl) d_MO_onTold_98 101 rfl (zc_MO_named 2 p9.2 (ok_b h (fun p10 h => ?_)))
    refine ax_callV mv_MO_279 ⟨Nat.le_of_ble_eq_true rfl, Nat.le_of_ble_eq_true rfl⟩ ⟨rfl, rfl⟩ [.int 4, .int p10.1] [.int p10.1, .int 4, .ref 0] rfl rfl (rc_m_0 _) (Nat.le_of_ble_eq_true rfl) d_MO_onTold_101 104 rfl (zc_MO_ruleField 4 p10.1 p10.2 (ok_b h (fun p11 h => ?_)))
    exact ax_sub [0] rfl (c_MO_onTold_J104 p11 (fun p hp => hR p hp) h)
set_option maxRecDepth 4000 in
theorem c_MO_onTold_J34  (m : zM)  {Q : Option Value → zM → Prop} {K : zM → Prop} (hR : ∀ p : zM, K (p) → Q none p)  (h : ok (f_MO_onTold_J34  m) K) : AX gM s_MO_onTold 34 [(0, .ref 0)] [] m Q := by
  unfold f_MO_onTold_J34 at h
  refine ax_aload_n 0 d_MO_onTold_34 rfl rfl 35 rfl ?_
  refine ax_iconst 1 d_MO_onTold_35 ic_1 36 rfl ?_
  refine ax_aload_n 0 d_MO_onTold_36 rfl rfl 37 rfl ?_
  refine ax_iconst 0 d_MO_onTold_37 ic_0 38 rfl ?_
  refine ax_callV mv_MO_276 ⟨Nat.le_of_ble_eq_true rfl, Nat.le_of_ble_eq_true rfl⟩ ⟨rfl, rfl⟩ [.int 0] [.int 0, .ref 0, .int 1, .ref 0] rfl rfl (rc_m_0 _) (Nat.le_of_ble_eq_true rfl) d_MO_onTold_38 41 rfl (zc_MO_named 0 m (ok_b h (fun p1 h => ?_)))
  refine ax_callV mv_MO_279 ⟨Nat.le_of_ble_eq_true rfl, Nat.le_of_ble_eq_true rfl⟩ ⟨rfl, rfl⟩ [.int 1, .int p1.1] [.int p1.1, .int 1, .ref 0] rfl rfl (rc_m_0 _) (Nat.le_of_ble_eq_true rfl) d_MO_onTold_41 44 rfl (zc_MO_ruleField 1 p1.1 p1.2 (ok_b h (fun p2 h => ?_)))
  refine ax_aload_n 0 d_MO_onTold_44 rfl rfl 45 rfl ?_
  refine ax_aload_n 0 d_MO_onTold_45 rfl rfl 46 rfl ?_
  refine ax_getR fl_MO_54 m_0 rfl (rm_0_21 _) d_MO_onTold_46 49 rfl ?_
  refine ax_callV mv_MO_243 ⟨Nat.le_of_ble_eq_true rfl, Nat.le_of_ble_eq_true rfl⟩ ⟨rfl, rfl⟩ [.ref 14] [.ref 14, .ref 0] rfl rfl (rc_m_0 _) (Nat.le_of_ble_eq_true rfl) d_MO_onTold_49 52 rfl (zc_MO_takes 14 p2 m_14z (ok_b h (fun p3 h => ?_)))
  refine ax_ifb_eq 65 55 d_MO_onTold_52 rfl rfl (fun hc => ?_) (fun hc => ?_)
  · have h := ok_f (bf hc) h
    exact ax_sub [0] rfl (c_MO_onTold_J65 p3.2 (fun p hp => hR p hp) h)
  · have h := ok_t hc h
    refine ax_aload_n 0 d_MO_onTold_55 rfl rfl 56 rfl ?_
    refine ax_iconst 2 d_MO_onTold_56 ic_2 57 rfl ?_
    refine ax_aload_n 0 d_MO_onTold_57 rfl rfl 58 rfl ?_
    refine ax_iconst 2 d_MO_onTold_58 ic_2 59 rfl ?_
    refine ax_callV mv_MO_276 ⟨Nat.le_of_ble_eq_true rfl, Nat.le_of_ble_eq_true rfl⟩ ⟨rfl, rfl⟩ [.int 2] [.int 2, .ref 0, .int 2, .ref 0] rfl rfl (rc_m_0 _) (Nat.le_of_ble_eq_true rfl) d_MO_onTold_59 62 rfl (zc_MO_named 2 p3.2 (ok_b h (fun p4 h => ?_)))
    refine ax_callV mv_MO_279 ⟨Nat.le_of_ble_eq_true rfl, Nat.le_of_ble_eq_true rfl⟩ ⟨rfl, rfl⟩ [.int 2, .int p4.1] [.int p4.1, .int 2, .ref 0] rfl rfl (rc_m_0 _) (Nat.le_of_ble_eq_true rfl) d_MO_onTold_62 65 rfl (zc_MO_ruleField 2 p4.1 p4.2 (ok_b h (fun p5 h => ?_)))
    exact ax_sub [0] rfl (c_MO_onTold_J65 p5 (fun p hp => hR p hp) h)
set_option maxRecDepth 4000 in
theorem c_MO_onTold_J25 (v1 : Int32) (t1 : Int32) (t2 : Int32) (m : zM)  {Q : Option Value → zM → Prop} {K : ((zM) ⊕ (Int32 × zM)) → Prop} (hR : ∀ p : zM, K (.inl p) → Q none p) (h0 : ∀ s : Int32 × zM, K (.inr s) → AX gM s_MO_onTold 2 [(0, .ref 0), (1, .int s.1)] [] s.2 Q) (h : ok (f_MO_onTold_J25 v1 t1 t2 m) K) : AX gM s_MO_onTold 25 [(0, .ref 0), (1, .int v1)] [.int t2, .int t1, .ref 0] m Q := by
  unfold f_MO_onTold_J25 at h
  refine ax_callV mv_MO_279 ⟨Nat.le_of_ble_eq_true rfl, Nat.le_of_ble_eq_true rfl⟩ ⟨rfl, rfl⟩ [.int t1, .int t2] [.int t2, .int t1, .ref 0] rfl rfl (rc_m_0 _) (Nat.le_of_ble_eq_true rfl) d_MO_onTold_25 28 rfl (zc_MO_ruleField t1 t2 m (ok_b h (fun p15 h => ?_)))
  refine ax_iinc (ls1 := [(1, .int (v1 + 1)), (0, .ref 0)]) 1 1 d_MO_onTold_28 rfl ic_1 (Nat.le_of_ble_eq_true rfl) rfl 31 rfl ?_
  refine ax_goto 2 d_MO_onTold_31 rfl ?_
  exact ax_sub [1, 0] rfl (h0 ((v1 + 1), p15) (ok_some h))
set_option maxRecDepth 4000 in
theorem c_MO_onTold_J20 (v1 : Int32) (t1 : Int32) (m : zM)  {Q : Option Value → zM → Prop} {K : ((zM) ⊕ (Int32 × zM)) → Prop} (hR : ∀ p : zM, K (.inl p) → Q none p) (h0 : ∀ s : Int32 × zM, K (.inr s) → AX gM s_MO_onTold 2 [(0, .ref 0), (1, .int s.1)] [] s.2 Q) (h : ok (f_MO_onTold_J20 v1 t1 m) K) : AX gM s_MO_onTold 20 [(0, .ref 0), (1, .int v1)] [.int t1, .ref 0] m Q := by
  unfold f_MO_onTold_J20 at h
  refine ax_iconst 0 d_MO_onTold_20 ic_0 21 rfl ?_
  refine ax_goto 25 d_MO_onTold_21 rfl ?_
  exact ax_sub [0, 1] rfl (c_MO_onTold_J25 v1 t1 0 m (fun p hp => hR p hp) (fun s hs => h0 s hs) h)
set_option maxRecDepth 4000 in
theorem c_MO_onTold_B2 (v1 : Int32) (m : zM)  {Q : Option Value → zM → Prop} {K : ((zM) ⊕ (Int32 × zM)) → Prop} (hR : ∀ p : zM, K (.inl p) → Q none p) (h0 : ∀ s : Int32 × zM, K (.inr s) → AX gM s_MO_onTold 2 [(0, .ref 0), (1, .int s.1)] [] s.2 Q) (h : ok (f_MO_onTold_B2 v1 m) K) : AX gM s_MO_onTold 2 [(0, .ref 0), (1, .int v1)] [] m Q := by
  unfold f_MO_onTold_B2 at h
  refine ax_iload_n 1 d_MO_onTold_2 rfl rfl 3 rfl ?_
  refine ax_bipush 8 d_MO_onTold_3 bp_8 5 rfl ?_
  refine ax_icmp_ge 34 8 d_MO_onTold_5 rfl rfl (fun hc => ?_) (fun hc => ?_)
  · have h := ok_t hc h
    exact ax_sub [0] rfl (c_MO_onTold_J34 m (fun p hp => hR p hp) (ok_z h))
  · have h := ok_f hc h
    refine ax_aload_n 0 d_MO_onTold_8 rfl rfl 9 rfl ?_
    refine ax_iload_n 1 d_MO_onTold_9 rfl rfl 10 rfl ?_
    refine ax_iload_n 1 d_MO_onTold_10 rfl rfl 11 rfl ?_
    refine ax_if_eq 20 14 d_MO_onTold_11 rfl rfl (fun hc => ?_) (fun hc => ?_)
    · have h := ok_t hc h
      exact ax_sub [0, 1] rfl (c_MO_onTold_J20 v1 v1 m (fun p hp => hR p hp) (fun s hs => h0 s hs) h)
    · have h := ok_f hc h
      refine ax_iload_n 1 d_MO_onTold_14 rfl rfl 15 rfl ?_
      refine ax_bipush 7 d_MO_onTold_15 bp_7 17 rfl ?_
      refine ax_icmp_ne 24 20 d_MO_onTold_17 rfl rfl (fun hc => ?_) (fun hc => ?_)
      · have h := ok_f hc h
        refine ax_iconst (-1) d_MO_onTold_24 ic_m1 25 rfl ?_
        exact ax_sub [0, 1] rfl (c_MO_onTold_J25 v1 v1 (-1) m (fun p hp => hR p hp) (fun s hs => h0 s hs) h)
      · have h := ok_t hc h
        exact ax_sub [0, 1] rfl (c_MO_onTold_J20 v1 v1 m (fun p hp => hR p hp) (fun s hs => h0 s hs) h)
theorem c_MO_onTold_L2 (v1 : Int32) (m : zM)  {Q : Option Value → zM → Prop} {K : zM → Prop} (hR : ∀ p : zM, K (p) → Q none p)  (h : ok (f_MO_onTold_L2 v1 m) K) : AX gM s_MO_onTold 2 [(0, .ref 0), (1, .int v1)] [] m Q :=
  ok_lp (K := K) (G := fun s : Int32 × zM => AX gM s_MO_onTold 2 [(0, .ref 0), (1, .int s.1)] [] s.2 Q) (fun s h => c_MO_onTold_B2 s.1 s.2  (fun p hp => hR p hp) (fun s hs => hs) h) FU (v1, m) h
set_option maxRecDepth 4000 in
theorem zc_MO_onTold  (m : zM)  {Q : Option Value → zM → Prop} (h : ok (f_MO_onTold m) (fun p => Q none p)) : zc gM s_MO_onTold [.ref 0] m Q := by
  refine zc_of rfl (Nat.le_of_ble_eq_true rfl) ?_
  show AX gM s_MO_onTold 0 [(0, .ref 0)] [] m Q
  obtain ⟨K, hK⟩ : ∃ K : zM → Prop, K = (fun p : zM => Q none p) := ⟨_, rfl⟩
  have hR : ∀ p : zM, K p → Q none p := fun p hp => by rw [hK] at hp; exact hp
  replace h : ok (f_MO_onTold m) (fun p : zM => Q none p) := h
  rw [← hK] at h
  unfold f_MO_onTold at h
  refine ax_iconst 0 d_MO_onTold_0 ic_0 1 rfl ?_
  refine ax_istore_n (ls1 := [(1, .int 0), (0, .ref 0)]) d_MO_onTold_1 rfl (Nat.le_of_ble_eq_true rfl) rfl 2 rfl ?_
  exact ax_sub [1, 0] rfl (c_MO_onTold_L2 0 m (fun p hp => hR p hp) h)
set_option maxRecDepth 4000 in
theorem c_MO_atTold_J180  (m : zM)  {Q : Option Value → zM → Prop} {K : zM → Prop} (hR : ∀ p : zM, K (p) → Q none p)  (h : ok (f_MO_atTold_J180  m) K) : AX gM s_MO_atTold 180 [(0, .ref 0)] [] m Q := by
  unfold f_MO_atTold_J180 at h
  refine ax_aload_n 0 d_MO_atTold_180 rfl rfl 181 rfl ?_
  refine ax_getR fl_MO_78 m_0 rfl (rm_0_30 _) d_MO_atTold_181 184 rfl ?_
  refine ax_bipush 8 d_MO_atTold_184 bp_8 186 rfl ?_
  refine ax_dup2 d_MO_atTold_186 rfl rfl 187 rfl ?_
  refine ax_iaload m_22 d_MO_atTold_187 188 rfl h (fun i22 h => ?_)
  refine ax_iconst 1 d_MO_atTold_188 ic_1 189 rfl ?_
  refine ax_iadd d_MO_atTold_189 190 rfl ?_
  refine ax_iastore m_22 d_MO_atTold_190 191 rfl h (fun i23 m24 h => ?_)
  exact ax_vret rfl d_MO_atTold_191 (hR m24 (ok_some h))
set_option maxRecDepth 4000 in
theorem c_MO_atTold_J126  (m : zM)  {Q : Option Value → zM → Prop} {K : zM → Prop} (hR : ∀ p : zM, K (p) → Q none p)  (h : ok (f_MO_atTold_J126  m) K) : AX gM s_MO_atTold 126 [(0, .ref 0)] [] m Q := by
  unfold f_MO_atTold_J126 at h
  refine ax_aload_n 0 d_MO_atTold_126 rfl rfl 127 rfl ?_
  refine ax_aload_n 0 d_MO_atTold_127 rfl rfl 128 rfl ?_
  refine ax_getR fl_MO_72 m_0 rfl (rm_0_27 _) d_MO_atTold_128 131 rfl ?_
  refine ax_callV mv_MO_243 ⟨Nat.le_of_ble_eq_true rfl, Nat.le_of_ble_eq_true rfl⟩ ⟨rfl, rfl⟩ [.ref 20] [.ref 20, .ref 0] rfl rfl (rc_m_0 _) (Nat.le_of_ble_eq_true rfl) d_MO_atTold_131 134 rfl (zc_MO_takes 20 m m_20z (ok_b h (fun p15 h => ?_)))
  refine ax_ifb_eq 151 137 d_MO_atTold_134 rfl rfl (fun hc => ?_) (fun hc => ?_)
  · have h := ok_f (bf hc) h
    refine ax_aload_n 0 d_MO_atTold_151 rfl rfl 152 rfl ?_
    refine ax_aload_n 0 d_MO_atTold_152 rfl rfl 153 rfl ?_
    refine ax_getR fl_MO_75 m_0 rfl (rm_0_28 _) d_MO_atTold_153 156 rfl ?_
    refine ax_callV mv_MO_243 ⟨Nat.le_of_ble_eq_true rfl, Nat.le_of_ble_eq_true rfl⟩ ⟨rfl, rfl⟩ [.ref 21] [.ref 21, .ref 0] rfl rfl (rc_m_0 _) (Nat.le_of_ble_eq_true rfl) d_MO_atTold_156 159 rfl (zc_MO_takes 21 p15.2 m_21z (ok_b h (fun p16 h => ?_)))
    refine ax_ifb_eq 180 162 d_MO_atTold_159 rfl rfl (fun hc => ?_) (fun hc => ?_)
    · have h := ok_f (bf hc) h
      exact ax_sub [0] rfl (c_MO_atTold_J180 p16.2 (fun p hp => hR p hp) h)
    · have h := ok_t hc h
      refine ax_aload_n 0 d_MO_atTold_162 rfl rfl 163 rfl ?_
      refine ax_bipush 6 d_MO_atTold_163 bp_6 165 rfl ?_
      refine ax_aload_n 0 d_MO_atTold_165 rfl rfl 166 rfl ?_
      refine ax_iconst 0 d_MO_atTold_166 ic_0 167 rfl ?_
      refine ax_callV mv_MO_276 ⟨Nat.le_of_ble_eq_true rfl, Nat.le_of_ble_eq_true rfl⟩ ⟨rfl, rfl⟩ [.int 0] [.int 0, .ref 0, .int 6, .ref 0] rfl rfl (rc_m_0 _) (Nat.le_of_ble_eq_true rfl) d_MO_atTold_167 170 rfl (zc_MO_named 0 p16.2 (ok_b h (fun p17 h => ?_)))
      refine ax_callV mv_MO_279 ⟨Nat.le_of_ble_eq_true rfl, Nat.le_of_ble_eq_true rfl⟩ ⟨rfl, rfl⟩ [.int 6, .int p17.1] [.int p17.1, .int 6, .ref 0] rfl rfl (rc_m_0 _) (Nat.le_of_ble_eq_true rfl) d_MO_atTold_170 173 rfl (zc_MO_ruleField 6 p17.1 p17.2 (ok_b h (fun p18 h => ?_)))
      refine ax_aload_n 0 d_MO_atTold_173 rfl rfl 174 rfl ?_
      refine ax_bipush 7 d_MO_atTold_174 bp_7 176 rfl ?_
      refine ax_iconst 1 d_MO_atTold_176 ic_1 177 rfl ?_
      refine ax_callV mv_MO_279 ⟨Nat.le_of_ble_eq_true rfl, Nat.le_of_ble_eq_true rfl⟩ ⟨rfl, rfl⟩ [.int 7, .int 1] [.int 1, .int 7, .ref 0] rfl rfl (rc_m_0 _) (Nat.le_of_ble_eq_true rfl) d_MO_atTold_177 180 rfl (zc_MO_ruleField 7 1 p18 (ok_b h (fun p19 h => ?_)))
      exact ax_sub [0] rfl (c_MO_atTold_J180 p19 (fun p hp => hR p hp) h)
  · have h := ok_t hc h
    refine ax_aload_n 0 d_MO_atTold_137 rfl rfl 138 rfl ?_
    refine ax_bipush 6 d_MO_atTold_138 bp_6 140 rfl ?_
    refine ax_aload_n 0 d_MO_atTold_140 rfl rfl 141 rfl ?_
    refine ax_iconst 0 d_MO_atTold_141 ic_0 142 rfl ?_
    refine ax_callV mv_MO_276 ⟨Nat.le_of_ble_eq_true rfl, Nat.le_of_ble_eq_true rfl⟩ ⟨rfl, rfl⟩ [.int 0] [.int 0, .ref 0, .int 6, .ref 0] rfl rfl (rc_m_0 _) (Nat.le_of_ble_eq_true rfl) d_MO_atTold_142 145 rfl (zc_MO_named 0 p15.2 (ok_b h (fun p20 h => ?_)))
    refine ax_callV mv_MO_279 ⟨Nat.le_of_ble_eq_true rfl, Nat.le_of_ble_eq_true rfl⟩ ⟨rfl, rfl⟩ [.int 6, .int p20.1] [.int p20.1, .int 6, .ref 0] rfl rfl (rc_m_0 _) (Nat.le_of_ble_eq_true rfl) d_MO_atTold_145 148 rfl (zc_MO_ruleField 6 p20.1 p20.2 (ok_b h (fun p21 h => ?_)))
    refine ax_goto 180 d_MO_atTold_148 rfl ?_
    exact ax_sub [0] rfl (c_MO_atTold_J180 p21 (fun p hp => hR p hp) h)
set_option maxRecDepth 4000 in
theorem c_MO_atTold_J105  (m : zM)  {Q : Option Value → zM → Prop} {K : zM → Prop} (hR : ∀ p : zM, K (p) → Q none p)  (h : ok (f_MO_atTold_J105  m) K) : AX gM s_MO_atTold 105 [(0, .ref 0)] [] m Q := by
  unfold f_MO_atTold_J105 at h
  refine ax_aload_n 0 d_MO_atTold_105 rfl rfl 106 rfl ?_
  refine ax_aload_n 0 d_MO_atTold_106 rfl rfl 107 rfl ?_
  refine ax_getR fl_MO_69 m_0 rfl (rm_0_26 _) d_MO_atTold_107 110 rfl ?_
  refine ax_callV mv_MO_243 ⟨Nat.le_of_ble_eq_true rfl, Nat.le_of_ble_eq_true rfl⟩ ⟨rfl, rfl⟩ [.ref 19] [.ref 19, .ref 0] rfl rfl (rc_m_0 _) (Nat.le_of_ble_eq_true rfl) d_MO_atTold_110 113 rfl (zc_MO_takes 19 m m_19z (ok_b h (fun p12 h => ?_)))
  refine ax_ifb_eq 126 116 d_MO_atTold_113 rfl rfl (fun hc => ?_) (fun hc => ?_)
  · have h := ok_f (bf hc) h
    exact ax_sub [0] rfl (c_MO_atTold_J126 p12.2 (fun p hp => hR p hp) h)
  · have h := ok_t hc h
    refine ax_aload_n 0 d_MO_atTold_116 rfl rfl 117 rfl ?_
    refine ax_iconst 5 d_MO_atTold_117 ic_5 118 rfl ?_
    refine ax_aload_n 0 d_MO_atTold_118 rfl rfl 119 rfl ?_
    refine ax_iconst 2 d_MO_atTold_119 ic_2 120 rfl ?_
    refine ax_callV mv_MO_276 ⟨Nat.le_of_ble_eq_true rfl, Nat.le_of_ble_eq_true rfl⟩ ⟨rfl, rfl⟩ [.int 2] [.int 2, .ref 0, .int 5, .ref 0] rfl rfl (rc_m_0 _) (Nat.le_of_ble_eq_true rfl) d_MO_atTold_120 123 rfl (zc_MO_named 2 p12.2 (ok_b h (fun p13 h => ?_)))
    refine ax_callV mv_MO_279 ⟨Nat.le_of_ble_eq_true rfl, Nat.le_of_ble_eq_true rfl⟩ ⟨rfl, rfl⟩ [.int 5, .int p13.1] [.int p13.1, .int 5, .ref 0] rfl rfl (rc_m_0 _) (Nat.le_of_ble_eq_true rfl) d_MO_atTold_123 126 rfl (zc_MO_ruleField 5 p13.1 p13.2 (ok_b h (fun p14 h => ?_)))
    exact ax_sub [0] rfl (c_MO_atTold_J126 p14 (fun p hp => hR p hp) h)
set_option maxRecDepth 4000 in
theorem c_MO_atTold_J38  (m : zM)  {Q : Option Value → zM → Prop} {K : zM → Prop} (hR : ∀ p : zM, K (p) → Q none p)  (h : ok (f_MO_atTold_J38  m) K) : AX gM s_MO_atTold 38 [(0, .ref 0)] [] m Q := by
  unfold f_MO_atTold_J38 at h
  refine ax_aload_n 0 d_MO_atTold_38 rfl rfl 39 rfl ?_
  refine ax_iconst 1 d_MO_atTold_39 ic_1 40 rfl ?_
  refine ax_aload_n 0 d_MO_atTold_40 rfl rfl 41 rfl ?_
  refine ax_iconst 1 d_MO_atTold_41 ic_1 42 rfl ?_
  refine ax_callV mv_MO_276 ⟨Nat.le_of_ble_eq_true rfl, Nat.le_of_ble_eq_true rfl⟩ ⟨rfl, rfl⟩ [.int 1] [.int 1, .ref 0, .int 1, .ref 0] rfl rfl (rc_m_0 _) (Nat.le_of_ble_eq_true rfl) d_MO_atTold_42 45 rfl (zc_MO_named 1 m (ok_b h (fun p1 h => ?_)))
  refine ax_callV mv_MO_279 ⟨Nat.le_of_ble_eq_true rfl, Nat.le_of_ble_eq_true rfl⟩ ⟨rfl, rfl⟩ [.int 1, .int p1.1] [.int p1.1, .int 1, .ref 0] rfl rfl (rc_m_0 _) (Nat.le_of_ble_eq_true rfl) d_MO_atTold_45 48 rfl (zc_MO_ruleField 1 p1.1 p1.2 (ok_b h (fun p2 h => ?_)))
  refine ax_aload_n 0 d_MO_atTold_48 rfl rfl 49 rfl ?_
  refine ax_aload_n 0 d_MO_atTold_49 rfl rfl 50 rfl ?_
  refine ax_getR fl_MO_54 m_0 rfl (rm_0_21 _) d_MO_atTold_50 53 rfl ?_
  refine ax_callV mv_MO_282 ⟨Nat.le_of_ble_eq_true rfl, Nat.le_of_ble_eq_true rfl⟩ ⟨rfl, rfl⟩ [.ref 14] [.ref 14, .ref 0] rfl rfl (rc_m_0 _) (Nat.le_of_ble_eq_true rfl) d_MO_atTold_53 56 rfl (zc_MO_asks 14 p2 m_14z (ok_b h (fun p3 h => ?_)))
  refine ax_aload_n 0 d_MO_atTold_56 rfl rfl 57 rfl ?_
  refine ax_iconst 2 d_MO_atTold_57 ic_2 58 rfl ?_
  refine ax_aload_n 0 d_MO_atTold_58 rfl rfl 59 rfl ?_
  refine ax_iconst 2 d_MO_atTold_59 ic_2 60 rfl ?_
  refine ax_callV mv_MO_276 ⟨Nat.le_of_ble_eq_true rfl, Nat.le_of_ble_eq_true rfl⟩ ⟨rfl, rfl⟩ [.int 2] [.int 2, .ref 0, .int 2, .ref 0] rfl rfl (rc_m_0 _) (Nat.le_of_ble_eq_true rfl) d_MO_atTold_60 63 rfl (zc_MO_named 2 p3 (ok_b h (fun p4 h => ?_)))
  refine ax_callV mv_MO_279 ⟨Nat.le_of_ble_eq_true rfl, Nat.le_of_ble_eq_true rfl⟩ ⟨rfl, rfl⟩ [.int 2, .int p4.1] [.int p4.1, .int 2, .ref 0] rfl rfl (rc_m_0 _) (Nat.le_of_ble_eq_true rfl) d_MO_atTold_63 66 rfl (zc_MO_ruleField 2 p4.1 p4.2 (ok_b h (fun p5 h => ?_)))
  refine ax_aload_n 0 d_MO_atTold_66 rfl rfl 67 rfl ?_
  refine ax_aload_n 0 d_MO_atTold_67 rfl rfl 68 rfl ?_
  refine ax_getR fl_MO_57 m_0 rfl (rm_0_22 _) d_MO_atTold_68 71 rfl ?_
  refine ax_callV mv_MO_282 ⟨Nat.le_of_ble_eq_true rfl, Nat.le_of_ble_eq_true rfl⟩ ⟨rfl, rfl⟩ [.ref 15] [.ref 15, .ref 0] rfl rfl (rc_m_0 _) (Nat.le_of_ble_eq_true rfl) d_MO_atTold_71 74 rfl (zc_MO_asks 15 p5 m_15z (ok_b h (fun p6 h => ?_)))
  refine ax_aload_n 0 d_MO_atTold_74 rfl rfl 75 rfl ?_
  refine ax_iconst 3 d_MO_atTold_75 ic_3 76 rfl ?_
  refine ax_aload_n 0 d_MO_atTold_76 rfl rfl 77 rfl ?_
  refine ax_iconst 1 d_MO_atTold_77 ic_1 78 rfl ?_
  refine ax_callV mv_MO_276 ⟨Nat.le_of_ble_eq_true rfl, Nat.le_of_ble_eq_true rfl⟩ ⟨rfl, rfl⟩ [.int 1] [.int 1, .ref 0, .int 3, .ref 0] rfl rfl (rc_m_0 _) (Nat.le_of_ble_eq_true rfl) d_MO_atTold_78 81 rfl (zc_MO_named 1 p6 (ok_b h (fun p7 h => ?_)))
  refine ax_callV mv_MO_279 ⟨Nat.le_of_ble_eq_true rfl, Nat.le_of_ble_eq_true rfl⟩ ⟨rfl, rfl⟩ [.int 3, .int p7.1] [.int p7.1, .int 3, .ref 0] rfl rfl (rc_m_0 _) (Nat.le_of_ble_eq_true rfl) d_MO_atTold_81 84 rfl (zc_MO_ruleField 3 p7.1 p7.2 (ok_b h (fun p8 h => ?_)))
  refine ax_aload_n 0 d_MO_atTold_84 rfl rfl 85 rfl ?_
  refine ax_aload_n 0 d_MO_atTold_85 rfl rfl 86 rfl ?_
  refine ax_getR fl_MO_66 m_0 rfl (rm_0_25 _) d_MO_atTold_86 89 rfl ?_
  refine ax_callV mv_MO_243 ⟨Nat.le_of_ble_eq_true rfl, Nat.le_of_ble_eq_true rfl⟩ ⟨rfl, rfl⟩ [.ref 18] [.ref 18, .ref 0] rfl rfl (rc_m_0 _) (Nat.le_of_ble_eq_true rfl) d_MO_atTold_89 92 rfl (zc_MO_takes 18 p8 m_18z (ok_b h (fun p9 h => ?_)))
  refine ax_ifb_eq 105 95 d_MO_atTold_92 rfl rfl (fun hc => ?_) (fun hc => ?_)
  · have h := ok_f (bf hc) h
    exact ax_sub [0] rfl (c_MO_atTold_J105 p9.2 (fun p hp => hR p hp) h)
  · have h := ok_t hc h
    refine ax_aload_n 0 d_MO_atTold_95 rfl rfl 96 rfl ?_
    refine ax_iconst 4 d_MO_atTold_96 ic_4 97 rfl ?_
    refine ax_aload_n 0 d_MO_atTold_97 rfl rfl 98 rfl ?_
    refine ax_iconst 2 d_MO_atTold_98 ic_2 99 rfl ?_
    refine ax_callV mv_MO_276 ⟨Nat.le_of_ble_eq_true rfl, Nat.le_of_ble_eq_true rfl⟩ ⟨rfl, rfl⟩ [.int 2] [.int 2, .ref 0, .int 4, .ref 0] rfl rfl (rc_m_0 _) (Nat.le_of_ble_eq_true rfl) d_MO_atTold_99 102 rfl (zc_MO_named 2 p9.2 (ok_b h (fun p10 h => ?_)))
    refine ax_callV mv_MO_279 ⟨Nat.le_of_ble_eq_true rfl, Nat.le_of_ble_eq_true rfl⟩ ⟨rfl, rfl⟩ [.int 4, .int p10.1] [.int p10.1, .int 4, .ref 0] rfl rfl (rc_m_0 _) (Nat.le_of_ble_eq_true rfl) d_MO_atTold_102 105 rfl (zc_MO_ruleField 4 p10.1 p10.2 (ok_b h (fun p11 h => ?_)))
    exact ax_sub [0] rfl (c_MO_atTold_J105 p11 (fun p hp => hR p hp) h)
set_option maxRecDepth 4000 in
theorem c_MO_atTold_J29 (v1 : Int32) (t1 : Int32) (t2 : Int32) (m : zM)  {Q : Option Value → zM → Prop} {K : ((zM) ⊕ (Int32 × zM)) → Prop} (hR : ∀ p : zM, K (.inl p) → Q none p) (h0 : ∀ s : Int32 × zM, K (.inr s) → AX gM s_MO_atTold 2 [(0, .ref 0), (1, .int s.1)] [] s.2 Q) (h : ok (f_MO_atTold_J29 v1 t1 t2 m) K) : AX gM s_MO_atTold 29 [(0, .ref 0), (1, .int v1)] [.int t2, .int t1, .ref 0] m Q := by
  unfold f_MO_atTold_J29 at h
  refine ax_callV mv_MO_279 ⟨Nat.le_of_ble_eq_true rfl, Nat.le_of_ble_eq_true rfl⟩ ⟨rfl, rfl⟩ [.int t1, .int t2] [.int t2, .int t1, .ref 0] rfl rfl (rc_m_0 _) (Nat.le_of_ble_eq_true rfl) d_MO_atTold_29 32 rfl (zc_MO_ruleField t1 t2 m (ok_b h (fun p25 h => ?_)))
  refine ax_iinc (ls1 := [(1, .int (v1 + 1)), (0, .ref 0)]) 1 1 d_MO_atTold_32 rfl ic_1 (Nat.le_of_ble_eq_true rfl) rfl 35 rfl ?_
  refine ax_goto 2 d_MO_atTold_35 rfl ?_
  exact ax_sub [1, 0] rfl (h0 ((v1 + 1), p25) (ok_some h))
set_option maxRecDepth 4000 in
theorem c_MO_atTold_B2 (v1 : Int32) (m : zM)  {Q : Option Value → zM → Prop} {K : ((zM) ⊕ (Int32 × zM)) → Prop} (hR : ∀ p : zM, K (.inl p) → Q none p) (h0 : ∀ s : Int32 × zM, K (.inr s) → AX gM s_MO_atTold 2 [(0, .ref 0), (1, .int s.1)] [] s.2 Q) (h : ok (f_MO_atTold_B2 v1 m) K) : AX gM s_MO_atTold 2 [(0, .ref 0), (1, .int v1)] [] m Q := by
  unfold f_MO_atTold_B2 at h
  refine ax_iload_n 1 d_MO_atTold_2 rfl rfl 3 rfl ?_
  refine ax_bipush 8 d_MO_atTold_3 bp_8 5 rfl ?_
  refine ax_icmp_ge 38 8 d_MO_atTold_5 rfl rfl (fun hc => ?_) (fun hc => ?_)
  · have h := ok_t hc h
    exact ax_sub [0] rfl (c_MO_atTold_J38 m (fun p hp => hR p hp) (ok_z h))
  · have h := ok_f hc h
    refine ax_aload_n 0 d_MO_atTold_8 rfl rfl 9 rfl ?_
    refine ax_iload_n 1 d_MO_atTold_9 rfl rfl 10 rfl ?_
    refine ax_iload_n 1 d_MO_atTold_10 rfl rfl 11 rfl ?_
    refine ax_if_ne 18 14 d_MO_atTold_11 rfl rfl (fun hc => ?_) (fun hc => ?_)
    · have h := ok_f hc h
      refine ax_iload_n 1 d_MO_atTold_18 rfl rfl 19 rfl ?_
      refine ax_bipush 7 d_MO_atTold_19 bp_7 21 rfl ?_
      refine ax_icmp_ne 28 24 d_MO_atTold_21 rfl rfl (fun hc => ?_) (fun hc => ?_)
      · have h := ok_f hc h
        refine ax_iconst (-1) d_MO_atTold_28 ic_m1 29 rfl ?_
        exact ax_sub [0, 1] rfl (c_MO_atTold_J29 v1 v1 (-1) m (fun p hp => hR p hp) (fun s hs => h0 s hs) h)
      · have h := ok_t hc h
        refine ax_iconst 0 d_MO_atTold_24 ic_0 25 rfl ?_
        refine ax_goto 29 d_MO_atTold_25 rfl ?_
        exact ax_sub [0, 1] rfl (c_MO_atTold_J29 v1 v1 0 m (fun p hp => hR p hp) (fun s hs => h0 s hs) h)
    · have h := ok_t hc h
      refine ax_iconst 1 d_MO_atTold_14 ic_1 15 rfl ?_
      refine ax_goto 29 d_MO_atTold_15 rfl ?_
      exact ax_sub [0, 1] rfl (c_MO_atTold_J29 v1 v1 1 m (fun p hp => hR p hp) (fun s hs => h0 s hs) h)
theorem c_MO_atTold_L2 (v1 : Int32) (m : zM)  {Q : Option Value → zM → Prop} {K : zM → Prop} (hR : ∀ p : zM, K (p) → Q none p)  (h : ok (f_MO_atTold_L2 v1 m) K) : AX gM s_MO_atTold 2 [(0, .ref 0), (1, .int v1)] [] m Q :=
  ok_lp (K := K) (G := fun s : Int32 × zM => AX gM s_MO_atTold 2 [(0, .ref 0), (1, .int s.1)] [] s.2 Q) (fun s h => c_MO_atTold_B2 s.1 s.2  (fun p hp => hR p hp) (fun s hs => hs) h) FU (v1, m) h
set_option maxRecDepth 4000 in
theorem zc_MO_atTold  (m : zM)  {Q : Option Value → zM → Prop} (h : ok (f_MO_atTold m) (fun p => Q none p)) : zc gM s_MO_atTold [.ref 0] m Q := by
  refine zc_of rfl (Nat.le_of_ble_eq_true rfl) ?_
  show AX gM s_MO_atTold 0 [(0, .ref 0)] [] m Q
  obtain ⟨K, hK⟩ : ∃ K : zM → Prop, K = (fun p : zM => Q none p) := ⟨_, rfl⟩
  have hR : ∀ p : zM, K p → Q none p := fun p hp => by rw [hK] at hp; exact hp
  replace h : ok (f_MO_atTold m) (fun p : zM => Q none p) := h
  rw [← hK] at h
  unfold f_MO_atTold at h
  refine ax_iconst 0 d_MO_atTold_0 ic_0 1 rfl ?_
  refine ax_istore_n (ls1 := [(1, .int 0), (0, .ref 0)]) d_MO_atTold_1 rfl (Nat.le_of_ble_eq_true rfl) rfl 2 rfl ?_
  exact ax_sub [1, 0] rfl (c_MO_atTold_L2 0 m (fun p hp => hR p hp) h)
set_option maxRecDepth 4000 in
theorem c_MO_statementTold_J279  (m : zM)  {Q : Option Value → zM → Prop} {K : zM → Prop} (hR : ∀ p : zM, K (p) → Q none p)  (h : ok (f_MO_statementTold_J279  m) K) : AX gM s_MO_statementTold 279 [(0, .ref 0)] [] m Q := by
  unfold f_MO_statementTold_J279 at h
  refine ax_aload_n 0 d_MO_statementTold_279 rfl rfl 280 rfl ?_
  refine ax_bipush 59 d_MO_statementTold_280 bp_59 282 rfl ?_
  refine ax_callV mv_MO_309 ⟨Nat.le_of_ble_eq_true rfl, Nat.le_of_ble_eq_true rfl⟩ ⟨rfl, rfl⟩ [.int 59] [.int 59, .ref 0] rfl rfl (rc_m_0 _) (Nat.le_of_ble_eq_true rfl) d_MO_statementTold_282 285 rfl (zc_MO_asksSign 59 m (ok_b h (fun p21 h => ?_)))
  refine ax_aload_n 0 d_MO_statementTold_285 rfl rfl 286 rfl ?_
  refine ax_dup d_MO_statementTold_286 rfl 287 rfl ?_
  refine ax_getI fl_MO_289 m_0 rfl d_MO_statementTold_287 290 rfl ?_
  refine ax_iconst 1 d_MO_statementTold_290 ic_1 291 rfl ?_
  refine ax_iadd d_MO_statementTold_291 292 rfl ?_
  refine ax_putI (K := K) fl_MO_289 m_0 rfl rfl rfl (Nat.le_of_ble_eq_true rfl) d_MO_statementTold_292 295 rfl h (fun m22 h => ?_)
  exact ax_vret rfl d_MO_statementTold_295 (hR m22 (ok_some h))
set_option maxRecDepth 4000 in
theorem c_MO_statementTold_J135 (t0 : Nat) (t1 : Int32) (t2 : Bool) (m : zM) (ht0 : gM.1[t0]? = some (.inr (0, zlen gM t0))) {Q : Option Value → zM → Prop} {K : zM → Prop} (hR : ∀ p : zM, K (p) → Q none p)  (h : ok (f_MO_statementTold_J135 t0 t1 t2 m) K) : AX gM s_MO_statementTold 135 [(0, .ref 0)] [.int (b2i t2), .int t1, .ref t0] m Q := by
  unfold f_MO_statementTold_J135 at h
  refine ax_iastore ht0 d_MO_statementTold_135 136 rfl h (fun i23 m24 h => ?_)
  refine ax_aload_n 0 d_MO_statementTold_136 rfl rfl 137 rfl ?_
  refine ax_getR fl_MO_78 m_0 rfl (rm_0_30 _) d_MO_statementTold_137 140 rfl ?_
  refine ax_iconst 4 d_MO_statementTold_140 ic_4 141 rfl ?_
  refine ax_iaload m_22 d_MO_statementTold_141 142 rfl h (fun i25 h => ?_)
  refine ax_if_ne 279 145 d_MO_statementTold_142 rfl rfl (fun hc => ?_) (fun hc => ?_)
  · have h := ok_f hc h
    exact ax_sub [0] rfl (c_MO_statementTold_J279 m24 (fun p hp => hR p hp) h)
  · have h := ok_t hc h
    refine ax_aload_n 0 d_MO_statementTold_145 rfl rfl 146 rfl ?_
    refine ax_aload_n 0 d_MO_statementTold_146 rfl rfl 147 rfl ?_
    refine ax_getR fl_MO_36 m_0 rfl (rm_0_15 _) d_MO_statementTold_147 150 rfl ?_
    refine ax_callV mv_MO_282 ⟨Nat.le_of_ble_eq_true rfl, Nat.le_of_ble_eq_true rfl⟩ ⟨rfl, rfl⟩ [.ref 8] [.ref 8, .ref 0] rfl rfl (rc_m_0 _) (Nat.le_of_ble_eq_true rfl) d_MO_statementTold_150 153 rfl (zc_MO_asks 8 m24 m_8z (ok_b h (fun p26 h => ?_)))
    refine ax_goto 279 d_MO_statementTold_153 rfl ?_
    exact ax_sub [0] rfl (c_MO_statementTold_J279 p26 (fun p hp => hR p hp) h)
set_option maxRecDepth 4000 in
theorem c_MO_statementTold_J183  (m : zM)  {Q : Option Value → zM → Prop} {K : zM → Prop} (hR : ∀ p : zM, K (p) → Q none p)  (h : ok (f_MO_statementTold_J183  m) K) : AX gM s_MO_statementTold 183 [(0, .ref 0)] [] m Q := by
  unfold f_MO_statementTold_J183 at h
  refine ax_aload_n 0 d_MO_statementTold_183 rfl rfl 184 rfl ?_
  refine ax_getI fl_MO_217 m_0 rfl d_MO_statementTold_184 187 rfl ?_
  refine ax_if_ne 279 190 d_MO_statementTold_187 rfl rfl (fun hc => ?_) (fun hc => ?_)
  · have h := ok_f hc h
    exact ax_sub [0] rfl (c_MO_statementTold_J279 m (fun p hp => hR p hp) h)
  · have h := ok_t hc h
    refine ax_aload_n 0 d_MO_statementTold_190 rfl rfl 191 rfl ?_
    refine ax_callV mv_MO_300 ⟨Nat.le_of_ble_eq_true rfl, Nat.le_of_ble_eq_true rfl⟩ ⟨rfl, rfl⟩ [] [.ref 0] rfl rfl (rc_m_0 _) (Nat.le_of_ble_eq_true rfl) d_MO_statementTold_191 194 rfl (zc_MO_neverTold m (ok_b h (fun p27 h => ?_)))
    refine ax_goto 279 d_MO_statementTold_194 rfl ?_
    exact ax_sub [0] rfl (c_MO_statementTold_J279 p27 (fun p hp => hR p hp) h)
