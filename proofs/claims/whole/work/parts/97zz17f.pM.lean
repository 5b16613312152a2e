set_option maxRecDepth 4000 in
theorem c_MO_tells_B30 (v1 : Int32) (v2 : Int32) (v3 : Int32) (m : zM)  {Q : Option Value → zM → Prop} {K : ((Int32 × zM) ⊕ (Int32 × Int32 × zM)) → Prop} (hR : ∀ p : Int32 × zM, K (.inl p) → Q (some (.int p.1)) p.2) (h0 : ∀ s : Int32 × Int32 × zM, K (.inr s) → AX gM s_MO_tells 30 [(0, .ref 0), (1, .int v1), (2, .int s.1), (3, .int s.2.1)] [] s.2.2 Q) (h : ok (f_MO_tells_B30 v1 v2 v3 m) K) : AX gM s_MO_tells 30 [(0, .ref 0), (1, .int v1), (2, .int v2), (3, .int v3)] [] m Q := by
  unfold f_MO_tells_B30 at h
  refine ax_iload_n 3 d_MO_tells_30 rfl rfl 31 rfl ?_
  refine ax_aload_n 0 d_MO_tells_31 rfl rfl 32 rfl ?_
  refine ax_getR fl_MO_81 m_0 rfl (rm_0_31 _) d_MO_tells_32 35 rfl ?_
  refine ax_iconst 0 d_MO_tells_35 ic_0 36 rfl ?_
  refine ax_iaload m_23 d_MO_tells_36 37 rfl h (fun i3 h => ?_)
  refine ax_icmp_ge 61 40 d_MO_tells_37 rfl rfl (fun hc => ?_) (fun hc => ?_)
  · have h := ok_t hc h
    exact ax_sub [0, 1, 2] rfl (c_MO_tells_J61 v1 v2 m (fun p hp => hR p hp) (ok_z h))
  · have h := ok_f hc h
    refine ax_aload_n 0 d_MO_tells_40 rfl rfl 41 rfl ?_
    refine ax_iload_n 3 d_MO_tells_41 rfl rfl 42 rfl ?_
    refine ax_callV mv_MO_606 ⟨Nat.le_of_ble_eq_true rfl, Nat.le_of_ble_eq_true rfl⟩ ⟨rfl, rfl⟩ [.int v3] [.int v3, .ref 0] rfl rfl (rc_m_0 _) (Nat.le_of_ble_eq_true rfl) d_MO_tells_42 45 rfl (zc_MO_mostBy v3 m (ok_b h (fun p4 h => ?_)))
    refine ax_aload_n 0 d_MO_tells_45 rfl rfl 46 rfl ?_
    refine ax_iload_n 2 d_MO_tells_46 rfl rfl 47 rfl ?_
    refine ax_callV mv_MO_606 ⟨Nat.le_of_ble_eq_true rfl, Nat.le_of_ble_eq_true rfl⟩ ⟨rfl, rfl⟩ [.int v2] [.int v2, .ref 0, .int p4.1] rfl rfl (rc_m_0 _) (Nat.le_of_ble_eq_true rfl) d_MO_tells_47 50 rfl (zc_MO_mostBy v2 p4.2 (ok_b h (fun p5 h => ?_)))
    refine ax_icmp_ge 55 53 d_MO_tells_50 rfl rfl (fun hc => ?_) (fun hc => ?_)
    · have h := ok_t hc h
      exact ax_sub [0, 1, 2, 3] rfl (c_MO_tells_J55 v1 v2 v3 p5.2 (fun p hp => hR p hp) (fun s hs => h0 s hs) h)
    · have h := ok_f hc h
      refine ax_iload_n 3 d_MO_tells_53 rfl rfl 54 rfl ?_
      refine ax_istore_n (ls1 := [(2, .int v3), (0, .ref 0), (1, .int v1), (3, .int v3)]) d_MO_tells_54 rfl (Nat.le_of_ble_eq_true rfl) rfl 55 rfl ?_
      exact ax_sub [1, 2, 0, 3] rfl (c_MO_tells_J55 v1 v3 v3 p5.2 (fun p hp => hR p hp) (fun s hs => h0 s hs) h)
theorem c_MO_tells_L30 (v1 : Int32) (v2 : Int32) (v3 : Int32) (m : zM)  {Q : Option Value → zM → Prop} {K : (Int32 × zM) → Prop} (hR : ∀ p : Int32 × zM, K (p) → Q (some (.int p.1)) p.2)  (h : ok (f_MO_tells_L30 v1 v2 v3 m) K) : AX gM s_MO_tells 30 [(0, .ref 0), (1, .int v1), (2, .int v2), (3, .int v3)] [] m Q :=
  ok_lp (K := K) (G := fun s : Int32 × Int32 × zM => AX gM s_MO_tells 30 [(0, .ref 0), (1, .int v1), (2, .int s.1), (3, .int s.2.1)] [] s.2.2 Q) (fun s h => c_MO_tells_B30 v1 s.1 s.2.1 s.2.2  (fun p hp => hR p hp) (fun s hs => hs) h) FU (v2, v3, m) h
set_option maxRecDepth 4000 in
theorem zc_MO_tells (v1 : Int32) (m : zM)  {Q : Option Value → zM → Prop} (h : ok (f_MO_tells v1 m) (fun p => Q (some (.int p.1)) p.2)) : zc gM s_MO_tells [.ref 0, .int v1] m Q := by
  refine zc_of rfl (Nat.le_of_ble_eq_true rfl) ?_
  show AX gM s_MO_tells 0 [(0, .ref 0), (1, .int v1)] [] m Q
  obtain ⟨K, hK⟩ : ∃ K : (Int32 × zM) → Prop, K = (fun p : Int32 × zM => Q (some (.int p.1)) p.2) := ⟨_, rfl⟩
  have hR : ∀ p : Int32 × zM, K p → Q (some (.int p.1)) p.2 := fun p hp => by rw [hK] at hp; exact hp
  replace h : ok (f_MO_tells v1 m) (fun p : Int32 × zM => Q (some (.int p.1)) p.2) := h
  rw [← hK] at h
  unfold f_MO_tells at h
  refine ax_aload_n 0 d_MO_tells_0 rfl rfl 1 rfl ?_
  refine ax_callV mv_MO_505 ⟨Nat.le_of_ble_eq_true rfl, Nat.le_of_ble_eq_true rfl⟩ ⟨rfl, rfl⟩ [] [.ref 0] rfl rfl (rc_m_0 _) (Nat.le_of_ble_eq_true rfl) d_MO_tells_1 4 rfl (zc_MO_isAsked m (ok_b h (fun p1 h => ?_)))
  refine ax_ifb_eq 24 7 d_MO_tells_4 rfl rfl (fun hc => ?_) (fun hc => ?_)
  · have h := ok_f (bf hc) h
    refine ax_iconst (-1) d_MO_tells_24 ic_m1 25 rfl ?_
    exact ax_iret rfl d_MO_tells_25 (hR ((-1), p1.2) (ok_some h))
  · have h := ok_t hc h
    refine ax_iload_n 1 d_MO_tells_7 rfl rfl 8 rfl ?_
    refine ax_i2l d_MO_tells_8 9 rfl ?_
    refine ax_lconst 0 d_MO_tells_9 lc_0 10 rfl ?_
    refine ax_lconst 1 d_MO_tells_10 lc_1 11 rfl ?_
    refine ax_callS mv_MO_210 ⟨Nat.le_of_ble_eq_true rfl, Nat.le_of_ble_eq_true rfl⟩ ⟨rfl, rfl⟩ [.long v1.toInt64, .long 0, .long 1] [.long 1, .long 0, .long v1.toInt64] rfl rfl (Nat.le_of_ble_eq_true rfl) d_MO_tells_11 14 rfl (zc_MO_isIn v1.toInt64 0 1 p1.2 ?_)
    refine ax_ifb_eq 24 17 d_MO_tells_14 rfl rfl (fun hc => ?_) (fun hc => ?_)
    · have h := ok_f (bf hc) h
      refine ax_iconst (-1) d_MO_tells_24 ic_m1 25 rfl ?_
      exact ax_iret rfl d_MO_tells_25 (hR ((-1), p1.2) (ok_some h))
    · have h := ok_t hc h
      refine ax_aload_n 0 d_MO_tells_17 rfl rfl 18 rfl ?_
      refine ax_callV mv_MO_603 ⟨Nat.le_of_ble_eq_true rfl, Nat.le_of_ble_eq_true rfl⟩ ⟨rfl, rfl⟩ [] [.ref 0] rfl rfl (rc_m_0 _) (Nat.le_of_ble_eq_true rfl) d_MO_tells_18 21 rfl (zc_MO_laysCould p1.2 (ok_b h (fun p2 h => ?_)))
      refine ax_if_ne 26 24 d_MO_tells_21 rfl rfl (fun hc => ?_) (fun hc => ?_)
      · have h := ok_f hc h
        refine ax_iconst 0 d_MO_tells_26 ic_0 27 rfl ?_
        refine ax_istore_n (ls1 := [(2, .int 0), (0, .ref 0), (1, .int v1)]) d_MO_tells_27 rfl (Nat.le_of_ble_eq_true rfl) rfl 28 rfl ?_
        refine ax_iconst 1 d_MO_tells_28 ic_1 29 rfl ?_
        refine ax_istore_n (ls1 := [(3, .int 1), (2, .int 0), (0, .ref 0), (1, .int v1)]) d_MO_tells_29 rfl (Nat.le_of_ble_eq_true rfl) rfl 30 rfl ?_
        exact ax_sub [2, 3, 1, 0] rfl (c_MO_tells_L30 v1 0 1 p2.2 (fun p hp => hR p hp) h)
      · have h := ok_t hc h
        refine ax_iconst (-1) d_MO_tells_24 ic_m1 25 rfl ?_
        exact ax_iret rfl d_MO_tells_25 (hR ((-1), p2.2) (ok_some h))
set_option maxRecDepth 4000 in
theorem zc_MO_writes (v1 : Int32) (m : zM)  {Q : Option Value → zM → Prop} (h : ok (f_MO_writes v1 m) (fun p => Q none p)) : zc gM s_MO_writes [.ref 0, .int v1] m Q := by
  refine zc_of rfl (Nat.le_of_ble_eq_true rfl) ?_
  show AX gM s_MO_writes 0 [(0, .ref 0), (1, .int v1)] [] m Q
  obtain ⟨K, hK⟩ : ∃ K : zM → Prop, K = (fun p : zM => Q none p) := ⟨_, rfl⟩
  have hR : ∀ p : zM, K p → Q none p := fun p hp => by rw [hK] at hp; exact hp
  replace h : ok (f_MO_writes v1 m) (fun p : zM => Q none p) := h
  rw [← hK] at h
  unfold f_MO_writes at h
  refine ax_aload_n 0 d_MO_writes_0 rfl rfl 1 rfl ?_
  refine ax_getR fl_MO_191 m_0 rfl (rm_0_82 _) d_MO_writes_1 4 rfl ?_
  refine ax_aload_n 0 d_MO_writes_4 rfl rfl 5 rfl ?_
  refine ax_getI fl_MO_609 m_0 rfl d_MO_writes_5 8 rfl ?_
  refine ax_iload_n 1 d_MO_writes_8 rfl rfl 9 rfl ?_
  refine ax_iastore m_56 d_MO_writes_9 10 rfl h (fun i1 m2 h => ?_)
  refine ax_aload_n 0 d_MO_writes_10 rfl rfl 11 rfl ?_
  refine ax_dup d_MO_writes_11 rfl 12 rfl ?_
  refine ax_getI fl_MO_609 m_0 rfl d_MO_writes_12 15 rfl ?_
  refine ax_iconst 1 d_MO_writes_15 ic_1 16 rfl ?_
  refine ax_iadd d_MO_writes_16 17 rfl ?_
  refine ax_putI (K := K) fl_MO_609 m_0 rfl rfl rfl (Nat.le_of_ble_eq_true rfl) d_MO_writes_17 20 rfl h (fun m3 h => ?_)
  exact ax_vret rfl d_MO_writes_20 (hR m3 (ok_some h))
set_option maxRecDepth 4000 in
theorem c_MO_writesName_B31 (v3 : Int32) (v4 : Int32) (v5 : Int32) (m : zM)  {Q : Option Value → zM → Prop} {K : ((zM) ⊕ (Int32 × Int32 × zM)) → Prop} (hR : ∀ p : zM, K (.inl p) → Q none p) (h0 : ∀ s : Int32 × Int32 × zM, K (.inr s) → AX gM s_MO_writesName 31 [(0, .ref 0), (3, .int s.1), (4, .int v4), (5, .int s.2.1)] [] s.2.2 Q) (h : ok (f_MO_writesName_B31 v3 v4 v5 m) K) : AX gM s_MO_writesName 31 [(0, .ref 0), (3, .int v3), (4, .int v4), (5, .int v5)] [] m Q := by
  unfold f_MO_writesName_B31 at h
  refine ax_iload 3 d_MO_writesName_31 rfl 33 rfl ?_
  refine ax_iload 2 d_MO_writesName_33 rfl 35 rfl ?_
  refine ax_icmp_gt 68 38 d_MO_writesName_35 rfl rfl (fun hc => ?_) (fun hc => ?_)
  · have h := ok_t hc h
    exact ax_vret rfl d_MO_writesName_68 (hR m (ok_some h))
  · have h := ok_f hc h
    refine ax_aload_n 0 d_MO_writesName_38 rfl rfl 39 rfl ?_
    refine ax_getR fl_MO_191 m_0 rfl (rm_0_82 _) d_MO_writesName_39 42 rfl ?_
    refine ax_aload_n 0 d_MO_writesName_42 rfl rfl 43 rfl ?_
    refine ax_getI fl_MO_609 m_0 rfl d_MO_writesName_43 46 rfl ?_
    refine ax_iload 3 d_MO_writesName_46 rfl 48 rfl ?_
    refine ax_isub d_MO_writesName_48 49 rfl ?_
    refine ax_bipush 96 d_MO_writesName_49 bp_96 51 rfl ?_
    refine ax_iload_n 1 d_MO_writesName_51 rfl rfl 52 rfl ?_
    refine ax_bipush 27 d_MO_writesName_52 bp_27 54 rfl ?_
    refine ax_irem d_MO_writesName_54 (by decide) 55 rfl ?_
    refine ax_iadd d_MO_writesName_55 56 rfl ?_
    refine ax_iastore m_56 d_MO_writesName_56 57 rfl h (fun i4 m5 h => ?_)
    refine ax_iload_n 1 d_MO_writesName_57 rfl rfl 58 rfl ?_
    refine ax_bipush 27 d_MO_writesName_58 bp_27 60 rfl ?_
    refine ax_idiv d_MO_writesName_60 (by decide) 61 rfl ?_
    refine ax_istore_n (ls1 := [(3, .int (v3 / 27)), (0, .ref 0), (4, .int v4), (5, .int v5)]) d_MO_writesName_61 rfl (Nat.le_of_ble_eq_true rfl) rfl 62 rfl ?_
    refine ax_iinc (ls1 := [(5, .int (v5 + 1)), (3, .int (v3 / 27)), (0, .ref 0), (4, .int v4)]) 3 1 d_MO_writesName_62 rfl ic_1 (Nat.le_of_ble_eq_true rfl) rfl 65 rfl ?_
    refine ax_goto 31 d_MO_writesName_65 rfl ?_
    exact ax_sub [2, 1, 3, 0] rfl (h0 ((v3 / 27), (v5 + 1), m5) (ok_some h))
theorem c_MO_writesName_L31 (v3 : Int32) (v4 : Int32) (v5 : Int32) (m : zM)  {Q : Option Value → zM → Prop} {K : zM → Prop} (hR : ∀ p : zM, K (p) → Q none p)  (h : ok (f_MO_writesName_L31 v3 v4 v5 m) K) : AX gM s_MO_writesName 31 [(0, .ref 0), (3, .int v3), (4, .int v4), (5, .int v5)] [] m Q :=
  ok_lp (K := K) (G := fun s : Int32 × Int32 × zM => AX gM s_MO_writesName 31 [(0, .ref 0), (3, .int s.1), (4, .int v4), (5, .int s.2.1)] [] s.2.2 Q) (fun s h => c_MO_writesName_B31 s.1 v4 s.2.1 s.2.2  (fun p hp => hR p hp) (fun s hs => hs) h) FU (v3, v5, m) h
set_option maxRecDepth 4000 in
theorem zc_MO_writesName (v1 : Int32) (v2 : Int32) (m : zM)  {Q : Option Value → zM → Prop} (h : ok (f_MO_writesName v1 v2 m) (fun p => Q none p)) : zc gM s_MO_writesName [.ref 0, .int v1, .int v2] m Q := by
  refine zc_of rfl (Nat.le_of_ble_eq_true rfl) ?_
  show AX gM s_MO_writesName 0 [(0, .ref 0), (1, .int v1), (2, .int v2)] [] m Q
  obtain ⟨K, hK⟩ : ∃ K : zM → Prop, K = (fun p : zM => Q none p) := ⟨_, rfl⟩
  have hR : ∀ p : zM, K p → Q none p := fun p hp => by rw [hK] at hp; exact hp
  replace h : ok (f_MO_writesName v1 v2 m) (fun p : zM => Q none p) := h
  rw [← hK] at h
  unfold f_MO_writesName at h
  refine ax_aload_n 0 d_MO_writesName_0 rfl rfl 1 rfl ?_
  refine ax_getR fl_MO_81 m_0 rfl (rm_0_31 _) d_MO_writesName_1 4 rfl ?_
  refine ax_iload_n 1 d_MO_writesName_4 rfl rfl 5 rfl ?_
  refine ax_iload_n 2 d_MO_writesName_5 rfl rfl 6 rfl ?_
  refine ax_callS mv_MO_263 ⟨Nat.le_of_ble_eq_true rfl, Nat.le_of_ble_eq_true rfl⟩ ⟨rfl, rfl⟩ [.int v1, .int v2] [.int v2, .int v1, .ref 23] rfl rfl (Nat.le_of_ble_eq_true rfl) d_MO_writesName_6 9 rfl (zc_MO_nameAt v1 v2 m ?_)
  refine ax_iaload m_23 d_MO_writesName_9 10 rfl h (fun i1 h => ?_)
  refine ax_istore_n (ls1 := [(3, .int (m.1 23 i1)), (0, .ref 0), (1, .int v1), (2, .int v2)]) d_MO_writesName_10 rfl (Nat.le_of_ble_eq_true rfl) rfl 11 rfl ?_
  refine ax_iload_n 0 d_MO_writesName_11 rfl rfl 12 rfl ?_
  refine ax_callS mv_MO_518 ⟨Nat.le_of_ble_eq_true rfl, Nat.le_of_ble_eq_true rfl⟩ ⟨rfl, rfl⟩ [.int (m.1 23 i1)] [.int (m.1 23 i1)] rfl rfl (Nat.le_of_ble_eq_true rfl) d_MO_writesName_12 15 rfl (zc_MO_lettersOf (m.1 23 i1) m (ok_b h (fun r2 h => ?_)))
  refine ax_istore (ls1 := [(4, .int r2), (3, .int (m.1 23 i1)), (0, .ref 0), (1, .int v1), (2, .int v2)]) d_MO_writesName_15 (Nat.le_of_ble_eq_true rfl) rfl 17 rfl ?_
  refine ax_aload_n 2 d_MO_writesName_17 rfl rfl 18 rfl ?_
  refine ax_dup d_MO_writesName_18 rfl 19 rfl ?_
  refine ax_getI fl_MO_609 m_0 rfl d_MO_writesName_19 22 rfl ?_
  refine ax_iload 0 d_MO_writesName_22 rfl 24 rfl ?_
  refine ax_iadd d_MO_writesName_24 25 rfl ?_
  refine ax_putI (K := K) fl_MO_609 m_0 rfl rfl rfl (Nat.le_of_ble_eq_true rfl) d_MO_writesName_25 28 rfl h (fun m3 h => ?_)
  refine ax_iconst 1 d_MO_writesName_28 ic_1 29 rfl ?_
  refine ax_istore (ls1 := [(5, .int 1), (4, .int r2), (3, .int (m.1 23 i1)), (0, .ref 0), (1, .int v1), (2, .int v2)]) d_MO_writesName_29 (Nat.le_of_ble_eq_true rfl) rfl 31 rfl ?_
  exact ax_sub [3, 2, 1, 0] rfl (c_MO_writesName_L31 (m.1 23 i1) r2 1 m3 (fun p hp => hR p hp) h)
set_option maxRecDepth 4000 in
theorem c_MO_writesAgent_J69 (v1 : Int32) (m : zM)  {Q : Option Value → zM → Prop} {K : zM → Prop} (hR : ∀ p : zM, K (p) → Q none p)  (h : ok (f_MO_writesAgent_J69 v1 m) K) : AX gM s_MO_writesAgent 69 [(0, .ref 0), (1, .int v1)] [] m Q := by
  unfold f_MO_writesAgent_J69 at h
  refine ax_iload_n 1 d_MO_writesAgent_69 rfl rfl 70 rfl ?_
  refine ax_callS mv_MO_355 ⟨Nat.le_of_ble_eq_true rfl, Nat.le_of_ble_eq_true rfl⟩ ⟨rfl, rfl⟩ [.int v1] [.int v1] rfl rfl (Nat.le_of_ble_eq_true rfl) d_MO_writesAgent_70 73 rfl (zc_MO_outOf v1 m ?_)
  refine ax_if_ne 77 76 d_MO_writesAgent_73 rfl rfl (fun hc => ?_) (fun hc => ?_)
  · have h := ok_f hc h
    refine ax_aload_n 0 d_MO_writesAgent_77 rfl rfl 78 rfl ?_
    refine ax_bipush 33 d_MO_writesAgent_78 bp_33 80 rfl ?_
    refine ax_callV mv_MO_612 ⟨Nat.le_of_ble_eq_true rfl, Nat.le_of_ble_eq_true rfl⟩ ⟨rfl, rfl⟩ [.int 33] [.int 33, .ref 0] rfl rfl (rc_m_0 _) (Nat.le_of_ble_eq_true rfl) d_MO_writesAgent_80 83 rfl (zc_MO_writes 33 m (ok_b h (fun p7 h => ?_)))
    refine ax_aload_n 0 d_MO_writesAgent_83 rfl rfl 84 rfl ?_
    refine ax_iconst 2 d_MO_writesAgent_84 ic_2 85 rfl ?_
    refine ax_iload_n 1 d_MO_writesAgent_85 rfl rfl 86 rfl ?_
    refine ax_callS mv_MO_355 ⟨Nat.le_of_ble_eq_true rfl, Nat.le_of_ble_eq_true rfl⟩ ⟨rfl, rfl⟩ [.int v1] [.int v1, .int 2, .ref 0] rfl rfl (Nat.le_of_ble_eq_true rfl) d_MO_writesAgent_86 89 rfl (zc_MO_outOf v1 p7 ?_)
    refine ax_iconst 1 d_MO_writesAgent_89 ic_1 90 rfl ?_
    refine ax_isub d_MO_writesAgent_90 91 rfl ?_
    refine ax_callV mv_MO_615 ⟨Nat.le_of_ble_eq_true rfl, Nat.le_of_ble_eq_true rfl⟩ ⟨rfl, rfl⟩ [.int 2, .int ((f_MO_outOf v1) - 1)] [.int ((f_MO_outOf v1) - 1), .int 2, .ref 0] rfl rfl (rc_m_0 _) (Nat.le_of_ble_eq_true rfl) d_MO_writesAgent_91 94 rfl (zc_MO_writesName 2 ((f_MO_outOf v1) - 1) p7 (ok_b h (fun p8 h => ?_)))
    exact ax_vret rfl d_MO_writesAgent_94 (hR p8 (ok_some h))
  · have h := ok_t hc h
    exact ax_vret rfl d_MO_writesAgent_76 (hR m (ok_some h))
set_option maxRecDepth 4000 in
theorem c_MO_writesAgent_J63 (v1 : Int32) (m : zM)  {Q : Option Value → zM → Prop} {K : zM → Prop} (hR : ∀ p : zM, K (p) → Q none p)  (h : ok (f_MO_writesAgent_J63 v1 m) K) : AX gM s_MO_writesAgent 63 [(0, .ref 0), (1, .int v1)] [] m Q := by
  unfold f_MO_writesAgent_J63 at h
  refine ax_aload_n 0 d_MO_writesAgent_63 rfl rfl 64 rfl ?_
  refine ax_bipush 62 d_MO_writesAgent_64 bp_62 66 rfl ?_
  refine ax_callV mv_MO_612 ⟨Nat.le_of_ble_eq_true rfl, Nat.le_of_ble_eq_true rfl⟩ ⟨rfl, rfl⟩ [.int 62] [.int 62, .ref 0] rfl rfl (rc_m_0 _) (Nat.le_of_ble_eq_true rfl) d_MO_writesAgent_66 69 rfl (zc_MO_writes 62 m (ok_b h (fun p9 h => ?_)))
  exact ax_sub [0, 1] rfl (c_MO_writesAgent_J69 v1 p9 (fun p hp => hR p hp) h)
set_option maxRecDepth 4000 in
theorem zc_MO_writesAgent (v1 : Int32) (m : zM)  {Q : Option Value → zM → Prop} (h : ok (f_MO_writesAgent v1 m) (fun p => Q none p)) : zc gM s_MO_writesAgent [.ref 0, .int v1] m Q := by
  refine zc_of rfl (Nat.le_of_ble_eq_true rfl) ?_
  show AX gM s_MO_writesAgent 0 [(0, .ref 0), (1, .int v1)] [] m Q
  obtain ⟨K, hK⟩ : ∃ K : zM → Prop, K = (fun p : zM => Q none p) := ⟨_, rfl⟩
  have hR : ∀ p : zM, K p → Q none p := fun p hp => by rw [hK] at hp; exact hp
  replace h : ok (f_MO_writesAgent v1 m) (fun p : zM => Q none p) := h
  rw [← hK] at h
  unfold f_MO_writesAgent at h
  refine ax_aload_n 0 d_MO_writesAgent_0 rfl rfl 1 rfl ?_
  refine ax_bipush 32 d_MO_writesAgent_1 bp_32 3 rfl ?_
  refine ax_callV mv_MO_612 ⟨Nat.le_of_ble_eq_true rfl, Nat.le_of_ble_eq_true rfl⟩ ⟨rfl, rfl⟩ [.int 32] [.int 32, .ref 0] rfl rfl (rc_m_0 _) (Nat.le_of_ble_eq_true rfl) d_MO_writesAgent_3 6 rfl (zc_MO_writes 32 m (ok_b h (fun p1 h => ?_)))
  refine ax_aload_n 0 d_MO_writesAgent_6 rfl rfl 7 rfl ?_
  refine ax_iconst 0 d_MO_writesAgent_7 ic_0 8 rfl ?_
  refine ax_iload_n 1 d_MO_writesAgent_8 rfl rfl 9 rfl ?_
  refine ax_callS mv_MO_346 ⟨Nat.le_of_ble_eq_true rfl, Nat.le_of_ble_eq_true rfl⟩ ⟨rfl, rfl⟩ [.int v1] [.int v1, .int 0, .ref 0] rfl rfl (Nat.le_of_ble_eq_true rfl) d_MO_writesAgent_9 12 rfl (zc_MO_stateOf v1 p1 ?_)
  refine ax_callV mv_MO_615 ⟨Nat.le_of_ble_eq_true rfl, Nat.le_of_ble_eq_true rfl⟩ ⟨rfl, rfl⟩ [.int 0, .int (f_MO_stateOf v1)] [.int (f_MO_stateOf v1), .int 0, .ref 0] rfl rfl (rc_m_0 _) (Nat.le_of_ble_eq_true rfl) d_MO_writesAgent_12 15 rfl (zc_MO_writesName 0 (f_MO_stateOf v1) p1 (ok_b h (fun p2 h => ?_)))
  refine ax_iload_n 1 d_MO_writesAgent_15 rfl rfl 16 rfl ?_
  refine ax_callS mv_MO_340 ⟨Nat.le_of_ble_eq_true rfl, Nat.le_of_ble_eq_true rfl⟩ ⟨rfl, rfl⟩ [.int v1] [.int v1] rfl rfl (Nat.le_of_ble_eq_true rfl) d_MO_writesAgent_16 19 rfl (zc_MO_firstIn v1 p2 ?_)
  refine ax_if_le 69 22 d_MO_writesAgent_19 rfl rfl (fun hc => ?_) (fun hc => ?_)
  · have h := ok_t hc h
    exact ax_sub [0, 1] rfl (c_MO_writesAgent_J69 v1 p2 (fun p hp => hR p hp) h)
  · have h := ok_f hc h
    refine ax_aload_n 0 d_MO_writesAgent_22 rfl rfl 23 rfl ?_
    refine ax_bipush 60 d_MO_writesAgent_23 bp_60 25 rfl ?_
    refine ax_callV mv_MO_612 ⟨Nat.le_of_ble_eq_true rfl, Nat.le_of_ble_eq_true rfl⟩ ⟨rfl, rfl⟩ [.int 60] [.int 60, .ref 0] rfl rfl (rc_m_0 _) (Nat.le_of_ble_eq_true rfl) d_MO_writesAgent_25 28 rfl (zc_MO_writes 60 p2 (ok_b h (fun p3 h => ?_)))
    refine ax_aload_n 0 d_MO_writesAgent_28 rfl rfl 29 rfl ?_
    refine ax_iconst 2 d_MO_writesAgent_29 ic_2 30 rfl ?_
    refine ax_iload_n 1 d_MO_writesAgent_30 rfl rfl 31 rfl ?_
    refine ax_callS mv_MO_340 ⟨Nat.le_of_ble_eq_true rfl, Nat.le_of_ble_eq_true rfl⟩ ⟨rfl, rfl⟩ [.int v1] [.int v1, .int 2, .ref 0] rfl rfl (Nat.le_of_ble_eq_true rfl) d_MO_writesAgent_31 34 rfl (zc_MO_firstIn v1 p3 ?_)
    refine ax_iconst 1 d_MO_writesAgent_34 ic_1 35 rfl ?_
    refine ax_isub d_MO_writesAgent_35 36 rfl ?_
    refine ax_callV mv_MO_615 ⟨Nat.le_of_ble_eq_true rfl, Nat.le_of_ble_eq_true rfl⟩ ⟨rfl, rfl⟩ [.int 2, .int ((f_MO_firstIn v1) - 1)] [.int ((f_MO_firstIn v1) - 1), .int 2, .ref 0] rfl rfl (rc_m_0 _) (Nat.le_of_ble_eq_true rfl) d_MO_writesAgent_36 39 rfl (zc_MO_writesName 2 ((f_MO_firstIn v1) - 1) p3 (ok_b h (fun p4 h => ?_)))
    refine ax_iload_n 1 d_MO_writesAgent_39 rfl rfl 40 rfl ?_
    refine ax_callS mv_MO_343 ⟨Nat.le_of_ble_eq_true rfl, Nat.le_of_ble_eq_true rfl⟩ ⟨rfl, rfl⟩ [.int v1] [.int v1] rfl rfl (Nat.le_of_ble_eq_true rfl) d_MO_writesAgent_40 43 rfl (zc_MO_secondIn v1 p4 ?_)
    refine ax_if_le 63 46 d_MO_writesAgent_43 rfl rfl (fun hc => ?_) (fun hc => ?_)
    · have h := ok_t hc h
      exact ax_sub [0, 1] rfl (c_MO_writesAgent_J63 v1 p4 (fun p hp => hR p hp) h)
    · have h := ok_f hc h
      refine ax_aload_n 0 d_MO_writesAgent_46 rfl rfl 47 rfl ?_
      refine ax_bipush 44 d_MO_writesAgent_47 bp_44 49 rfl ?_
      refine ax_callV mv_MO_612 ⟨Nat.le_of_ble_eq_true rfl, Nat.le_of_ble_eq_true rfl⟩ ⟨rfl, rfl⟩ [.int 44] [.int 44, .ref 0] rfl rfl (rc_m_0 _) (Nat.le_of_ble_eq_true rfl) d_MO_writesAgent_49 52 rfl (zc_MO_writes 44 p4 (ok_b h (fun p5 h => ?_)))
      refine ax_aload_n 0 d_MO_writesAgent_52 rfl rfl 53 rfl ?_
      refine ax_iconst 2 d_MO_writesAgent_53 ic_2 54 rfl ?_
      refine ax_iload_n 1 d_MO_writesAgent_54 rfl rfl 55 rfl ?_
      refine ax_callS mv_MO_343 ⟨Nat.le_of_ble_eq_true rfl, Nat.le_of_ble_eq_true rfl⟩ ⟨rfl, rfl⟩ [.int v1] [.int v1, .int 2, .ref 0] rfl rfl (Nat.le_of_ble_eq_true rfl) d_MO_writesAgent_55 58 rfl (zc_MO_secondIn v1 p5 ?_)
      refine ax_iconst 1 d_MO_writesAgent_58 ic_1 59 rfl ?_
      refine ax_isub d_MO_writesAgent_59 60 rfl ?_
      refine ax_callV mv_MO_615 ⟨Nat.le_of_ble_eq_true rfl, Nat.le_of_ble_eq_true rfl⟩ ⟨rfl, rfl⟩ [.int 2, .int ((f_MO_secondIn v1) - 1)] [.int ((f_MO_secondIn v1) - 1), .int 2, .ref 0] rfl rfl (rc_m_0 _) (Nat.le_of_ble_eq_true rfl) d_MO_writesAgent_60 63 rfl (zc_MO_writesName 2 ((f_MO_secondIn v1) - 1) p5 (ok_b h (fun p6 h => ?_)))
      exact ax_sub [0, 1] rfl (c_MO_writesAgent_J63 v1 p6 (fun p hp => hR p hp) h)
set_option maxRecDepth 4000 in
theorem c_MO_writesWorld_B43 (v2 : Int32) (m : zM)  {Q : Option Value → zM → Prop} {K : ((zM) ⊕ (Int32 × zM)) → Prop} (hR : ∀ p : zM, K (.inl p) → Q none p) (h0 : ∀ s : Int32 × zM, K (.inr s) → AX gM s_MO_writesWorld 43 [(0, .ref 0), (2, .int s.1)] [] s.2 Q) (h : ok (f_MO_writesWorld_B43 v2 m) K) : AX gM s_MO_writesWorld 43 [(0, .ref 0), (2, .int v2)] [] m Q := by
  unfold f_MO_writesWorld_B43 at h
  refine ax_iload_n 1 d_MO_writesWorld_43 rfl rfl 44 rfl ?_
  refine ax_aload_n 0 d_MO_writesWorld_44 rfl rfl 45 rfl ?_
  refine ax_callV mv_MO_358 ⟨Nat.le_of_ble_eq_true rfl, Nat.le_of_ble_eq_true rfl⟩ ⟨rfl, rfl⟩ [] [.ref 0, .int v2] rfl rfl (rc_m_0 _) (Nat.le_of_ble_eq_true rfl) d_MO_writesWorld_45 48 rfl (zc_MO_agents m (ok_b h (fun r6 h => ?_)))
  refine ax_icmp_ge 67 51 d_MO_writesWorld_48 rfl rfl (fun hc => ?_) (fun hc => ?_)
  · have h := ok_t hc h
    exact ax_vret rfl d_MO_writesWorld_67 (hR m (ok_some h))
  · have h := ok_f hc h
    refine ax_aload_n 0 d_MO_writesWorld_51 rfl rfl 52 rfl ?_
    refine ax_aload_n 0 d_MO_writesWorld_52 rfl rfl 53 rfl ?_
    refine ax_getR fl_MO_87 m_0 rfl (rm_0_37 _) d_MO_writesWorld_53 56 rfl ?_
    refine ax_iload_n 1 d_MO_writesWorld_56 rfl rfl 57 rfl ?_
    refine ax_iaload m_25 d_MO_writesWorld_57 58 rfl h (fun i7 h => ?_)
    refine ax_callV mv_MO_618 ⟨Nat.le_of_ble_eq_true rfl, Nat.le_of_ble_eq_true rfl⟩ ⟨rfl, rfl⟩ [.int (m.1 25 i7)] [.int (m.1 25 i7), .ref 0] rfl rfl (rc_m_0 _) (Nat.le_of_ble_eq_true rfl) d_MO_writesWorld_58 61 rfl (zc_MO_writesAgent (m.1 25 i7) m (ok_b h (fun p8 h => ?_)))
    refine ax_iinc (ls1 := [(2, .int (v2 + 1)), (0, .ref 0)]) 1 1 d_MO_writesWorld_61 rfl ic_1 (Nat.le_of_ble_eq_true rfl) rfl 64 rfl ?_
    refine ax_goto 43 d_MO_writesWorld_64 rfl ?_
    exact ax_sub [1, 0] rfl (h0 ((v2 + 1), p8) (ok_some h))
theorem c_MO_writesWorld_L43 (v2 : Int32) (m : zM)  {Q : Option Value → zM → Prop} {K : zM → Prop} (hR : ∀ p : zM, K (p) → Q none p)  (h : ok (f_MO_writesWorld_L43 v2 m) K) : AX gM s_MO_writesWorld 43 [(0, .ref 0), (2, .int v2)] [] m Q :=
  ok_lp (K := K) (G := fun s : Int32 × zM => AX gM s_MO_writesWorld 43 [(0, .ref 0), (2, .int s.1)] [] s.2 Q) (fun s h => c_MO_writesWorld_B43 s.1 s.2  (fun p hp => hR p hp) (fun s hs => hs) h) FU (v2, m) h
set_option maxRecDepth 4000 in
theorem c_MO_writesWorld_J41  (m : zM)  {Q : Option Value → zM → Prop} {K : zM → Prop} (hR : ∀ p : zM, K (p) → Q none p)  (h : ok (f_MO_writesWorld_J41  m) K) : AX gM s_MO_writesWorld 41 [(0, .ref 0)] [] m Q := by
  unfold f_MO_writesWorld_J41 at h
  refine ax_iconst 0 d_MO_writesWorld_41 ic_0 42 rfl ?_
  refine ax_istore_n (ls1 := [(2, .int 0), (0, .ref 0)]) d_MO_writesWorld_42 rfl (Nat.le_of_ble_eq_true rfl) rfl 43 rfl ?_
  exact ax_sub [1, 0] rfl (c_MO_writesWorld_L43 0 m (fun p hp => hR p hp) h)
set_option maxRecDepth 4000 in
theorem zc_MO_writesWorld (v1 : Int32) (m : zM)  {Q : Option Value → zM → Prop} (h : ok (f_MO_writesWorld v1 m) (fun p => Q none p)) : zc gM s_MO_writesWorld [.ref 0, .int v1] m Q := by
  refine zc_of rfl (Nat.le_of_ble_eq_true rfl) ?_
  show AX gM s_MO_writesWorld 0 [(0, .ref 0), (1, .int v1)] [] m Q
  obtain ⟨K, hK⟩ : ∃ K : zM → Prop, K = (fun p : zM => Q none p) := ⟨_, rfl⟩
  have hR : ∀ p : zM, K p → Q none p := fun p hp => by rw [hK] at hp; exact hp
  replace h : ok (f_MO_writesWorld v1 m) (fun p : zM => Q none p) := h
  rw [← hK] at h
  unfold f_MO_writesWorld at h
  refine ax_aload_n 0 d_MO_writesWorld_0 rfl rfl 1 rfl ?_
  refine ax_iconst 0 d_MO_writesWorld_1 ic_0 2 rfl ?_
  refine ax_putI (K := K) fl_MO_609 m_0 rfl rfl rfl (Nat.le_of_ble_eq_true rfl) d_MO_writesWorld_2 5 rfl h (fun m1 h => ?_)
  refine ax_aload_n 0 d_MO_writesWorld_5 rfl rfl 6 rfl ?_
  refine ax_aload_n 0 d_MO_writesWorld_6 rfl rfl 7 rfl ?_
  refine ax_getR fl_MO_96 m_0 rfl (rm_0_42 _) d_MO_writesWorld_7 10 rfl ?_
  refine ax_iload_n 1 d_MO_writesWorld_10 rfl rfl 11 rfl ?_
  refine ax_laload m_27 d_MO_writesWorld_11 12 rfl h (fun i2 h => ?_)
  refine ax_callV mv_MO_415 ⟨Nat.le_of_ble_eq_true rfl, Nat.le_of_ble_eq_true rfl⟩ ⟨rfl, rfl⟩ [.long (m1.2.1 27 i2)] [.long (m1.2.1 27 i2), .ref 0] rfl rfl (rc_m_0 _) (Nat.le_of_ble_eq_true rfl) d_MO_writesWorld_12 15 rfl (zc_MO_opens (m1.2.1 27 i2) m1 (ok_b h (fun p3 h => ?_)))
  refine ax_aload_n 0 d_MO_writesWorld_15 rfl rfl 16 rfl ?_
  refine ax_getI fl_MO_334 m_0 rfl d_MO_writesWorld_16 19 rfl ?_
  refine ax_iconst (-1) d_MO_writesWorld_19 ic_m1 20 rfl ?_
  refine ax_icmp_ne 32 23 d_MO_writesWorld_20 rfl rfl (fun hc => ?_) (fun hc => ?_)
  · have h := ok_f hc h
    refine ax_aload_n 0 d_MO_writesWorld_32 rfl rfl 33 rfl ?_
    refine ax_iconst 1 d_MO_writesWorld_33 ic_1 34 rfl ?_
    refine ax_aload_n 0 d_MO_writesWorld_34 rfl rfl 35 rfl ?_
    refine ax_getI fl_MO_334 m_0 rfl d_MO_writesWorld_35 38 rfl ?_
    refine ax_callV mv_MO_615 ⟨Nat.le_of_ble_eq_true rfl, Nat.le_of_ble_eq_true rfl⟩ ⟨rfl, rfl⟩ [.int 1, .int (p3.1 0 36)] [.int (p3.1 0 36), .int 1, .ref 0] rfl rfl (rc_m_0 _) (Nat.le_of_ble_eq_true rfl) d_MO_writesWorld_38 41 rfl (zc_MO_writesName 1 (p3.1 0 36) p3 (ok_b h (fun p4 h => ?_)))
    exact ax_sub [0] rfl (c_MO_writesWorld_J41 p4 (fun p hp => hR p hp) h)
  · have h := ok_t hc h
    refine ax_aload_n 0 d_MO_writesWorld_23 rfl rfl 24 rfl ?_
    refine ax_bipush 45 d_MO_writesWorld_24 bp_45 26 rfl ?_
    refine ax_callV mv_MO_612 ⟨Nat.le_of_ble_eq_true rfl, Nat.le_of_ble_eq_true rfl⟩ ⟨rfl, rfl⟩ [.int 45] [.int 45, .ref 0] rfl rfl (rc_m_0 _) (Nat.le_of_ble_eq_true rfl) d_MO_writesWorld_26 29 rfl (zc_MO_writes 45 p3 (ok_b h (fun p5 h => ?_)))
    refine ax_goto 41 d_MO_writesWorld_29 rfl ?_
    exact ax_sub [0] rfl (c_MO_writesWorld_J41 p5 (fun p hp => hR p hp) h)
set_option maxRecDepth 4000 in
theorem zc_MO_spell (v1 : Int32) (m : zM)  {Q : Option Value → zM → Prop} (h : ok (f_MO_spell v1 m) (fun p => Q (some (.int p.1)) p.2)) : zc gM s_MO_spell [.ref 0, .int v1] m Q := by
  refine zc_of rfl (Nat.le_of_ble_eq_true rfl) ?_
  show AX gM s_MO_spell 0 [(0, .ref 0), (1, .int v1)] [] m Q
  obtain ⟨K, hK⟩ : ∃ K : (Int32 × zM) → Prop, K = (fun p : Int32 × zM => Q (some (.int p.1)) p.2) := ⟨_, rfl⟩
  have hR : ∀ p : Int32 × zM, K p → Q (some (.int p.1)) p.2 := fun p hp => by rw [hK] at hp; exact hp
  replace h : ok (f_MO_spell v1 m) (fun p : Int32 × zM => Q (some (.int p.1)) p.2) := h
  rw [← hK] at h
  unfold f_MO_spell at h
  refine ax_aload_n 0 d_MO_spell_0 rfl rfl 1 rfl ?_
  refine ax_iload_n 1 d_MO_spell_1 rfl rfl 2 rfl ?_
  refine ax_callV mv_MO_526 ⟨Nat.le_of_ble_eq_true rfl, Nat.le_of_ble_eq_true rfl⟩ ⟨rfl, rfl⟩ [.int v1] [.int v1, .ref 0] rfl rfl (rc_m_0 _) (Nat.le_of_ble_eq_true rfl) d_MO_spell_2 5 rfl (zc_MO_isWorld v1 m (ok_b h (fun p1 h => ?_)))
  refine ax_ifb_ne 10 8 d_MO_spell_5 rfl rfl (fun hc => ?_) (fun hc => ?_)
  · have h := ok_t hc h
    refine ax_aload_n 0 d_MO_spell_10 rfl rfl 11 rfl ?_
    refine ax_iload_n 1 d_MO_spell_11 rfl rfl 12 rfl ?_
    refine ax_callV mv_MO_621 ⟨Nat.le_of_ble_eq_true rfl, Nat.le_of_ble_eq_true rfl⟩ ⟨rfl, rfl⟩ [.int v1] [.int v1, .ref 0] rfl rfl (rc_m_0 _) (Nat.le_of_ble_eq_true rfl) d_MO_spell_12 15 rfl (zc_MO_writesWorld v1 p1.2 (ok_b h (fun p2 h => ?_)))
    refine ax_aload_n 0 d_MO_spell_15 rfl rfl 16 rfl ?_
    refine ax_getI fl_MO_609 m_0 rfl d_MO_spell_16 19 rfl ?_
    exact ax_iret rfl d_MO_spell_19 (hR ((p2.1 0 83), p2) (ok_some h))
  · have h := ok_f (bf hc) h
    refine ax_iconst (-1) d_MO_spell_8 ic_m1 9 rfl ?_
    exact ax_iret rfl d_MO_spell_9 (hR ((-1), p1.2) (ok_some h))
set_option maxRecDepth 4000 in
theorem c_MO_isSpelled_B12 (v1 : Int32) (v2 : Int32) (m : zM)  {Q : Option Value → zM → Prop} {K : ((Bool) ⊕ (Int32)) → Prop} (hR : ∀ p : Bool, K (.inl p) → Q (some (.int (b2i p))) m) (h0 : ∀ s : Int32, K (.inr s) → AX gM s_MO_isSpelled 12 [(0, .ref 0), (1, .int v1), (2, .int s)] [] m Q) (h : ok (f_MO_isSpelled_B12 v1 v2 m) K) : AX gM s_MO_isSpelled 12 [(0, .ref 0), (1, .int v1), (2, .int v2)] [] m Q := by
  unfold f_MO_isSpelled_B12 at h
  refine ax_iload_n 2 d_MO_isSpelled_12 rfl rfl 13 rfl ?_
  refine ax_iload_n 1 d_MO_isSpelled_13 rfl rfl 14 rfl ?_
  refine ax_icmp_ge 40 17 d_MO_isSpelled_14 rfl rfl (fun hc => ?_) (fun hc => ?_)
  · have h := ok_t hc h
    refine ax_iconst 1 d_MO_isSpelled_40 ic_1 41 rfl ?_
    exact ax_zret (b := true) rfl d_MO_isSpelled_41 (hR true (ok_some h))
  · have h := ok_f hc h
    refine ax_aload_n 0 d_MO_isSpelled_17 rfl rfl 18 rfl ?_
    refine ax_getR fl_MO_7 m_0 rfl (rm_0_0 _) d_MO_isSpelled_18 21 rfl ?_
    refine ax_iload_n 2 d_MO_isSpelled_21 rfl rfl 22 rfl ?_
    refine ax_iaload m_1 d_MO_isSpelled_22 23 rfl h (fun i1 h => ?_)
    refine ax_aload_n 0 d_MO_isSpelled_23 rfl rfl 24 rfl ?_
    refine ax_getR fl_MO_191 m_0 rfl (rm_0_82 _) d_MO_isSpelled_24 27 rfl ?_
    refine ax_iload_n 2 d_MO_isSpelled_27 rfl rfl 28 rfl ?_
    refine ax_iaload m_56 d_MO_isSpelled_28 29 rfl h (fun i2 h => ?_)
    refine ax_icmp_eq 34 32 d_MO_isSpelled_29 rfl rfl (fun hc => ?_) (fun hc => ?_)
    · have h := ok_t hc h
      refine ax_iinc (ls1 := [(2, .int (v2 + 1)), (0, .ref 0), (1, .int v1)]) 2 1 d_MO_isSpelled_34 rfl ic_1 (Nat.le_of_ble_eq_true rfl) rfl 37 rfl ?_
      refine ax_goto 12 d_MO_isSpelled_37 rfl ?_
      exact ax_sub [1, 2, 0] rfl (h0 (v2 + 1) (ok_some h))
    · have h := ok_f hc h
      refine ax_iconst 0 d_MO_isSpelled_32 ic_0 33 rfl ?_
      exact ax_zret (b := false) rfl d_MO_isSpelled_33 (hR false (ok_some h))
theorem c_MO_isSpelled_L12 (v1 : Int32) (v2 : Int32) (m : zM)  {Q : Option Value → zM → Prop} {K : Bool → Prop} (hR : ∀ p : Bool, K (p) → Q (some (.int (b2i p))) m)  (h : ok (f_MO_isSpelled_L12 v1 v2 m) K) : AX gM s_MO_isSpelled 12 [(0, .ref 0), (1, .int v1), (2, .int v2)] [] m Q :=
  ok_lp (K := K) (G := fun s : Int32 => AX gM s_MO_isSpelled 12 [(0, .ref 0), (1, .int v1), (2, .int s)] [] m Q) (fun s h => c_MO_isSpelled_B12 v1 s m  (fun p hp => hR p hp) (fun s hs => hs) h) FU v2 h
set_option maxRecDepth 4000 in
theorem zc_MO_isSpelled (v1 : Int32) (m : zM)  {Q : Option Value → zM → Prop} (h : ok (f_MO_isSpelled v1 m) (fun p => Q (some (.int (b2i p))) m)) : zc gM s_MO_isSpelled [.ref 0, .int v1] m Q := by
  refine zc_of rfl (Nat.le_of_ble_eq_true rfl) ?_
  show AX gM s_MO_isSpelled 0 [(0, .ref 0), (1, .int v1)] [] m Q
  obtain ⟨K, hK⟩ : ∃ K : Bool → Prop, K = (fun p : Bool => Q (some (.int (b2i p))) m) := ⟨_, rfl⟩
  have hR : ∀ p : Bool, K p → Q (some (.int (b2i p))) m := fun p hp => by rw [hK] at hp; exact hp
  replace h : ok (f_MO_isSpelled v1 m) (fun p : Bool => Q (some (.int (b2i p))) m) := h
  rw [← hK] at h
  unfold f_MO_isSpelled at h
  refine ax_iload_n 1 d_MO_isSpelled_0 rfl rfl 1 rfl ?_
  refine ax_aload_n 0 d_MO_isSpelled_1 rfl rfl 2 rfl ?_
  refine ax_getI fl_MO_609 m_0 rfl d_MO_isSpelled_2 5 rfl ?_
  refine ax_icmp_eq 10 8 d_MO_isSpelled_5 rfl rfl (fun hc => ?_) (fun hc => ?_)
  · have h := ok_t hc h
    refine ax_iconst 0 d_MO_isSpelled_10 ic_0 11 rfl ?_
    refine ax_istore_n (ls1 := [(2, .int 0), (0, .ref 0), (1, .int v1)]) d_MO_isSpelled_11 rfl (Nat.le_of_ble_eq_true rfl) rfl 12 rfl ?_
    exact ax_sub [1, 2, 0] rfl (c_MO_isSpelled_L12 v1 0 m (fun p hp => hR p hp) h)
  · have h := ok_f hc h
    refine ax_iconst 0 d_MO_isSpelled_8 ic_0 9 rfl ?_
    exact ax_zret (b := false) rfl d_MO_isSpelled_9 (hR false (ok_some h))
set_option maxRecDepth 4000 in
theorem c_MO_which_J127 (v3 : Int32) (m : zM)  {Q : Option Value → zM → Prop} {K : (Int32 × zM) → Prop} (hR : ∀ p : Int32 × zM, K (p) → Q (some (.int p.1)) p.2)  (h : ok (f_MO_which_J127 v3 m) K) : AX gM s_MO_which 127 [(0, .ref 0), (3, .int v3)] [] m Q := by
  unfold f_MO_which_J127 at h
  refine ax_iload_n 1 d_MO_which_127 rfl rfl 128 rfl ?_
  refine ax_iconst (-1) d_MO_which_128 ic_m1 129 rfl ?_
  refine ax_icmp_ne 140 132 d_MO_which_129 rfl rfl (fun hc => ?_) (fun hc => ?_)
  · have h := ok_f hc h
    refine ax_iload_n 1 d_MO_which_140 rfl rfl 141 rfl ?_
    exact ax_iret rfl d_MO_which_141 (hR (v3, m) (ok_some h))
  · have h := ok_t hc h
    refine ax_aload_n 0 d_MO_which_132 rfl rfl 133 rfl ?_
    refine ax_iconst 5 d_MO_which_133 ic_5 134 rfl ?_
    refine ax_callV mv_MO_200 ⟨Nat.le_of_ble_eq_true rfl, Nat.le_of_ble_eq_true rfl⟩ ⟨rfl, rfl⟩ [.int 5] [.int 5, .ref 0] rfl rfl (rc_m_0 _) (Nat.le_of_ble_eq_true rfl) d_MO_which_134 137 rfl (zc_MO_refuses 5 m (ok_b h (fun p12 h => ?_)))
    refine ax_goto 141 d_MO_which_137 rfl ?_
    exact ax_iret rfl d_MO_which_141 (hR (p12.1, p12.2) (ok_some h))
set_option maxRecDepth 4000 in
theorem c_MO_which_B101 (v2 : Int32) (v3 : Int32) (v4 : Int32) (m : zM)  {Q : Option Value → zM → Prop} {K : ((Int32 × zM) ⊕ (Int32 × zM)) → Prop} (hR : ∀ p : Int32 × zM, K (.inl p) → Q (some (.int p.1)) p.2) (h0 : ∀ s : Int32 × zM, K (.inr s) → AX gM s_MO_which 101 [(0, .ref 0), (2, .int v2), (3, .int v3), (4, .int s.1)] [] s.2 Q) (h : ok (f_MO_which_B101 v2 v3 v4 m) K) : AX gM s_MO_which 101 [(0, .ref 0), (2, .int v2), (3, .int v3), (4, .int v4)] [] m Q := by
  unfold f_MO_which_B101 at h
  refine ax_iload 3 d_MO_which_101 rfl 103 rfl ?_
  refine ax_iload_n 1 d_MO_which_103 rfl rfl 104 rfl ?_
  refine ax_icmp_ge 127 107 d_MO_which_104 rfl rfl (fun hc => ?_) (fun hc => ?_)
  · have h := ok_t hc h
    exact ax_sub [0, 2] rfl (c_MO_which_J127 v3 m (fun p hp => hR p hp) (ok_z h))
  · have h := ok_f hc h
    refine ax_aload_n 0 d_MO_which_107 rfl rfl 108 rfl ?_
    refine ax_getR fl_MO_191 m_0 rfl (rm_0_82 _) d_MO_which_108 111 rfl ?_
    refine ax_iload 3 d_MO_which_111 rfl 113 rfl ?_
    refine ax_aload_n 0 d_MO_which_113 rfl rfl 114 rfl ?_
    refine ax_getR fl_MO_194 m_0 rfl (rm_0_84 _) d_MO_which_114 117 rfl ?_
    refine ax_iload 3 d_MO_which_117 rfl 119 rfl ?_
    refine ax_iaload m_57 d_MO_which_119 120 rfl h (fun i9 h => ?_)
    refine ax_iastore m_56 d_MO_which_120 121 rfl h (fun i10 m11 h => ?_)
    refine ax_iinc (ls1 := [(4, .int (v4 + 1)), (0, .ref 0), (2, .int v2), (3, .int v3)]) 3 1 d_MO_which_121 rfl ic_1 (Nat.le_of_ble_eq_true rfl) rfl 124 rfl ?_
    refine ax_goto 101 d_MO_which_124 rfl ?_
    exact ax_sub [1, 2, 3, 0] rfl (h0 ((v4 + 1), m11) (ok_some h))
theorem c_MO_which_L101 (v2 : Int32) (v3 : Int32) (v4 : Int32) (m : zM)  {Q : Option Value → zM → Prop} {K : (Int32 × zM) → Prop} (hR : ∀ p : Int32 × zM, K (p) → Q (some (.int p.1)) p.2)  (h : ok (f_MO_which_L101 v2 v3 v4 m) K) : AX gM s_MO_which 101 [(0, .ref 0), (2, .int v2), (3, .int v3), (4, .int v4)] [] m Q :=
  ok_lp (K := K) (G := fun s : Int32 × zM => AX gM s_MO_which 101 [(0, .ref 0), (2, .int v2), (3, .int v3), (4, .int s.1)] [] s.2 Q) (fun s h => c_MO_which_B101 v2 v3 s.1 s.2  (fun p hp => hR p hp) (fun s hs => hs) h) FU (v4, m) h
set_option maxRecDepth 4000 in
theorem c_MO_which_J93 (v2 : Int32) (v3 : Int32) (m : zM)  {Q : Option Value → zM → Prop} {K : (Int32 × zM) → Prop} (hR : ∀ p : Int32 × zM, K (p) → Q (some (.int p.1)) p.2)  (h : ok (f_MO_which_J93 v2 v3 m) K) : AX gM s_MO_which 93 [(0, .ref 0), (2, .int v2), (3, .int v3)] [] m Q := by
  unfold f_MO_which_J93 at h
  refine ax_aload_n 0 d_MO_which_93 rfl rfl 94 rfl ?_
  refine ax_iload_n 1 d_MO_which_94 rfl rfl 95 rfl ?_
  refine ax_putI (K := K) fl_MO_609 m_0 rfl rfl rfl (Nat.le_of_ble_eq_true rfl) d_MO_which_95 98 rfl h (fun m8 h => ?_)
  refine ax_iconst 0 d_MO_which_98 ic_0 99 rfl ?_
  refine ax_istore (ls1 := [(4, .int 0), (0, .ref 0), (2, .int v2), (3, .int v3)]) d_MO_which_99 (Nat.le_of_ble_eq_true rfl) rfl 101 rfl ?_
  exact ax_sub [1, 2, 3, 0] rfl (c_MO_which_L101 v2 v3 0 m8 (fun p hp => hR p hp) h)
set_option maxRecDepth 4000 in
theorem c_MO_which_J87 (v1 : Int32) (v2 : Int32) (v3 : Int32) (v4 : Int32) (m : zM)  {Q : Option Value → zM → Prop} {K : ((Int32 × zM) ⊕ (Int32 × Int32 × zM)) → Prop} (hR : ∀ p : Int32 × zM, K (.inl p) → Q (some (.int p.1)) p.2) (h0 : ∀ s : Int32 × Int32 × zM, K (.inr s) → AX gM s_MO_which 49 [(0, .ref 0), (1, .int v1), (2, .int v2), (3, .int s.1), (4, .int s.2.1)] [] s.2.2 Q) (h : ok (f_MO_which_J87 v1 v2 v3 v4 m) K) : AX gM s_MO_which 87 [(0, .ref 0), (1, .int v1), (2, .int v2), (3, .int v3), (4, .int v4)] [] m Q := by
  unfold f_MO_which_J87 at h
  refine ax_iinc (ls1 := [(4, .int (v4 + 1)), (0, .ref 0), (1, .int v1), (2, .int v2), (3, .int v3)]) 4 1 d_MO_which_87 rfl ic_1 (Nat.le_of_ble_eq_true rfl) rfl 90 rfl ?_
  refine ax_goto 49 d_MO_which_90 rfl ?_
  exact ax_sub [1, 2, 3, 4, 0] rfl (h0 (v3, (v4 + 1), m) (ok_some h))
set_option maxRecDepth 4000 in
theorem c_MO_which_B49 (v1 : Int32) (v2 : Int32) (v3 : Int32) (v4 : Int32) (m : zM)  {Q : Option Value → zM → Prop} {K : ((Int32 × zM) ⊕ (Int32 × Int32 × zM)) → Prop} (hR : ∀ p : Int32 × zM, K (.inl p) → Q (some (.int p.1)) p.2) (h0 : ∀ s : Int32 × Int32 × zM, K (.inr s) → AX gM s_MO_which 49 [(0, .ref 0), (1, .int v1), (2, .int v2), (3, .int s.1), (4, .int s.2.1)] [] s.2.2 Q) (h : ok (f_MO_which_B49 v1 v2 v3 v4 m) K) : AX gM s_MO_which 49 [(0, .ref 0), (1, .int v1), (2, .int v2), (3, .int v3), (4, .int v4)] [] m Q := by
  unfold f_MO_which_B49 at h
  refine ax_aload_n 0 d_MO_which_49 rfl rfl 50 rfl ?_
  refine ax_getI fl_MO_321 m_0 rfl d_MO_which_50 53 rfl ?_
  refine ax_if_eq 93 56 d_MO_which_53 rfl rfl (fun hc => ?_) (fun hc => ?_)
  · have h := ok_t hc h
    exact ax_sub [0, 2, 3] rfl (c_MO_which_J93 v2 v3 m (fun p hp => hR p hp) (ok_z h))
  · have h := ok_f hc h
    refine ax_aload_n 0 d_MO_which_56 rfl rfl 57 rfl ?_
    refine ax_iload 4 d_MO_which_57 rfl 59 rfl ?_
    refine ax_callV mv_MO_526 ⟨Nat.le_of_ble_eq_true rfl, Nat.le_of_ble_eq_true rfl⟩ ⟨rfl, rfl⟩ [.int v4] [.int v4, .ref 0] rfl rfl (rc_m_0 _) (Nat.le_of_ble_eq_true rfl) d_MO_which_59 62 rfl (zc_MO_isWorld v4 m (ok_b h (fun p5 h => ?_)))
    refine ax_ifb_eq 93 65 d_MO_which_62 rfl rfl (fun hc => ?_) (fun hc => ?_)
    · have h := ok_f (bf hc) h
      exact ax_sub [0, 2, 3] rfl (c_MO_which_J93 v2 v3 p5.2 (fun p hp => hR p hp) (ok_z h))
    · have h := ok_t hc h
      refine ax_iload_n 3 d_MO_which_65 rfl rfl 66 rfl ?_
      refine ax_iconst (-1) d_MO_which_66 ic_m1 67 rfl ?_
      refine ax_icmp_ne 93 70 d_MO_which_67 rfl rfl (fun hc => ?_) (fun hc => ?_)
      · have h := ok_f hc h
        exact ax_sub [0, 2, 3] rfl (c_MO_which_J93 v2 v3 p5.2 (fun p hp => hR p hp) (ok_z h))
      · have h := ok_t hc h
        refine ax_aload_n 0 d_MO_which_70 rfl rfl 71 rfl ?_
        refine ax_iload 4 d_MO_which_71 rfl 73 rfl ?_
        refine ax_callV mv_MO_621 ⟨Nat.le_of_ble_eq_true rfl, Nat.le_of_ble_eq_true rfl⟩ ⟨rfl, rfl⟩ [.int v4] [.int v4, .ref 0] rfl rfl (rc_m_0 _) (Nat.le_of_ble_eq_true rfl) d_MO_which_73 76 rfl (zc_MO_writesWorld v4 p5.2 (ok_b h (fun p6 h => ?_)))
        refine ax_aload_n 0 d_MO_which_76 rfl rfl 77 rfl ?_
        refine ax_iload_n 1 d_MO_which_77 rfl rfl 78 rfl ?_
        refine ax_callV mv_MO_624 ⟨Nat.le_of_ble_eq_true rfl, Nat.le_of_ble_eq_true rfl⟩ ⟨rfl, rfl⟩ [.int v1] [.int v1, .ref 0] rfl rfl (rc_m_0 _) (Nat.le_of_ble_eq_true rfl) d_MO_which_78 81 rfl (zc_MO_isSpelled v1 p6 (ok_b h (fun r7 h => ?_)))
        refine ax_ifb_eq 87 84 d_MO_which_81 rfl rfl (fun hc => ?_) (fun hc => ?_)
        · have h := ok_f (bf hc) h
          exact ax_sub [0, 1, 2, 3, 4] rfl (c_MO_which_J87 v1 v2 v3 v4 p6 (fun p hp => hR p hp) (fun s hs => h0 s hs) h)
        · have h := ok_t hc h
          refine ax_iload 4 d_MO_which_84 rfl 86 rfl ?_
          refine ax_istore_n (ls1 := [(3, .int v4), (0, .ref 0), (1, .int v1), (2, .int v2), (4, .int v4)]) d_MO_which_86 rfl (Nat.le_of_ble_eq_true rfl) rfl 87 rfl ?_
          exact ax_sub [1, 2, 3, 0, 4] rfl (c_MO_which_J87 v1 v2 v4 v4 p6 (fun p hp => hR p hp) (fun s hs => h0 s hs) h)
theorem c_MO_which_L49 (v1 : Int32) (v2 : Int32) (v3 : Int32) (v4 : Int32) (m : zM)  {Q : Option Value → zM → Prop} {K : (Int32 × zM) → Prop} (hR : ∀ p : Int32 × zM, K (p) → Q (some (.int p.1)) p.2)  (h : ok (f_MO_which_L49 v1 v2 v3 v4 m) K) : AX gM s_MO_which 49 [(0, .ref 0), (1, .int v1), (2, .int v2), (3, .int v3), (4, .int v4)] [] m Q :=
  ok_lp (K := K) (G := fun s : Int32 × Int32 × zM => AX gM s_MO_which 49 [(0, .ref 0), (1, .int v1), (2, .int v2), (3, .int s.1), (4, .int s.2.1)] [] s.2.2 Q) (fun s h => c_MO_which_B49 v1 v2 s.1 s.2.1 s.2.2  (fun p hp => hR p hp) (fun s hs => hs) h) FU (v3, v4, m) h
set_option maxRecDepth 4000 in
theorem c_MO_which_J46 (v1 : Int32) (v2 : Int32) (v3 : Int32) (m : zM)  {Q : Option Value → zM → Prop} {K : (Int32 × zM) → Prop} (hR : ∀ p : Int32 × zM, K (p) → Q (some (.int p.1)) p.2)  (h : ok (f_MO_which_J46 v1 v2 v3 m) K) : AX gM s_MO_which 46 [(0, .ref 0), (1, .int v1), (2, .int v2), (3, .int v3)] [] m Q := by
  unfold f_MO_which_J46 at h
  refine ax_iconst 0 d_MO_which_46 ic_0 47 rfl ?_
  refine ax_istore (ls1 := [(4, .int 0), (0, .ref 0), (1, .int v1), (2, .int v2), (3, .int v3)]) d_MO_which_47 (Nat.le_of_ble_eq_true rfl) rfl 49 rfl ?_
  exact ax_sub [1, 2, 3, 4, 0] rfl (c_MO_which_L49 v1 v2 v3 0 m (fun p hp => hR p hp) h)
set_option maxRecDepth 4000 in
theorem c_MO_which_B20 (v1 : Int32) (v2 : Int32) (v3 : Int32) (v4 : Int32) (m : zM)  {Q : Option Value → zM → Prop} {K : ((Int32 × zM) ⊕ (Int32 × zM)) → Prop} (hR : ∀ p : Int32 × zM, K (.inl p) → Q (some (.int p.1)) p.2) (h0 : ∀ s : Int32 × zM, K (.inr s) → AX gM s_MO_which 20 [(0, .ref 0), (1, .int v1), (2, .int v2), (3, .int v3), (4, .int s.1)] [] s.2 Q) (h : ok (f_MO_which_B20 v1 v2 v3 v4 m) K) : AX gM s_MO_which 20 [(0, .ref 0), (1, .int v1), (2, .int v2), (3, .int v3), (4, .int v4)] [] m Q := by
  unfold f_MO_which_B20 at h
  refine ax_iload 4 d_MO_which_20 rfl 22 rfl ?_
  refine ax_iload_n 2 d_MO_which_22 rfl rfl 23 rfl ?_
  refine ax_icmp_ge 46 26 d_MO_which_23 rfl rfl (fun hc => ?_) (fun hc => ?_)
  · have h := ok_t hc h
    exact ax_sub [0, 1, 2, 3] rfl (c_MO_which_J46 v1 v2 v3 m (fun p hp => hR p hp) (ok_z h))
  · have h := ok_f hc h
    refine ax_aload_n 0 d_MO_which_26 rfl rfl 27 rfl ?_
    refine ax_getR fl_MO_194 m_0 rfl (rm_0_84 _) d_MO_which_27 30 rfl ?_
    refine ax_iload 4 d_MO_which_30 rfl 32 rfl ?_
    refine ax_aload_n 0 d_MO_which_32 rfl rfl 33 rfl ?_
    refine ax_getR fl_MO_191 m_0 rfl (rm_0_82 _) d_MO_which_33 36 rfl ?_
    refine ax_iload 4 d_MO_which_36 rfl 38 rfl ?_
    refine ax_iaload m_56 d_MO_which_38 39 rfl h (fun i2 h => ?_)
    refine ax_iastore m_57 d_MO_which_39 40 rfl h (fun i3 m4 h => ?_)
    refine ax_iinc (ls1 := [(4, .int (v4 + 1)), (0, .ref 0), (1, .int v1), (2, .int v2), (3, .int v3)]) 4 1 d_MO_which_40 rfl ic_1 (Nat.le_of_ble_eq_true rfl) rfl 43 rfl ?_
    refine ax_goto 20 d_MO_which_43 rfl ?_
    exact ax_sub [1, 2, 3, 4, 0] rfl (h0 ((v4 + 1), m4) (ok_some h))
theorem c_MO_which_L20 (v1 : Int32) (v2 : Int32) (v3 : Int32) (v4 : Int32) (m : zM)  {Q : Option Value → zM → Prop} {K : (Int32 × zM) → Prop} (hR : ∀ p : Int32 × zM, K (p) → Q (some (.int p.1)) p.2)  (h : ok (f_MO_which_L20 v1 v2 v3 v4 m) K) : AX gM s_MO_which 20 [(0, .ref 0), (1, .int v1), (2, .int v2), (3, .int v3), (4, .int v4)] [] m Q :=
  ok_lp (K := K) (G := fun s : Int32 × zM => AX gM s_MO_which 20 [(0, .ref 0), (1, .int v1), (2, .int v2), (3, .int v3), (4, .int s.1)] [] s.2 Q) (fun s h => c_MO_which_B20 v1 v2 v3 s.1 s.2  (fun p hp => hR p hp) (fun s hs => hs) h) FU (v4, m) h
set_option maxRecDepth 4000 in
theorem zc_MO_which  (m : zM)  {Q : Option Value → zM → Prop} (h : ok (f_MO_which m) (fun p => Q (some (.int p.1)) p.2)) : zc gM s_MO_which [.ref 0] m Q := by
  refine zc_of rfl (Nat.le_of_ble_eq_true rfl) ?_
  show AX gM s_MO_which 0 [(0, .ref 0)] [] m Q
  obtain ⟨K, hK⟩ : ∃ K : (Int32 × zM) → Prop, K = (fun p : Int32 × zM => Q (some (.int p.1)) p.2) := ⟨_, rfl⟩
  have hR : ∀ p : Int32 × zM, K p → Q (some (.int p.1)) p.2 := fun p hp => by rw [hK] at hp; exact hp
  replace h : ok (f_MO_which m) (fun p : Int32 × zM => Q (some (.int p.1)) p.2) := h
  rw [← hK] at h
  unfold f_MO_which at h
  refine ax_aload_n 0 d_MO_which_0 rfl rfl 1 rfl ?_
  refine ax_getI fl_MO_197 m_0 rfl d_MO_which_1 4 rfl ?_
  refine ax_istore_n (ls1 := [(1, .int (m.1 0 1)), (0, .ref 0)]) d_MO_which_4 rfl (Nat.le_of_ble_eq_true rfl) rfl 5 rfl ?_
  refine ax_aload_n 1 d_MO_which_5 rfl rfl 6 rfl ?_
  refine ax_getI fl_MO_609 m_0 rfl d_MO_which_6 9 rfl ?_
  refine ax_istore_n (ls1 := [(2, .int (m.1 0 83)), (1, .int (m.1 0 1)), (0, .ref 0)]) d_MO_which_9 rfl (Nat.le_of_ble_eq_true rfl) rfl 10 rfl ?_
  refine ax_iconst (-1) d_MO_which_10 ic_m1 11 rfl ?_
  refine ax_istore_n (ls1 := [(3, .int (-1)), (2, .int (m.1 0 83)), (1, .int (m.1 0 1)), (0, .ref 0)]) d_MO_which_11 rfl (Nat.le_of_ble_eq_true rfl) rfl 12 rfl ?_
  refine ax_aload_n 3 d_MO_which_12 rfl rfl 13 rfl ?_
  refine ax_iconst 0 d_MO_which_13 ic_0 14 rfl ?_
  refine ax_putI (K := K) fl_MO_197 m_0 rfl rfl rfl (Nat.le_of_ble_eq_true rfl) d_MO_which_14 17 rfl h (fun m1 h => ?_)
  refine ax_iconst 0 d_MO_which_17 ic_0 18 rfl ?_
  refine ax_istore (ls1 := [(4, .int 0), (3, .int (-1)), (2, .int (m.1 0 83)), (1, .int (m.1 0 1)), (0, .ref 0)]) d_MO_which_18 (Nat.le_of_ble_eq_true rfl) rfl 20 rfl ?_
  exact ax_sub [4, 3, 2, 1, 0] rfl (c_MO_which_L20 (m.1 0 1) (m.1 0 83) (-1) 0 m1 (fun p hp => hR p hp) h)
set_option maxRecDepth 4000 in
theorem c_MO_checked_B6 (v0 : Nat) (v1 : Int32) (v2 : Int32) (v3 : Int32) (m : zM) (hv0 : gM.1[v0]? = some (.inr (0, zlen gM v0))) {Q : Option Value → zM → Prop} {K : ((Int32) ⊕ (Int32 × Int32)) → Prop} (hR : ∀ p : Int32, K (.inl p) → Q (some (.int p)) m) (h0 : ∀ s : Int32 × Int32, K (.inr s) → AX gM s_MO_checked 6 [(0, .ref v0), (1, .int v1), (2, .int s.1), (3, .int s.2)] [] m Q) (h : ok (f_MO_checked_B6 v0 v1 v2 v3 m) K) : AX gM s_MO_checked 6 [(0, .ref v0), (1, .int v1), (2, .int v2), (3, .int v3)] [] m Q := by
  unfold f_MO_checked_B6 at h
  refine ax_iload_n 3 d_MO_checked_6 rfl rfl 7 rfl ?_
  refine ax_iload_n 1 d_MO_checked_7 rfl rfl 8 rfl ?_
  refine ax_icmp_ge 29 11 d_MO_checked_8 rfl rfl (fun hc => ?_) (fun hc => ?_)
  · have h := ok_t hc h
    refine ax_iload_n 2 d_MO_checked_29 rfl rfl 30 rfl ?_
    exact ax_iret rfl d_MO_checked_30 (hR v2 (ok_some h))
  · have h := ok_f hc h
    refine ax_iconst 5 d_MO_checked_11 ic_5 12 rfl ?_
    refine ax_iload_n 2 d_MO_checked_12 rfl rfl 13 rfl ?_
    refine ax_imul d_MO_checked_13 14 rfl ?_
    refine ax_aload_n 0 d_MO_checked_14 rfl rfl 15 rfl ?_
    refine ax_iload_n 3 d_MO_checked_15 rfl rfl 16 rfl ?_
    refine ax_iaload hv0 d_MO_checked_16 17 rfl h (fun i1 h => ?_)
    refine ax_iadd d_MO_checked_17 18 rfl ?_
    refine ax_sipush 251 d_MO_checked_18 sp_251 21 rfl ?_
    refine ax_irem d_MO_checked_21 (by decide) 22 rfl ?_
    refine ax_istore_n (ls1 := [(2, .int (ir ((5 * v2) + (m.1 v0 i1)) 251)), (0, .ref v0), (1, .int v1), (3, .int v3)]) d_MO_checked_22 rfl (Nat.le_of_ble_eq_true rfl) rfl 23 rfl ?_
    refine ax_iinc (ls1 := [(3, .int (v3 + 1)), (2, .int (ir ((5 * v2) + (m.1 v0 i1)) 251)), (0, .ref v0), (1, .int v1)]) 3 1 d_MO_checked_23 rfl ic_1 (Nat.le_of_ble_eq_true rfl) rfl 26 rfl ?_
    refine ax_goto 6 d_MO_checked_26 rfl ?_
    exact ax_sub [2, 3, 1, 0] rfl (h0 ((ir ((5 * v2) + (m.1 v0 i1)) 251), (v3 + 1)) (ok_some h))
theorem c_MO_checked_L6 (v0 : Nat) (v1 : Int32) (v2 : Int32) (v3 : Int32) (m : zM) (hv0 : gM.1[v0]? = some (.inr (0, zlen gM v0))) {Q : Option Value → zM → Prop} {K : Int32 → Prop} (hR : ∀ p : Int32, K (p) → Q (some (.int p)) m)  (h : ok (f_MO_checked_L6 v0 v1 v2 v3 m) K) : AX gM s_MO_checked 6 [(0, .ref v0), (1, .int v1), (2, .int v2), (3, .int v3)] [] m Q :=
  ok_lp (K := K) (G := fun s : Int32 × Int32 => AX gM s_MO_checked 6 [(0, .ref v0), (1, .int v1), (2, .int s.1), (3, .int s.2)] [] m Q) (fun s h => c_MO_checked_B6 v0 v1 s.1 s.2 m hv0 (fun p hp => hR p hp) (fun s hs => hs) h) FU (v2, v3) h
set_option maxRecDepth 4000 in
theorem zc_MO_checked (v0 : Nat) (v1 : Int32) (m : zM) (hv0 : gM.1[v0]? = some (.inr (0, zlen gM v0))) {Q : Option Value → zM → Prop} (h : ok (f_MO_checked v0 v1 m) (fun p => Q (some (.int p)) m)) : zc gM s_MO_checked [.ref v0, .int v1] m Q := by
  refine zc_of rfl (Nat.le_of_ble_eq_true rfl) ?_
  show AX gM s_MO_checked 0 [(0, .ref v0), (1, .int v1)] [] m Q
  obtain ⟨K, hK⟩ : ∃ K : Int32 → Prop, K = (fun p : Int32 => Q (some (.int p)) m) := ⟨_, rfl⟩
  have hR : ∀ p : Int32, K p → Q (some (.int p)) m := fun p hp => by rw [hK] at hp; exact hp
  replace h : ok (f_MO_checked v0 v1 m) (fun p : Int32 => Q (some (.int p)) m) := h
  rw [← hK] at h
  unfold f_MO_checked at h
  refine ax_sipush 193 d_MO_checked_0 sp_193 3 rfl ?_
  refine ax_istore_n (ls1 := [(2, .int 193), (0, .ref v0), (1, .int v1)]) d_MO_checked_3 rfl (Nat.le_of_ble_eq_true rfl) rfl 4 rfl ?_
  refine ax_iconst 0 d_MO_checked_4 ic_0 5 rfl ?_
  refine ax_istore_n (ls1 := [(3, .int 0), (2, .int 193), (0, .ref v0), (1, .int v1)]) d_MO_checked_5 rfl (Nat.le_of_ble_eq_true rfl) rfl 6 rfl ?_
  exact ax_sub [2, 3, 1, 0] rfl (c_MO_checked_L6 v0 v1 193 0 m hv0 (fun p hp => hR p hp) h)
set_option maxRecDepth 4000 in
theorem c_MO_image_J96  (m : zM)  {Q : Option Value → zM → Prop} {K : (Int32 × zM) → Prop} (hR : ∀ p : Int32 × zM, K (p) → Q (some (.int p.1)) p.2)  (h : ok (f_MO_image_J96  m) K) : AX gM s_MO_image 96 [(0, .ref 0)] [] m Q := by
  unfold f_MO_image_J96 at h
  refine ax_aload_n 0 d_MO_image_96 rfl rfl 97 rfl ?_
  refine ax_aload_n 0 d_MO_image_97 rfl rfl 98 rfl ?_
  refine ax_getR fl_MO_191 m_0 rfl (rm_0_82 _) d_MO_image_98 101 rfl ?_
  refine ax_aload_n 0 d_MO_image_101 rfl rfl 102 rfl ?_
  refine ax_getI fl_MO_609 m_0 rfl d_MO_image_102 105 rfl ?_
  refine ax_callS mv_MO_627 ⟨Nat.le_of_ble_eq_true rfl, Nat.le_of_ble_eq_true rfl⟩ ⟨rfl, rfl⟩ [.ref 56, .int (m.1 0 83)] [.int (m.1 0 83), .ref 56, .ref 0] rfl rfl (Nat.le_of_ble_eq_true rfl) d_MO_image_105 108 rfl (zc_MO_checked 56 (m.1 0 83) m m_56z (ok_b h (fun r5 h => ?_)))
  refine ax_callV mv_MO_612 ⟨Nat.le_of_ble_eq_true rfl, Nat.le_of_ble_eq_true rfl⟩ ⟨rfl, rfl⟩ [.int r5] [.int r5, .ref 0] rfl rfl (rc_m_0 _) (Nat.le_of_ble_eq_true rfl) d_MO_image_108 111 rfl (zc_MO_writes r5 m (ok_b h (fun p6 h => ?_)))
  refine ax_aload_n 0 d_MO_image_111 rfl rfl 112 rfl ?_
  refine ax_getI fl_MO_609 m_0 rfl d_MO_image_112 115 rfl ?_
  exact ax_iret rfl d_MO_image_115 (hR ((p6.1 0 83), p6) (ok_some h))
set_option maxRecDepth 4000 in
theorem c_MO_image_J90 (v1 : Int32) (m : zM)  {Q : Option Value → zM → Prop} {K : ((Int32 × zM) ⊕ (Int32 × zM)) → Prop} (hR : ∀ p : Int32 × zM, K (.inl p) → Q (some (.int p.1)) p.2) (h0 : ∀ s : Int32 × zM, K (.inr s) → AX gM s_MO_image 46 [(0, .ref 0), (1, .int s.1)] [] s.2 Q) (h : ok (f_MO_image_J90 v1 m) K) : AX gM s_MO_image 90 [(0, .ref 0), (1, .int v1)] [] m Q := by
  unfold f_MO_image_J90 at h
  refine ax_iinc (ls1 := [(1, .int (v1 + 1)), (0, .ref 0)]) 1 1 d_MO_image_90 rfl ic_1 (Nat.le_of_ble_eq_true rfl) rfl 93 rfl ?_
  refine ax_goto 46 d_MO_image_93 rfl ?_
  exact ax_sub [1, 0] rfl (h0 ((v1 + 1), m) (ok_some h))
set_option maxRecDepth 4000 in
theorem c_MO_image_J81 (v1 : Int32) (v2 : Int32) (t1 : Int32) (m : zM)  {Q : Option Value → zM → Prop} {K : (((Int32 × zM) ⊕ (Int32 × zM)) ⊕ (Int32 × zM)) → Prop} (hR : ∀ p : Int32 × zM, K (.inl (.inl p)) → Q (some (.int p.1)) p.2) (h0 : ∀ s : Int32 × zM, K (.inl (.inr s)) → AX gM s_MO_image 46 [(0, .ref 0), (1, .int s.1)] [] s.2 Q) (h1 : ∀ s : Int32 × zM, K (.inr s) → AX gM s_MO_image 56 [(0, .ref 0), (1, .int v1), (2, .int s.1)] [] s.2 Q) (h : ok (f_MO_image_J81 v1 v2 t1 m) K) : AX gM s_MO_image 81 [(0, .ref 0), (1, .int v1), (2, .int v2)] [.int t1, .ref 0] m Q := by
  unfold f_MO_image_J81 at h
  refine ax_callV mv_MO_612 ⟨Nat.le_of_ble_eq_true rfl, Nat.le_of_ble_eq_true rfl⟩ ⟨rfl, rfl⟩ [.int t1] [.int t1, .ref 0] rfl rfl (rc_m_0 _) (Nat.le_of_ble_eq_true rfl) d_MO_image_81 84 rfl (zc_MO_writes t1 m (ok_b h (fun p8 h => ?_)))
  refine ax_iinc (ls1 := [(2, .int (v2 + 1)), (0, .ref 0), (1, .int v1)]) 2 1 d_MO_image_84 rfl ic_1 (Nat.le_of_ble_eq_true rfl) rfl 87 rfl ?_
  refine ax_goto 56 d_MO_image_87 rfl ?_
  exact ax_sub [1, 2, 0] rfl (h1 ((v2 + 1), p8) (ok_some h))
set_option maxRecDepth 4000 in
theorem c_MO_image_B56 (v1 : Int32) (v2 : Int32) (m : zM)  {Q : Option Value → zM → Prop} {K : (((Int32 × zM) ⊕ (Int32 × zM)) ⊕ (Int32 × zM)) → Prop} (hR : ∀ p : Int32 × zM, K (.inl (.inl p)) → Q (some (.int p.1)) p.2) (h0 : ∀ s : Int32 × zM, K (.inl (.inr s)) → AX gM s_MO_image 46 [(0, .ref 0), (1, .int s.1)] [] s.2 Q) (h1 : ∀ s : Int32 × zM, K (.inr s) → AX gM s_MO_image 56 [(0, .ref 0), (1, .int v1), (2, .int s.1)] [] s.2 Q) (h : ok (f_MO_image_B56 v1 v2 m) K) : AX gM s_MO_image 56 [(0, .ref 0), (1, .int v1), (2, .int v2)] [] m Q := by
  unfold f_MO_image_B56 at h
  refine ax_iload_n 2 d_MO_image_56 rfl rfl 57 rfl ?_
  refine ax_iconst 4 d_MO_image_57 ic_4 58 rfl ?_
  refine ax_icmp_ge 90 61 d_MO_image_58 rfl rfl (fun hc => ?_) (fun hc => ?_)
  · have h := ok_t hc h
    exact ax_sub [0, 1] rfl (c_MO_image_J90 v1 m (fun p hp => hR p hp) (fun s hs => h0 s hs) (ok_z h))
  · have h := ok_f hc h
    refine ax_aload_n 0 d_MO_image_61 rfl rfl 62 rfl ?_
    refine ax_iload_n 1 d_MO_image_62 rfl rfl 63 rfl ?_
    refine ax_iload_n 2 d_MO_image_63 rfl rfl 64 rfl ?_
    refine ax_callV mv_MO_529 ⟨Nat.le_of_ble_eq_true rfl, Nat.le_of_ble_eq_true rfl⟩ ⟨rfl, rfl⟩ [.int v1, .int v2] [.int v2, .int v1, .ref 0] rfl rfl (rc_m_0 _) (Nat.le_of_ble_eq_true rfl) d_MO_image_64 67 rfl (zc_MO_agentHas v1 v2 m (ok_b h (fun r7 h => ?_)))
    refine ax_istore_n (ls1 := [(3, .int r7), (0, .ref 0), (1, .int v1), (2, .int v2)]) d_MO_image_67 rfl (Nat.le_of_ble_eq_true rfl) rfl 68 rfl ?_
    refine ax_aload_n 1 d_MO_image_68 rfl rfl 69 rfl ?_
    refine ax_iload_n 0 d_MO_image_69 rfl rfl 70 rfl ?_
    refine ax_iconst (-1) d_MO_image_70 ic_m1 71 rfl ?_
    refine ax_icmp_ne 80 74 d_MO_image_71 rfl rfl (fun hc => ?_) (fun hc => ?_)
    · have h := ok_f hc h
      refine ax_iload_n 0 d_MO_image_80 rfl rfl 81 rfl ?_
      exact ax_sub [1, 2, 3] rfl (c_MO_image_J81 v1 v2 r7 m (fun p hp => hR p hp) (fun s hs => h0 s hs) (fun s hs => h1 s hs) h)
    · have h := ok_t hc h
      refine ax_sipush 255 d_MO_image_74 sp_255 77 rfl ?_
      refine ax_goto 81 d_MO_image_77 rfl ?_
      exact ax_sub [1, 2, 3] rfl (c_MO_image_J81 v1 v2 255 m (fun p hp => hR p hp) (fun s hs => h0 s hs) (fun s hs => h1 s hs) h)
theorem c_MO_image_L56 (v1 : Int32) (v2 : Int32) (m : zM)  {Q : Option Value → zM → Prop} {K : ((Int32 × zM) ⊕ (Int32 × zM)) → Prop} (hR : ∀ p : Int32 × zM, K (.inl p) → Q (some (.int p.1)) p.2) (h0 : ∀ s : Int32 × zM, K (.inr s) → AX gM s_MO_image 46 [(0, .ref 0), (1, .int s.1)] [] s.2 Q) (h : ok (f_MO_image_L56 v1 v2 m) K) : AX gM s_MO_image 56 [(0, .ref 0), (1, .int v1), (2, .int v2)] [] m Q :=
  ok_lp (K := K) (G := fun s : Int32 × zM => AX gM s_MO_image 56 [(0, .ref 0), (1, .int v1), (2, .int s.1)] [] s.2 Q) (fun s h => c_MO_image_B56 v1 s.1 s.2  (fun p hp => hR p hp) (fun s hs => h0 s hs) (fun s hs => hs) h) FU (v2, m) h
set_option maxRecDepth 4000 in
theorem c_MO_image_B46 (v1 : Int32) (m : zM)  {Q : Option Value → zM → Prop} {K : ((Int32 × zM) ⊕ (Int32 × zM)) → Prop} (hR : ∀ p : Int32 × zM, K (.inl p) → Q (some (.int p.1)) p.2) (h0 : ∀ s : Int32 × zM, K (.inr s) → AX gM s_MO_image 46 [(0, .ref 0), (1, .int s.1)] [] s.2 Q) (h : ok (f_MO_image_B46 v1 m) K) : AX gM s_MO_image 46 [(0, .ref 0), (1, .int v1)] [] m Q := by
  unfold f_MO_image_B46 at h
  refine ax_iload_n 1 d_MO_image_46 rfl rfl 47 rfl ?_
  refine ax_aload_n 0 d_MO_image_47 rfl rfl 48 rfl ?_
  refine ax_callV mv_MO_358 ⟨Nat.le_of_ble_eq_true rfl, Nat.le_of_ble_eq_true rfl⟩ ⟨rfl, rfl⟩ [] [.ref 0, .int v1] rfl rfl (rc_m_0 _) (Nat.le_of_ble_eq_true rfl) d_MO_image_48 51 rfl (zc_MO_agents m (ok_b h (fun r4 h => ?_)))
  refine ax_icmp_ge 96 54 d_MO_image_51 rfl rfl (fun hc => ?_) (fun hc => ?_)
  · have h := ok_t hc h
    exact ax_sub [0] rfl (c_MO_image_J96 m (fun p hp => hR p hp) (ok_z h))
  · have h := ok_f hc h
    refine ax_iconst 0 d_MO_image_54 ic_0 55 rfl ?_
    refine ax_istore_n (ls1 := [(2, .int 0), (0, .ref 0), (1, .int v1)]) d_MO_image_55 rfl (Nat.le_of_ble_eq_true rfl) rfl 56 rfl ?_
    exact ax_sub [1, 2, 0] rfl (c_MO_image_L56 v1 0 m (fun p hp => hR p hp) (fun s hs => h0 s hs) h)
theorem c_MO_image_L46 (v1 : Int32) (m : zM)  {Q : Option Value → zM → Prop} {K : (Int32 × zM) → Prop} (hR : ∀ p : Int32 × zM, K (p) → Q (some (.int p.1)) p.2)  (h : ok (f_MO_image_L46 v1 m) K) : AX gM s_MO_image 46 [(0, .ref 0), (1, .int v1)] [] m Q :=
  ok_lp (K := K) (G := fun s : Int32 × zM => AX gM s_MO_image 46 [(0, .ref 0), (1, .int s.1)] [] s.2 Q) (fun s h => c_MO_image_B46 s.1 s.2  (fun p hp => hR p hp) (fun s hs => hs) h) FU (v1, m) h
set_option maxRecDepth 4000 in
theorem c_MO_image_J41 (t1 : Int32) (m : zM)  {Q : Option Value → zM → Prop} {K : (Int32 × zM) → Prop} (hR : ∀ p : Int32 × zM, K (p) → Q (some (.int p.1)) p.2)  (h : ok (f_MO_image_J41 t1 m) K) : AX gM s_MO_image 41 [(0, .ref 0)] [.int t1, .ref 0] m Q := by
  unfold f_MO_image_J41 at h
  refine ax_callV mv_MO_612 ⟨Nat.le_of_ble_eq_true rfl, Nat.le_of_ble_eq_true rfl⟩ ⟨rfl, rfl⟩ [.int t1] [.int t1, .ref 0] rfl rfl (rc_m_0 _) (Nat.le_of_ble_eq_true rfl) d_MO_image_41 44 rfl (zc_MO_writes t1 m (ok_b h (fun p3 h => ?_)))
  refine ax_iconst 0 d_MO_image_44 ic_0 45 rfl ?_
  refine ax_istore_n (ls1 := [(1, .int 0), (0, .ref 0)]) d_MO_image_45 rfl (Nat.le_of_ble_eq_true rfl) rfl 46 rfl ?_
  exact ax_sub [1, 0] rfl (c_MO_image_L46 0 p3 (fun p hp => hR p hp) h)
set_option maxRecDepth 4000 in
theorem zc_MO_image  (m : zM)  {Q : Option Value → zM → Prop} (h : ok (f_MO_image m) (fun p => Q (some (.int p.1)) p.2)) : zc gM s_MO_image [.ref 0] m Q := by
  refine zc_of rfl (Nat.le_of_ble_eq_true rfl) ?_
  show AX gM s_MO_image 0 [(0, .ref 0)] [] m Q
  obtain ⟨K, hK⟩ : ∃ K : (Int32 × zM) → Prop, K = (fun p : Int32 × zM => Q (some (.int p.1)) p.2) := ⟨_, rfl⟩
  have hR : ∀ p : Int32 × zM, K p → Q (some (.int p.1)) p.2 := fun p hp => by rw [hK] at hp; exact hp
  replace h : ok (f_MO_image m) (fun p : Int32 × zM => Q (some (.int p.1)) p.2) := h
  rw [← hK] at h
  unfold f_MO_image at h
  refine ax_aload_n 0 d_MO_image_0 rfl rfl 1 rfl ?_
  refine ax_getI fl_MO_321 m_0 rfl d_MO_image_1 4 rfl ?_
  refine ax_if_ne 9 7 d_MO_image_4 rfl rfl (fun hc => ?_) (fun hc => ?_)
  · have h := ok_f hc h
    refine ax_aload_n 0 d_MO_image_9 rfl rfl 10 rfl ?_
    refine ax_iconst 0 d_MO_image_10 ic_0 11 rfl ?_
    refine ax_putI (K := K) fl_MO_609 m_0 rfl rfl rfl (Nat.le_of_ble_eq_true rfl) d_MO_image_11 14 rfl h (fun m1 h => ?_)
    refine ax_aload_n 0 d_MO_image_14 rfl rfl 15 rfl ?_
    refine ax_aload_n 0 d_MO_image_15 rfl rfl 16 rfl ?_
    refine ax_getJ fl_MO_325 m_0 rfl d_MO_image_16 19 rfl ?_
    refine ax_callV mv_MO_415 ⟨Nat.le_of_ble_eq_true rfl, Nat.le_of_ble_eq_true rfl⟩ ⟨rfl, rfl⟩ [.long (m1.2.1 0 72)] [.long (m1.2.1 0 72), .ref 0] rfl rfl (rc_m_0 _) (Nat.le_of_ble_eq_true rfl) d_MO_image_19 22 rfl (zc_MO_opens (m1.2.1 0 72) m1 (ok_b h (fun p2 h => ?_)))
    refine ax_aload_n 0 d_MO_image_22 rfl rfl 23 rfl ?_
    refine ax_aload_n 0 d_MO_image_23 rfl rfl 24 rfl ?_
    refine ax_getI fl_MO_334 m_0 rfl d_MO_image_24 27 rfl ?_
    refine ax_iconst (-1) d_MO_image_27 ic_m1 28 rfl ?_
    refine ax_icmp_ne 37 31 d_MO_image_28 rfl rfl (fun hc => ?_) (fun hc => ?_)
    · have h := ok_f hc h
      refine ax_aload_n 0 d_MO_image_37 rfl rfl 38 rfl ?_
      refine ax_getI fl_MO_334 m_0 rfl d_MO_image_38 41 rfl ?_
      exact ax_sub [0] rfl (c_MO_image_J41 (p2.1 0 36) p2 (fun p hp => hR p hp) h)
    · have h := ok_t hc h
      refine ax_sipush 255 d_MO_image_31 sp_255 34 rfl ?_
      refine ax_goto 41 d_MO_image_34 rfl ?_
      exact ax_sub [0] rfl (c_MO_image_J41 255 p2 (fun p hp => hR p hp) h)
  · have h := ok_t hc h
    refine ax_iconst (-1) d_MO_image_7 ic_m1 8 rfl ?_
    exact ax_iret rfl d_MO_image_8 (hR ((-1), m) (ok_some h))
set_option maxRecDepth 4000 in
theorem zc_MO_octet (v1 : Int32) (m : zM)  {Q : Option Value → zM → Prop} (h : ok (f_MO_octet v1 m) (fun p => Q (some (.int p)) m)) : zc gM s_MO_octet [.ref 0, .int v1] m Q := by
  refine zc_of rfl (Nat.le_of_ble_eq_true rfl) ?_
  show AX gM s_MO_octet 0 [(0, .ref 0), (1, .int v1)] [] m Q
  obtain ⟨K, hK⟩ : ∃ K : Int32 → Prop, K = (fun p : Int32 => Q (some (.int p)) m) := ⟨_, rfl⟩
  have hR : ∀ p : Int32, K p → Q (some (.int p)) m := fun p hp => by rw [hK] at hp; exact hp
  replace h : ok (f_MO_octet v1 m) (fun p : Int32 => Q (some (.int p)) m) := h
  rw [← hK] at h
  unfold f_MO_octet at h
  refine ax_iload_n 1 d_MO_octet_0 rfl rfl 1 rfl ?_
  refine ax_if_lt 21 4 d_MO_octet_1 rfl rfl (fun hc => ?_) (fun hc => ?_)
  · have h := ok_t hc h
    refine ax_iconst (-1) d_MO_octet_21 ic_m1 22 rfl ?_
    exact ax_iret rfl d_MO_octet_22 (hR (-1) (ok_some h))
  · have h := ok_f hc h
    refine ax_iload_n 1 d_MO_octet_4 rfl rfl 5 rfl ?_
    refine ax_aload_n 0 d_MO_octet_5 rfl rfl 6 rfl ?_
    refine ax_getI fl_MO_609 m_0 rfl d_MO_octet_6 9 rfl ?_
    refine ax_icmp_ge 21 12 d_MO_octet_9 rfl rfl (fun hc => ?_) (fun hc => ?_)
    · have h := ok_t hc h
      refine ax_iconst (-1) d_MO_octet_21 ic_m1 22 rfl ?_
      exact ax_iret rfl d_MO_octet_22 (hR (-1) (ok_some h))
    · have h := ok_f hc h
      refine ax_aload_n 0 d_MO_octet_12 rfl rfl 13 rfl ?_
      refine ax_getR fl_MO_191 m_0 rfl (rm_0_82 _) d_MO_octet_13 16 rfl ?_
      refine ax_iload_n 1 d_MO_octet_16 rfl rfl 17 rfl ?_
      refine ax_iaload m_56 d_MO_octet_17 18 rfl h (fun i1 h => ?_)
      refine ax_goto 22 d_MO_octet_18 rfl ?_
      exact ax_iret rfl d_MO_octet_22 (hR (m.1 56 i1) (ok_some h))
set_option maxRecDepth 4000 in
theorem zc_MO_toldAt (v1 : Int32) (m : zM)  {Q : Option Value → zM → Prop} (h : ok (f_MO_toldAt v1 m) (fun p => Q (some (.int p)) m)) : zc gM s_MO_toldAt [.ref 0, .int v1] m Q := by
  refine zc_of rfl (Nat.le_of_ble_eq_true rfl) ?_
  show AX gM s_MO_toldAt 0 [(0, .ref 0), (1, .int v1)] [] m Q
  obtain ⟨K, hK⟩ : ∃ K : Int32 → Prop, K = (fun p : Int32 => Q (some (.int p)) m) := ⟨_, rfl⟩
  have hR : ∀ p : Int32, K p → Q (some (.int p)) m := fun p hp => by rw [hK] at hp; exact hp
  replace h : ok (f_MO_toldAt v1 m) (fun p : Int32 => Q (some (.int p)) m) := h
  rw [← hK] at h
  unfold f_MO_toldAt at h
  refine ax_aload_n 0 d_MO_toldAt_0 rfl rfl 1 rfl ?_
  refine ax_getR fl_MO_7 m_0 rfl (rm_0_0 _) d_MO_toldAt_1 4 rfl ?_
  refine ax_iload_n 1 d_MO_toldAt_4 rfl rfl 5 rfl ?_
  refine ax_iaload m_1 d_MO_toldAt_5 6 rfl h (fun i1 h => ?_)
  refine ax_sipush 255 d_MO_toldAt_6 sp_255 9 rfl ?_
  refine ax_icmp_ne 16 12 d_MO_toldAt_9 rfl rfl (fun hc => ?_) (fun hc => ?_)
  · have h := ok_f hc h
    refine ax_aload_n 0 d_MO_toldAt_16 rfl rfl 17 rfl ?_
    refine ax_getR fl_MO_7 m_0 rfl (rm_0_0 _) d_MO_toldAt_17 20 rfl ?_
    refine ax_iload_n 1 d_MO_toldAt_20 rfl rfl 21 rfl ?_
    refine ax_iaload m_1 d_MO_toldAt_21 22 rfl h (fun i2 h => ?_)
    refine ax_bipush 6 d_MO_toldAt_22 bp_6 24 rfl ?_
    refine ax_icmp_le 32 27 d_MO_toldAt_24 rfl rfl (fun hc => ?_) (fun hc => ?_)
    · have h := ok_t hc h
      refine ax_aload_n 0 d_MO_toldAt_32 rfl rfl 33 rfl ?_
      refine ax_getR fl_MO_7 m_0 rfl (rm_0_0 _) d_MO_toldAt_33 36 rfl ?_
      refine ax_iload_n 1 d_MO_toldAt_36 rfl rfl 37 rfl ?_
      refine ax_iaload m_1 d_MO_toldAt_37 38 rfl h (fun i3 h => ?_)
      refine ax_iconst 1 d_MO_toldAt_38 ic_1 39 rfl ?_
      refine ax_iadd d_MO_toldAt_39 40 rfl ?_
      exact ax_iret rfl d_MO_toldAt_40 (hR ((m.1 1 i3) + 1) (ok_some h))
    · have h := ok_f hc h
      refine ax_bipush 7 d_MO_toldAt_27 bp_7 29 rfl ?_
      refine ax_goto 40 d_MO_toldAt_29 rfl ?_
      exact ax_iret rfl d_MO_toldAt_40 (hR 7 (ok_some h))
  · have h := ok_t hc h
    refine ax_iconst 0 d_MO_toldAt_12 ic_0 13 rfl ?_
    refine ax_goto 40 d_MO_toldAt_13 rfl ?_
    exact ax_iret rfl d_MO_toldAt_40 (hR 0 (ok_some h))
set_option maxRecDepth 4000 in
theorem c_MO_imaged_J160 (v2 : Int64) (v4 : Int32) (t0 : Int32) (m : zM)  {Q : Option Value → zM → Prop} {K : ((Int64 × zM) ⊕ (Int64 × Int32)) → Prop} (hR : ∀ p : Int64 × zM, K (.inl p) → Q (some (.long p.1)) p.2) (h0 : ∀ s : Int64 × Int32, K (.inr s) → AX gM s_MO_imaged 54 [(0, .ref 0), (2, .long s.1), (4, .int s.2)] [] m Q) (h : ok (f_MO_imaged_J160 v2 v4 t0 m) K) : AX gM s_MO_imaged 160 [(0, .ref 0), (2, .long v2), (4, .int v4)] [.int t0] m Q := by
  unfold f_MO_imaged_J160 at h
  refine ax_istore (ls1 := [(7, .int t0), (0, .ref 0), (2, .long v2), (4, .int v4)]) d_MO_imaged_160 (Nat.le_of_ble_eq_true rfl) rfl 162 rfl ?_
  refine ax_lload_n 2 d_MO_imaged_162 rfl rfl 163 rfl ?_
  refine ax_bipush 12 d_MO_imaged_163 bp_12 165 rfl ?_
  refine ax_lshl d_MO_imaged_165 166 rfl ?_
  refine ax_iload 0 d_MO_imaged_166 rfl 168 rfl ?_
  refine ax_i2l d_MO_imaged_168 169 rfl ?_
  refine ax_lor d_MO_imaged_169 170 rfl ?_
  refine ax_lstore_n (ls1 := [(2, .long ((lsl v2 12) ||| t0.toInt64)), (7, .int t0), (0, .ref 0), (4, .int v4)]) d_MO_imaged_170 rfl (Nat.le_of_ble_eq_true rfl) rfl 171 rfl ?_
  refine ax_iinc (ls1 := [(4, .int (v4 + 1)), (2, .long ((lsl v2 12) ||| t0.toInt64)), (7, .int t0), (0, .ref 0)]) 3 1 d_MO_imaged_171 rfl ic_1 (Nat.le_of_ble_eq_true rfl) rfl 174 rfl ?_
  refine ax_goto 54 d_MO_imaged_174 rfl ?_
  exact ax_sub [3, 1, 0] rfl (h0 (((lsl v2 12) ||| t0.toInt64), (v4 + 1)) (ok_some h))
set_option maxRecDepth 4000 in
theorem c_MO_imaged_J109 (v2 : Int64) (v4 : Int32) (v5 : Int32) (v6 : Bool) (m : zM)  {Q : Option Value → zM → Prop} {K : ((Int64 × zM) ⊕ (Int64 × Int32)) → Prop} (hR : ∀ p : Int64 × zM, K (.inl p) → Q (some (.long p.1)) p.2) (h0 : ∀ s : Int64 × Int32, K (.inr s) → AX gM s_MO_imaged 54 [(0, .ref 0), (2, .long s.1), (4, .int s.2)] [] m Q) (h : ok (f_MO_imaged_J109 v2 v4 v5 v6 m) K) : AX gM s_MO_imaged 109 [(0, .ref 0), (2, .long v2), (4, .int v4), (5, .int v5), (6, .int (b2i v6))] [] m Q := by
  unfold f_MO_imaged_J109 at h
  refine ax_iload 4 d_MO_imaged_109 rfl 111 rfl ?_
  refine ax_ifb_eq 159 114 d_MO_imaged_111 rfl rfl (fun hc => ?_) (fun hc => ?_)
  · have h := ok_f (bf hc) h
    refine ax_iconst 0 d_MO_imaged_159 ic_0 160 rfl ?_
    exact ax_sub [0, 1, 2] rfl (c_MO_imaged_J160 v2 v4 0 m (fun p hp => hR p hp) (fun s hs => h0 s hs) h)
  · have h := ok_t hc h
    refine ax_aload_n 0 d_MO_imaged_114 rfl rfl 115 rfl ?_
    refine ax_getR fl_MO_7 m_0 rfl (rm_0_0 _) d_MO_imaged_115 118 rfl ?_
    refine ax_iload 3 d_MO_imaged_118 rfl 120 rfl ?_
    refine ax_iaload m_1 d_MO_imaged_120 121 rfl h (fun i9 h => ?_)
    refine ax_bipush 9 d_MO_imaged_121 bp_9 123 rfl ?_
    refine ax_ishl d_MO_imaged_123 124 rfl ?_
    refine ax_aload_n 0 d_MO_imaged_124 rfl rfl 125 rfl ?_
    refine ax_iload 3 d_MO_imaged_125 rfl 127 rfl ?_
    refine ax_iconst 1 d_MO_imaged_127 ic_1 128 rfl ?_
    refine ax_iadd d_MO_imaged_128 129 rfl ?_
    refine ax_callV mv_MO_630 ⟨Nat.le_of_ble_eq_true rfl, Nat.le_of_ble_eq_true rfl⟩ ⟨rfl, rfl⟩ [.int (v5 + 1)] [.int (v5 + 1), .ref 0, .int (shl (m.1 1 i9) 9)] rfl rfl (rc_m_0 _) (Nat.le_of_ble_eq_true rfl) d_MO_imaged_129 132 rfl (zc_MO_toldAt (v5 + 1) m (ok_b h (fun r10 h => ?_)))
    refine ax_bipush 6 d_MO_imaged_132 bp_6 134 rfl ?_
    refine ax_ishl d_MO_imaged_134 135 rfl ?_
    refine ax_ior d_MO_imaged_135 136 rfl ?_
    refine ax_aload_n 0 d_MO_imaged_136 rfl rfl 137 rfl ?_
    refine ax_iload 3 d_MO_imaged_137 rfl 139 rfl ?_
    refine ax_iconst 2 d_MO_imaged_139 ic_2 140 rfl ?_
    refine ax_iadd d_MO_imaged_140 141 rfl ?_
    refine ax_callV mv_MO_630 ⟨Nat.le_of_ble_eq_true rfl, Nat.le_of_ble_eq_true rfl⟩ ⟨rfl, rfl⟩ [.int (v5 + 2)] [.int (v5 + 2), .ref 0, .int ((shl (m.1 1 i9) 9) ||| (shl r10 6))] rfl rfl (rc_m_0 _) (Nat.le_of_ble_eq_true rfl) d_MO_imaged_141 144 rfl (zc_MO_toldAt (v5 + 2) m (ok_b h (fun r11 h => ?_)))
    refine ax_iconst 3 d_MO_imaged_144 ic_3 145 rfl ?_
    refine ax_ishl d_MO_imaged_145 146 rfl ?_
    refine ax_ior d_MO_imaged_146 147 rfl ?_
    refine ax_aload_n 0 d_MO_imaged_147 rfl rfl 148 rfl ?_
    refine ax_iload 3 d_MO_imaged_148 rfl 150 rfl ?_
    refine ax_iconst 3 d_MO_imaged_150 ic_3 151 rfl ?_
    refine ax_iadd d_MO_imaged_151 152 rfl ?_
    refine ax_callV mv_MO_630 ⟨Nat.le_of_ble_eq_true rfl, Nat.le_of_ble_eq_true rfl⟩ ⟨rfl, rfl⟩ [.int (v5 + 3)] [.int (v5 + 3), .ref 0, .int (((shl (m.1 1 i9) 9) ||| (shl r10 6)) ||| (shl r11 3))] rfl rfl (rc_m_0 _) (Nat.le_of_ble_eq_true rfl) d_MO_imaged_152 155 rfl (zc_MO_toldAt (v5 + 3) m (ok_b h (fun r12 h => ?_)))
    refine ax_ior d_MO_imaged_155 156 rfl ?_
    refine ax_goto 160 d_MO_imaged_156 rfl ?_
    exact ax_sub [0, 1, 2] rfl (c_MO_imaged_J160 v2 v4 ((((shl (m.1 1 i9) 9) ||| (shl r10 6)) ||| (shl r11 3)) ||| r12) m (fun p hp => hR p hp) (fun s hs => h0 s hs) h)
set_option maxRecDepth 4000 in
theorem c_MO_imaged_J105  (m : zM)  {Q : Option Value → zM → Prop} {K : (Int64 × zM) → Prop} (hR : ∀ p : Int64 × zM, K (p) → Q (some (.long p.1)) p.2)  (h : ok (f_MO_imaged_J105  m) K) : AX gM s_MO_imaged 105 [] [] m Q := by
  unfold f_MO_imaged_J105 at h
  refine ax_ldc2 (-1) wk_MO_565 d_MO_imaged_105 108 rfl ?_
  exact ax_lret rfl d_MO_imaged_108 (hR ((-1), m) (ok_some h))
set_option maxRecDepth 4000 in
theorem c_MO_imaged_J82 (v2 : Int64) (v4 : Int32) (v5 : Int32) (t0 : Bool) (m : zM)  {Q : Option Value → zM → Prop} {K : ((Int64 × zM) ⊕ (Int64 × Int32)) → Prop} (hR : ∀ p : Int64 × zM, K (.inl p) → Q (some (.long p.1)) p.2) (h0 : ∀ s : Int64 × Int32, K (.inr s) → AX gM s_MO_imaged 54 [(0, .ref 0), (2, .long s.1), (4, .int s.2)] [] m Q) (h : ok (f_MO_imaged_J82 v2 v4 v5 t0 m) K) : AX gM s_MO_imaged 82 [(0, .ref 0), (2, .long v2), (4, .int v4), (5, .int v5)] [.int (b2i t0)] m Q := by
  unfold f_MO_imaged_J82 at h
  refine ax_istore (ls1 := [(6, .int (b2i t0)), (0, .ref 0), (2, .long v2), (4, .int v4), (5, .int v5)]) d_MO_imaged_82 (Nat.le_of_ble_eq_true rfl) rfl 84 rfl ?_
  refine ax_iload 0 d_MO_imaged_84 rfl 86 rfl ?_
  refine ax_ifb_eq 109 89 d_MO_imaged_86 rfl rfl (fun hc => ?_) (fun hc => ?_)
  · have h := ok_f (bf hc) h
    exact ax_sub [1, 2, 3, 4, 0] rfl (c_MO_imaged_J109 v2 v4 v5 t0 m (fun p hp => hR p hp) (fun s hs => h0 s hs) h)
  · have h := ok_t hc h
    refine ax_aload_n 1 d_MO_imaged_89 rfl rfl 90 rfl ?_
    refine ax_getR fl_MO_7 m_0 rfl (rm_0_0 _) d_MO_imaged_90 93 rfl ?_
    refine ax_iload 4 d_MO_imaged_93 rfl 95 rfl ?_
    refine ax_iaload m_1 d_MO_imaged_95 96 rfl h (fun i7 h => ?_)
    refine ax_aload_n 1 d_MO_imaged_96 rfl rfl 97 rfl ?_
    refine ax_getR fl_MO_81 m_0 rfl (rm_0_31 _) d_MO_imaged_97 100 rfl ?_
    refine ax_iconst 0 d_MO_imaged_100 ic_0 101 rfl ?_
    refine ax_iaload m_23 d_MO_imaged_101 102 rfl h (fun i8 h => ?_)
    refine ax_icmp_lt 109 105 d_MO_imaged_102 rfl rfl (fun hc => ?_) (fun hc => ?_)
    · have h := ok_t hc h
      exact ax_sub [1, 2, 3, 4, 0] rfl (c_MO_imaged_J109 v2 v4 v5 t0 m (fun p hp => hR p hp) (fun s hs => h0 s hs) h)
    · have h := ok_f hc h
      exact ax_sub [] rfl (c_MO_imaged_J105 m (fun p hp => hR p hp) (ok_z h))
set_option maxRecDepth 4000 in
theorem c_MO_imaged_B54 (v2 : Int64) (v4 : Int32) (m : zM)  {Q : Option Value → zM → Prop} {K : ((Int64 × zM) ⊕ (Int64 × Int32)) → Prop} (hR : ∀ p : Int64 × zM, K (.inl p) → Q (some (.long p.1)) p.2) (h0 : ∀ s : Int64 × Int32, K (.inr s) → AX gM s_MO_imaged 54 [(0, .ref 0), (2, .long s.1), (4, .int s.2)] [] m Q) (h : ok (f_MO_imaged_B54 v2 v4 m) K) : AX gM s_MO_imaged 54 [(0, .ref 0), (2, .long v2), (4, .int v4)] [] m Q := by
  unfold f_MO_imaged_B54 at h
  refine ax_iload 2 d_MO_imaged_54 rfl 56 rfl ?_
  refine ax_iconst 4 d_MO_imaged_56 ic_4 57 rfl ?_
  refine ax_icmp_ge 177 60 d_MO_imaged_57 rfl rfl (fun hc => ?_) (fun hc => ?_)
  · have h := ok_t hc h
    refine ax_lload_n 1 d_MO_imaged_177 rfl rfl 178 rfl ?_
    exact ax_lret rfl d_MO_imaged_178 (hR (v2, m) (ok_some h))
  · have h := ok_f hc h
    refine ax_iconst 1 d_MO_imaged_60 ic_1 61 rfl ?_
    refine ax_iconst 4 d_MO_imaged_61 ic_4 62 rfl ?_
    refine ax_iload 2 d_MO_imaged_62 rfl 64 rfl ?_
    refine ax_imul d_MO_imaged_64 65 rfl ?_
    refine ax_iadd d_MO_imaged_65 66 rfl ?_
    refine ax_istore (ls1 := [(5, .int (1 + (4 * v4))), (0, .ref 0), (2, .long v2), (4, .int v4)]) d_MO_imaged_66 (Nat.le_of_ble_eq_true rfl) rfl 68 rfl ?_
    refine ax_iload 3 d_MO_imaged_68 rfl 70 rfl ?_
    refine ax_aload_n 1 d_MO_imaged_70 rfl rfl 71 rfl ?_
    refine ax_callV mv_MO_358 ⟨Nat.le_of_ble_eq_true rfl, Nat.le_of_ble_eq_true rfl⟩ ⟨rfl, rfl⟩ [] [.ref 0, .int v4] rfl rfl (rc_m_0 _) (Nat.le_of_ble_eq_true rfl) d_MO_imaged_71 74 rfl (zc_MO_agents m (ok_b h (fun r6 h => ?_)))
    refine ax_icmp_ge 81 77 d_MO_imaged_74 rfl rfl (fun hc => ?_) (fun hc => ?_)
    · have h := ok_t hc h
      refine ax_iconst 0 d_MO_imaged_81 ic_0 82 rfl ?_
      exact ax_sub [1, 2, 3, 0] rfl (c_MO_imaged_J82 v2 v4 (1 + (4 * v4)) false m (fun p hp => hR p hp) (fun s hs => h0 s hs) h)
    · have h := ok_f hc h
      refine ax_iconst 1 d_MO_imaged_77 ic_1 78 rfl ?_
      refine ax_goto 82 d_MO_imaged_78 rfl ?_
      exact ax_sub [1, 2, 3, 0] rfl (c_MO_imaged_J82 v2 v4 (1 + (4 * v4)) true m (fun p hp => hR p hp) (fun s hs => h0 s hs) h)
theorem c_MO_imaged_L54 (v2 : Int64) (v4 : Int32) (m : zM)  {Q : Option Value → zM → Prop} {K : (Int64 × zM) → Prop} (hR : ∀ p : Int64 × zM, K (p) → Q (some (.long p.1)) p.2)  (h : ok (f_MO_imaged_L54 v2 v4 m) K) : AX gM s_MO_imaged 54 [(0, .ref 0), (2, .long v2), (4, .int v4)] [] m Q :=
  ok_lp (K := K) (G := fun s : Int64 × Int32 => AX gM s_MO_imaged 54 [(0, .ref 0), (2, .long s.1), (4, .int s.2)] [] m Q) (fun s h => c_MO_imaged_B54 s.1 s.2 m  (fun p hp => hR p hp) (fun s hs => hs) h) FU (v2, v4) h
set_option maxRecDepth 4000 in
theorem c_MO_imaged_J40  (m : zM)  {Q : Option Value → zM → Prop} {K : (Int64 × zM) → Prop} (hR : ∀ p : Int64 × zM, K (p) → Q (some (.long p.1)) p.2)  (h : ok (f_MO_imaged_J40  m) K) : AX gM s_MO_imaged 40 [] [] m Q := by
  unfold f_MO_imaged_J40 at h
  refine ax_ldc2 (-1) wk_MO_565 d_MO_imaged_40 43 rfl ?_
  exact ax_lret rfl d_MO_imaged_43 (hR ((-1), m) (ok_some h))
set_option maxRecDepth 4000 in
theorem zc_MO_imaged (v1 : Int32) (m : zM)  {Q : Option Value → zM → Prop} (h : ok (f_MO_imaged v1 m) (fun p => Q (some (.long p.1)) p.2)) : zc gM s_MO_imaged [.ref 0, .int v1] m Q := by
  refine zc_of rfl (Nat.le_of_ble_eq_true rfl) ?_
  show AX gM s_MO_imaged 0 [(0, .ref 0), (1, .int v1)] [] m Q
  obtain ⟨K, hK⟩ : ∃ K : (Int64 × zM) → Prop, K = (fun p : Int64 × zM => Q (some (.long p.1)) p.2) := ⟨_, rfl⟩
  have hR : ∀ p : Int64 × zM, K p → Q (some (.long p.1)) p.2 := fun p hp => by rw [hK] at hp; exact hp
  replace h : ok (f_MO_imaged v1 m) (fun p : Int64 × zM => Q (some (.long p.1)) p.2) := h
  rw [← hK] at h
  unfold f_MO_imaged at h
  refine ax_aload_n 0 d_MO_imaged_0 rfl rfl 1 rfl ?_
  refine ax_callV mv_MO_505 ⟨Nat.le_of_ble_eq_true rfl, Nat.le_of_ble_eq_true rfl⟩ ⟨rfl, rfl⟩ [] [.ref 0] rfl rfl (rc_m_0 _) (Nat.le_of_ble_eq_true rfl) d_MO_imaged_1 4 rfl (zc_MO_isAsked m (ok_b h (fun p1 h => ?_)))
  refine ax_ifb_eq 40 7 d_MO_imaged_4 rfl rfl (fun hc => ?_) (fun hc => ?_)
  · have h := ok_f (bf hc) h
    exact ax_sub [] rfl (c_MO_imaged_J40 p1.2 (fun p hp => hR p hp) h)
  · have h := ok_t hc h
    refine ax_iload_n 1 d_MO_imaged_7 rfl rfl 8 rfl ?_
    refine ax_iconst 2 d_MO_imaged_8 ic_2 9 rfl ?_
    refine ax_iconst 4 d_MO_imaged_9 ic_4 10 rfl ?_
    refine ax_aload_n 0 d_MO_imaged_10 rfl rfl 11 rfl ?_
    refine ax_callV mv_MO_358 ⟨Nat.le_of_ble_eq_true rfl, Nat.le_of_ble_eq_true rfl⟩ ⟨rfl, rfl⟩ [] [.ref 0, .int 4, .int 2, .int v1] rfl rfl (rc_m_0 _) (Nat.le_of_ble_eq_true rfl) d_MO_imaged_11 14 rfl (zc_MO_agents p1.2 (ok_b h (fun r2 h => ?_)))
    refine ax_imul d_MO_imaged_14 15 rfl ?_
    refine ax_iadd d_MO_imaged_15 16 rfl ?_
    refine ax_icmp_ne 40 19 d_MO_imaged_16 rfl rfl (fun hc => ?_) (fun hc => ?_)
    · have h := ok_f hc h
      exact ax_sub [] rfl (c_MO_imaged_J40 p1.2 (fun p hp => hR p hp) h)
    · have h := ok_t hc h
      refine ax_aload_n 0 d_MO_imaged_19 rfl rfl 20 rfl ?_
      refine ax_getR fl_MO_7 m_0 rfl (rm_0_0 _) d_MO_imaged_20 23 rfl ?_
      refine ax_iload_n 1 d_MO_imaged_23 rfl rfl 24 rfl ?_
      refine ax_iconst 1 d_MO_imaged_24 ic_1 25 rfl ?_
      refine ax_isub d_MO_imaged_25 26 rfl ?_
      refine ax_iaload m_1 d_MO_imaged_26 27 rfl h (fun i3 h => ?_)
      refine ax_aload_n 0 d_MO_imaged_27 rfl rfl 28 rfl ?_
      refine ax_getR fl_MO_7 m_0 rfl (rm_0_0 _) d_MO_imaged_28 31 rfl ?_
      refine ax_iload_n 1 d_MO_imaged_31 rfl rfl 32 rfl ?_
      refine ax_iconst 1 d_MO_imaged_32 ic_1 33 rfl ?_
      refine ax_isub d_MO_imaged_33 34 rfl ?_
      refine ax_callS mv_MO_627 ⟨Nat.le_of_ble_eq_true rfl, Nat.le_of_ble_eq_true rfl⟩ ⟨rfl, rfl⟩ [.ref 1, .int (v1 - 1)] [.int (v1 - 1), .ref 1, .int (p1.2.1 1 i3)] rfl rfl (Nat.le_of_ble_eq_true rfl) d_MO_imaged_34 37 rfl (zc_MO_checked 1 (v1 - 1) p1.2 m_1z (ok_b h (fun r4 h => ?_)))
      refine ax_icmp_eq 44 40 d_MO_imaged_37 rfl rfl (fun hc => ?_) (fun hc => ?_)
      · have h := ok_t hc h
        refine ax_aload_n 0 d_MO_imaged_44 rfl rfl 45 rfl ?_
        refine ax_iconst 0 d_MO_imaged_45 ic_0 46 rfl ?_
        refine ax_callV mv_MO_630 ⟨Nat.le_of_ble_eq_true rfl, Nat.le_of_ble_eq_true rfl⟩ ⟨rfl, rfl⟩ [.int 0] [.int 0, .ref 0] rfl rfl (rc_m_0 _) (Nat.le_of_ble_eq_true rfl) d_MO_imaged_46 49 rfl (zc_MO_toldAt 0 p1.2 (ok_b h (fun r5 h => ?_)))
        refine ax_i2l d_MO_imaged_49 50 rfl ?_
        refine ax_lstore_n (ls1 := [(2, .long r5.toInt64), (0, .ref 0), (1, .int v1)]) d_MO_imaged_50 rfl (Nat.le_of_ble_eq_true rfl) rfl 51 rfl ?_
        refine ax_iconst 0 d_MO_imaged_51 ic_0 52 rfl ?_
        refine ax_istore (ls1 := [(4, .int 0), (2, .long r5.toInt64), (0, .ref 0), (1, .int v1)]) d_MO_imaged_52 (Nat.le_of_ble_eq_true rfl) rfl 54 rfl ?_
        exact ax_sub [2, 1, 0] rfl (c_MO_imaged_L54 r5.toInt64 0 p1.2 (fun p hp => hR p hp) h)
      · have h := ok_f hc h
        exact ax_sub [] rfl (c_MO_imaged_J40 p1.2 (fun p hp => hR p hp) h)
set_option maxRecDepth 4000 in
theorem c_MO_on_J31  (m : zM)  {Q : Option Value → zM → Prop} {K : (Bool × zM) → Prop} (hR : ∀ p : Bool × zM, K (p) → Q (some (.int (b2i p.1))) p.2)  (h : ok (f_MO_on_J31  m) K) : AX gM s_MO_on 31 [(0, .ref 0)] [] m Q := by
  unfold f_MO_on_J31 at h
  refine ax_aload_n 0 d_MO_on_31 rfl rfl 32 rfl ?_
  refine ax_iconst 5 d_MO_on_32 ic_5 33 rfl ?_
  refine ax_callV mv_MO_204 ⟨Nat.le_of_ble_eq_true rfl, Nat.le_of_ble_eq_true rfl⟩ ⟨rfl, rfl⟩ [.int 5] [.int 5, .ref 0] rfl rfl (rc_m_0 _) (Nat.le_of_ble_eq_true rfl) d_MO_on_33 36 rfl (zc_MO_isRefused 5 m (ok_b h (fun p6 h => ?_)))
  exact ax_zret (b := p6.1) rfl d_MO_on_36 (hR (p6.1, p6.2) (ok_some h))
set_option maxRecDepth 4000 in
theorem zc_MO_on  (m : zM)  {Q : Option Value → zM → Prop} (h : ok (f_MO_on m) (fun p => Q (some (.int (b2i p.1))) p.2)) : zc gM s_MO_on [.ref 0] m Q := by
  refine zc_of rfl (Nat.le_of_ble_eq_true rfl) ?_
  show AX gM s_MO_on 0 [(0, .ref 0)] [] m Q
  obtain ⟨K, hK⟩ : ∃ K : (Bool × zM) → Prop, K = (fun p : Bool × zM => Q (some (.int (b2i p.1))) p.2) := ⟨_, rfl⟩
  have hR : ∀ p : Bool × zM, K p → Q (some (.int (b2i p.1))) p.2 := fun p hp => by rw [hK] at hp; exact hp
  replace h : ok (f_MO_on m) (fun p : Bool × zM => Q (some (.int (b2i p.1))) p.2) := h
  rw [← hK] at h
  unfold f_MO_on at h
  refine ax_aload_n 0 d_MO_on_0 rfl rfl 1 rfl ?_
  refine ax_getI fl_MO_197 m_0 rfl d_MO_on_1 4 rfl ?_
  refine ax_istore_n (ls1 := [(1, .int (m.1 0 1)), (0, .ref 0)]) d_MO_on_4 rfl (Nat.le_of_ble_eq_true rfl) rfl 5 rfl ?_
  refine ax_aload_n 1 d_MO_on_5 rfl rfl 6 rfl ?_
  refine ax_iconst 0 d_MO_on_6 ic_0 7 rfl ?_
  refine ax_putI (K := K) fl_MO_197 m_0 rfl rfl rfl (Nat.le_of_ble_eq_true rfl) d_MO_on_7 10 rfl h (fun m1 h => ?_)
  refine ax_aload_n 1 d_MO_on_10 rfl rfl 11 rfl ?_
  refine ax_iload_n 0 d_MO_on_11 rfl rfl 12 rfl ?_
  refine ax_callV mv_MO_633 ⟨Nat.le_of_ble_eq_true rfl, Nat.le_of_ble_eq_true rfl⟩ ⟨rfl, rfl⟩ [.int (m.1 0 1)] [.int (m.1 0 1), .ref 0] rfl rfl (rc_m_0 _) (Nat.le_of_ble_eq_true rfl) d_MO_on_12 15 rfl (zc_MO_imaged (m.1 0 1) m1 (ok_b h (fun p2 h => ?_)))
  refine ax_lstore_n (ls1 := [(2, .long p2.1), (1, .int (m.1 0 1)), (0, .ref 0)]) d_MO_on_15 rfl (Nat.le_of_ble_eq_true rfl) rfl 16 rfl ?_
  refine ax_lload_n 0 d_MO_on_16 rfl rfl 17 rfl ?_
  refine ax_lconst 0 d_MO_on_17 lc_0 18 rfl ?_
  refine ax_lcmp d_MO_on_18 19 rfl ?_
  refine ax_if_lt 31 22 d_MO_on_19 rfl rfl (fun hc => ?_) (fun hc => ?_)
  · have h := ok_t hc h
    exact ax_sub [2] rfl (c_MO_on_J31 p2.2 (fun p hp => hR p hp) h)
  · have h := ok_f hc h
    refine ax_aload_n 2 d_MO_on_22 rfl rfl 23 rfl ?_
    refine ax_lload_n 0 d_MO_on_23 rfl rfl 24 rfl ?_
    refine ax_callV mv_MO_536 ⟨Nat.le_of_ble_eq_true rfl, Nat.le_of_ble_eq_true rfl⟩ ⟨rfl, rfl⟩ [.long p2.1] [.long p2.1, .ref 0] rfl rfl (rc_m_0 _) (Nat.le_of_ble_eq_true rfl) d_MO_on_24 27 rfl (zc_MO_foldedOf p2.1 p2.2 (ok_b h (fun p3 h => ?_)))
    refine ax_iconst (-1) d_MO_on_27 ic_m1 28 rfl ?_
    refine ax_icmp_ne 37 31 d_MO_on_28 rfl rfl (fun hc => ?_) (fun hc => ?_)
    · have h := ok_f hc h
      refine ax_aload_n 2 d_MO_on_37 rfl rfl 38 rfl ?_
      refine ax_lload_n 0 d_MO_on_38 rfl rfl 39 rfl ?_
      refine ax_putJ (K := K) fl_MO_325 m_0 rfl rfl rfl (Nat.le_of_ble_eq_true rfl) d_MO_on_39 42 rfl h (fun m4 h => ?_)
      refine ax_aload_n 2 d_MO_on_42 rfl rfl 43 rfl ?_
      refine ax_iconst 0 d_MO_on_43 ic_0 44 rfl ?_
      refine ax_putI (K := K) fl_MO_328 m_0 rfl rfl rfl (Nat.le_of_ble_eq_true rfl) d_MO_on_44 47 rfl h (fun m5 h => ?_)
      refine ax_iconst 1 d_MO_on_47 ic_1 48 rfl ?_
      exact ax_zret (b := true) rfl d_MO_on_48 (hR (true, m5) (ok_some h))
    · have h := ok_t hc h
      exact ax_sub [2] rfl (c_MO_on_J31 p3.2 (fun p hp => hR p hp) h)
