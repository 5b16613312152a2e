set_option maxRecDepth 4000 in
theorem zc_PA_mend  (m : zM)  {Q : Option Value → zM → Prop} (h : ok (f_PA_mend m) (fun p => Q (some (.int p.1)) p.2)) : zc gX s_PA_mend [.ref 0] m Q := by
  refine zc_of rfl (Nat.le_of_ble_eq_true rfl) ?_
  show AX gX s_PA_mend 0 [(0, .ref 0)] [] m Q
  obtain ⟨K, hK⟩ : ∃ K : (Int32 × zM) → Prop, K = (fun p : Int32 × zM => Q (some (.int p.1)) p.2) := ⟨_, rfl⟩
  have hR : ∀ p : Int32 × zM, K p → Q (some (.int p.1)) p.2 := fun p hp => by rw [hK] at hp; exact hp
  replace h : ok (f_PA_mend m) (fun p : Int32 × zM => Q (some (.int p.1)) p.2) := h
  rw [← hK] at h
  unfold f_PA_mend at h
  refine ax_aload_n 0 d_PA_mend_0 rfl rfl 1 rfl ?_
  refine ax_getI fl_PA_84 x_0 rfl d_PA_mend_1 4 rfl ?_
  refine ax_if_eq 17 7 d_PA_mend_4 rfl rfl (fun hc => ?_) (fun hc => ?_)
  · have h := ok_t hc h
    refine ax_iconst (-1) d_PA_mend_17 ic_m1 18 rfl ?_
    exact ax_iret rfl d_PA_mend_18 (hR ((-1), m) (ok_some h))
  · have h := ok_f hc h
    refine ax_aload_n 0 d_PA_mend_7 rfl rfl 8 rfl ?_
    refine ax_getR fl_PA_80 x_0 rfl (rx_0_12 _) d_PA_mend_8 11 rfl ?_
    refine ax_callV mv_PA_267 ⟨Nat.le_of_ble_eq_true rfl, Nat.le_of_ble_eq_true rfl⟩ ⟨rfl, rfl⟩ [] [.ref 116] rfl rfl (rc_x_116 _) (Nat.le_of_ble_eq_true rfl) d_PA_mend_11 14 rfl (zc_Study_bestLeftOut m (ok_b h (fun p1 h => ?_)))
    refine ax_goto 18 d_PA_mend_14 rfl ?_
    exact ax_iret rfl d_PA_mend_18 (hR (p1.1, p1.2) (ok_some h))
set_option maxRecDepth 4000 in
theorem zc_PA_now (v1 : Int32) (v2 : Int32) (m : zM)  {Q : Option Value → zM → Prop} (h : ok (f_PA_now v1 v2 m) (fun p => Q (some (.int p.1)) p.2)) : zc gX s_PA_now [.ref 0, .int v1, .int v2] m Q := by
  refine zc_of rfl (Nat.le_of_ble_eq_true rfl) ?_
  show AX gX s_PA_now 0 [(0, .ref 0), (1, .int v1), (2, .int v2)] [] m Q
  obtain ⟨K, hK⟩ : ∃ K : (Int32 × zM) → Prop, K = (fun p : Int32 × zM => Q (some (.int p.1)) p.2) := ⟨_, rfl⟩
  have hR : ∀ p : Int32 × zM, K p → Q (some (.int p.1)) p.2 := fun p hp => by rw [hK] at hp; exact hp
  replace h : ok (f_PA_now v1 v2 m) (fun p : Int32 × zM => Q (some (.int p.1)) p.2) := h
  rw [← hK] at h
  unfold f_PA_now at h
  refine ax_aload_n 0 d_PA_now_0 rfl rfl 1 rfl ?_
  refine ax_getI fl_PA_84 x_0 rfl d_PA_now_1 4 rfl ?_
  refine ax_if_ne 9 7 d_PA_now_4 rfl rfl (fun hc => ?_) (fun hc => ?_)
  · have h := ok_f hc h
    refine ax_iload_n 1 d_PA_now_9 rfl rfl 10 rfl ?_
    refine ax_iconst (-1) d_PA_now_10 ic_m1 11 rfl ?_
    refine ax_icmp_ne 77 14 d_PA_now_11 rfl rfl (fun hc => ?_) (fun hc => ?_)
    · have h := ok_f hc h
      refine ax_aload_n 0 d_PA_now_77 rfl rfl 78 rfl ?_
      refine ax_iload_n 1 d_PA_now_78 rfl rfl 79 rfl ?_
      refine ax_callV mv_PA_217 ⟨Nat.le_of_ble_eq_true rfl, Nat.le_of_ble_eq_true rfl⟩ ⟨rfl, rfl⟩ [.int v1] [.int v1, .ref 0] rfl rfl (rc_x_0 _) (Nat.le_of_ble_eq_true rfl) d_PA_now_79 82 rfl (zc_PA_isAgent v1 m (ok_b h (fun r1 h => ?_)))
      refine ax_ifb_eq 101 85 d_PA_now_82 rfl rfl (fun hc => ?_) (fun hc => ?_)
      · have h := ok_f (bf hc) h
        refine ax_iconst (-1) d_PA_now_101 ic_m1 102 rfl ?_
        exact ax_iret rfl d_PA_now_102 (hR ((-1), m) (ok_some h))
      · have h := ok_t hc h
        refine ax_aload_n 0 d_PA_now_85 rfl rfl 86 rfl ?_
        refine ax_getR fl_PA_46 x_0 rfl (rx_0_6 _) d_PA_now_86 89 rfl ?_
        refine ax_getR fl_PA_280 (sx_World in_55) rfl (ro_World_2 in_55 _) d_PA_now_89 92 rfl ?_
        refine ax_iload_n 1 d_PA_now_92 rfl rfl 93 rfl ?_
        refine ax_iaload (sa_World_2 in_55) d_PA_now_93 94 rfl h (fun i2 h => ?_)
        refine ax_iload_n 2 d_PA_now_94 rfl rfl 95 rfl ?_
        refine ax_callS mv_PA_229 ⟨Nat.le_of_ble_eq_true rfl, Nat.le_of_ble_eq_true rfl⟩ ⟨rfl, rfl⟩ [.int (m.1 (55 + 1) i2), .int v2] [.int v2, .int (m.1 (55 + 1) i2)] rfl rfl (Nat.le_of_ble_eq_true rfl) d_PA_now_95 98 rfl (zc_PA_held (m.1 (55 + 1) i2) v2 m ?_)
        refine ax_goto 102 d_PA_now_98 rfl ?_
        exact ax_iret rfl d_PA_now_102 (hR ((f_PA_held (m.1 (55 + 1) i2) v2), m) (ok_some h))
    · have h := ok_t hc h
      refine ax_iload_n 2 d_PA_now_14 rfl rfl 15 rfl ?_
      by_cases hc15_0 : v2 = 0
      · have h := ok_t hc15_0 h
        refine ax_tableIn (off := 25) 40 d_PA_now_15 (by rw [hc15_0]; decide) (by rw [hc15_0]; decide) (by rw [hc15_0]; rfl) rfl ?_
        refine ax_aload_n 0 d_PA_now_40 rfl rfl 41 rfl ?_
        refine ax_getR fl_PA_46 x_0 rfl (rx_0_6 _) d_PA_now_41 44 rfl ?_
        refine ax_getI fl_PA_270 (sx_World in_55) rfl d_PA_now_44 47 rfl ?_
        exact ax_iret rfl d_PA_now_47 (hR ((m.1 55 0), m) (ok_some h))
      have h := ok_f hc15_0 h
      by_cases hc15_1 : v2 = 1
      · have h := ok_t hc15_1 h
        refine ax_tableIn (off := 33) 48 d_PA_now_15 (by rw [hc15_1]; decide) (by rw [hc15_1]; decide) (by rw [hc15_1]; rfl) rfl ?_
        refine ax_aload_n 0 d_PA_now_48 rfl rfl 49 rfl ?_
        refine ax_getR fl_PA_32 x_0 rfl (rx_0_4 _) d_PA_now_49 52 rfl ?_
        refine ax_aload_n 0 d_PA_now_52 rfl rfl 53 rfl ?_
        refine ax_getR fl_PA_46 x_0 rfl (rx_0_6 _) d_PA_now_53 56 rfl ?_
        refine ax_callV mv_PA_272 ⟨Nat.le_of_ble_eq_true rfl, Nat.le_of_ble_eq_true rfl⟩ ⟨rfl, rfl⟩ [.ref 55] [.ref 55, .ref 24] rfl rfl (rc_x_24 _) (Nat.le_of_ble_eq_true rfl) d_PA_now_56 59 rfl (zc_Atlas_number 55 m in_55 (ok_b h (fun p3 h => ?_)))
        exact ax_iret rfl d_PA_now_59 (hR (p3.1, p3.2) (ok_some h))
      have h := ok_f hc15_1 h
      by_cases hc15_2 : v2 = 2
      · have h := ok_t hc15_2 h
        refine ax_tableIn (off := 45) 60 d_PA_now_15 (by rw [hc15_2]; decide) (by rw [hc15_2]; decide) (by rw [hc15_2]; rfl) rfl ?_
        refine ax_aload_n 0 d_PA_now_60 rfl rfl 61 rfl ?_
        refine ok_tb h (fun t4 ht4 et4 h => ?_)
        refine ax_getR fl_PA_71 x_0 rfl (ry_0 et4) d_PA_now_61 64 rfl ?_
        refine ax_aload_n 0 d_PA_now_64 rfl rfl 65 rfl ?_
        refine ax_getR fl_PA_46 x_0 rfl (rx_0_6 _) d_PA_now_65 68 rfl ?_
        refine ax_callV mv_PA_276 ⟨Nat.le_of_ble_eq_true rfl, Nat.le_of_ble_eq_true rfl⟩ ⟨rfl, rfl⟩ [.ref 55] [.ref 55, .ref t4] rfl rfl (rc_Table ht4 _) (Nat.le_of_ble_eq_true rfl) d_PA_now_68 71 rfl (zc_Table_isBad t4 55 m ht4 in_55 (ok_b h (fun r5 h => ?_)))
        refine ax_callS mv_PA_207 ⟨Nat.le_of_ble_eq_true rfl, Nat.le_of_ble_eq_true rfl⟩ ⟨rfl, rfl⟩ [.int (b2i r5)] [.int (b2i r5)] rfl rfl (Nat.le_of_ble_eq_true rfl) d_PA_now_71 74 rfl (zc_PA_asNumber (b2i r5) m ?_)
        exact ax_iret rfl d_PA_now_74 (hR ((f_PA_asNumber (b2i r5)), m) (ok_some h))
      have h := ok_f hc15_2 h
      have n0 := zne (n := 0) hc15_0 (by decide)
      have n1 := zne (n := 1) hc15_1 (by decide)
      have n2 := zne (n := 2) hc15_2 (by decide)
      refine ax_tableOut 75 d_PA_now_15 (by omega) rfl ?_
      refine ax_iconst (-1) d_PA_now_75 ic_m1 76 rfl ?_
      exact ax_iret rfl d_PA_now_76 (hR ((-1), m) (ok_some h))
  · have h := ok_t hc h
    refine ax_iconst (-1) d_PA_now_7 ic_m1 8 rfl ?_
    exact ax_iret rfl d_PA_now_8 (hR ((-1), m) (ok_some h))
set_option maxRecDepth 4000 in
theorem zc_PA_can (v1 : Int32) (v2 : Int32) (m : zM)  {Q : Option Value → zM → Prop} (h : ok (f_PA_can v1 v2 m) (fun p => Q (some (.int p.1)) p.2)) : zc gX s_PA_can [.ref 0, .int v1, .int v2] m Q := by
  refine zc_of rfl (Nat.le_of_ble_eq_true rfl) ?_
  show AX gX s_PA_can 0 [(0, .ref 0), (1, .int v1), (2, .int v2)] [] m Q
  obtain ⟨K, hK⟩ : ∃ K : (Int32 × zM) → Prop, K = (fun p : Int32 × zM => Q (some (.int p.1)) p.2) := ⟨_, rfl⟩
  have hR : ∀ p : Int32 × zM, K p → Q (some (.int p.1)) p.2 := fun p hp => by rw [hK] at hp; exact hp
  replace h : ok (f_PA_can v1 v2 m) (fun p : Int32 × zM => Q (some (.int p.1)) p.2) := h
  rw [← hK] at h
  unfold f_PA_can at h
  refine ax_aload_n 0 d_PA_can_0 rfl rfl 1 rfl ?_
  refine ax_iload_n 1 d_PA_can_1 rfl rfl 2 rfl ?_
  refine ax_callV mv_PA_181 ⟨Nat.le_of_ble_eq_true rfl, Nat.le_of_ble_eq_true rfl⟩ ⟨rfl, rfl⟩ [.int v1] [.int v1, .ref 0] rfl rfl (rc_x_0 _) (Nat.le_of_ble_eq_true rfl) d_PA_can_2 5 rfl (zc_PA_isRule v1 m (ok_b h (fun r1 h => ?_)))
  refine ax_ifb_eq 16 8 d_PA_can_5 rfl rfl (fun hc => ?_) (fun hc => ?_)
  · have h := ok_f (bf hc) h
    refine ax_iconst (-1) d_PA_can_16 ic_m1 17 rfl ?_
    exact ax_iret rfl d_PA_can_17 (hR ((-1), m) (ok_some h))
  · have h := ok_t hc h
    refine ax_aload_n 0 d_PA_can_8 rfl rfl 9 rfl ?_
    refine ax_iload_n 2 d_PA_can_9 rfl rfl 10 rfl ?_
    refine ax_callV mv_PA_217 ⟨Nat.le_of_ble_eq_true rfl, Nat.le_of_ble_eq_true rfl⟩ ⟨rfl, rfl⟩ [.int v2] [.int v2, .ref 0] rfl rfl (rc_x_0 _) (Nat.le_of_ble_eq_true rfl) d_PA_can_10 13 rfl (zc_PA_isAgent v2 m (ok_b h (fun r2 h => ?_)))
    refine ax_ifb_ne 18 16 d_PA_can_13 rfl rfl (fun hc => ?_) (fun hc => ?_)
    · have h := ok_t hc h
      refine ax_aload_n 0 d_PA_can_18 rfl rfl 19 rfl ?_
      refine ok_tb h (fun t3 ht3 et3 h => ?_)
      refine ax_getR fl_PA_71 x_0 rfl (ry_0 et3) d_PA_can_19 22 rfl ?_
      refine ax_aload_n 0 d_PA_can_22 rfl rfl 23 rfl ?_
      refine ax_getR fl_PA_46 x_0 rfl (rx_0_6 _) d_PA_can_23 26 rfl ?_
      refine ax_iload_n 1 d_PA_can_26 rfl rfl 27 rfl ?_
      refine ax_iload_n 2 d_PA_can_27 rfl rfl 28 rfl ?_
      refine ax_aload_n 0 d_PA_can_28 rfl rfl 29 rfl ?_
      refine ax_getR fl_PA_50 x_0 rfl (rx_0_7 _) d_PA_can_29 32 rfl ?_
      refine ax_callV mv_PA_281 ⟨Nat.le_of_ble_eq_true rfl, Nat.le_of_ble_eq_true rfl⟩ ⟨rfl, rfl⟩ [.ref 55, .int v1, .int v2, .ref 59] [.ref 59, .int v2, .int v1, .ref 55, .ref t3] rfl rfl (rc_Table ht3 _) (Nat.le_of_ble_eq_true rfl) d_PA_can_32 35 rfl (zc_Table_go t3 55 v1 v2 59 m ht3 in_55 in_59 (ok_b h (fun p4 h => ?_)))
      refine ax_callS mv_PA_207 ⟨Nat.le_of_ble_eq_true rfl, Nat.le_of_ble_eq_true rfl⟩ ⟨rfl, rfl⟩ [.int (b2i p4.1)] [.int (b2i p4.1)] rfl rfl (Nat.le_of_ble_eq_true rfl) d_PA_can_35 38 rfl (zc_PA_asNumber (b2i p4.1) p4.2 ?_)
      exact ax_iret rfl d_PA_can_38 (hR ((f_PA_asNumber (b2i p4.1)), p4.2) (ok_some h))
    · have h := ok_f (bf hc) h
      refine ax_iconst (-1) d_PA_can_16 ic_m1 17 rfl ?_
      exact ax_iret rfl d_PA_can_17 (hR ((-1), m) (ok_some h))
set_option maxRecDepth 4000 in
theorem c_PA_remember_J34  (m : zM)  {Q : Option Value → zM → Prop} {K : zM → Prop} (hR : ∀ p : zM, K (p) → Q none p)  (h : ok (f_PA_remember_J34  m) K) : AX gX s_PA_remember 34 [(0, .ref 0)] [] m Q := by
  unfold f_PA_remember_J34 at h
  refine ax_aload_n 0 d_PA_remember_34 rfl rfl 35 rfl ?_
  refine ax_getR fl_PA_53 x_0 rfl (rx_0_8 _) d_PA_remember_35 38 rfl ?_
  refine ax_aload_n 0 d_PA_remember_38 rfl rfl 39 rfl ?_
  refine ax_getI fl_PA_88 x_0 rfl d_PA_remember_39 42 rfl ?_
  refine ax_aload_n 0 d_PA_remember_42 rfl rfl 43 rfl ?_
  refine ax_getR fl_PA_46 x_0 rfl (rx_0_6 _) d_PA_remember_43 46 rfl ?_
  refine ax_callV mv_PA_368 ⟨Nat.le_of_ble_eq_true rfl, Nat.le_of_ble_eq_true rfl⟩ ⟨rfl, rfl⟩ [] [.ref 55, .int (m.1 0 14), .ref 63] rfl rfl (rc_World in_55 _) (Nat.le_of_ble_eq_true rfl) d_PA_remember_46 49 rfl (zc_World_ownKey 55 m in_55 (ok_b h (fun r4 h => ?_)))
  refine ax_lastore x_63 d_PA_remember_49 50 rfl h (fun i5 m6 h => ?_)
  refine ax_aload_n 0 d_PA_remember_50 rfl rfl 51 rfl ?_
  refine ax_dup d_PA_remember_51 rfl 52 rfl ?_
  refine ax_getI fl_PA_88 x_0 rfl d_PA_remember_52 55 rfl ?_
  refine ax_iconst 1 d_PA_remember_55 ic_1 56 rfl ?_
  refine ax_iadd d_PA_remember_56 57 rfl ?_
  refine ax_putI (K := K) fl_PA_88 x_0 rfl rfl rfl (Nat.le_of_ble_eq_true rfl) d_PA_remember_57 60 rfl h (fun m7 h => ?_)
  exact ax_vret rfl d_PA_remember_60 (hR m7 (ok_some h))
set_option maxRecDepth 4000 in
theorem zc_PA_remember  (m : zM)  {Q : Option Value → zM → Prop} (h : ok (f_PA_remember m) (fun p => Q none p)) : zc gX s_PA_remember [.ref 0] m Q := by
  refine zc_of rfl (Nat.le_of_ble_eq_true rfl) ?_
  show AX gX s_PA_remember 0 [(0, .ref 0)] [] m Q
  obtain ⟨K, hK⟩ : ∃ K : zM → Prop, K = (fun p : zM => Q none p) := ⟨_, rfl⟩
  have hR : ∀ p : zM, K p → Q none p := fun p hp => by rw [hK] at hp; exact hp
  replace h : ok (f_PA_remember m) (fun p : zM => Q none p) := h
  rw [← hK] at h
  unfold f_PA_remember at h
  refine ax_aload_n 0 d_PA_remember_0 rfl rfl 1 rfl ?_
  refine ax_getI fl_PA_88 x_0 rfl d_PA_remember_1 4 rfl ?_
  refine ax_bipush 20 d_PA_remember_4 bp_20 6 rfl ?_
  refine ax_icmp_ne 34 9 d_PA_remember_6 rfl rfl (fun hc => ?_) (fun hc => ?_)
  · have h := ok_f hc h
    exact ax_sub [0] rfl (c_PA_remember_J34 m (fun p hp => hR p hp) h)
  · have h := ok_t hc h
    refine ax_aload_n 0 d_PA_remember_9 rfl rfl 10 rfl ?_
    refine ax_getR fl_PA_53 x_0 rfl (rx_0_8 _) d_PA_remember_10 13 rfl ?_
    refine ax_iconst 1 d_PA_remember_13 ic_1 14 rfl ?_
    refine ax_aload_n 0 d_PA_remember_14 rfl rfl 15 rfl ?_
    refine ax_getR fl_PA_53 x_0 rfl (rx_0_8 _) d_PA_remember_15 18 rfl ?_
    refine ax_iconst 0 d_PA_remember_18 ic_0 19 rfl ?_
    refine ax_bipush 19 d_PA_remember_19 bp_19 21 rfl ?_
    refine ax_copyJ ac_PA_362 ⟨Nat.le_of_ble_eq_true rfl, Nat.le_of_ble_eq_true rfl⟩ x_63 x_63 d_PA_remember_21 24 rfl h (fun r1 m2 h => ?_)
    refine ax_aload_n 0 d_PA_remember_24 rfl rfl 25 rfl ?_
    refine ax_dup d_PA_remember_25 rfl 26 rfl ?_
    refine ax_getI fl_PA_88 x_0 rfl d_PA_remember_26 29 rfl ?_
    refine ax_iconst 1 d_PA_remember_29 ic_1 30 rfl ?_
    refine ax_isub d_PA_remember_30 31 rfl ?_
    refine ax_putI (K := K) fl_PA_88 x_0 rfl rfl rfl (Nat.le_of_ble_eq_true rfl) d_PA_remember_31 34 rfl h (fun m3 h => ?_)
    exact ax_sub [0] rfl (c_PA_remember_J34 m3 (fun p hp => hR p hp) h)
set_option maxRecDepth 4000 in
theorem c_PA_move_J36  (m : zM)  {Q : Option Value → zM → Prop} {K : (Int32 × zM) → Prop} (hR : ∀ p : Int32 × zM, K (p) → Q (some (.int p.1)) p.2)  (h : ok (f_PA_move_J36  m) K) : AX gX s_PA_move 36 [(0, .ref 0)] [] m Q := by
  unfold f_PA_move_J36 at h
  refine ax_aload_n 0 d_PA_move_36 rfl rfl 37 rfl ?_
  refine ax_iconst 2 d_PA_move_37 ic_2 38 rfl ?_
  refine ax_callV mv_PA_100 ⟨Nat.le_of_ble_eq_true rfl, Nat.le_of_ble_eq_true rfl⟩ ⟨rfl, rfl⟩ [.int 2] [.int 2, .ref 0] rfl rfl (rc_x_0 _) (Nat.le_of_ble_eq_true rfl) d_PA_move_38 41 rfl (zc_PA_refuse 2 m (ok_b h (fun p8 h => ?_)))
  exact ax_iret rfl d_PA_move_41 (hR (p8.1, p8.2) (ok_some h))
set_option maxRecDepth 4000 in
theorem zc_PA_move (v1 : Int32) (v2 : Int32) (m : zM)  {Q : Option Value → zM → Prop} (h : ok (f_PA_move v1 v2 m) (fun p => Q (some (.int p.1)) p.2)) : zc gX s_PA_move [.ref 0, .int v1, .int v2] m Q := by
  refine zc_of rfl (Nat.le_of_ble_eq_true rfl) ?_
  show AX gX s_PA_move 0 [(0, .ref 0), (1, .int v1), (2, .int v2)] [] m Q
  obtain ⟨K, hK⟩ : ∃ K : (Int32 × zM) → Prop, K = (fun p : Int32 × zM => Q (some (.int p.1)) p.2) := ⟨_, rfl⟩
  have hR : ∀ p : Int32 × zM, K p → Q (some (.int p.1)) p.2 := fun p hp => by rw [hK] at hp; exact hp
  replace h : ok (f_PA_move v1 v2 m) (fun p : Int32 × zM => Q (some (.int p.1)) p.2) := h
  rw [← hK] at h
  unfold f_PA_move at h
  refine ax_aload_n 0 d_PA_move_0 rfl rfl 1 rfl ?_
  refine ax_iload_n 1 d_PA_move_1 rfl rfl 2 rfl ?_
  refine ax_callV mv_PA_181 ⟨Nat.le_of_ble_eq_true rfl, Nat.le_of_ble_eq_true rfl⟩ ⟨rfl, rfl⟩ [.int v1] [.int v1, .ref 0] rfl rfl (rc_x_0 _) (Nat.le_of_ble_eq_true rfl) d_PA_move_2 5 rfl (zc_PA_isRule v1 m (ok_b h (fun r1 h => ?_)))
  refine ax_ifb_eq 36 8 d_PA_move_5 rfl rfl (fun hc => ?_) (fun hc => ?_)
  · have h := ok_f (bf hc) h
    exact ax_sub [0] rfl (c_PA_move_J36 m (fun p hp => hR p hp) h)
  · have h := ok_t hc h
    refine ax_aload_n 0 d_PA_move_8 rfl rfl 9 rfl ?_
    refine ax_iload_n 2 d_PA_move_9 rfl rfl 10 rfl ?_
    refine ax_callV mv_PA_217 ⟨Nat.le_of_ble_eq_true rfl, Nat.le_of_ble_eq_true rfl⟩ ⟨rfl, rfl⟩ [.int v2] [.int v2, .ref 0] rfl rfl (rc_x_0 _) (Nat.le_of_ble_eq_true rfl) d_PA_move_10 13 rfl (zc_PA_isAgent v2 m (ok_b h (fun r2 h => ?_)))
    refine ax_ifb_eq 36 16 d_PA_move_13 rfl rfl (fun hc => ?_) (fun hc => ?_)
    · have h := ok_f (bf hc) h
      exact ax_sub [0] rfl (c_PA_move_J36 m (fun p hp => hR p hp) h)
    · have h := ok_t hc h
      refine ax_aload_n 0 d_PA_move_16 rfl rfl 17 rfl ?_
      refine ok_tb h (fun t3 ht3 et3 h => ?_)
      refine ax_getR fl_PA_71 x_0 rfl (ry_0 et3) d_PA_move_17 20 rfl ?_
      refine ax_aload_n 0 d_PA_move_20 rfl rfl 21 rfl ?_
      refine ax_getR fl_PA_46 x_0 rfl (rx_0_6 _) d_PA_move_21 24 rfl ?_
      refine ax_iload_n 1 d_PA_move_24 rfl rfl 25 rfl ?_
      refine ax_iload_n 2 d_PA_move_25 rfl rfl 26 rfl ?_
      refine ax_aload_n 0 d_PA_move_26 rfl rfl 27 rfl ?_
      refine ax_getR fl_PA_50 x_0 rfl (rx_0_7 _) d_PA_move_27 30 rfl ?_
      refine ax_callV mv_PA_281 ⟨Nat.le_of_ble_eq_true rfl, Nat.le_of_ble_eq_true rfl⟩ ⟨rfl, rfl⟩ [.ref 55, .int v1, .int v2, .ref 59] [.ref 59, .int v2, .int v1, .ref 55, .ref t3] rfl rfl (rc_Table ht3 _) (Nat.le_of_ble_eq_true rfl) d_PA_move_30 33 rfl (zc_Table_go t3 55 v1 v2 59 m ht3 in_55 in_59 (ok_b h (fun p4 h => ?_)))
      refine ax_ifb_ne 42 36 d_PA_move_33 rfl rfl (fun hc => ?_) (fun hc => ?_)
      · have h := ok_t hc h
        refine ax_aload_n 0 d_PA_move_42 rfl rfl 43 rfl ?_
        refine ax_callV mv_PA_285 ⟨Nat.le_of_ble_eq_true rfl, Nat.le_of_ble_eq_true rfl⟩ ⟨rfl, rfl⟩ [] [.ref 0] rfl rfl (rc_x_0 _) (Nat.le_of_ble_eq_true rfl) d_PA_move_43 46 rfl (zc_PA_remember p4.2 (ok_b h (fun p5 h => ?_)))
        refine ax_aload_n 0 d_PA_move_46 rfl rfl 47 rfl ?_
        refine ax_getR fl_PA_46 x_0 rfl (rx_0_6 _) d_PA_move_47 50 rfl ?_
        refine ax_aload_n 0 d_PA_move_50 rfl rfl 51 rfl ?_
        refine ax_getR fl_PA_50 x_0 rfl (rx_0_7 _) d_PA_move_51 54 rfl ?_
        refine ax_callV mv_PA_288 ⟨Nat.le_of_ble_eq_true rfl, Nat.le_of_ble_eq_true rfl⟩ ⟨rfl, rfl⟩ [.ref 59] [.ref 59, .ref 55] rfl rfl (rc_World in_55 _) (Nat.le_of_ble_eq_true rfl) d_PA_move_54 57 rfl (zc_World_copy 55 59 p5 in_55 in_59 (ok_b h (fun p6 h => ?_)))
        refine ax_aload_n 0 d_PA_move_57 rfl rfl 58 rfl ?_
        refine ax_getR fl_PA_32 x_0 rfl (rx_0_4 _) d_PA_move_58 61 rfl ?_
        refine ax_aload_n 0 d_PA_move_61 rfl rfl 62 rfl ?_
        refine ax_getR fl_PA_46 x_0 rfl (rx_0_6 _) d_PA_move_62 65 rfl ?_
        refine ax_callV mv_PA_272 ⟨Nat.le_of_ble_eq_true rfl, Nat.le_of_ble_eq_true rfl⟩ ⟨rfl, rfl⟩ [.ref 55] [.ref 55, .ref 24] rfl rfl (rc_x_24 _) (Nat.le_of_ble_eq_true rfl) d_PA_move_65 68 rfl (zc_Atlas_number 55 p6 in_55 (ok_b h (fun p7 h => ?_)))
        exact ax_iret rfl d_PA_move_68 (hR (p7.1, p7.2) (ok_some h))
      · have h := ok_f (bf hc) h
        exact ax_sub [0] rfl (c_PA_move_J36 p4.2 (fun p hp => hR p hp) h)
set_option maxRecDepth 4000 in
theorem zc_PA_jump (v1 : Int32) (m : zM)  {Q : Option Value → zM → Prop} (h : ok (f_PA_jump v1 m) (fun p => Q (some (.int (b2i p.1))) p.2)) : zc gX s_PA_jump [.ref 0, .int v1] m Q := by
  refine zc_of rfl (Nat.le_of_ble_eq_true rfl) ?_
  show AX gX s_PA_jump 0 [(0, .ref 0), (1, .int v1)] [] m Q
  obtain ⟨K, hK⟩ : ∃ K : (Bool × zM) → Prop, K = (fun p : Bool × zM => Q (some (.int (b2i p.1))) p.2) := ⟨_, rfl⟩
  have hR : ∀ p : Bool × zM, K p → Q (some (.int (b2i p.1))) p.2 := fun p hp => by rw [hK] at hp; exact hp
  replace h : ok (f_PA_jump v1 m) (fun p : Bool × zM => Q (some (.int (b2i p.1))) p.2) := h
  rw [← hK] at h
  unfold f_PA_jump at h
  refine ax_aload_n 0 d_PA_jump_0 rfl rfl 1 rfl ?_
  refine ax_iload_n 1 d_PA_jump_1 rfl rfl 2 rfl ?_
  refine ax_callV mv_PA_194 ⟨Nat.le_of_ble_eq_true rfl, Nat.le_of_ble_eq_true rfl⟩ ⟨rfl, rfl⟩ [.int v1] [.int v1, .ref 0] rfl rfl (rc_x_0 _) (Nat.le_of_ble_eq_true rfl) d_PA_jump_2 5 rfl (zc_PA_isWorld v1 m ?_)
  refine ax_ifb_ne 16 8 d_PA_jump_5 rfl rfl (fun hc => ?_) (fun hc => ?_)
  · have h := ok_t hc h
    refine ax_aload_n 0 d_PA_jump_16 rfl rfl 17 rfl ?_
    refine ax_callV mv_PA_285 ⟨Nat.le_of_ble_eq_true rfl, Nat.le_of_ble_eq_true rfl⟩ ⟨rfl, rfl⟩ [] [.ref 0] rfl rfl (rc_x_0 _) (Nat.le_of_ble_eq_true rfl) d_PA_jump_17 20 rfl (zc_PA_remember m (ok_b h (fun p1 h => ?_)))
    refine ax_aload_n 0 d_PA_jump_20 rfl rfl 21 rfl ?_
    refine ax_getR fl_PA_46 x_0 rfl (rx_0_6 _) d_PA_jump_21 24 rfl ?_
    refine ax_aload_n 0 d_PA_jump_24 rfl rfl 25 rfl ?_
    refine ax_getR fl_PA_32 x_0 rfl (rx_0_4 _) d_PA_jump_25 28 rfl ?_
    refine ax_getR fl_PA_292 x_24 rfl (rx_24_3 _) d_PA_jump_28 31 rfl ?_
    refine ax_iload_n 1 d_PA_jump_31 rfl rfl 32 rfl ?_
    refine ax_laload x_28 d_PA_jump_32 33 rfl h (fun i2 h => ?_)
    refine ax_aload_n 0 d_PA_jump_33 rfl rfl 34 rfl ?_
    refine ok_tb h (fun t3 ht3 et3 h => ?_)
    refine ax_getR fl_PA_71 x_0 rfl (ry_0 et3) d_PA_jump_34 37 rfl ?_
    refine ax_getI fl_PA_143 (sx_Table ht3) rfl d_PA_jump_37 40 rfl ?_
    refine ax_callV mv_PA_295 ⟨Nat.le_of_ble_eq_true rfl, Nat.le_of_ble_eq_true rfl⟩ ⟨rfl, rfl⟩ [.long (p1.2.1 28 i2), .int (p1.1 t3 0)] [.int (p1.1 t3 0), .long (p1.2.1 28 i2), .ref 55] rfl rfl (rc_World in_55 _) (Nat.le_of_ble_eq_true rfl) d_PA_jump_40 43 rfl (zc_World_load 55 (p1.2.1 28 i2) (p1.1 t3 0) p1 in_55 (ok_b h (fun p4 h => ?_)))
    refine ax_iconst 1 d_PA_jump_43 ic_1 44 rfl ?_
    exact ax_zret (b := true) rfl d_PA_jump_44 (hR (true, p4) (ok_some h))
  · have h := ok_f (bf hc) h
    refine ax_aload_n 0 d_PA_jump_8 rfl rfl 9 rfl ?_
    refine ax_iconst 2 d_PA_jump_9 ic_2 10 rfl ?_
    refine ax_callV mv_PA_100 ⟨Nat.le_of_ble_eq_true rfl, Nat.le_of_ble_eq_true rfl⟩ ⟨rfl, rfl⟩ [.int 2] [.int 2, .ref 0] rfl rfl (rc_x_0 _) (Nat.le_of_ble_eq_true rfl) d_PA_jump_10 13 rfl (zc_PA_refuse 2 m (ok_b h (fun p5 h => ?_)))
    refine ax_pop d_PA_jump_13 rfl 14 rfl ?_
    refine ax_iconst 0 d_PA_jump_14 ic_0 15 rfl ?_
    exact ax_zret (b := false) rfl d_PA_jump_15 (hR (false, p5.2) (ok_some h))
set_option maxRecDepth 4000 in
theorem c_Table_choices_J53 (v0 : Nat) (v1 : Nat) (v2 : Nat) (v3 : Int32) (v4 : Int32) (m : zM) (hv0 : v0 ∈ li_Table) (hv1 : v1 ∈ li_World) (hv2 : v2 ∈ li_World) {Q : Option Value → zM → Prop} {K : ((Int32 × zM) ⊕ (Int32 × Int32 × zM)) → Prop} (hR : ∀ p : Int32 × zM, K (.inl p) → Q (some (.int p.1)) p.2) (h0 : ∀ s : Int32 × Int32 × zM, K (.inr s) → AX gX s_Table_choices 5 [(0, .ref v0), (1, .ref v1), (2, .ref v2), (3, .int s.1), (4, .int s.2.1)] [] s.2.2 Q) (h : ok (f_Table_choices_J53 v0 v1 v2 v3 v4 m) K) : AX gX s_Table_choices 53 [(0, .ref v0), (1, .ref v1), (2, .ref v2), (3, .int v3), (4, .int v4)] [] m Q := by
  unfold f_Table_choices_J53 at h
  refine ax_iinc (ls1 := [(4, .int (v4 + 1)), (0, .ref v0), (1, .ref v1), (2, .ref v2), (3, .int v3)]) 4 1 d_Table_choices_53 rfl ic_1 (Nat.le_of_ble_eq_true rfl) rfl 56 rfl ?_
  refine ax_goto 5 d_Table_choices_56 rfl ?_
  exact ax_sub [1, 2, 3, 4, 0] rfl (h0 (v3, (v4 + 1), m) (ok_some h))
set_option maxRecDepth 4000 in
theorem c_Table_choices_J45 (v0 : Nat) (v1 : Nat) (v2 : Nat) (v4 : Int32) (v5 : Int32) (t0 : Int32) (t1 : Bool) (m : zM) (hv0 : v0 ∈ li_Table) (hv1 : v1 ∈ li_World) (hv2 : v2 ∈ li_World) {Q : Option Value → zM → Prop} {K : (((Int32 × zM) ⊕ (Int32 × Int32 × zM)) ⊕ (Int32 × Int32 × zM)) → Prop} (hR : ∀ p : Int32 × zM, K (.inl (.inl p)) → Q (some (.int p.1)) p.2) (h0 : ∀ s : Int32 × Int32 × zM, K (.inl (.inr s)) → AX gX s_Table_choices 5 [(0, .ref v0), (1, .ref v1), (2, .ref v2), (3, .int s.1), (4, .int s.2.1)] [] s.2.2 Q) (h1 : ∀ s : Int32 × Int32 × zM, K (.inr s) → AX gX s_Table_choices 17 [(0, .ref v0), (1, .ref v1), (2, .ref v2), (3, .int s.1), (4, .int v4), (5, .int s.2.1)] [] s.2.2 Q) (h : ok (f_Table_choices_J45 v0 v1 v2 v4 v5 t0 t1 m) K) : AX gX s_Table_choices 45 [(0, .ref v0), (1, .ref v1), (2, .ref v2), (4, .int v4), (5, .int v5)] [.int (b2i t1), .int t0] m Q := by
  unfold f_Table_choices_J45 at h
  refine ax_iadd d_Table_choices_45 46 rfl ?_
  refine ax_istore_n (ls1 := [(3, .int (t0 + (b2i t1))), (0, .ref v0), (1, .ref v1), (2, .ref v2), (4, .int v4), (5, .int v5)]) d_Table_choices_46 rfl (Nat.le_of_ble_eq_true rfl) rfl 47 rfl ?_
  refine ax_iinc (ls1 := [(5, .int (v5 + 1)), (3, .int (t0 + (b2i t1))), (0, .ref v0), (1, .ref v1), (2, .ref v2), (4, .int v4)]) 5 1 d_Table_choices_47 rfl ic_1 (Nat.le_of_ble_eq_true rfl) rfl 50 rfl ?_
  refine ax_goto 17 d_Table_choices_50 rfl ?_
  exact ax_sub [2, 3, 4, 1, 5, 0] rfl (h1 ((t0 + (b2i t1)), (v5 + 1), m) (ok_some h))
set_option maxRecDepth 4000 in
theorem c_Table_choices_B17 (v0 : Nat) (v1 : Nat) (v2 : Nat) (v3 : Int32) (v4 : Int32) (v5 : Int32) (m : zM) (hv0 : v0 ∈ li_Table) (hv1 : v1 ∈ li_World) (hv2 : v2 ∈ li_World) {Q : Option Value → zM → Prop} {K : (((Int32 × zM) ⊕ (Int32 × Int32 × zM)) ⊕ (Int32 × Int32 × zM)) → Prop} (hR : ∀ p : Int32 × zM, K (.inl (.inl p)) → Q (some (.int p.1)) p.2) (h0 : ∀ s : Int32 × Int32 × zM, K (.inl (.inr s)) → AX gX s_Table_choices 5 [(0, .ref v0), (1, .ref v1), (2, .ref v2), (3, .int s.1), (4, .int s.2.1)] [] s.2.2 Q) (h1 : ∀ s : Int32 × Int32 × zM, K (.inr s) → AX gX s_Table_choices 17 [(0, .ref v0), (1, .ref v1), (2, .ref v2), (3, .int s.1), (4, .int v4), (5, .int s.2.1)] [] s.2.2 Q) (h : ok (f_Table_choices_B17 v0 v1 v2 v3 v4 v5 m) K) : AX gX s_Table_choices 17 [(0, .ref v0), (1, .ref v1), (2, .ref v2), (3, .int v3), (4, .int v4), (5, .int v5)] [] m Q := by
  unfold f_Table_choices_B17 at h
  refine ax_iload 5 d_Table_choices_17 rfl 19 rfl ?_
  refine ax_aload_n 0 d_Table_choices_19 rfl rfl 20 rfl ?_
  refine ax_getI fl_Table_9 (sx_Table hv0) rfl d_Table_choices_20 23 rfl ?_
  refine ax_icmp_ge 53 26 d_Table_choices_23 rfl rfl (fun hc => ?_) (fun hc => ?_)
  · have h := ok_t hc h
    exact ax_sub [0, 1, 2, 3, 4] rfl (c_Table_choices_J53 v0 v1 v2 v3 v4 m hv0 hv1 hv2 (fun p hp => hR p hp) (fun s hs => h0 s hs) (ok_z h))
  · have h := ok_f hc h
    refine ax_iload_n 3 d_Table_choices_26 rfl rfl 27 rfl ?_
    refine ax_aload_n 0 d_Table_choices_27 rfl rfl 28 rfl ?_
    refine ax_aload_n 1 d_Table_choices_28 rfl rfl 29 rfl ?_
    refine ax_iload 4 d_Table_choices_29 rfl 31 rfl ?_
    refine ax_iload 5 d_Table_choices_31 rfl 33 rfl ?_
    refine ax_aload_n 2 d_Table_choices_33 rfl rfl 34 rfl ?_
    refine ax_callV mv_Table_91 ⟨Nat.le_of_ble_eq_true rfl, Nat.le_of_ble_eq_true rfl⟩ ⟨rfl, rfl⟩ [.ref v1, .int v4, .int v5, .ref v2] [.ref v2, .int v5, .int v4, .ref v1, .ref v0, .int v3] rfl rfl (rc_Table hv0 _) (Nat.le_of_ble_eq_true rfl) d_Table_choices_34 37 rfl (zc_Table_go v0 v1 v4 v5 v2 m hv0 hv1 hv2 (ok_b h (fun p1 h => ?_)))
    refine ax_ifb_eq 44 40 d_Table_choices_37 rfl rfl (fun hc => ?_) (fun hc => ?_)
    · have h := ok_f (bf hc) h
      refine ax_iconst 0 d_Table_choices_44 ic_0 45 rfl ?_
      exact ax_sub [0, 1, 2, 4, 5] rfl (c_Table_choices_J45 v0 v1 v2 v4 v5 v3 false p1.2 hv0 hv1 hv2 (fun p hp => hR p hp) (fun s hs => h0 s hs) (fun s hs => h1 s hs) h)
    · have h := ok_t hc h
      refine ax_iconst 1 d_Table_choices_40 ic_1 41 rfl ?_
      refine ax_goto 45 d_Table_choices_41 rfl ?_
      exact ax_sub [0, 1, 2, 4, 5] rfl (c_Table_choices_J45 v0 v1 v2 v4 v5 v3 true p1.2 hv0 hv1 hv2 (fun p hp => hR p hp) (fun s hs => h0 s hs) (fun s hs => h1 s hs) h)
theorem c_Table_choices_L17 (v0 : Nat) (v1 : Nat) (v2 : Nat) (v3 : Int32) (v4 : Int32) (v5 : Int32) (m : zM) (hv0 : v0 ∈ li_Table) (hv1 : v1 ∈ li_World) (hv2 : v2 ∈ li_World) {Q : Option Value → zM → Prop} {K : ((Int32 × zM) ⊕ (Int32 × Int32 × zM)) → Prop} (hR : ∀ p : Int32 × zM, K (.inl p) → Q (some (.int p.1)) p.2) (h0 : ∀ s : Int32 × Int32 × zM, K (.inr s) → AX gX s_Table_choices 5 [(0, .ref v0), (1, .ref v1), (2, .ref v2), (3, .int s.1), (4, .int s.2.1)] [] s.2.2 Q) (h : ok (f_Table_choices_L17 v0 v1 v2 v3 v4 v5 m) K) : AX gX s_Table_choices 17 [(0, .ref v0), (1, .ref v1), (2, .ref v2), (3, .int v3), (4, .int v4), (5, .int v5)] [] m Q :=
  ok_lp (K := K) (G := fun s : Int32 × Int32 × zM => AX gX s_Table_choices 17 [(0, .ref v0), (1, .ref v1), (2, .ref v2), (3, .int s.1), (4, .int v4), (5, .int s.2.1)] [] s.2.2 Q) (fun s h => c_Table_choices_B17 v0 v1 v2 s.1 v4 s.2.1 s.2.2 hv0 hv1 hv2 (fun p hp => hR p hp) (fun s hs => h0 s hs) (fun s hs => hs) h) FU (v3, v5, m) h
set_option maxRecDepth 4000 in
theorem c_Table_choices_B5 (v0 : Nat) (v1 : Nat) (v2 : Nat) (v3 : Int32) (v4 : Int32) (m : zM) (hv0 : v0 ∈ li_Table) (hv1 : v1 ∈ li_World) (hv2 : v2 ∈ li_World) {Q : Option Value → zM → Prop} {K : ((Int32 × zM) ⊕ (Int32 × Int32 × zM)) → Prop} (hR : ∀ p : Int32 × zM, K (.inl p) → Q (some (.int p.1)) p.2) (h0 : ∀ s : Int32 × Int32 × zM, K (.inr s) → AX gX s_Table_choices 5 [(0, .ref v0), (1, .ref v1), (2, .ref v2), (3, .int s.1), (4, .int s.2.1)] [] s.2.2 Q) (h : ok (f_Table_choices_B5 v0 v1 v2 v3 v4 m) K) : AX gX s_Table_choices 5 [(0, .ref v0), (1, .ref v1), (2, .ref v2), (3, .int v3), (4, .int v4)] [] m Q := by
  unfold f_Table_choices_B5 at h
  refine ax_iload 4 d_Table_choices_5 rfl 7 rfl ?_
  refine ax_aload_n 0 d_Table_choices_7 rfl rfl 8 rfl ?_
  refine ax_getI fl_Table_26 (sx_Table hv0) rfl d_Table_choices_8 11 rfl ?_
  refine ax_icmp_ge 59 14 d_Table_choices_11 rfl rfl (fun hc => ?_) (fun hc => ?_)
  · have h := ok_t hc h
    refine ax_iload_n 3 d_Table_choices_59 rfl rfl 60 rfl ?_
    exact ax_iret rfl d_Table_choices_60 (hR (v3, m) (ok_some h))
  · have h := ok_f hc h
    refine ax_iconst 0 d_Table_choices_14 ic_0 15 rfl ?_
    refine ax_istore (ls1 := [(5, .int 0), (0, .ref v0), (1, .ref v1), (2, .ref v2), (3, .int v3), (4, .int v4)]) d_Table_choices_15 (Nat.le_of_ble_eq_true rfl) rfl 17 rfl ?_
    exact ax_sub [1, 2, 3, 4, 5, 0] rfl (c_Table_choices_L17 v0 v1 v2 v3 v4 0 m hv0 hv1 hv2 (fun p hp => hR p hp) (fun s hs => h0 s hs) h)
theorem c_Table_choices_L5 (v0 : Nat) (v1 : Nat) (v2 : Nat) (v3 : Int32) (v4 : Int32) (m : zM) (hv0 : v0 ∈ li_Table) (hv1 : v1 ∈ li_World) (hv2 : v2 ∈ li_World) {Q : Option Value → zM → Prop} {K : (Int32 × zM) → Prop} (hR : ∀ p : Int32 × zM, K (p) → Q (some (.int p.1)) p.2)  (h : ok (f_Table_choices_L5 v0 v1 v2 v3 v4 m) K) : AX gX s_Table_choices 5 [(0, .ref v0), (1, .ref v1), (2, .ref v2), (3, .int v3), (4, .int v4)] [] m Q :=
  ok_lp (K := K) (G := fun s : Int32 × Int32 × zM => AX gX s_Table_choices 5 [(0, .ref v0), (1, .ref v1), (2, .ref v2), (3, .int s.1), (4, .int s.2.1)] [] s.2.2 Q) (fun s h => c_Table_choices_B5 v0 v1 v2 s.1 s.2.1 s.2.2 hv0 hv1 hv2 (fun p hp => hR p hp) (fun s hs => hs) h) FU (v3, v4, m) h
set_option maxRecDepth 4000 in
theorem zc_Table_choices (v0 : Nat) (v1 : Nat) (v2 : Nat) (m : zM) (hv0 : v0 ∈ li_Table) (hv1 : v1 ∈ li_World) (hv2 : v2 ∈ li_World) {Q : Option Value → zM → Prop} (h : ok (f_Table_choices v0 v1 v2 m) (fun p => Q (some (.int p.1)) p.2)) : zc gX s_Table_choices [.ref v0, .ref v1, .ref v2] m Q := by
  refine zc_of rfl (Nat.le_of_ble_eq_true rfl) ?_
  show AX gX s_Table_choices 0 [(0, .ref v0), (1, .ref v1), (2, .ref v2)] [] m Q
  obtain ⟨K, hK⟩ : ∃ K : (Int32 × zM) → Prop, K = (fun p : Int32 × zM => Q (some (.int p.1)) p.2) := ⟨_, rfl⟩
  have hR : ∀ p : Int32 × zM, K p → Q (some (.int p.1)) p.2 := fun p hp => by rw [hK] at hp; exact hp
  replace h : ok (f_Table_choices v0 v1 v2 m) (fun p : Int32 × zM => Q (some (.int p.1)) p.2) := h
  rw [← hK] at h
  unfold f_Table_choices at h
  refine ax_iconst 0 d_Table_choices_0 ic_0 1 rfl ?_
  refine ax_istore_n (ls1 := [(3, .int 0), (0, .ref v0), (1, .ref v1), (2, .ref v2)]) d_Table_choices_1 rfl (Nat.le_of_ble_eq_true rfl) rfl 2 rfl ?_
  refine ax_iconst 0 d_Table_choices_2 ic_0 3 rfl ?_
  refine ax_istore (ls1 := [(4, .int 0), (3, .int 0), (0, .ref v0), (1, .ref v1), (2, .ref v2)]) d_Table_choices_3 (Nat.le_of_ble_eq_true rfl) rfl 5 rfl ?_
  exact ax_sub [2, 3, 4, 1, 0] rfl (c_Table_choices_L5 v0 v1 v2 0 0 m hv0 hv1 hv2 (fun p hp => hR p hp) h)
set_option maxRecDepth 4000 in
theorem zc_PA_draw (v1 : Int32) (m : zM)  {Q : Option Value → zM → Prop} (h : ok (f_PA_draw v1 m) (fun p => Q (some (.int p.1)) p.2)) : zc gX s_PA_draw [.ref 0, .int v1] m Q := by
  refine zc_of rfl (Nat.le_of_ble_eq_true rfl) ?_
  show AX gX s_PA_draw 0 [(0, .ref 0), (1, .int v1)] [] m Q
  obtain ⟨K, hK⟩ : ∃ K : (Int32 × zM) → Prop, K = (fun p : Int32 × zM => Q (some (.int p.1)) p.2) := ⟨_, rfl⟩
  have hR : ∀ p : Int32 × zM, K p → Q (some (.int p.1)) p.2 := fun p hp => by rw [hK] at hp; exact hp
  replace h : ok (f_PA_draw v1 m) (fun p : Int32 × zM => Q (some (.int p.1)) p.2) := h
  rw [← hK] at h
  unfold f_PA_draw at h
  refine ax_aload_n 0 d_PA_draw_0 rfl rfl 1 rfl ?_
  refine ax_ldc2 1103515245 wk_PA_372 d_PA_draw_1 4 rfl ?_
  refine ax_aload_n 0 d_PA_draw_4 rfl rfl 5 rfl ?_
  refine ax_getJ fl_PA_92 x_0 rfl d_PA_draw_5 8 rfl ?_
  refine ax_lmul d_PA_draw_8 9 rfl ?_
  refine ax_ldc2 12345 wk_PA_374 d_PA_draw_9 12 rfl ?_
  refine ax_ladd d_PA_draw_12 13 rfl ?_
  refine ax_ldc2 2147483647 wk_PA_376 d_PA_draw_13 16 rfl ?_
  refine ax_land d_PA_draw_16 17 rfl ?_
  refine ax_putJ (K := K) fl_PA_92 x_0 rfl rfl rfl (Nat.le_of_ble_eq_true rfl) d_PA_draw_17 20 rfl h (fun m1 h => ?_)
  refine ax_iload_n 1 d_PA_draw_20 rfl rfl 21 rfl ?_
  refine ax_if_le 39 24 d_PA_draw_21 rfl rfl (fun hc => ?_) (fun hc => ?_)
  · have h := ok_t hc h
    refine ax_iconst 0 d_PA_draw_39 ic_0 40 rfl ?_
    exact ax_iret rfl d_PA_draw_40 (hR (0, m1) (ok_some h))
  · have h := ok_f hc h
    refine ax_aload_n 0 d_PA_draw_24 rfl rfl 25 rfl ?_
    refine ax_getJ fl_PA_92 x_0 rfl d_PA_draw_25 28 rfl ?_
    refine ax_ldc2 64 wk_PA_378 d_PA_draw_28 31 rfl ?_
    refine ax_ldiv d_PA_draw_31 (by decide) 32 rfl ?_
    refine ax_iload_n 1 d_PA_draw_32 rfl rfl 33 rfl ?_
    refine ax_i2l d_PA_draw_33 34 rfl ?_
    refine ok_nzl h (fun hn h => ?_)
    refine ax_lrem d_PA_draw_34 hn 35 rfl ?_
    refine ax_l2i d_PA_draw_35 36 rfl ?_
    refine ax_goto 40 d_PA_draw_36 rfl ?_
    exact ax_iret rfl d_PA_draw_40 (hR (((irl ((m1.2.1 0 15) / 64) v1.toInt64).toInt32), m1) (ok_some h))
set_option maxRecDepth 4000 in
theorem c_Table_choose_J55 (v0 : Nat) (v1 : Nat) (v3 : Nat) (v4 : Int32) (v5 : Int32) (m : zM) (hv0 : v0 ∈ li_Table) (hv1 : v1 ∈ li_World) (hv3 : v3 ∈ li_World) {Q : Option Value → zM → Prop} {K : ((zM) ⊕ (Int32 × Int32 × zM)) → Prop} (hR : ∀ p : zM, K (.inl p) → Q none p) (h0 : ∀ s : Int32 × Int32 × zM, K (.inr s) → AX gX s_Table_choose 6 [(0, .ref v0), (1, .ref v1), (3, .ref v3), (4, .int s.1), (5, .int s.2.1)] [] s.2.2 Q) (h : ok (f_Table_choose_J55 v0 v1 v3 v4 v5 m) K) : AX gX s_Table_choose 55 [(0, .ref v0), (1, .ref v1), (3, .ref v3), (4, .int v4), (5, .int v5)] [] m Q := by
  unfold f_Table_choose_J55 at h
  refine ax_iinc (ls1 := [(5, .int (v5 + 1)), (0, .ref v0), (1, .ref v1), (3, .ref v3), (4, .int v4)]) 4 1 d_Table_choose_55 rfl ic_1 (Nat.le_of_ble_eq_true rfl) rfl 58 rfl ?_
  refine ax_goto 6 d_Table_choose_58 rfl ?_
  exact ax_sub [1, 2, 3, 4, 0] rfl (h0 (v4, (v5 + 1), m) (ok_some h))
set_option maxRecDepth 4000 in
theorem c_Table_choose_J49 (v0 : Nat) (v1 : Nat) (v3 : Nat) (v4 : Int32) (v5 : Int32) (v6 : Int32) (m : zM) (hv0 : v0 ∈ li_Table) (hv1 : v1 ∈ li_World) (hv3 : v3 ∈ li_World) {Q : Option Value → zM → Prop} {K : (((zM) ⊕ (Int32 × Int32 × zM)) ⊕ (Int32 × Int32 × zM)) → Prop} (hR : ∀ p : zM, K (.inl (.inl p)) → Q none p) (h0 : ∀ s : Int32 × Int32 × zM, K (.inl (.inr s)) → AX gX s_Table_choose 6 [(0, .ref v0), (1, .ref v1), (3, .ref v3), (4, .int s.1), (5, .int s.2.1)] [] s.2.2 Q) (h1 : ∀ s : Int32 × Int32 × zM, K (.inr s) → AX gX s_Table_choose 18 [(0, .ref v0), (1, .ref v1), (3, .ref v3), (4, .int s.1), (5, .int v5), (6, .int s.2.1)] [] s.2.2 Q) (h : ok (f_Table_choose_J49 v0 v1 v3 v4 v5 v6 m) K) : AX gX s_Table_choose 49 [(0, .ref v0), (1, .ref v1), (3, .ref v3), (4, .int v4), (5, .int v5), (6, .int v6)] [] m Q := by
  unfold f_Table_choose_J49 at h
  refine ax_iinc (ls1 := [(6, .int (v6 + 1)), (0, .ref v0), (1, .ref v1), (3, .ref v3), (4, .int v4), (5, .int v5)]) 5 1 d_Table_choose_49 rfl ic_1 (Nat.le_of_ble_eq_true rfl) rfl 52 rfl ?_
  refine ax_goto 18 d_Table_choose_52 rfl ?_
  exact ax_sub [1, 2, 3, 4, 5, 0] rfl (h1 (v4, (v6 + 1), m) (ok_some h))
set_option maxRecDepth 4000 in
theorem c_Table_choose_B18 (v0 : Nat) (v1 : Nat) (v3 : Nat) (v4 : Int32) (v5 : Int32) (v6 : Int32) (m : zM) (hv0 : v0 ∈ li_Table) (hv1 : v1 ∈ li_World) (hv3 : v3 ∈ li_World) {Q : Option Value → zM → Prop} {K : (((zM) ⊕ (Int32 × Int32 × zM)) ⊕ (Int32 × Int32 × zM)) → Prop} (hR : ∀ p : zM, K (.inl (.inl p)) → Q none p) (h0 : ∀ s : Int32 × Int32 × zM, K (.inl (.inr s)) → AX gX s_Table_choose 6 [(0, .ref v0), (1, .ref v1), (3, .ref v3), (4, .int s.1), (5, .int s.2.1)] [] s.2.2 Q) (h1 : ∀ s : Int32 × Int32 × zM, K (.inr s) → AX gX s_Table_choose 18 [(0, .ref v0), (1, .ref v1), (3, .ref v3), (4, .int s.1), (5, .int v5), (6, .int s.2.1)] [] s.2.2 Q) (h : ok (f_Table_choose_B18 v0 v1 v3 v4 v5 v6 m) K) : AX gX s_Table_choose 18 [(0, .ref v0), (1, .ref v1), (3, .ref v3), (4, .int v4), (5, .int v5), (6, .int v6)] [] m Q := by
  unfold f_Table_choose_B18 at h
  refine ax_iload 5 d_Table_choose_18 rfl 20 rfl ?_
  refine ax_aload_n 0 d_Table_choose_20 rfl rfl 21 rfl ?_
  refine ax_getI fl_Table_9 (sx_Table hv0) rfl d_Table_choose_21 24 rfl ?_
  refine ax_icmp_ge 55 27 d_Table_choose_24 rfl rfl (fun hc => ?_) (fun hc => ?_)
  · have h := ok_t hc h
    exact ax_sub [0, 1, 2, 3, 4] rfl (c_Table_choose_J55 v0 v1 v3 v4 v5 m hv0 hv1 hv3 (fun p hp => hR p hp) (fun s hs => h0 s hs) (ok_z h))
  · have h := ok_f hc h
    refine ax_aload_n 0 d_Table_choose_27 rfl rfl 28 rfl ?_
    refine ax_aload_n 1 d_Table_choose_28 rfl rfl 29 rfl ?_
    refine ax_iload 4 d_Table_choose_29 rfl 31 rfl ?_
    refine ax_iload 5 d_Table_choose_31 rfl 33 rfl ?_
    refine ax_aload_n 2 d_Table_choose_33 rfl rfl 34 rfl ?_
    refine ax_callV mv_Table_91 ⟨Nat.le_of_ble_eq_true rfl, Nat.le_of_ble_eq_true rfl⟩ ⟨rfl, rfl⟩ [.ref v1, .int v5, .int v6, .ref v3] [.ref v3, .int v6, .int v5, .ref v1, .ref v0] rfl rfl (rc_Table hv0 _) (Nat.le_of_ble_eq_true rfl) d_Table_choose_34 37 rfl (zc_Table_go v0 v1 v5 v6 v3 m hv0 hv1 hv3 (ok_b h (fun p1 h => ?_)))
    refine ax_ifb_eq 49 40 d_Table_choose_37 rfl rfl (fun hc => ?_) (fun hc => ?_)
    · have h := ok_f (bf hc) h
      exact ax_sub [0, 1, 2, 3, 4, 5] rfl (c_Table_choose_J49 v0 v1 v3 v4 v5 v6 p1.2 hv0 hv1 hv3 (fun p hp => hR p hp) (fun s hs => h0 s hs) (fun s hs => h1 s hs) h)
    · have h := ok_t hc h
      refine ax_iload 3 d_Table_choose_40 rfl 42 rfl ?_
      refine ax_if_ne 46 45 d_Table_choose_42 rfl rfl (fun hc => ?_) (fun hc => ?_)
      · have h := ok_f hc h
        refine ax_iinc (ls1 := [(4, .int (v4 + (-1))), (0, .ref v0), (1, .ref v1), (3, .ref v3), (5, .int v5), (6, .int v6)]) 3 (-1) d_Table_choose_46 rfl ic_m1 (Nat.le_of_ble_eq_true rfl) rfl 49 rfl ?_
        exact ax_sub [1, 2, 3, 0, 4, 5] rfl (c_Table_choose_J49 v0 v1 v3 (v4 + (-1)) v5 v6 p1.2 hv0 hv1 hv3 (fun p hp => hR p hp) (fun s hs => h0 s hs) (fun s hs => h1 s hs) h)
      · have h := ok_t hc h
        exact ax_vret rfl d_Table_choose_45 (hR p1.2 (ok_some h))
theorem c_Table_choose_L18 (v0 : Nat) (v1 : Nat) (v3 : Nat) (v4 : Int32) (v5 : Int32) (v6 : Int32) (m : zM) (hv0 : v0 ∈ li_Table) (hv1 : v1 ∈ li_World) (hv3 : v3 ∈ li_World) {Q : Option Value → zM → Prop} {K : ((zM) ⊕ (Int32 × Int32 × zM)) → Prop} (hR : ∀ p : zM, K (.inl p) → Q none p) (h0 : ∀ s : Int32 × Int32 × zM, K (.inr s) → AX gX s_Table_choose 6 [(0, .ref v0), (1, .ref v1), (3, .ref v3), (4, .int s.1), (5, .int s.2.1)] [] s.2.2 Q) (h : ok (f_Table_choose_L18 v0 v1 v3 v4 v5 v6 m) K) : AX gX s_Table_choose 18 [(0, .ref v0), (1, .ref v1), (3, .ref v3), (4, .int v4), (5, .int v5), (6, .int v6)] [] m Q :=
  ok_lp (K := K) (G := fun s : Int32 × Int32 × zM => AX gX s_Table_choose 18 [(0, .ref v0), (1, .ref v1), (3, .ref v3), (4, .int s.1), (5, .int v5), (6, .int s.2.1)] [] s.2.2 Q) (fun s h => c_Table_choose_B18 v0 v1 v3 s.1 v5 s.2.1 s.2.2 hv0 hv1 hv3 (fun p hp => hR p hp) (fun s hs => h0 s hs) (fun s hs => hs) h) FU (v4, v6, m) h
set_option maxRecDepth 4000 in
theorem c_Table_choose_B6 (v0 : Nat) (v1 : Nat) (v3 : Nat) (v4 : Int32) (v5 : Int32) (m : zM) (hv0 : v0 ∈ li_Table) (hv1 : v1 ∈ li_World) (hv3 : v3 ∈ li_World) {Q : Option Value → zM → Prop} {K : ((zM) ⊕ (Int32 × Int32 × zM)) → Prop} (hR : ∀ p : zM, K (.inl p) → Q none p) (h0 : ∀ s : Int32 × Int32 × zM, K (.inr s) → AX gX s_Table_choose 6 [(0, .ref v0), (1, .ref v1), (3, .ref v3), (4, .int s.1), (5, .int s.2.1)] [] s.2.2 Q) (h : ok (f_Table_choose_B6 v0 v1 v3 v4 v5 m) K) : AX gX s_Table_choose 6 [(0, .ref v0), (1, .ref v1), (3, .ref v3), (4, .int v4), (5, .int v5)] [] m Q := by
  unfold f_Table_choose_B6 at h
  refine ax_iload 4 d_Table_choose_6 rfl 8 rfl ?_
  refine ax_aload_n 0 d_Table_choose_8 rfl rfl 9 rfl ?_
  refine ax_getI fl_Table_26 (sx_Table hv0) rfl d_Table_choose_9 12 rfl ?_
  refine ax_icmp_ge 61 15 d_Table_choose_12 rfl rfl (fun hc => ?_) (fun hc => ?_)
  · have h := ok_t hc h
    exact ax_vret rfl d_Table_choose_61 (hR m (ok_some h))
  · have h := ok_f hc h
    refine ax_iconst 0 d_Table_choose_15 ic_0 16 rfl ?_
    refine ax_istore (ls1 := [(6, .int 0), (0, .ref v0), (1, .ref v1), (3, .ref v3), (4, .int v4), (5, .int v5)]) d_Table_choose_16 (Nat.le_of_ble_eq_true rfl) rfl 18 rfl ?_
    exact ax_sub [1, 2, 3, 4, 5, 0] rfl (c_Table_choose_L18 v0 v1 v3 v4 v5 0 m hv0 hv1 hv3 (fun p hp => hR p hp) (fun s hs => h0 s hs) h)
theorem c_Table_choose_L6 (v0 : Nat) (v1 : Nat) (v3 : Nat) (v4 : Int32) (v5 : Int32) (m : zM) (hv0 : v0 ∈ li_Table) (hv1 : v1 ∈ li_World) (hv3 : v3 ∈ li_World) {Q : Option Value → zM → Prop} {K : zM → Prop} (hR : ∀ p : zM, K (p) → Q none p)  (h : ok (f_Table_choose_L6 v0 v1 v3 v4 v5 m) K) : AX gX s_Table_choose 6 [(0, .ref v0), (1, .ref v1), (3, .ref v3), (4, .int v4), (5, .int v5)] [] m Q :=
  ok_lp (K := K) (G := fun s : Int32 × Int32 × zM => AX gX s_Table_choose 6 [(0, .ref v0), (1, .ref v1), (3, .ref v3), (4, .int s.1), (5, .int s.2.1)] [] s.2.2 Q) (fun s h => c_Table_choose_B6 v0 v1 v3 s.1 s.2.1 s.2.2 hv0 hv1 hv3 (fun p hp => hR p hp) (fun s hs => hs) h) FU (v4, v5, m) h
set_option maxRecDepth 4000 in
theorem zc_Table_choose (v0 : Nat) (v1 : Nat) (v2 : Int32) (v3 : Nat) (m : zM) (hv0 : v0 ∈ li_Table) (hv1 : v1 ∈ li_World) (hv3 : v3 ∈ li_World) {Q : Option Value → zM → Prop} (h : ok (f_Table_choose v0 v1 v2 v3 m) (fun p => Q none p)) : zc gX s_Table_choose [.ref v0, .ref v1, .int v2, .ref v3] m Q := by
  refine zc_of rfl (Nat.le_of_ble_eq_true rfl) ?_
  show AX gX s_Table_choose 0 [(0, .ref v0), (1, .ref v1), (2, .int v2), (3, .ref v3)] [] m Q
  obtain ⟨K, hK⟩ : ∃ K : zM → Prop, K = (fun p : zM => Q none p) := ⟨_, rfl⟩
  have hR : ∀ p : zM, K p → Q none p := fun p hp => by rw [hK] at hp; exact hp
  replace h : ok (f_Table_choose v0 v1 v2 v3 m) (fun p : zM => Q none p) := h
  rw [← hK] at h
  unfold f_Table_choose at h
  refine ax_iload_n 2 d_Table_choose_0 rfl rfl 1 rfl ?_
  refine ax_istore (ls1 := [(4, .int v2), (0, .ref v0), (1, .ref v1), (2, .int v2), (3, .ref v3)]) d_Table_choose_1 (Nat.le_of_ble_eq_true rfl) rfl 3 rfl ?_
  refine ax_iconst 0 d_Table_choose_3 ic_0 4 rfl ?_
  refine ax_istore (ls1 := [(5, .int 0), (4, .int v2), (0, .ref v0), (1, .ref v1), (2, .int v2), (3, .ref v3)]) d_Table_choose_4 (Nat.le_of_ble_eq_true rfl) rfl 6 rfl ?_
  exact ax_sub [2, 3, 5, 1, 0] rfl (c_Table_choose_L6 v0 v1 v3 v2 0 m hv0 hv1 hv3 (fun p hp => hR p hp) h)
set_option maxRecDepth 4000 in
theorem c_PA_chance_J18  (m : zM)  {Q : Option Value → zM → Prop} {K : (Int32 × zM) → Prop} (hR : ∀ p : Int32 × zM, K (p) → Q (some (.int p.1)) p.2)  (h : ok (f_PA_chance_J18  m) K) : AX gX s_PA_chance 18 [(0, .ref 0)] [] m Q := by
  unfold f_PA_chance_J18 at h
  refine ax_aload_n 0 d_PA_chance_18 rfl rfl 19 rfl ?_
  refine ax_iconst 3 d_PA_chance_19 ic_3 20 rfl ?_
  refine ax_callV mv_PA_100 ⟨Nat.le_of_ble_eq_true rfl, Nat.le_of_ble_eq_true rfl⟩ ⟨rfl, rfl⟩ [.int 3] [.int 3, .ref 0] rfl rfl (rc_x_0 _) (Nat.le_of_ble_eq_true rfl) d_PA_chance_20 23 rfl (zc_PA_refuse 3 m (ok_b h (fun p2 h => ?_)))
  exact ax_iret rfl d_PA_chance_23 (hR (p2.1, p2.2) (ok_some h))
set_option maxRecDepth 4000 in
theorem c_PA_chance_J59 (v2 : Int32) (m : zM)  {Q : Option Value → zM → Prop} {K : (Int32 × zM) → Prop} (hR : ∀ p : Int32 × zM, K (p) → Q (some (.int p.1)) p.2)  (h : ok (f_PA_chance_J59 v2 m) K) : AX gX s_PA_chance 59 [(2, .int v2)] [] m Q := by
  unfold f_PA_chance_J59 at h
  refine ax_goto 103 d_PA_chance_59 rfl ?_
  refine ax_iload_n 0 d_PA_chance_103 rfl rfl 104 rfl ?_
  exact ax_iret rfl d_PA_chance_104 (hR (v2, m) (ok_some h))
set_option maxRecDepth 4000 in
theorem c_PA_chance_B32 (v1 : Int32) (v2 : Int32) (v3 : Int32) (m : zM)  {Q : Option Value → zM → Prop} {K : ((Int32 × zM) ⊕ (Int32 × Int32 × zM)) → Prop} (hR : ∀ p : Int32 × zM, K (.inl p) → Q (some (.int p.1)) p.2) (h0 : ∀ s : Int32 × Int32 × zM, K (.inr s) → AX gX s_PA_chance 32 [(0, .ref 0), (1, .int v1), (2, .int s.1), (3, .int s.2.1)] [] s.2.2 Q) (h : ok (f_PA_chance_B32 v1 v2 v3 m) K) : AX gX s_PA_chance 32 [(0, .ref 0), (1, .int v1), (2, .int v2), (3, .int v3)] [] m Q := by
  unfold f_PA_chance_B32 at h
  refine ax_iload_n 3 d_PA_chance_32 rfl rfl 33 rfl ?_
  refine ax_iload_n 1 d_PA_chance_33 rfl rfl 34 rfl ?_
  refine ax_icmp_ge 103 37 d_PA_chance_34 rfl rfl (fun hc => ?_) (fun hc => ?_)
  · have h := ok_t hc h
    refine ax_iload_n 2 d_PA_chance_103 rfl rfl 104 rfl ?_
    exact ax_iret rfl d_PA_chance_104 (hR (v2, m) (ok_some h))
  · have h := ok_f hc h
    refine ax_aload_n 0 d_PA_chance_37 rfl rfl 38 rfl ?_
    refine ok_tb h (fun t3 ht3 et3 h => ?_)
    refine ax_getR fl_PA_71 x_0 rfl (ry_0 et3) d_PA_chance_38 41 rfl ?_
    refine ax_aload_n 0 d_PA_chance_41 rfl rfl 42 rfl ?_
    refine ax_getR fl_PA_46 x_0 rfl (rx_0_6 _) d_PA_chance_42 45 rfl ?_
    refine ax_aload_n 0 d_PA_chance_45 rfl rfl 46 rfl ?_
    refine ax_getR fl_PA_50 x_0 rfl (rx_0_7 _) d_PA_chance_46 49 rfl ?_
    refine ax_callV mv_PA_299 ⟨Nat.le_of_ble_eq_true rfl, Nat.le_of_ble_eq_true rfl⟩ ⟨rfl, rfl⟩ [.ref 55, .ref 59] [.ref 59, .ref 55, .ref t3] rfl rfl (rc_Table ht3 _) (Nat.le_of_ble_eq_true rfl) d_PA_chance_49 52 rfl (zc_Table_choices t3 55 59 m ht3 in_55 in_59 (ok_b h (fun p4 h => ?_)))
    refine ax_istore (ls1 := [(4, .int p4.1), (0, .ref 0), (1, .int v1), (2, .int v2), (3, .int v3)]) d_PA_chance_52 (Nat.le_of_ble_eq_true rfl) rfl 54 rfl ?_
    refine ax_iload 0 d_PA_chance_54 rfl 56 rfl ?_
    refine ax_if_ne 62 59 d_PA_chance_56 rfl rfl (fun hc => ?_) (fun hc => ?_)
    · have h := ok_f hc h
      refine ax_aload_n 1 d_PA_chance_62 rfl rfl 63 rfl ?_
      refine ok_tb h (fun t5 ht5 et5 h => ?_)
      refine ax_getR fl_PA_71 x_0 rfl (ry_0 et5) d_PA_chance_63 66 rfl ?_
      refine ax_aload_n 1 d_PA_chance_66 rfl rfl 67 rfl ?_
      refine ax_getR fl_PA_46 x_0 rfl (rx_0_6 _) d_PA_chance_67 70 rfl ?_
      refine ax_aload_n 1 d_PA_chance_70 rfl rfl 71 rfl ?_
      refine ax_iload 0 d_PA_chance_71 rfl 73 rfl ?_
      refine ax_callV mv_PA_303 ⟨Nat.le_of_ble_eq_true rfl, Nat.le_of_ble_eq_true rfl⟩ ⟨rfl, rfl⟩ [.int p4.1] [.int p4.1, .ref 0, .ref 55, .ref t5] rfl rfl (rc_x_0 _) (Nat.le_of_ble_eq_true rfl) d_PA_chance_73 76 rfl (zc_PA_draw p4.1 p4.2 (ok_b h (fun p6 h => ?_)))
      refine ax_aload_n 1 d_PA_chance_76 rfl rfl 77 rfl ?_
      refine ax_getR fl_PA_50 x_0 rfl (rx_0_7 _) d_PA_chance_77 80 rfl ?_
      refine ax_callV mv_PA_306 ⟨Nat.le_of_ble_eq_true rfl, Nat.le_of_ble_eq_true rfl⟩ ⟨rfl, rfl⟩ [.ref 55, .int p6.1, .ref 59] [.ref 59, .int p6.1, .ref 55, .ref t5] rfl rfl (rc_Table ht5 _) (Nat.le_of_ble_eq_true rfl) d_PA_chance_80 83 rfl (zc_Table_choose t5 55 p6.1 59 p6.2 ht5 in_55 in_59 (ok_b h (fun p7 h => ?_)))
      refine ax_aload_n 1 d_PA_chance_83 rfl rfl 84 rfl ?_
      refine ax_getR fl_PA_46 x_0 rfl (rx_0_6 _) d_PA_chance_84 87 rfl ?_
      refine ax_aload_n 1 d_PA_chance_87 rfl rfl 88 rfl ?_
      refine ax_getR fl_PA_50 x_0 rfl (rx_0_7 _) d_PA_chance_88 91 rfl ?_
      refine ax_callV mv_PA_288 ⟨Nat.le_of_ble_eq_true rfl, Nat.le_of_ble_eq_true rfl⟩ ⟨rfl, rfl⟩ [.ref 59] [.ref 59, .ref 55] rfl rfl (rc_World in_55 _) (Nat.le_of_ble_eq_true rfl) d_PA_chance_91 94 rfl (zc_World_copy 55 59 p7 in_55 in_59 (ok_b h (fun p8 h => ?_)))
      refine ax_iinc (ls1 := [(2, .int (v2 + 1)), (4, .int p4.1), (0, .ref 0), (1, .int v1), (3, .int v3)]) 3 1 d_PA_chance_94 rfl ic_1 (Nat.le_of_ble_eq_true rfl) rfl 97 rfl ?_
      refine ax_iinc (ls1 := [(3, .int (v3 + 1)), (2, .int (v2 + 1)), (4, .int p4.1), (0, .ref 0), (1, .int v1)]) 4 1 d_PA_chance_97 rfl ic_1 (Nat.le_of_ble_eq_true rfl) rfl 100 rfl ?_
      refine ax_goto 32 d_PA_chance_100 rfl ?_
      exact ax_sub [3, 4, 1, 0] rfl (h0 ((v2 + 1), (v3 + 1), p8) (ok_some h))
    · have h := ok_t hc h
      exact ax_sub [3] rfl (c_PA_chance_J59 v2 p4.2 (fun p hp => hR p hp) (ok_z h))
theorem c_PA_chance_L32 (v1 : Int32) (v2 : Int32) (v3 : Int32) (m : zM)  {Q : Option Value → zM → Prop} {K : (Int32 × zM) → Prop} (hR : ∀ p : Int32 × zM, K (p) → Q (some (.int p.1)) p.2)  (h : ok (f_PA_chance_L32 v1 v2 v3 m) K) : AX gX s_PA_chance 32 [(0, .ref 0), (1, .int v1), (2, .int v2), (3, .int v3)] [] m Q :=
  ok_lp (K := K) (G := fun s : Int32 × Int32 × zM => AX gX s_PA_chance 32 [(0, .ref 0), (1, .int v1), (2, .int s.1), (3, .int s.2.1)] [] s.2.2 Q) (fun s h => c_PA_chance_B32 v1 s.1 s.2.1 s.2.2  (fun p hp => hR p hp) (fun s hs => hs) h) FU (v2, v3, m) h
set_option maxRecDepth 4000 in
theorem zc_PA_chance (v1 : Int32) (m : zM)  {Q : Option Value → zM → Prop} (h : ok (f_PA_chance v1 m) (fun p => Q (some (.int p.1)) p.2)) : zc gX s_PA_chance [.ref 0, .int v1] m Q := by
  refine zc_of rfl (Nat.le_of_ble_eq_true rfl) ?_
  show AX gX s_PA_chance 0 [(0, .ref 0), (1, .int v1)] [] m Q
  obtain ⟨K, hK⟩ : ∃ K : (Int32 × zM) → Prop, K = (fun p : Int32 × zM => Q (some (.int p.1)) p.2) := ⟨_, rfl⟩
  have hR : ∀ p : Int32 × zM, K p → Q (some (.int p.1)) p.2 := fun p hp => by rw [hK] at hp; exact hp
  replace h : ok (f_PA_chance v1 m) (fun p : Int32 × zM => Q (some (.int p.1)) p.2) := h
  rw [← hK] at h
  unfold f_PA_chance at h
  refine ax_aload_n 0 d_PA_chance_0 rfl rfl 1 rfl ?_
  refine ax_getI fl_PA_84 x_0 rfl d_PA_chance_1 4 rfl ?_
  refine ax_if_eq 18 7 d_PA_chance_4 rfl rfl (fun hc => ?_) (fun hc => ?_)
  · have h := ok_t hc h
    exact ax_sub [0] rfl (c_PA_chance_J18 m (fun p hp => hR p hp) h)
  · have h := ok_f hc h
    refine ax_iload_n 1 d_PA_chance_7 rfl rfl 8 rfl ?_
    refine ax_iconst 1 d_PA_chance_8 ic_1 9 rfl ?_
    refine ax_icmp_lt 18 12 d_PA_chance_9 rfl rfl (fun hc => ?_) (fun hc => ?_)
    · have h := ok_t hc h
      exact ax_sub [0] rfl (c_PA_chance_J18 m (fun p hp => hR p hp) h)
    · have h := ok_f hc h
      refine ax_iload_n 1 d_PA_chance_12 rfl rfl 13 rfl ?_
      refine ax_bipush 100 d_PA_chance_13 bp_100 15 rfl ?_
      refine ax_icmp_le 24 18 d_PA_chance_15 rfl rfl (fun hc => ?_) (fun hc => ?_)
      · have h := ok_t hc h
        refine ax_aload_n 0 d_PA_chance_24 rfl rfl 25 rfl ?_
        refine ax_callV mv_PA_285 ⟨Nat.le_of_ble_eq_true rfl, Nat.le_of_ble_eq_true rfl⟩ ⟨rfl, rfl⟩ [] [.ref 0] rfl rfl (rc_x_0 _) (Nat.le_of_ble_eq_true rfl) d_PA_chance_25 28 rfl (zc_PA_remember m (ok_b h (fun p1 h => ?_)))
        refine ax_iconst 0 d_PA_chance_28 ic_0 29 rfl ?_
        refine ax_istore_n (ls1 := [(2, .int 0), (0, .ref 0), (1, .int v1)]) d_PA_chance_29 rfl (Nat.le_of_ble_eq_true rfl) rfl 30 rfl ?_
        refine ax_iconst 0 d_PA_chance_30 ic_0 31 rfl ?_
        refine ax_istore_n (ls1 := [(3, .int 0), (2, .int 0), (0, .ref 0), (1, .int v1)]) d_PA_chance_31 rfl (Nat.le_of_ble_eq_true rfl) rfl 32 rfl ?_
        exact ax_sub [2, 3, 1, 0] rfl (c_PA_chance_L32 v1 0 0 p1 (fun p hp => hR p hp) h)
      · have h := ok_f hc h
        exact ax_sub [0] rfl (c_PA_chance_J18 m (fun p hp => hR p hp) h)
set_option maxRecDepth 4000 in
theorem c_PA_undo_J14  (m : zM)  {Q : Option Value → zM → Prop} {K : (Bool × zM) → Prop} (hR : ∀ p : Bool × zM, K (p) → Q (some (.int (b2i p.1))) p.2)  (h : ok (f_PA_undo_J14  m) K) : AX gX s_PA_undo 14 [(0, .ref 0)] [] m Q := by
  unfold f_PA_undo_J14 at h
  refine ax_aload_n 0 d_PA_undo_14 rfl rfl 15 rfl ?_
  refine ax_iconst 4 d_PA_undo_15 ic_4 16 rfl ?_
  refine ax_callV mv_PA_100 ⟨Nat.le_of_ble_eq_true rfl, Nat.le_of_ble_eq_true rfl⟩ ⟨rfl, rfl⟩ [.int 4] [.int 4, .ref 0] rfl rfl (rc_x_0 _) (Nat.le_of_ble_eq_true rfl) d_PA_undo_16 19 rfl (zc_PA_refuse 4 m (ok_b h (fun p5 h => ?_)))
  refine ax_pop d_PA_undo_19 rfl 20 rfl ?_
  refine ax_iconst 0 d_PA_undo_20 ic_0 21 rfl ?_
  exact ax_zret (b := false) rfl d_PA_undo_21 (hR (false, p5.2) (ok_some h))
set_option maxRecDepth 4000 in
theorem zc_PA_undo  (m : zM)  {Q : Option Value → zM → Prop} (h : ok (f_PA_undo m) (fun p => Q (some (.int (b2i p.1))) p.2)) : zc gX s_PA_undo [.ref 0] m Q := by
  refine zc_of rfl (Nat.le_of_ble_eq_true rfl) ?_
  show AX gX s_PA_undo 0 [(0, .ref 0)] [] m Q
  obtain ⟨K, hK⟩ : ∃ K : (Bool × zM) → Prop, K = (fun p : Bool × zM => Q (some (.int (b2i p.1))) p.2) := ⟨_, rfl⟩
  have hR : ∀ p : Bool × zM, K p → Q (some (.int (b2i p.1))) p.2 := fun p hp => by rw [hK] at hp; exact hp
  replace h : ok (f_PA_undo m) (fun p : Bool × zM => Q (some (.int (b2i p.1))) p.2) := h
  rw [← hK] at h
  unfold f_PA_undo at h
  refine ax_aload_n 0 d_PA_undo_0 rfl rfl 1 rfl ?_
  refine ax_getI fl_PA_84 x_0 rfl d_PA_undo_1 4 rfl ?_
  refine ax_if_eq 14 7 d_PA_undo_4 rfl rfl (fun hc => ?_) (fun hc => ?_)
  · have h := ok_t hc h
    exact ax_sub [0] rfl (c_PA_undo_J14 m (fun p hp => hR p hp) h)
  · have h := ok_f hc h
    refine ax_aload_n 0 d_PA_undo_7 rfl rfl 8 rfl ?_
    refine ax_getI fl_PA_88 x_0 rfl d_PA_undo_8 11 rfl ?_
    refine ax_if_ne 22 14 d_PA_undo_11 rfl rfl (fun hc => ?_) (fun hc => ?_)
    · have h := ok_f hc h
      refine ax_aload_n 0 d_PA_undo_22 rfl rfl 23 rfl ?_
      refine ax_dup d_PA_undo_23 rfl 24 rfl ?_
      refine ax_getI fl_PA_88 x_0 rfl d_PA_undo_24 27 rfl ?_
      refine ax_iconst 1 d_PA_undo_27 ic_1 28 rfl ?_
      refine ax_isub d_PA_undo_28 29 rfl ?_
      refine ax_putI (K := K) fl_PA_88 x_0 rfl rfl rfl (Nat.le_of_ble_eq_true rfl) d_PA_undo_29 32 rfl h (fun m1 h => ?_)
      refine ax_aload_n 0 d_PA_undo_32 rfl rfl 33 rfl ?_
      refine ax_getR fl_PA_46 x_0 rfl (rx_0_6 _) d_PA_undo_33 36 rfl ?_
      refine ax_aload_n 0 d_PA_undo_36 rfl rfl 37 rfl ?_
      refine ax_getR fl_PA_53 x_0 rfl (rx_0_8 _) d_PA_undo_37 40 rfl ?_
      refine ax_aload_n 0 d_PA_undo_40 rfl rfl 41 rfl ?_
      refine ax_getI fl_PA_88 x_0 rfl d_PA_undo_41 44 rfl ?_
      refine ax_laload x_63 d_PA_undo_44 45 rfl h (fun i2 h => ?_)
      refine ax_aload_n 0 d_PA_undo_45 rfl rfl 46 rfl ?_
      refine ok_tb h (fun t3 ht3 et3 h => ?_)
      refine ax_getR fl_PA_71 x_0 rfl (ry_0 et3) d_PA_undo_46 49 rfl ?_
      refine ax_getI fl_PA_143 (sx_Table ht3) rfl d_PA_undo_49 52 rfl ?_
      refine ax_callV mv_PA_295 ⟨Nat.le_of_ble_eq_true rfl, Nat.le_of_ble_eq_true rfl⟩ ⟨rfl, rfl⟩ [.long (m1.2.1 63 i2), .int (m1.1 t3 0)] [.int (m1.1 t3 0), .long (m1.2.1 63 i2), .ref 55] rfl rfl (rc_World in_55 _) (Nat.le_of_ble_eq_true rfl) d_PA_undo_52 55 rfl (zc_World_load 55 (m1.2.1 63 i2) (m1.1 t3 0) m1 in_55 (ok_b h (fun p4 h => ?_)))
      refine ax_iconst 1 d_PA_undo_55 ic_1 56 rfl ?_
      exact ax_zret (b := true) rfl d_PA_undo_56 (hR (true, p4) (ok_some h))
    · have h := ok_t hc h
      exact ax_sub [0] rfl (c_PA_undo_J14 m (fun p hp => hR p hp) h)
set_option maxRecDepth 4000 in
theorem zc_PA_seed (v1 : Int32) (m : zM)  {Q : Option Value → zM → Prop} (h : ok (f_PA_seed v1 m) (fun p => Q (some (.int (b2i p.1))) p.2)) : zc gX s_PA_seed [.ref 0, .int v1] m Q := by
  refine zc_of rfl (Nat.le_of_ble_eq_true rfl) ?_
  show AX gX s_PA_seed 0 [(0, .ref 0), (1, .int v1)] [] m Q
  obtain ⟨K, hK⟩ : ∃ K : (Bool × zM) → Prop, K = (fun p : Bool × zM => Q (some (.int (b2i p.1))) p.2) := ⟨_, rfl⟩
  have hR : ∀ p : Bool × zM, K p → Q (some (.int (b2i p.1))) p.2 := fun p hp => by rw [hK] at hp; exact hp
  replace h : ok (f_PA_seed v1 m) (fun p : Bool × zM => Q (some (.int (b2i p.1))) p.2) := h
  rw [← hK] at h
  unfold f_PA_seed at h
  refine ax_iload_n 1 d_PA_seed_0 rfl rfl 1 rfl ?_
  refine ax_if_ge 12 4 d_PA_seed_1 rfl rfl (fun hc => ?_) (fun hc => ?_)
  · have h := ok_t hc h
    refine ax_aload_n 0 d_PA_seed_12 rfl rfl 13 rfl ?_
    refine ax_iload_n 1 d_PA_seed_13 rfl rfl 14 rfl ?_
    refine ax_i2l d_PA_seed_14 15 rfl ?_
    refine ax_putJ (K := K) fl_PA_92 x_0 rfl rfl rfl (Nat.le_of_ble_eq_true rfl) d_PA_seed_15 18 rfl h (fun m1 h => ?_)
    refine ax_iconst 1 d_PA_seed_18 ic_1 19 rfl ?_
    exact ax_zret (b := true) rfl d_PA_seed_19 (hR (true, m1) (ok_some h))
  · have h := ok_f hc h
    refine ax_aload_n 0 d_PA_seed_4 rfl rfl 5 rfl ?_
    refine ax_iconst 5 d_PA_seed_5 ic_5 6 rfl ?_
    refine ax_callV mv_PA_100 ⟨Nat.le_of_ble_eq_true rfl, Nat.le_of_ble_eq_true rfl⟩ ⟨rfl, rfl⟩ [.int 5] [.int 5, .ref 0] rfl rfl (rc_x_0 _) (Nat.le_of_ble_eq_true rfl) d_PA_seed_6 9 rfl (zc_PA_refuse 5 m (ok_b h (fun p2 h => ?_)))
    refine ax_pop d_PA_seed_9 rfl 10 rfl ?_
    refine ax_iconst 0 d_PA_seed_10 ic_0 11 rfl ?_
    exact ax_zret (b := false) rfl d_PA_seed_11 (hR (false, p2.2) (ok_some h))
set_option maxRecDepth 4000 in
theorem c_Sight_isSight_B26 (v0 : Nat) (v1 : Nat) (v2 : Int32) (v3 : Int32) (m : zM) (hv0 : v0 ∈ li_Bytes) (hv1 : v1 ∈ li_Table) {Q : Option Value → zM → Prop} {K : ((Bool) ⊕ (Int32)) → Prop} (hR : ∀ p : Bool, K (.inl p) → Q (some (.int (b2i p))) m) (h0 : ∀ s : Int32, K (.inr s) → AX gX s_Sight_isSight 26 [(0, .ref v0), (1, .ref v1), (2, .int v2), (3, .int s)] [] m Q) (h : ok (f_Sight_isSight_B26 v0 v1 v2 v3 m) K) : AX gX s_Sight_isSight 26 [(0, .ref v0), (1, .ref v1), (2, .int v2), (3, .int v3)] [] m Q := by
  unfold f_Sight_isSight_B26 at h
  refine ax_iload_n 3 d_Sight_isSight_26 rfl rfl 27 rfl ?_
  refine ax_iload_n 2 d_Sight_isSight_27 rfl rfl 28 rfl ?_
  refine ax_icmp_ge 64 31 d_Sight_isSight_28 rfl rfl (fun hc => ?_) (fun hc => ?_)
  · have h := ok_t hc h
    refine ax_iconst 1 d_Sight_isSight_64 ic_1 65 rfl ?_
    exact ax_zret (b := true) rfl d_Sight_isSight_65 (hR true (ok_some h))
  · have h := ok_f hc h
    refine ax_aload_n 0 d_Sight_isSight_31 rfl rfl 32 rfl ?_
    refine ax_iload_n 3 d_Sight_isSight_32 rfl rfl 33 rfl ?_
    refine ax_callV mv_Sight_50 ⟨Nat.le_of_ble_eq_true rfl, Nat.le_of_ble_eq_true rfl⟩ ⟨rfl, rfl⟩ [.int v3] [.int v3, .ref v0] rfl rfl (rc_Bytes hv0 _) (Nat.le_of_ble_eq_true rfl) d_Sight_isSight_33 36 rfl (zc_Bytes_get v0 v3 m hv0 (ok_b h (fun r1 h => ?_)))
    refine ax_aload_n 1 d_Sight_isSight_36 rfl rfl 37 rfl ?_
    refine ax_getR fl_Sight_54 (sx_Table hv1) rfl (ro_Table_1 hv1 _) d_Sight_isSight_37 40 rfl ?_
    refine ax_iconst 0 d_Sight_isSight_40 ic_0 41 rfl ?_
    refine ax_iaload (sa_Table_1 hv1) d_Sight_isSight_41 42 rfl h (fun i2 h => ?_)
    refine ax_icmp_ge 56 45 d_Sight_isSight_42 rfl rfl (fun hc => ?_) (fun hc => ?_)
    · have h := ok_t hc h
      refine ax_iconst 0 d_Sight_isSight_56 ic_0 57 rfl ?_
      exact ax_zret (b := false) rfl d_Sight_isSight_57 (hR false (ok_some h))
    · have h := ok_f hc h
      refine ax_aload_n 0 d_Sight_isSight_45 rfl rfl 46 rfl ?_
      refine ax_iload_n 3 d_Sight_isSight_46 rfl rfl 47 rfl ?_
      refine ax_iconst 1 d_Sight_isSight_47 ic_1 48 rfl ?_
      refine ax_iadd d_Sight_isSight_48 49 rfl ?_
      refine ax_callV mv_Sight_50 ⟨Nat.le_of_ble_eq_true rfl, Nat.le_of_ble_eq_true rfl⟩ ⟨rfl, rfl⟩ [.int (v3 + 1)] [.int (v3 + 1), .ref v0] rfl rfl (rc_Bytes hv0 _) (Nat.le_of_ble_eq_true rfl) d_Sight_isSight_49 52 rfl (zc_Bytes_get v0 (v3 + 1) m hv0 (ok_b h (fun r3 h => ?_)))
      refine ax_iconst 4 d_Sight_isSight_52 ic_4 53 rfl ?_
      refine ax_icmp_le 58 56 d_Sight_isSight_53 rfl rfl (fun hc => ?_) (fun hc => ?_)
      · have h := ok_t hc h
        refine ax_iinc (ls1 := [(3, .int (v3 + 2)), (0, .ref v0), (1, .ref v1), (2, .int v2)]) 3 2 d_Sight_isSight_58 rfl ic_2 (Nat.le_of_ble_eq_true rfl) rfl 61 rfl ?_
        refine ax_goto 26 d_Sight_isSight_61 rfl ?_
        exact ax_sub [1, 2, 3, 0] rfl (h0 (v3 + 2) (ok_some h))
      · have h := ok_f hc h
        refine ax_iconst 0 d_Sight_isSight_56 ic_0 57 rfl ?_
        exact ax_zret (b := false) rfl d_Sight_isSight_57 (hR false (ok_some h))
theorem c_Sight_isSight_L26 (v0 : Nat) (v1 : Nat) (v2 : Int32) (v3 : Int32) (m : zM) (hv0 : v0 ∈ li_Bytes) (hv1 : v1 ∈ li_Table) {Q : Option Value → zM → Prop} {K : Bool → Prop} (hR : ∀ p : Bool, K (p) → Q (some (.int (b2i p))) m)  (h : ok (f_Sight_isSight_L26 v0 v1 v2 v3 m) K) : AX gX s_Sight_isSight 26 [(0, .ref v0), (1, .ref v1), (2, .int v2), (3, .int v3)] [] m Q :=
  ok_lp (K := K) (G := fun s : Int32 => AX gX s_Sight_isSight 26 [(0, .ref v0), (1, .ref v1), (2, .int v2), (3, .int s)] [] m Q) (fun s h => c_Sight_isSight_B26 v0 v1 v2 s m hv0 hv1 (fun p hp => hR p hp) (fun s hs => hs) h) FU v3 h
set_option maxRecDepth 4000 in
theorem zc_Sight_isSight (v0 : Nat) (v1 : Nat) (m : zM) (hv0 : v0 ∈ li_Bytes) (hv1 : v1 ∈ li_Table) {Q : Option Value → zM → Prop} (h : ok (f_Sight_isSight v0 v1 m) (fun p => Q (some (.int (b2i p))) m)) : zc gX s_Sight_isSight [.ref v0, .ref v1] m Q := by
  refine zc_of rfl (Nat.le_of_ble_eq_true rfl) ?_
  show AX gX s_Sight_isSight 0 [(0, .ref v0), (1, .ref v1)] [] m Q
  obtain ⟨K, hK⟩ : ∃ K : Bool → Prop, K = (fun p : Bool => Q (some (.int (b2i p))) m) := ⟨_, rfl⟩
  have hR : ∀ p : Bool, K p → Q (some (.int (b2i p))) m := fun p hp => by rw [hK] at hp; exact hp
  replace h : ok (f_Sight_isSight v0 v1 m) (fun p : Bool => Q (some (.int (b2i p))) m) := h
  rw [← hK] at h
  unfold f_Sight_isSight at h
  refine ax_aload_n 0 d_Sight_isSight_0 rfl rfl 1 rfl ?_
  refine ax_callV mv_Sight_44 ⟨Nat.le_of_ble_eq_true rfl, Nat.le_of_ble_eq_true rfl⟩ ⟨rfl, rfl⟩ [] [.ref v0] rfl rfl (rc_Bytes hv0 _) (Nat.le_of_ble_eq_true rfl) d_Sight_isSight_1 4 rfl (zc_Bytes_size v0 m hv0 ?_)
  refine ax_istore_n (ls1 := [(2, .int (f_Bytes_size v0 m)), (0, .ref v0), (1, .ref v1)]) d_Sight_isSight_4 rfl (Nat.le_of_ble_eq_true rfl) rfl 5 rfl ?_
  refine ax_iload_n 0 d_Sight_isSight_5 rfl rfl 6 rfl ?_
  refine ax_iconst 2 d_Sight_isSight_6 ic_2 7 rfl ?_
  refine ax_icmp_lt 22 10 d_Sight_isSight_7 rfl rfl (fun hc => ?_) (fun hc => ?_)
  · have h := ok_t hc h
    refine ax_iconst 0 d_Sight_isSight_22 ic_0 23 rfl ?_
    exact ax_zret (b := false) rfl d_Sight_isSight_23 (hR false (ok_some h))
  · have h := ok_f hc h
    refine ax_iload_n 0 d_Sight_isSight_10 rfl rfl 11 rfl ?_
    refine ax_bipush 12 d_Sight_isSight_11 bp_12 13 rfl ?_
    refine ax_icmp_gt 22 16 d_Sight_isSight_13 rfl rfl (fun hc => ?_) (fun hc => ?_)
    · have h := ok_t hc h
      refine ax_iconst 0 d_Sight_isSight_22 ic_0 23 rfl ?_
      exact ax_zret (b := false) rfl d_Sight_isSight_23 (hR false (ok_some h))
    · have h := ok_f hc h
      refine ax_iload_n 0 d_Sight_isSight_16 rfl rfl 17 rfl ?_
      refine ax_iconst 2 d_Sight_isSight_17 ic_2 18 rfl ?_
      refine ax_irem d_Sight_isSight_18 (by decide) 19 rfl ?_
      refine ax_if_eq 24 22 d_Sight_isSight_19 rfl rfl (fun hc => ?_) (fun hc => ?_)
      · have h := ok_t hc h
        refine ax_iconst 0 d_Sight_isSight_24 ic_0 25 rfl ?_
        refine ax_istore_n (ls1 := [(3, .int 0), (2, .int (f_Bytes_size v0 m)), (0, .ref v0), (1, .ref v1)]) d_Sight_isSight_25 rfl (Nat.le_of_ble_eq_true rfl) rfl 26 rfl ?_
        exact ax_sub [2, 3, 1, 0] rfl (c_Sight_isSight_L26 v0 v1 (f_Bytes_size v0 m) 0 m hv0 hv1 (fun p hp => hR p hp) h)
      · have h := ok_f hc h
        refine ax_iconst 0 d_Sight_isSight_22 ic_0 23 rfl ?_
        exact ax_zret (b := false) rfl d_Sight_isSight_23 (hR false (ok_some h))
set_option maxRecDepth 4000 in
theorem c_Sight_take_J59 (v2 : Int32) (m : zM)  {Q : Option Value → zM → Prop} {K : zM → Prop} (hR : ∀ p : zM, K (p) → Q none p)  (h : ok (f_Sight_take_J59 v2 m) K) : AX gX s_Sight_take 59 [(0, .ref 48), (2, .int v2)] [] m Q := by
  unfold f_Sight_take_J59 at h
  refine ax_aload_n 0 d_Sight_take_59 rfl rfl 60 rfl ?_
  refine ax_iload_n 1 d_Sight_take_60 rfl rfl 61 rfl ?_
  refine ax_putI (K := K) fl_Sight_22 x_48 rfl rfl rfl (Nat.le_of_ble_eq_true rfl) d_Sight_take_61 64 rfl h (fun m8 h => ?_)
  refine ax_aload_n 0 d_Sight_take_64 rfl rfl 65 rfl ?_
  refine ax_iconst (-1) d_Sight_take_65 ic_m1 66 rfl ?_
  refine ax_putI (K := K) fl_Sight_38 x_48 rfl rfl rfl (Nat.le_of_ble_eq_true rfl) d_Sight_take_66 69 rfl h (fun m9 h => ?_)
  exact ax_vret rfl d_Sight_take_69 (hR m9 (ok_some h))
set_option maxRecDepth 4000 in
theorem c_Sight_take_B17 (v1 : Nat) (v2 : Int32) (v3 : Int32) (m : zM) (hv1 : v1 ∈ li_Bytes) {Q : Option Value → zM → Prop} {K : ((zM) ⊕ (Int32 × zM)) → Prop} (hR : ∀ p : zM, K (.inl p) → Q none p) (h0 : ∀ s : Int32 × zM, K (.inr s) → AX gX s_Sight_take 17 [(0, .ref 48), (1, .ref v1), (2, .int v2), (3, .int s.1)] [] s.2 Q) (h : ok (f_Sight_take_B17 v1 v2 v3 m) K) : AX gX s_Sight_take 17 [(0, .ref 48), (1, .ref v1), (2, .int v2), (3, .int v3)] [] m Q := by
  unfold f_Sight_take_B17 at h
  refine ax_iload_n 3 d_Sight_take_17 rfl rfl 18 rfl ?_
  refine ax_aload_n 0 d_Sight_take_18 rfl rfl 19 rfl ?_
  refine ax_getI fl_Sight_18 x_48 rfl d_Sight_take_19 22 rfl ?_
  refine ax_icmp_ge 59 25 d_Sight_take_22 rfl rfl (fun hc => ?_) (fun hc => ?_)
  · have h := ok_t hc h
    exact ax_sub [0, 2] rfl (c_Sight_take_J59 v2 m (fun p hp => hR p hp) (ok_z h))
  · have h := ok_f hc h
    refine ax_aload_n 0 d_Sight_take_25 rfl rfl 26 rfl ?_
    refine ax_getR fl_Sight_9 x_48 rfl (rx_48_0 _) d_Sight_take_26 29 rfl ?_
    refine ax_iload_n 3 d_Sight_take_29 rfl rfl 30 rfl ?_
    refine ax_aload_n 1 d_Sight_take_30 rfl rfl 31 rfl ?_
    refine ax_iconst 2 d_Sight_take_31 ic_2 32 rfl ?_
    refine ax_iload_n 3 d_Sight_take_32 rfl rfl 33 rfl ?_
    refine ax_imul d_Sight_take_33 34 rfl ?_
    refine ax_callV mv_Sight_50 ⟨Nat.le_of_ble_eq_true rfl, Nat.le_of_ble_eq_true rfl⟩ ⟨rfl, rfl⟩ [.int (2 * v3)] [.int (2 * v3), .ref v1, .int v3, .ref 49] rfl rfl (rc_Bytes hv1 _) (Nat.le_of_ble_eq_true rfl) d_Sight_take_34 37 rfl (zc_Bytes_get v1 (2 * v3) m hv1 (ok_b h (fun r2 h => ?_)))
    refine ax_iastore x_49 d_Sight_take_37 38 rfl h (fun i3 m4 h => ?_)
    refine ax_aload_n 0 d_Sight_take_38 rfl rfl 39 rfl ?_
    refine ax_getR fl_Sight_15 x_48 rfl (rx_48_1 _) d_Sight_take_39 42 rfl ?_
    refine ax_iload_n 3 d_Sight_take_42 rfl rfl 43 rfl ?_
    refine ax_aload_n 1 d_Sight_take_43 rfl rfl 44 rfl ?_
    refine ax_iconst 2 d_Sight_take_44 ic_2 45 rfl ?_
    refine ax_iload_n 3 d_Sight_take_45 rfl rfl 46 rfl ?_
    refine ax_imul d_Sight_take_46 47 rfl ?_
    refine ax_iconst 1 d_Sight_take_47 ic_1 48 rfl ?_
    refine ax_iadd d_Sight_take_48 49 rfl ?_
    refine ax_callV mv_Sight_50 ⟨Nat.le_of_ble_eq_true rfl, Nat.le_of_ble_eq_true rfl⟩ ⟨rfl, rfl⟩ [.int ((2 * v3) + 1)] [.int ((2 * v3) + 1), .ref v1, .int v3, .ref 50] rfl rfl (rc_Bytes hv1 _) (Nat.le_of_ble_eq_true rfl) d_Sight_take_49 52 rfl (zc_Bytes_get v1 ((2 * v3) + 1) m4 hv1 (ok_b h (fun r5 h => ?_)))
    refine ax_iastore x_50 d_Sight_take_52 53 rfl h (fun i6 m7 h => ?_)
    refine ax_iinc (ls1 := [(3, .int (v3 + 1)), (0, .ref 48), (1, .ref v1), (2, .int v2)]) 3 1 d_Sight_take_53 rfl ic_1 (Nat.le_of_ble_eq_true rfl) rfl 56 rfl ?_
    refine ax_goto 17 d_Sight_take_56 rfl ?_
    exact ax_sub [1, 2, 3, 0] rfl (h0 ((v3 + 1), m7) (ok_some h))
theorem c_Sight_take_L17 (v1 : Nat) (v2 : Int32) (v3 : Int32) (m : zM) (hv1 : v1 ∈ li_Bytes) {Q : Option Value → zM → Prop} {K : zM → Prop} (hR : ∀ p : zM, K (p) → Q none p)  (h : ok (f_Sight_take_L17 v1 v2 v3 m) K) : AX gX s_Sight_take 17 [(0, .ref 48), (1, .ref v1), (2, .int v2), (3, .int v3)] [] m Q :=
  ok_lp (K := K) (G := fun s : Int32 × zM => AX gX s_Sight_take 17 [(0, .ref 48), (1, .ref v1), (2, .int v2), (3, .int s.1)] [] s.2 Q) (fun s h => c_Sight_take_B17 v1 v2 s.1 s.2 hv1 (fun p hp => hR p hp) (fun s hs => hs) h) FU (v3, m) h
set_option maxRecDepth 4000 in
theorem zc_Sight_take (v1 : Nat) (v2 : Int32) (m : zM) (hv1 : v1 ∈ li_Bytes) {Q : Option Value → zM → Prop} (h : ok (f_Sight_take v1 v2 m) (fun p => Q none p)) : zc gX s_Sight_take [.ref 48, .ref v1, .int v2] m Q := by
  refine zc_of rfl (Nat.le_of_ble_eq_true rfl) ?_
  show AX gX s_Sight_take 0 [(0, .ref 48), (1, .ref v1), (2, .int v2)] [] m Q
  obtain ⟨K, hK⟩ : ∃ K : zM → Prop, K = (fun p : zM => Q none p) := ⟨_, rfl⟩
  have hR : ∀ p : zM, K p → Q none p := fun p hp => by rw [hK] at hp; exact hp
  replace h : ok (f_Sight_take v1 v2 m) (fun p : zM => Q none p) := h
  rw [← hK] at h
  unfold f_Sight_take at h
  refine ax_aload_n 0 d_Sight_take_0 rfl rfl 1 rfl ?_
  refine ax_aload_n 1 d_Sight_take_1 rfl rfl 2 rfl ?_
  refine ax_callV mv_Sight_44 ⟨Nat.le_of_ble_eq_true rfl, Nat.le_of_ble_eq_true rfl⟩ ⟨rfl, rfl⟩ [] [.ref v1, .ref 48] rfl rfl (rc_Bytes hv1 _) (Nat.le_of_ble_eq_true rfl) d_Sight_take_2 5 rfl (zc_Bytes_size v1 m hv1 ?_)
  refine ax_iconst 2 d_Sight_take_5 ic_2 6 rfl ?_
  refine ax_idiv d_Sight_take_6 (by decide) 7 rfl ?_
  refine ax_bipush 6 d_Sight_take_7 bp_6 9 rfl ?_
  refine ax_callS mv_Sight_59 ⟨Nat.le_of_ble_eq_true rfl, Nat.le_of_ble_eq_true rfl⟩ ⟨rfl, rfl⟩ [.int ((f_Bytes_size v1 m) / 2), .int 6] [.int 6, .int ((f_Bytes_size v1 m) / 2), .ref 48] rfl rfl (Nat.le_of_ble_eq_true rfl) d_Sight_take_9 12 rfl (zc_Math_min ((f_Bytes_size v1 m) / 2) 6 m ?_)
  refine ax_putI (K := K) fl_Sight_18 x_48 rfl rfl rfl (Nat.le_of_ble_eq_true rfl) d_Sight_take_12 15 rfl h (fun m1 h => ?_)
  refine ax_iconst 0 d_Sight_take_15 ic_0 16 rfl ?_
  refine ax_istore_n (ls1 := [(3, .int 0), (0, .ref 48), (1, .ref v1), (2, .int v2)]) d_Sight_take_16 rfl (Nat.le_of_ble_eq_true rfl) rfl 17 rfl ?_
  exact ax_sub [1, 2, 3, 0] rfl (c_Sight_take_L17 v1 v2 0 m1 hv1 (fun p hp => hR p hp) h)
set_option maxRecDepth 4000 in
theorem c_PA_see_J53 (v2 : Bool) (m : zM)  {Q : Option Value → zM → Prop} {K : (Int32 × zM) → Prop} (hR : ∀ p : Int32 × zM, K (p) → Q (some (.int p.1)) p.2)  (h : ok (f_PA_see_J53 v2 m) K) : AX gX s_PA_see 53 [(0, .ref 0), (2, .int (b2i v2))] [] m Q := by
  unfold f_PA_see_J53 at h
  refine ax_aload_n 0 d_PA_see_53 rfl rfl 54 rfl ?_
  refine ax_getR fl_PA_12 x_0 rfl (rx_0_0 _) d_PA_see_54 57 rfl ?_
  refine ax_iconst 0 d_PA_see_57 ic_0 58 rfl ?_
  refine ax_callV mv_PA_108 ⟨Nat.le_of_ble_eq_true rfl, Nat.le_of_ble_eq_true rfl⟩ ⟨rfl, rfl⟩ [.int 0] [.int 0, .ref 1] rfl rfl (rc_Bytes in_1 _) (Nat.le_of_ble_eq_true rfl) d_PA_see_58 61 rfl (zc_Bytes_cut 1 0 m in_1 ?_)
  refine ok_l (G := fun p => AX gX s_PA_see 61 [(0, .ref 0), (2, .int (b2i v2))] [] p Q) h (fun p4 h => ?_)
  refine ax_iload_n 1 d_PA_see_61 rfl rfl 62 rfl ?_
  refine ax_ifb_eq 75 65 d_PA_see_62 rfl rfl (fun hc => ?_) (fun hc => ?_)
  · have h := ok_f (bf hc) h
    refine ax_aload_n 0 d_PA_see_75 rfl rfl 76 rfl ?_
    refine ax_iconst 1 d_PA_see_76 ic_1 77 rfl ?_
    refine ax_callV mv_PA_100 ⟨Nat.le_of_ble_eq_true rfl, Nat.le_of_ble_eq_true rfl⟩ ⟨rfl, rfl⟩ [.int 1] [.int 1, .ref 0] rfl rfl (rc_x_0 _) (Nat.le_of_ble_eq_true rfl) d_PA_see_77 80 rfl (zc_PA_refuse 1 p4 (ok_b h (fun p5 h => ?_)))
    exact ax_iret rfl d_PA_see_80 (hR (p5.1, p5.2) (ok_some h))
  · have h := ok_t hc h
    refine ax_aload_n 0 d_PA_see_65 rfl rfl 66 rfl ?_
    refine ax_getR fl_PA_39 x_0 rfl (rx_0_5 _) d_PA_see_66 69 rfl ?_
    refine ax_getI fl_PA_173 x_48 rfl d_PA_see_69 72 rfl ?_
    refine ax_goto 80 d_PA_see_72 rfl ?_
    exact ax_iret rfl d_PA_see_80 (hR ((p4.1 48 2), p4) (ok_some h))
set_option maxRecDepth 4000 in
theorem c_PA_see_J36 (v1 : Int32) (t0 : Bool) (m : zM)  {Q : Option Value → zM → Prop} {K : (Int32 × zM) → Prop} (hR : ∀ p : Int32 × zM, K (p) → Q (some (.int p.1)) p.2)  (h : ok (f_PA_see_J36 v1 t0 m) K) : AX gX s_PA_see 36 [(0, .ref 0), (1, .int v1)] [.int (b2i t0)] m Q := by
  unfold f_PA_see_J36 at h
  refine ax_istore_n (ls1 := [(2, .int (b2i t0)), (0, .ref 0), (1, .int v1)]) d_PA_see_36 rfl (Nat.le_of_ble_eq_true rfl) rfl 37 rfl ?_
  refine ax_iload_n 0 d_PA_see_37 rfl rfl 38 rfl ?_
  refine ax_ifb_eq 53 41 d_PA_see_38 rfl rfl (fun hc => ?_) (fun hc => ?_)
  · have h := ok_f (bf hc) h
    exact ax_sub [1, 0] rfl (c_PA_see_J53 t0 m (fun p hp => hR p hp) h)
  · have h := ok_t hc h
    refine ax_aload_n 1 d_PA_see_41 rfl rfl 42 rfl ?_
    refine ax_getR fl_PA_39 x_0 rfl (rx_0_5 _) d_PA_see_42 45 rfl ?_
    refine ax_aload_n 1 d_PA_see_45 rfl rfl 46 rfl ?_
    refine ax_getR fl_PA_12 x_0 rfl (rx_0_0 _) d_PA_see_46 49 rfl ?_
    refine ax_iload_n 2 d_PA_see_49 rfl rfl 50 rfl ?_
    refine ax_callV mv_PA_314 ⟨Nat.le_of_ble_eq_true rfl, Nat.le_of_ble_eq_true rfl⟩ ⟨rfl, rfl⟩ [.ref 1, .int v1] [.int v1, .ref 1, .ref 48] rfl rfl (rc_x_48 _) (Nat.le_of_ble_eq_true rfl) d_PA_see_50 53 rfl (zc_Sight_take 1 v1 m in_1 (ok_b h (fun p3 h => ?_)))
    exact ax_sub [1, 0] rfl (c_PA_see_J53 t0 p3 (fun p hp => hR p hp) h)
set_option maxRecDepth 4000 in
theorem c_PA_see_J35 (v1 : Int32) (m : zM)  {Q : Option Value → zM → Prop} {K : (Int32 × zM) → Prop} (hR : ∀ p : Int32 × zM, K (p) → Q (some (.int p.1)) p.2)  (h : ok (f_PA_see_J35 v1 m) K) : AX gX s_PA_see 35 [(0, .ref 0), (1, .int v1)] [] m Q := by
  unfold f_PA_see_J35 at h
  refine ax_iconst 0 d_PA_see_35 ic_0 36 rfl ?_
  exact ax_sub [0, 1] rfl (c_PA_see_J36 v1 false m (fun p hp => hR p hp) h)
set_option maxRecDepth 4000 in
theorem zc_PA_see (v1 : Int32) (m : zM)  {Q : Option Value → zM → Prop} (h : ok (f_PA_see v1 m) (fun p => Q (some (.int p.1)) p.2)) : zc gX s_PA_see [.ref 0, .int v1] m Q := by
  refine zc_of rfl (Nat.le_of_ble_eq_true rfl) ?_
  show AX gX s_PA_see 0 [(0, .ref 0), (1, .int v1)] [] m Q
  obtain ⟨K, hK⟩ : ∃ K : (Int32 × zM) → Prop, K = (fun p : Int32 × zM => Q (some (.int p.1)) p.2) := ⟨_, rfl⟩
  have hR : ∀ p : Int32 × zM, K p → Q (some (.int p.1)) p.2 := fun p hp => by rw [hK] at hp; exact hp
  replace h : ok (f_PA_see v1 m) (fun p : Int32 × zM => Q (some (.int p.1)) p.2) := h
  rw [← hK] at h
  unfold f_PA_see at h
  refine ax_aload_n 0 d_PA_see_0 rfl rfl 1 rfl ?_
  refine ax_getI fl_PA_84 x_0 rfl d_PA_see_1 4 rfl ?_
  refine ax_if_eq 35 7 d_PA_see_4 rfl rfl (fun hc => ?_) (fun hc => ?_)
  · have h := ok_t hc h
    exact ax_sub [0, 1] rfl (c_PA_see_J35 v1 m (fun p hp => hR p hp) h)
  · have h := ok_f hc h
    refine ax_iload_n 1 d_PA_see_7 rfl rfl 8 rfl ?_
    refine ax_if_lt 35 11 d_PA_see_8 rfl rfl (fun hc => ?_) (fun hc => ?_)
    · have h := ok_t hc h
      exact ax_sub [0, 1] rfl (c_PA_see_J35 v1 m (fun p hp => hR p hp) h)
    · have h := ok_f hc h
      refine ax_iload_n 1 d_PA_see_11 rfl rfl 12 rfl ?_
      refine ax_bipush 6 d_PA_see_12 bp_6 14 rfl ?_
      refine ax_icmp_gt 35 17 d_PA_see_14 rfl rfl (fun hc => ?_) (fun hc => ?_)
      · have h := ok_t hc h
        exact ax_sub [0, 1] rfl (c_PA_see_J35 v1 m (fun p hp => hR p hp) h)
      · have h := ok_f hc h
        refine ax_aload_n 0 d_PA_see_17 rfl rfl 18 rfl ?_
        refine ax_getR fl_PA_12 x_0 rfl (rx_0_0 _) d_PA_see_18 21 rfl ?_
        refine ax_aload_n 0 d_PA_see_21 rfl rfl 22 rfl ?_
        refine ok_tb h (fun t1 ht1 et1 h => ?_)
        refine ax_getR fl_PA_71 x_0 rfl (ry_0 et1) d_PA_see_22 25 rfl ?_
        refine ax_callS mv_PA_310 ⟨Nat.le_of_ble_eq_true rfl, Nat.le_of_ble_eq_true rfl⟩ ⟨rfl, rfl⟩ [.ref 1, .ref t1] [.ref t1, .ref 1] rfl rfl (Nat.le_of_ble_eq_true rfl) d_PA_see_25 28 rfl (zc_Sight_isSight 1 t1 m in_1 ht1 (ok_b h (fun r2 h => ?_)))
        refine ax_ifb_eq 35 31 d_PA_see_28 rfl rfl (fun hc => ?_) (fun hc => ?_)
        · have h := ok_f (bf hc) h
          exact ax_sub [0, 1] rfl (c_PA_see_J35 v1 m (fun p hp => hR p hp) h)
        · have h := ok_t hc h
          refine ax_iconst 1 d_PA_see_31 ic_1 32 rfl ?_
          refine ax_goto 36 d_PA_see_32 rfl ?_
          exact ax_sub [0, 1] rfl (c_PA_see_J36 v1 true m (fun p hp => hR p hp) h)
set_option maxRecDepth 4000 in
theorem c_Sight_goOn_B86 (v2 : Int32) (m : zM)  {Q : Option Value → zM → Prop} {K : ((zM) ⊕ (Int32 × zM)) → Prop} (hR : ∀ p : zM, K (.inl p) → Q none p) (h0 : ∀ s : Int32 × zM, K (.inr s) → AX gX s_Sight_goOn 86 [(0, .ref 48), (1, .ref 24), (2, .int s.1)] [] s.2 Q) (h : ok (f_Sight_goOn_B86 v2 m) K) : AX gX s_Sight_goOn 86 [(0, .ref 48), (1, .ref 24), (2, .int v2)] [] m Q := by
  unfold f_Sight_goOn_B86 at h
  refine ax_iload_n 2 d_Sight_goOn_86 rfl rfl 87 rfl ?_
  refine ax_aload_n 1 d_Sight_goOn_87 rfl rfl 88 rfl ?_
  refine ax_getI fl_Sight_65 x_24 rfl d_Sight_goOn_88 91 rfl ?_
  refine ax_icmp_ge 112 94 d_Sight_goOn_91 rfl rfl (fun hc => ?_) (fun hc => ?_)
  · have h := ok_t hc h
    exact ax_vret rfl d_Sight_goOn_112 (hR m (ok_some h))
  · have h := ok_f hc h
    refine ax_aload_n 0 d_Sight_goOn_94 rfl rfl 95 rfl ?_
    refine ax_getR fl_Sight_25 x_48 rfl (rx_48_4 _) d_Sight_goOn_95 98 rfl ?_
    refine ax_iload_n 2 d_Sight_goOn_98 rfl rfl 99 rfl ?_
    refine ax_aload_n 0 d_Sight_goOn_99 rfl rfl 100 rfl ?_
    refine ax_getR fl_Sight_29 x_48 rfl (rx_48_5 _) d_Sight_goOn_100 103 rfl ?_
    refine ax_iload_n 2 d_Sight_goOn_103 rfl rfl 104 rfl ?_
    refine ax_baload x_52 d_Sight_goOn_104 105 rfl h (fun i4 h => ?_)
    refine ax_bastore x_51 d_Sight_goOn_105 106 rfl h (fun i5 m6 h => ?_)
    refine ax_iinc (ls1 := [(2, .int (v2 + 1)), (0, .ref 48), (1, .ref 24)]) 2 1 d_Sight_goOn_106 rfl ic_1 (Nat.le_of_ble_eq_true rfl) rfl 109 rfl ?_
    refine ax_goto 86 d_Sight_goOn_109 rfl ?_
    exact ax_sub [1, 2, 0] rfl (h0 ((v2 + 1), m6) (ok_some h))
theorem c_Sight_goOn_L86 (v2 : Int32) (m : zM)  {Q : Option Value → zM → Prop} {K : zM → Prop} (hR : ∀ p : zM, K (p) → Q none p)  (h : ok (f_Sight_goOn_L86 v2 m) K) : AX gX s_Sight_goOn 86 [(0, .ref 48), (1, .ref 24), (2, .int v2)] [] m Q :=
  ok_lp (K := K) (G := fun s : Int32 × zM => AX gX s_Sight_goOn 86 [(0, .ref 48), (1, .ref 24), (2, .int s.1)] [] s.2 Q) (fun s h => c_Sight_goOn_B86 s.1 s.2  (fun p hp => hR p hp) (fun s hs => hs) h) FU (v2, m) h
set_option maxRecDepth 4000 in
theorem c_Sight_goOn_J84  (m : zM)  {Q : Option Value → zM → Prop} {K : zM → Prop} (hR : ∀ p : zM, K (p) → Q none p)  (h : ok (f_Sight_goOn_J84  m) K) : AX gX s_Sight_goOn 84 [(0, .ref 48), (1, .ref 24)] [] m Q := by
  unfold f_Sight_goOn_J84 at h
  refine ax_iconst 0 d_Sight_goOn_84 ic_0 85 rfl ?_
  refine ax_istore_n (ls1 := [(2, .int 0), (0, .ref 48), (1, .ref 24)]) d_Sight_goOn_85 rfl (Nat.le_of_ble_eq_true rfl) rfl 86 rfl ?_
  exact ax_sub [1, 2, 0] rfl (c_Sight_goOn_L86 0 m (fun p hp => hR p hp) h)
set_option maxRecDepth 4000 in
theorem c_Sight_goOn_J78 (v2 : Int32) (m : zM)  {Q : Option Value → zM → Prop} {K : ((zM) ⊕ (Int32 × zM)) → Prop} (hR : ∀ p : zM, K (.inl p) → Q none p) (h0 : ∀ s : Int32 × zM, K (.inr s) → AX gX s_Sight_goOn 25 [(0, .ref 48), (1, .ref 24), (2, .int s.1)] [] s.2 Q) (h : ok (f_Sight_goOn_J78 v2 m) K) : AX gX s_Sight_goOn 78 [(0, .ref 48), (1, .ref 24), (2, .int v2)] [] m Q := by
  unfold f_Sight_goOn_J78 at h
  refine ax_iinc (ls1 := [(2, .int (v2 + 1)), (0, .ref 48), (1, .ref 24)]) 2 1 d_Sight_goOn_78 rfl ic_1 (Nat.le_of_ble_eq_true rfl) rfl 81 rfl ?_
  refine ax_goto 25 d_Sight_goOn_81 rfl ?_
  exact ax_sub [1, 2, 0] rfl (h0 ((v2 + 1), m) (ok_some h))
set_option maxRecDepth 4000 in
theorem c_Sight_goOn_B40 (v2 : Int32) (v3 : Int32) (m : zM)  {Q : Option Value → zM → Prop} {K : (((zM) ⊕ (Int32 × zM)) ⊕ (Int32 × zM)) → Prop} (hR : ∀ p : zM, K (.inl (.inl p)) → Q none p) (h0 : ∀ s : Int32 × zM, K (.inl (.inr s)) → AX gX s_Sight_goOn 25 [(0, .ref 48), (1, .ref 24), (2, .int s.1)] [] s.2 Q) (h1 : ∀ s : Int32 × zM, K (.inr s) → AX gX s_Sight_goOn 40 [(0, .ref 48), (1, .ref 24), (2, .int v2), (3, .int s.1)] [] s.2 Q) (h : ok (f_Sight_goOn_B40 v2 v3 m) K) : AX gX s_Sight_goOn 40 [(0, .ref 48), (1, .ref 24), (2, .int v2), (3, .int v3)] [] m Q := by
  unfold f_Sight_goOn_B40 at h
  refine ax_aload_n 0 d_Sight_goOn_40 rfl rfl 41 rfl ?_
  refine ax_getR fl_Sight_25 x_48 rfl (rx_48_4 _) d_Sight_goOn_41 44 rfl ?_
  refine ax_iload_n 2 d_Sight_goOn_44 rfl rfl 45 rfl ?_
  refine ax_baload x_51 d_Sight_goOn_45 46 rfl h (fun i7 h => ?_)
  refine ax_if_eq 78 49 d_Sight_goOn_46 rfl rfl (fun hc => ?_) (fun hc => ?_)
  · have h := ok_t hc h
    exact ax_sub [0, 1, 2] rfl (c_Sight_goOn_J78 v2 m (fun p hp => hR p hp) (fun s hs => h0 s hs) (ok_z h))
  · have h := ok_f hc h
    refine ax_iload_n 3 d_Sight_goOn_49 rfl rfl 50 rfl ?_
    refine ax_aload_n 1 d_Sight_goOn_50 rfl rfl 51 rfl ?_
    refine ax_getR fl_Sight_78 x_24 rfl (rx_24_11 _) d_Sight_goOn_51 54 rfl ?_
    refine ax_iload_n 2 d_Sight_goOn_54 rfl rfl 55 rfl ?_
    refine ax_iconst 1 d_Sight_goOn_55 ic_1 56 rfl ?_
    refine ax_iadd d_Sight_goOn_56 57 rfl ?_
    refine ax_iaload x_36 d_Sight_goOn_57 58 rfl h (fun i8 h => ?_)
    refine ax_icmp_ge 78 61 d_Sight_goOn_58 rfl rfl (fun hc => ?_) (fun hc => ?_)
    · have h := ok_t hc h
      exact ax_sub [0, 1, 2] rfl (c_Sight_goOn_J78 v2 m (fun p hp => hR p hp) (fun s hs => h0 s hs) (ok_z h))
    · have h := ok_f hc h
      refine ax_aload_n 0 d_Sight_goOn_61 rfl rfl 62 rfl ?_
      refine ax_getR fl_Sight_29 x_48 rfl (rx_48_5 _) d_Sight_goOn_62 65 rfl ?_
      refine ax_aload_n 1 d_Sight_goOn_65 rfl rfl 66 rfl ?_
      refine ax_iload_n 3 d_Sight_goOn_66 rfl rfl 67 rfl ?_
      refine ax_callV mv_Sight_81 ⟨Nat.le_of_ble_eq_true rfl, Nat.le_of_ble_eq_true rfl⟩ ⟨rfl, rfl⟩ [.int v3] [.int v3, .ref 24, .ref 52] rfl rfl (rc_x_24 _) (Nat.le_of_ble_eq_true rfl) d_Sight_goOn_67 70 rfl (zc_Atlas_target v3 m (ok_b h (fun r9 h => ?_)))
      refine ax_iconst 1 d_Sight_goOn_70 ic_1 71 rfl ?_
      refine ax_zastore (y := true) x_52 d_Sight_goOn_71 72 rfl h (fun i10 m11 h => ?_)
      refine ax_iinc (ls1 := [(3, .int (v3 + 1)), (0, .ref 48), (1, .ref 24), (2, .int v2)]) 3 1 d_Sight_goOn_72 rfl ic_1 (Nat.le_of_ble_eq_true rfl) rfl 75 rfl ?_
      refine ax_goto 40 d_Sight_goOn_75 rfl ?_
      exact ax_sub [1, 2, 3, 0] rfl (h1 ((v3 + 1), m11) (ok_some h))
theorem c_Sight_goOn_L40 (v2 : Int32) (v3 : Int32) (m : zM)  {Q : Option Value → zM → Prop} {K : ((zM) ⊕ (Int32 × zM)) → Prop} (hR : ∀ p : zM, K (.inl p) → Q none p) (h0 : ∀ s : Int32 × zM, K (.inr s) → AX gX s_Sight_goOn 25 [(0, .ref 48), (1, .ref 24), (2, .int s.1)] [] s.2 Q) (h : ok (f_Sight_goOn_L40 v2 v3 m) K) : AX gX s_Sight_goOn 40 [(0, .ref 48), (1, .ref 24), (2, .int v2), (3, .int v3)] [] m Q :=
  ok_lp (K := K) (G := fun s : Int32 × zM => AX gX s_Sight_goOn 40 [(0, .ref 48), (1, .ref 24), (2, .int v2), (3, .int s.1)] [] s.2 Q) (fun s h => c_Sight_goOn_B40 v2 s.1 s.2  (fun p hp => hR p hp) (fun s hs => h0 s hs) (fun s hs => hs) h) FU (v3, m) h
set_option maxRecDepth 4000 in
theorem c_Sight_goOn_B25 (v2 : Int32) (m : zM)  {Q : Option Value → zM → Prop} {K : ((zM) ⊕ (Int32 × zM)) → Prop} (hR : ∀ p : zM, K (.inl p) → Q none p) (h0 : ∀ s : Int32 × zM, K (.inr s) → AX gX s_Sight_goOn 25 [(0, .ref 48), (1, .ref 24), (2, .int s.1)] [] s.2 Q) (h : ok (f_Sight_goOn_B25 v2 m) K) : AX gX s_Sight_goOn 25 [(0, .ref 48), (1, .ref 24), (2, .int v2)] [] m Q := by
  unfold f_Sight_goOn_B25 at h
  refine ax_iload_n 2 d_Sight_goOn_25 rfl rfl 26 rfl ?_
  refine ax_aload_n 1 d_Sight_goOn_26 rfl rfl 27 rfl ?_
  refine ax_getI fl_Sight_65 x_24 rfl d_Sight_goOn_27 30 rfl ?_
  refine ax_icmp_ge 84 33 d_Sight_goOn_30 rfl rfl (fun hc => ?_) (fun hc => ?_)
  · have h := ok_t hc h
    exact ax_sub [0, 1] rfl (c_Sight_goOn_J84 m (fun p hp => hR p hp) (ok_z h))
  · have h := ok_f hc h
    refine ax_aload_n 1 d_Sight_goOn_33 rfl rfl 34 rfl ?_
    refine ax_getR fl_Sight_78 x_24 rfl (rx_24_11 _) d_Sight_goOn_34 37 rfl ?_
    refine ax_iload_n 2 d_Sight_goOn_37 rfl rfl 38 rfl ?_
    refine ax_iaload x_36 d_Sight_goOn_38 39 rfl h (fun i3 h => ?_)
    refine ax_istore_n (ls1 := [(3, .int (m.1 36 i3)), (0, .ref 48), (1, .ref 24), (2, .int v2)]) d_Sight_goOn_39 rfl (Nat.le_of_ble_eq_true rfl) rfl 40 rfl ?_
    exact ax_sub [1, 2, 3, 0] rfl (c_Sight_goOn_L40 v2 (m.1 36 i3) m (fun p hp => hR p hp) (fun s hs => h0 s hs) h)
theorem c_Sight_goOn_L25 (v2 : Int32) (m : zM)  {Q : Option Value → zM → Prop} {K : zM → Prop} (hR : ∀ p : zM, K (p) → Q none p)  (h : ok (f_Sight_goOn_L25 v2 m) K) : AX gX s_Sight_goOn 25 [(0, .ref 48), (1, .ref 24), (2, .int v2)] [] m Q :=
  ok_lp (K := K) (G := fun s : Int32 × zM => AX gX s_Sight_goOn 25 [(0, .ref 48), (1, .ref 24), (2, .int s.1)] [] s.2 Q) (fun s h => c_Sight_goOn_B25 s.1 s.2  (fun p hp => hR p hp) (fun s hs => hs) h) FU (v2, m) h
set_option maxRecDepth 4000 in
theorem c_Sight_goOn_J23  (m : zM)  {Q : Option Value → zM → Prop} {K : zM → Prop} (hR : ∀ p : zM, K (p) → Q none p)  (h : ok (f_Sight_goOn_J23  m) K) : AX gX s_Sight_goOn 23 [(0, .ref 48), (1, .ref 24)] [] m Q := by
  unfold f_Sight_goOn_J23 at h
  refine ax_iconst 0 d_Sight_goOn_23 ic_0 24 rfl ?_
  refine ax_istore_n (ls1 := [(2, .int 0), (0, .ref 48), (1, .ref 24)]) d_Sight_goOn_24 rfl (Nat.le_of_ble_eq_true rfl) rfl 25 rfl ?_
  exact ax_sub [1, 2, 0] rfl (c_Sight_goOn_L25 0 m (fun p hp => hR p hp) h)
set_option maxRecDepth 4000 in
theorem c_Sight_goOn_B2 (v2 : Int32) (m : zM)  {Q : Option Value → zM → Prop} {K : ((zM) ⊕ (Int32 × zM)) → Prop} (hR : ∀ p : zM, K (.inl p) → Q none p) (h0 : ∀ s : Int32 × zM, K (.inr s) → AX gX s_Sight_goOn 2 [(0, .ref 48), (1, .ref 24), (2, .int s.1)] [] s.2 Q) (h : ok (f_Sight_goOn_B2 v2 m) K) : AX gX s_Sight_goOn 2 [(0, .ref 48), (1, .ref 24), (2, .int v2)] [] m Q := by
  unfold f_Sight_goOn_B2 at h
  refine ax_iload_n 2 d_Sight_goOn_2 rfl rfl 3 rfl ?_
  refine ax_aload_n 1 d_Sight_goOn_3 rfl rfl 4 rfl ?_
  refine ax_getI fl_Sight_65 x_24 rfl d_Sight_goOn_4 7 rfl ?_
  refine ax_icmp_ge 23 10 d_Sight_goOn_7 rfl rfl (fun hc => ?_) (fun hc => ?_)
  · have h := ok_t hc h
    exact ax_sub [0, 1] rfl (c_Sight_goOn_J23 m (fun p hp => hR p hp) (ok_z h))
  · have h := ok_f hc h
    refine ax_aload_n 0 d_Sight_goOn_10 rfl rfl 11 rfl ?_
    refine ax_getR fl_Sight_29 x_48 rfl (rx_48_5 _) d_Sight_goOn_11 14 rfl ?_
    refine ax_iload_n 2 d_Sight_goOn_14 rfl rfl 15 rfl ?_
    refine ax_iconst 0 d_Sight_goOn_15 ic_0 16 rfl ?_
    refine ax_zastore (y := false) x_52 d_Sight_goOn_16 17 rfl h (fun i1 m2 h => ?_)
    refine ax_iinc (ls1 := [(2, .int (v2 + 1)), (0, .ref 48), (1, .ref 24)]) 2 1 d_Sight_goOn_17 rfl ic_1 (Nat.le_of_ble_eq_true rfl) rfl 20 rfl ?_
    refine ax_goto 2 d_Sight_goOn_20 rfl ?_
    exact ax_sub [1, 2, 0] rfl (h0 ((v2 + 1), m2) (ok_some h))
theorem c_Sight_goOn_L2 (v2 : Int32) (m : zM)  {Q : Option Value → zM → Prop} {K : zM → Prop} (hR : ∀ p : zM, K (p) → Q none p)  (h : ok (f_Sight_goOn_L2 v2 m) K) : AX gX s_Sight_goOn 2 [(0, .ref 48), (1, .ref 24), (2, .int v2)] [] m Q :=
  ok_lp (K := K) (G := fun s : Int32 × zM => AX gX s_Sight_goOn 2 [(0, .ref 48), (1, .ref 24), (2, .int s.1)] [] s.2 Q) (fun s h => c_Sight_goOn_B2 s.1 s.2  (fun p hp => hR p hp) (fun s hs => hs) h) FU (v2, m) h
set_option maxRecDepth 4000 in
theorem zc_Sight_goOn  (m : zM)  {Q : Option Value → zM → Prop} (h : ok (f_Sight_goOn m) (fun p => Q none p)) : zc gX s_Sight_goOn [.ref 48, .ref 24] m Q := by
  refine zc_of rfl (Nat.le_of_ble_eq_true rfl) ?_
  show AX gX s_Sight_goOn 0 [(0, .ref 48), (1, .ref 24)] [] m Q
  obtain ⟨K, hK⟩ : ∃ K : zM → Prop, K = (fun p : zM => Q none p) := ⟨_, rfl⟩
  have hR : ∀ p : zM, K p → Q none p := fun p hp => by rw [hK] at hp; exact hp
  replace h : ok (f_Sight_goOn m) (fun p : zM => Q none p) := h
  rw [← hK] at h
  unfold f_Sight_goOn at h
  refine ax_iconst 0 d_Sight_goOn_0 ic_0 1 rfl ?_
  refine ax_istore_n (ls1 := [(2, .int 0), (0, .ref 48), (1, .ref 24)]) d_Sight_goOn_1 rfl (Nat.le_of_ble_eq_true rfl) rfl 2 rfl ?_
  exact ax_sub [1, 2, 0] rfl (c_Sight_goOn_L2 0 m (fun p hp => hR p hp) h)
set_option maxRecDepth 4000 in
theorem c_Atlas_inState_J39 (v1 : Int32) (v2 : Int32) (v4 : Int32) (t0 : Int32) (t1 : Bool) (m : zM)  {Q : Option Value → zM → Prop} {K : ((Int32) ⊕ (Int32 × Int32)) → Prop} (hR : ∀ p : Int32, K (.inl p) → Q (some (.int p)) m) (h0 : ∀ s : Int32 × Int32, K (.inr s) → AX gX s_Atlas_inState 5 [(0, .ref 24), (1, .int v1), (2, .int v2), (3, .int s.1), (4, .int s.2)] [] m Q) (h : ok (f_Atlas_inState_J39 v1 v2 v4 t0 t1 m) K) : AX gX s_Atlas_inState 39 [(0, .ref 24), (1, .int v1), (2, .int v2), (4, .int v4)] [.int (b2i t1), .int t0] m Q := by
  unfold f_Atlas_inState_J39 at h
  refine ax_iadd d_Atlas_inState_39 40 rfl ?_
  refine ax_istore_n (ls1 := [(3, .int (t0 + (b2i t1))), (0, .ref 24), (1, .int v1), (2, .int v2), (4, .int v4)]) d_Atlas_inState_40 rfl (Nat.le_of_ble_eq_true rfl) rfl 41 rfl ?_
  refine ax_iinc (ls1 := [(4, .int (v4 + 1)), (3, .int (t0 + (b2i t1))), (0, .ref 24), (1, .int v1), (2, .int v2)]) 4 1 d_Atlas_inState_41 rfl ic_1 (Nat.le_of_ble_eq_true rfl) rfl 44 rfl ?_
  refine ax_goto 5 d_Atlas_inState_44 rfl ?_
  exact ax_sub [2, 3, 4, 1, 0] rfl (h0 ((t0 + (b2i t1)), (v4 + 1)) (ok_some h))
set_option maxRecDepth 4000 in
theorem c_Atlas_inState_B5 (v1 : Int32) (v2 : Int32) (v3 : Int32) (v4 : Int32) (m : zM)  {Q : Option Value → zM → Prop} {K : ((Int32) ⊕ (Int32 × Int32)) → Prop} (hR : ∀ p : Int32, K (.inl p) → Q (some (.int p)) m) (h0 : ∀ s : Int32 × Int32, K (.inr s) → AX gX s_Atlas_inState 5 [(0, .ref 24), (1, .int v1), (2, .int v2), (3, .int s.1), (4, .int s.2)] [] m Q) (h : ok (f_Atlas_inState_B5 v1 v2 v3 v4 m) K) : AX gX s_Atlas_inState 5 [(0, .ref 24), (1, .int v1), (2, .int v2), (3, .int v3), (4, .int v4)] [] m Q := by
  unfold f_Atlas_inState_B5 at h
  refine ax_iload 4 d_Atlas_inState_5 rfl 7 rfl ?_
  refine ax_aload_n 0 d_Atlas_inState_7 rfl rfl 8 rfl ?_
  refine ax_getI fl_Atlas_15 x_24 rfl d_Atlas_inState_8 11 rfl ?_
  refine ax_icmp_ge 47 14 d_Atlas_inState_11 rfl rfl (fun hc => ?_) (fun hc => ?_)
  · have h := ok_t hc h
    refine ax_iload_n 3 d_Atlas_inState_47 rfl rfl 48 rfl ?_
    exact ax_iret rfl d_Atlas_inState_48 (hR v3 (ok_some h))
  · have h := ok_f hc h
    refine ax_iload_n 3 d_Atlas_inState_14 rfl rfl 15 rfl ?_
    refine ax_aload_n 0 d_Atlas_inState_15 rfl rfl 16 rfl ?_
    refine ax_getR fl_Atlas_46 x_24 rfl (rx_24_9 _) d_Atlas_inState_16 19 rfl ?_
    refine ax_iload_n 1 d_Atlas_inState_19 rfl rfl 20 rfl ?_
    refine ax_iconst 4 d_Atlas_inState_20 ic_4 21 rfl ?_
    refine ax_imul d_Atlas_inState_21 22 rfl ?_
    refine ax_iload 4 d_Atlas_inState_22 rfl 24 rfl ?_
    refine ax_iadd d_Atlas_inState_24 25 rfl ?_
    refine ax_iaload x_34 d_Atlas_inState_25 26 rfl h (fun i1 h => ?_)
    refine ax_iconst 0 d_Atlas_inState_26 ic_0 27 rfl ?_
    refine ax_callS mv_Atlas_160 ⟨Nat.le_of_ble_eq_true rfl, Nat.le_of_ble_eq_true rfl⟩ ⟨rfl, rfl⟩ [.int (m.1 34 i1), .int 0] [.int 0, .int (m.1 34 i1), .int v3] rfl rfl (Nat.le_of_ble_eq_true rfl) d_Atlas_inState_27 30 rfl (zc_PA_held (m.1 34 i1) 0 m ?_)
    refine ax_iload_n 2 d_Atlas_inState_30 rfl rfl 31 rfl ?_
    refine ax_icmp_ne 38 34 d_Atlas_inState_31 rfl rfl (fun hc => ?_) (fun hc => ?_)
    · have h := ok_f hc h
      refine ax_iconst 0 d_Atlas_inState_38 ic_0 39 rfl ?_
      exact ax_sub [0, 1, 2, 4] rfl (c_Atlas_inState_J39 v1 v2 v4 v3 false m (fun p hp => hR p hp) (fun s hs => h0 s hs) h)
    · have h := ok_t hc h
      refine ax_iconst 1 d_Atlas_inState_34 ic_1 35 rfl ?_
      refine ax_goto 39 d_Atlas_inState_35 rfl ?_
      exact ax_sub [0, 1, 2, 4] rfl (c_Atlas_inState_J39 v1 v2 v4 v3 true m (fun p hp => hR p hp) (fun s hs => h0 s hs) h)
theorem c_Atlas_inState_L5 (v1 : Int32) (v2 : Int32) (v3 : Int32) (v4 : Int32) (m : zM)  {Q : Option Value → zM → Prop} {K : Int32 → Prop} (hR : ∀ p : Int32, K (p) → Q (some (.int p)) m)  (h : ok (f_Atlas_inState_L5 v1 v2 v3 v4 m) K) : AX gX s_Atlas_inState 5 [(0, .ref 24), (1, .int v1), (2, .int v2), (3, .int v3), (4, .int v4)] [] m Q :=
  ok_lp (K := K) (G := fun s : Int32 × Int32 => AX gX s_Atlas_inState 5 [(0, .ref 24), (1, .int v1), (2, .int v2), (3, .int s.1), (4, .int s.2)] [] m Q) (fun s h => c_Atlas_inState_B5 v1 v2 s.1 s.2 m  (fun p hp => hR p hp) (fun s hs => hs) h) FU (v3, v4) h
set_option maxRecDepth 4000 in
theorem zc_Atlas_inState (v1 : Int32) (v2 : Int32) (m : zM)  {Q : Option Value → zM → Prop} (h : ok (f_Atlas_inState v1 v2 m) (fun p => Q (some (.int p)) m)) : zc gX s_Atlas_inState [.ref 24, .int v1, .int v2] m Q := by
  refine zc_of rfl (Nat.le_of_ble_eq_true rfl) ?_
  show AX gX s_Atlas_inState 0 [(0, .ref 24), (1, .int v1), (2, .int v2)] [] m Q
  obtain ⟨K, hK⟩ : ∃ K : Int32 → Prop, K = (fun p : Int32 => Q (some (.int p)) m) := ⟨_, rfl⟩
  have hR : ∀ p : Int32, K p → Q (some (.int p)) m := fun p hp => by rw [hK] at hp; exact hp
  replace h : ok (f_Atlas_inState v1 v2 m) (fun p : Int32 => Q (some (.int p)) m) := h
  rw [← hK] at h
  unfold f_Atlas_inState at h
  refine ax_iconst 0 d_Atlas_inState_0 ic_0 1 rfl ?_
  refine ax_istore_n (ls1 := [(3, .int 0), (0, .ref 24), (1, .int v1), (2, .int v2)]) d_Atlas_inState_1 rfl (Nat.le_of_ble_eq_true rfl) rfl 2 rfl ?_
  refine ax_iconst 0 d_Atlas_inState_2 ic_0 3 rfl ?_
  refine ax_istore (ls1 := [(4, .int 0), (3, .int 0), (0, .ref 24), (1, .int v1), (2, .int v2)]) d_Atlas_inState_3 (Nat.le_of_ble_eq_true rfl) rfl 5 rfl ?_
  exact ax_sub [2, 3, 4, 1, 0] rfl (c_Atlas_inState_L5 v1 v2 0 0 m (fun p hp => hR p hp) h)
set_option maxRecDepth 4000 in
theorem c_Sight_isAsSeen_B2 (v2 : Int32) (v3 : Int32) (m : zM)  {Q : Option Value → zM → Prop} {K : ((Bool) ⊕ (Int32)) → Prop} (hR : ∀ p : Bool, K (.inl p) → Q (some (.int (b2i p))) m) (h0 : ∀ s : Int32, K (.inr s) → AX gX s_Sight_isAsSeen 2 [(0, .ref 48), (1, .ref 24), (2, .int v2), (3, .int s)] [] m Q) (h : ok (f_Sight_isAsSeen_B2 v2 v3 m) K) : AX gX s_Sight_isAsSeen 2 [(0, .ref 48), (1, .ref 24), (2, .int v2), (3, .int v3)] [] m Q := by
  unfold f_Sight_isAsSeen_B2 at h
  refine ax_iload_n 3 d_Sight_isAsSeen_2 rfl rfl 3 rfl ?_
  refine ax_aload_n 0 d_Sight_isAsSeen_3 rfl rfl 4 rfl ?_
  refine ax_getI fl_Sight_18 x_48 rfl d_Sight_isAsSeen_4 7 rfl ?_
  refine ax_icmp_ge 38 10 d_Sight_isAsSeen_7 rfl rfl (fun hc => ?_) (fun hc => ?_)
  · have h := ok_t hc h
    refine ax_iconst 1 d_Sight_isAsSeen_38 ic_1 39 rfl ?_
    exact ax_zret (b := true) rfl d_Sight_isAsSeen_39 (hR true (ok_some h))
  · have h := ok_f hc h
    refine ax_aload_n 1 d_Sight_isAsSeen_10 rfl rfl 11 rfl ?_
    refine ax_iload_n 2 d_Sight_isAsSeen_11 rfl rfl 12 rfl ?_
    refine ax_aload_n 0 d_Sight_isAsSeen_12 rfl rfl 13 rfl ?_
    refine ax_getR fl_Sight_9 x_48 rfl (rx_48_0 _) d_Sight_isAsSeen_13 16 rfl ?_
    refine ax_iload_n 3 d_Sight_isAsSeen_16 rfl rfl 17 rfl ?_
    refine ax_iaload x_49 d_Sight_isAsSeen_17 18 rfl h (fun i1 h => ?_)
    refine ax_callV mv_Sight_84 ⟨Nat.le_of_ble_eq_true rfl, Nat.le_of_ble_eq_true rfl⟩ ⟨rfl, rfl⟩ [.int v2, .int (m.1 49 i1)] [.int (m.1 49 i1), .int v2, .ref 24] rfl rfl (rc_x_24 _) (Nat.le_of_ble_eq_true rfl) d_Sight_isAsSeen_18 21 rfl (zc_Atlas_inState v2 (m.1 49 i1) m (ok_b h (fun r2 h => ?_)))
    refine ax_aload_n 0 d_Sight_isAsSeen_21 rfl rfl 22 rfl ?_
    refine ax_getR fl_Sight_15 x_48 rfl (rx_48_1 _) d_Sight_isAsSeen_22 25 rfl ?_
    refine ax_iload_n 3 d_Sight_isAsSeen_25 rfl rfl 26 rfl ?_
    refine ax_iaload x_50 d_Sight_isAsSeen_26 27 rfl h (fun i3 h => ?_)
    refine ax_icmp_eq 32 30 d_Sight_isAsSeen_27 rfl rfl (fun hc => ?_) (fun hc => ?_)
    · have h := ok_t hc h
      refine ax_iinc (ls1 := [(3, .int (v3 + 1)), (0, .ref 48), (1, .ref 24), (2, .int v2)]) 3 1 d_Sight_isAsSeen_32 rfl ic_1 (Nat.le_of_ble_eq_true rfl) rfl 35 rfl ?_
      refine ax_goto 2 d_Sight_isAsSeen_35 rfl ?_
      exact ax_sub [1, 2, 3, 0] rfl (h0 (v3 + 1) (ok_some h))
    · have h := ok_f hc h
      refine ax_iconst 0 d_Sight_isAsSeen_30 ic_0 31 rfl ?_
      exact ax_zret (b := false) rfl d_Sight_isAsSeen_31 (hR false (ok_some h))
theorem c_Sight_isAsSeen_L2 (v2 : Int32) (v3 : Int32) (m : zM)  {Q : Option Value → zM → Prop} {K : Bool → Prop} (hR : ∀ p : Bool, K (p) → Q (some (.int (b2i p))) m)  (h : ok (f_Sight_isAsSeen_L2 v2 v3 m) K) : AX gX s_Sight_isAsSeen 2 [(0, .ref 48), (1, .ref 24), (2, .int v2), (3, .int v3)] [] m Q :=
  ok_lp (K := K) (G := fun s : Int32 => AX gX s_Sight_isAsSeen 2 [(0, .ref 48), (1, .ref 24), (2, .int v2), (3, .int s)] [] m Q) (fun s h => c_Sight_isAsSeen_B2 v2 s m  (fun p hp => hR p hp) (fun s hs => hs) h) FU v3 h
set_option maxRecDepth 4000 in
theorem zc_Sight_isAsSeen (v2 : Int32) (m : zM)  {Q : Option Value → zM → Prop} (h : ok (f_Sight_isAsSeen v2 m) (fun p => Q (some (.int (b2i p))) m)) : zc gX s_Sight_isAsSeen [.ref 48, .ref 24, .int v2] m Q := by
  refine zc_of rfl (Nat.le_of_ble_eq_true rfl) ?_
  show AX gX s_Sight_isAsSeen 0 [(0, .ref 48), (1, .ref 24), (2, .int v2)] [] m Q
  obtain ⟨K, hK⟩ : ∃ K : Bool → Prop, K = (fun p : Bool => Q (some (.int (b2i p))) m) := ⟨_, rfl⟩
  have hR : ∀ p : Bool, K p → Q (some (.int (b2i p))) m := fun p hp => by rw [hK] at hp; exact hp
  replace h : ok (f_Sight_isAsSeen v2 m) (fun p : Bool => Q (some (.int (b2i p))) m) := h
  rw [← hK] at h
  unfold f_Sight_isAsSeen at h
  refine ax_iconst 0 d_Sight_isAsSeen_0 ic_0 1 rfl ?_
  refine ax_istore_n (ls1 := [(3, .int 0), (0, .ref 48), (1, .ref 24), (2, .int v2)]) d_Sight_isAsSeen_1 rfl (Nat.le_of_ble_eq_true rfl) rfl 2 rfl ?_
  exact ax_sub [1, 2, 3, 0] rfl (c_Sight_isAsSeen_L2 v2 0 m (fun p hp => hR p hp) h)
set_option maxRecDepth 4000 in
theorem c_Sight_look_J126 (v2 : Int32) (m : zM)  {Q : Option Value → zM → Prop} {K : zM → Prop} (hR : ∀ p : zM, K (p) → Q none p)  (h : ok (f_Sight_look_J126 v2 m) K) : AX gX s_Sight_look 126 [(0, .ref 48), (2, .int v2)] [] m Q := by
  unfold f_Sight_look_J126 at h
  refine ax_aload_n 0 d_Sight_look_126 rfl rfl 127 rfl ?_
  refine ax_iload_n 1 d_Sight_look_127 rfl rfl 128 rfl ?_
  refine ax_putI (K := K) fl_Sight_38 x_48 rfl rfl rfl (Nat.le_of_ble_eq_true rfl) d_Sight_look_128 131 rfl h (fun m8 h => ?_)
  exact ax_vret rfl d_Sight_look_131 (hR m8 (ok_some h))
set_option maxRecDepth 4000 in
theorem c_Sight_look_J120 (v2 : Int32) (v3 : Int32) (m : zM)  {Q : Option Value → zM → Prop} {K : ((zM) ⊕ (Int32 × zM)) → Prop} (hR : ∀ p : zM, K (.inl p) → Q none p) (h0 : ∀ s : Int32 × zM, K (.inr s) → AX gX s_Sight_look 74 [(0, .ref 48), (1, .ref 24), (2, .int v2), (3, .int s.1)] [] s.2 Q) (h : ok (f_Sight_look_J120 v2 v3 m) K) : AX gX s_Sight_look 120 [(0, .ref 48), (1, .ref 24), (2, .int v2), (3, .int v3)] [] m Q := by
  unfold f_Sight_look_J120 at h
  refine ax_iinc (ls1 := [(3, .int (v3 + 1)), (0, .ref 48), (1, .ref 24), (2, .int v2)]) 3 1 d_Sight_look_120 rfl ic_1 (Nat.le_of_ble_eq_true rfl) rfl 123 rfl ?_
  refine ax_goto 74 d_Sight_look_123 rfl ?_
  exact ax_sub [1, 2, 3, 0] rfl (h0 ((v3 + 1), m) (ok_some h))
set_option maxRecDepth 4000 in
theorem c_Sight_look_B74 (v2 : Int32) (v3 : Int32) (m : zM)  {Q : Option Value → zM → Prop} {K : ((zM) ⊕ (Int32 × zM)) → Prop} (hR : ∀ p : zM, K (.inl p) → Q none p) (h0 : ∀ s : Int32 × zM, K (.inr s) → AX gX s_Sight_look 74 [(0, .ref 48), (1, .ref 24), (2, .int v2), (3, .int s.1)] [] s.2 Q) (h : ok (f_Sight_look_B74 v2 v3 m) K) : AX gX s_Sight_look 74 [(0, .ref 48), (1, .ref 24), (2, .int v2), (3, .int v3)] [] m Q := by
  unfold f_Sight_look_B74 at h
  refine ax_iload_n 3 d_Sight_look_74 rfl rfl 75 rfl ?_
  refine ax_aload_n 1 d_Sight_look_75 rfl rfl 76 rfl ?_
  refine ax_getI fl_Sight_65 x_24 rfl d_Sight_look_76 79 rfl ?_
  refine ax_icmp_ge 126 82 d_Sight_look_79 rfl rfl (fun hc => ?_) (fun hc => ?_)
  · have h := ok_t hc h
    exact ax_sub [0, 2] rfl (c_Sight_look_J126 v2 m (fun p hp => hR p hp) (ok_z h))
  · have h := ok_f hc h
    refine ax_aload_n 0 d_Sight_look_82 rfl rfl 83 rfl ?_
    refine ax_getR fl_Sight_25 x_48 rfl (rx_48_4 _) d_Sight_look_83 86 rfl ?_
    refine ax_iload_n 3 d_Sight_look_86 rfl rfl 87 rfl ?_
    refine ax_baload x_51 d_Sight_look_87 88 rfl h (fun i3 h => ?_)
    refine ax_if_eq 120 91 d_Sight_look_88 rfl rfl (fun hc => ?_) (fun hc => ?_)
    · have h := ok_t hc h
      exact ax_sub [0, 1, 2, 3] rfl (c_Sight_look_J120 v2 v3 m (fun p hp => hR p hp) (fun s hs => h0 s hs) h)
    · have h := ok_f hc h
      refine ax_aload_n 0 d_Sight_look_91 rfl rfl 92 rfl ?_
      refine ax_aload_n 1 d_Sight_look_92 rfl rfl 93 rfl ?_
      refine ax_iload_n 3 d_Sight_look_93 rfl rfl 94 rfl ?_
      refine ax_callV mv_Sight_74 ⟨Nat.le_of_ble_eq_true rfl, Nat.le_of_ble_eq_true rfl⟩ ⟨rfl, rfl⟩ [.ref 24, .int v3] [.int v3, .ref 24, .ref 48] rfl rfl (rc_x_48 _) (Nat.le_of_ble_eq_true rfl) d_Sight_look_94 97 rfl (zc_Sight_isAsSeen v3 m (ok_b h (fun r4 h => ?_)))
      refine ax_ifb_eq 120 100 d_Sight_look_97 rfl rfl (fun hc => ?_) (fun hc => ?_)
      · have h := ok_f (bf hc) h
        exact ax_sub [0, 1, 2, 3] rfl (c_Sight_look_J120 v2 v3 m (fun p hp => hR p hp) (fun s hs => h0 s hs) h)
      · have h := ok_t hc h
        refine ax_aload_n 0 d_Sight_look_100 rfl rfl 101 rfl ?_
        refine ax_getR fl_Sight_32 x_48 rfl (rx_48_6 _) d_Sight_look_101 104 rfl ?_
        refine ax_aload_n 0 d_Sight_look_104 rfl rfl 105 rfl ?_
        refine ax_getI fl_Sight_35 x_48 rfl d_Sight_look_105 108 rfl ?_
        refine ax_iload_n 3 d_Sight_look_108 rfl rfl 109 rfl ?_
        refine ax_iastore x_53 d_Sight_look_109 110 rfl h (fun i5 m6 h => ?_)
        refine ax_aload_n 0 d_Sight_look_110 rfl rfl 111 rfl ?_
        refine ax_dup d_Sight_look_111 rfl 112 rfl ?_
        refine ax_getI fl_Sight_35 x_48 rfl d_Sight_look_112 115 rfl ?_
        refine ax_iconst 1 d_Sight_look_115 ic_1 116 rfl ?_
        refine ax_iadd d_Sight_look_116 117 rfl ?_
        refine ax_putI (K := K) fl_Sight_35 x_48 rfl rfl rfl (Nat.le_of_ble_eq_true rfl) d_Sight_look_117 120 rfl h (fun m7 h => ?_)
        exact ax_sub [0, 1, 2, 3] rfl (c_Sight_look_J120 v2 v3 m7 (fun p hp => hR p hp) (fun s hs => h0 s hs) h)
theorem c_Sight_look_L74 (v2 : Int32) (v3 : Int32) (m : zM)  {Q : Option Value → zM → Prop} {K : zM → Prop} (hR : ∀ p : zM, K (p) → Q none p)  (h : ok (f_Sight_look_L74 v2 v3 m) K) : AX gX s_Sight_look 74 [(0, .ref 48), (1, .ref 24), (2, .int v2), (3, .int v3)] [] m Q :=
  ok_lp (K := K) (G := fun s : Int32 × zM => AX gX s_Sight_look 74 [(0, .ref 48), (1, .ref 24), (2, .int v2), (3, .int s.1)] [] s.2 Q) (fun s h => c_Sight_look_B74 v2 s.1 s.2  (fun p hp => hR p hp) (fun s hs => hs) h) FU (v3, m) h
set_option maxRecDepth 4000 in
theorem c_Sight_look_J67 (v2 : Int32) (m : zM)  {Q : Option Value → zM → Prop} {K : zM → Prop} (hR : ∀ p : zM, K (p) → Q none p)  (h : ok (f_Sight_look_J67 v2 m) K) : AX gX s_Sight_look 67 [(0, .ref 48), (1, .ref 24), (2, .int v2)] [] m Q := by
  unfold f_Sight_look_J67 at h
  refine ax_aload_n 0 d_Sight_look_67 rfl rfl 68 rfl ?_
  refine ax_iconst 0 d_Sight_look_68 ic_0 69 rfl ?_
  refine ax_putI (K := K) fl_Sight_35 x_48 rfl rfl rfl (Nat.le_of_ble_eq_true rfl) d_Sight_look_69 72 rfl h (fun m2 h => ?_)
  refine ax_iconst 0 d_Sight_look_72 ic_0 73 rfl ?_
  refine ax_istore_n (ls1 := [(3, .int 0), (0, .ref 48), (1, .ref 24), (2, .int v2)]) d_Sight_look_73 rfl (Nat.le_of_ble_eq_true rfl) rfl 74 rfl ?_
  exact ax_sub [1, 2, 3, 0] rfl (c_Sight_look_L74 v2 0 m2 (fun p hp => hR p hp) h)
set_option maxRecDepth 4000 in
theorem c_Sight_look_B48 (v2 : Int32) (v3 : Int32) (m : zM)  {Q : Option Value → zM → Prop} {K : ((zM) ⊕ (Int32 × zM)) → Prop} (hR : ∀ p : zM, K (.inl p) → Q none p) (h0 : ∀ s : Int32 × zM, K (.inr s) → AX gX s_Sight_look 48 [(0, .ref 48), (1, .ref 24), (2, .int v2), (3, .int s.1)] [] s.2 Q) (h : ok (f_Sight_look_B48 v2 v3 m) K) : AX gX s_Sight_look 48 [(0, .ref 48), (1, .ref 24), (2, .int v2), (3, .int v3)] [] m Q := by
  unfold f_Sight_look_B48 at h
  refine ax_iload_n 3 d_Sight_look_48 rfl rfl 49 rfl ?_
  refine ax_aload_n 0 d_Sight_look_49 rfl rfl 50 rfl ?_
  refine ax_getI fl_Sight_22 x_48 rfl d_Sight_look_50 53 rfl ?_
  refine ax_icmp_ge 67 56 d_Sight_look_53 rfl rfl (fun hc => ?_) (fun hc => ?_)
  · have h := ok_t hc h
    exact ax_sub [0, 1, 2] rfl (c_Sight_look_J67 v2 m (fun p hp => hR p hp) (ok_z h))
  · have h := ok_f hc h
    refine ax_aload_n 0 d_Sight_look_56 rfl rfl 57 rfl ?_
    refine ax_aload_n 1 d_Sight_look_57 rfl rfl 58 rfl ?_
    refine ax_callV mv_Sight_70 ⟨Nat.le_of_ble_eq_true rfl, Nat.le_of_ble_eq_true rfl⟩ ⟨rfl, rfl⟩ [.ref 24] [.ref 24, .ref 48] rfl rfl (rc_x_48 _) (Nat.le_of_ble_eq_true rfl) d_Sight_look_58 61 rfl (zc_Sight_goOn m (ok_b h (fun p1 h => ?_)))
    refine ax_iinc (ls1 := [(3, .int (v3 + 1)), (0, .ref 48), (1, .ref 24), (2, .int v2)]) 3 1 d_Sight_look_61 rfl ic_1 (Nat.le_of_ble_eq_true rfl) rfl 64 rfl ?_
    refine ax_goto 48 d_Sight_look_64 rfl ?_
    exact ax_sub [1, 2, 3, 0] rfl (h0 ((v3 + 1), p1) (ok_some h))
theorem c_Sight_look_L48 (v2 : Int32) (v3 : Int32) (m : zM)  {Q : Option Value → zM → Prop} {K : zM → Prop} (hR : ∀ p : zM, K (p) → Q none p)  (h : ok (f_Sight_look_L48 v2 v3 m) K) : AX gX s_Sight_look 48 [(0, .ref 48), (1, .ref 24), (2, .int v2), (3, .int v3)] [] m Q :=
  ok_lp (K := K) (G := fun s : Int32 × zM => AX gX s_Sight_look 48 [(0, .ref 48), (1, .ref 24), (2, .int v2), (3, .int s.1)] [] s.2 Q) (fun s h => c_Sight_look_B48 v2 s.1 s.2  (fun p hp => hR p hp) (fun s hs => hs) h) FU (v3, m) h
set_option maxRecDepth 4000 in
theorem c_Sight_look_J46 (v2 : Int32) (m : zM)  {Q : Option Value → zM → Prop} {K : zM → Prop} (hR : ∀ p : zM, K (p) → Q none p)  (h : ok (f_Sight_look_J46 v2 m) K) : AX gX s_Sight_look 46 [(0, .ref 48), (1, .ref 24), (2, .int v2)] [] m Q := by
  unfold f_Sight_look_J46 at h
  refine ax_iconst 0 d_Sight_look_46 ic_0 47 rfl ?_
  refine ax_istore_n (ls1 := [(3, .int 0), (0, .ref 48), (1, .ref 24), (2, .int v2)]) d_Sight_look_47 rfl (Nat.le_of_ble_eq_true rfl) rfl 48 rfl ?_
  exact ax_sub [1, 2, 3, 0] rfl (c_Sight_look_L48 v2 0 m (fun p hp => hR p hp) h)
set_option maxRecDepth 4000 in
theorem c_Sight_look_J39 (v2 : Int32) (v3 : Int32) (t0 : Nat) (t1 : Int32) (t2 : Bool) (m : zM) (ht0 : gX.1[t0]? = some (.inr (1, zlen gX t0))) {Q : Option Value → zM → Prop} {K : ((zM) ⊕ (Int32 × zM)) → Prop} (hR : ∀ p : zM, K (.inl p) → Q none p) (h0 : ∀ s : Int32 × zM, K (.inr s) → AX gX s_Sight_look 16 [(0, .ref 48), (1, .ref 24), (2, .int v2), (3, .int s.1)] [] s.2 Q) (h : ok (f_Sight_look_J39 v2 v3 t0 t1 t2 m) K) : AX gX s_Sight_look 39 [(0, .ref 48), (1, .ref 24), (2, .int v2), (3, .int v3)] [.int (b2i t2), .int t1, .ref t0] m Q := by
  unfold f_Sight_look_J39 at h
  refine ax_zastore (y := t2) ht0 d_Sight_look_39 40 rfl h (fun i9 m10 h => ?_)
  refine ax_iinc (ls1 := [(3, .int (v3 + 1)), (0, .ref 48), (1, .ref 24), (2, .int v2)]) 3 1 d_Sight_look_40 rfl ic_1 (Nat.le_of_ble_eq_true rfl) rfl 43 rfl ?_
  refine ax_goto 16 d_Sight_look_43 rfl ?_
  exact ax_sub [1, 2, 3, 0] rfl (h0 ((v3 + 1), m10) (ok_some h))
set_option maxRecDepth 4000 in
theorem c_Sight_look_B16 (v2 : Int32) (v3 : Int32) (m : zM)  {Q : Option Value → zM → Prop} {K : ((zM) ⊕ (Int32 × zM)) → Prop} (hR : ∀ p : zM, K (.inl p) → Q none p) (h0 : ∀ s : Int32 × zM, K (.inr s) → AX gX s_Sight_look 16 [(0, .ref 48), (1, .ref 24), (2, .int v2), (3, .int s.1)] [] s.2 Q) (h : ok (f_Sight_look_B16 v2 v3 m) K) : AX gX s_Sight_look 16 [(0, .ref 48), (1, .ref 24), (2, .int v2), (3, .int v3)] [] m Q := by
  unfold f_Sight_look_B16 at h
  refine ax_iload_n 3 d_Sight_look_16 rfl rfl 17 rfl ?_
  refine ax_aload_n 1 d_Sight_look_17 rfl rfl 18 rfl ?_
  refine ax_getI fl_Sight_65 x_24 rfl d_Sight_look_18 21 rfl ?_
  refine ax_icmp_ge 46 24 d_Sight_look_21 rfl rfl (fun hc => ?_) (fun hc => ?_)
  · have h := ok_t hc h
    exact ax_sub [0, 1, 2] rfl (c_Sight_look_J46 v2 m (fun p hp => hR p hp) (ok_z h))
  · have h := ok_f hc h
    refine ax_aload_n 0 d_Sight_look_24 rfl rfl 25 rfl ?_
    refine ax_getR fl_Sight_25 x_48 rfl (rx_48_4 _) d_Sight_look_25 28 rfl ?_
    refine ax_iload_n 3 d_Sight_look_28 rfl rfl 29 rfl ?_
    refine ax_iload_n 3 d_Sight_look_29 rfl rfl 30 rfl ?_
    refine ax_iload_n 2 d_Sight_look_30 rfl rfl 31 rfl ?_
    refine ax_icmp_ne 38 34 d_Sight_look_31 rfl rfl (fun hc => ?_) (fun hc => ?_)
    · have h := ok_f hc h
      refine ax_iconst 0 d_Sight_look_38 ic_0 39 rfl ?_
      exact ax_sub [0, 1, 2, 3] rfl (c_Sight_look_J39 v2 v3 51 v3 false m x_51z (fun p hp => hR p hp) (fun s hs => h0 s hs) h)
    · have h := ok_t hc h
      refine ax_iconst 1 d_Sight_look_34 ic_1 35 rfl ?_
      refine ax_goto 39 d_Sight_look_35 rfl ?_
      exact ax_sub [0, 1, 2, 3] rfl (c_Sight_look_J39 v2 v3 51 v3 true m x_51z (fun p hp => hR p hp) (fun s hs => h0 s hs) h)
theorem c_Sight_look_L16 (v2 : Int32) (v3 : Int32) (m : zM)  {Q : Option Value → zM → Prop} {K : zM → Prop} (hR : ∀ p : zM, K (p) → Q none p)  (h : ok (f_Sight_look_L16 v2 v3 m) K) : AX gX s_Sight_look 16 [(0, .ref 48), (1, .ref 24), (2, .int v2), (3, .int v3)] [] m Q :=
  ok_lp (K := K) (G := fun s : Int32 × zM => AX gX s_Sight_look 16 [(0, .ref 48), (1, .ref 24), (2, .int v2), (3, .int s.1)] [] s.2 Q) (fun s h => c_Sight_look_B16 v2 s.1 s.2  (fun p hp => hR p hp) (fun s hs => hs) h) FU (v3, m) h
set_option maxRecDepth 4000 in
theorem zc_Sight_look (v2 : Int32) (m : zM)  {Q : Option Value → zM → Prop} (h : ok (f_Sight_look v2 m) (fun p => Q none p)) : zc gX s_Sight_look [.ref 48, .ref 24, .int v2] m Q := by
  refine zc_of rfl (Nat.le_of_ble_eq_true rfl) ?_
  show AX gX s_Sight_look 0 [(0, .ref 48), (1, .ref 24), (2, .int v2)] [] m Q
  obtain ⟨K, hK⟩ : ∃ K : zM → Prop, K = (fun p : zM => Q none p) := ⟨_, rfl⟩
  have hR : ∀ p : zM, K p → Q none p := fun p hp => by rw [hK] at hp; exact hp
  replace h : ok (f_Sight_look v2 m) (fun p : zM => Q none p) := h
  rw [← hK] at h
  unfold f_Sight_look at h
  refine ax_iload_n 2 d_Sight_look_0 rfl rfl 1 rfl ?_
  refine ax_iconst (-1) d_Sight_look_1 ic_m1 2 rfl ?_
  refine ax_icmp_eq 13 5 d_Sight_look_2 rfl rfl (fun hc => ?_) (fun hc => ?_)
  · have h := ok_t hc h
    exact ax_vret rfl d_Sight_look_13 (hR m (ok_some h))
  · have h := ok_f hc h
    refine ax_iload_n 2 d_Sight_look_5 rfl rfl 6 rfl ?_
    refine ax_aload_n 0 d_Sight_look_6 rfl rfl 7 rfl ?_
    refine ax_getI fl_Sight_38 x_48 rfl d_Sight_look_7 10 rfl ?_
    refine ax_icmp_ne 14 13 d_Sight_look_10 rfl rfl (fun hc => ?_) (fun hc => ?_)
    · have h := ok_f hc h
      refine ax_iconst 0 d_Sight_look_14 ic_0 15 rfl ?_
      refine ax_istore_n (ls1 := [(3, .int 0), (0, .ref 48), (1, .ref 24), (2, .int v2)]) d_Sight_look_15 rfl (Nat.le_of_ble_eq_true rfl) rfl 16 rfl ?_
      exact ax_sub [1, 2, 3, 0] rfl (c_Sight_look_L16 v2 0 m (fun p hp => hR p hp) h)
    · have h := ok_t hc h
      exact ax_vret rfl d_Sight_look_13 (hR m (ok_some h))
set_option maxRecDepth 4000 in
theorem zc_PA_could (v1 : Int32) (m : zM)  {Q : Option Value → zM → Prop} (h : ok (f_PA_could v1 m) (fun p => Q (some (.int p.1)) p.2)) : zc gX s_PA_could [.ref 0, .int v1] m Q := by
  refine zc_of rfl (Nat.le_of_ble_eq_true rfl) ?_
  show AX gX s_PA_could 0 [(0, .ref 0), (1, .int v1)] [] m Q
  obtain ⟨K, hK⟩ : ∃ K : (Int32 × zM) → Prop, K = (fun p : Int32 × zM => Q (some (.int p.1)) p.2) := ⟨_, rfl⟩
  have hR : ∀ p : Int32 × zM, K p → Q (some (.int p.1)) p.2 := fun p hp => by rw [hK] at hp; exact hp
  replace h : ok (f_PA_could v1 m) (fun p : Int32 × zM => Q (some (.int p.1)) p.2) := h
  rw [← hK] at h
  unfold f_PA_could at h
  refine ax_aload_n 0 d_PA_could_0 rfl rfl 1 rfl ?_
  refine ax_getI fl_PA_84 x_0 rfl d_PA_could_1 4 rfl ?_
  refine ax_if_ne 9 7 d_PA_could_4 rfl rfl (fun hc => ?_) (fun hc => ?_)
  · have h := ok_f hc h
    refine ax_aload_n 0 d_PA_could_9 rfl rfl 10 rfl ?_
    refine ax_getR fl_PA_39 x_0 rfl (rx_0_5 _) d_PA_could_10 13 rfl ?_
    refine ax_aload_n 0 d_PA_could_13 rfl rfl 14 rfl ?_
    refine ax_getR fl_PA_32 x_0 rfl (rx_0_4 _) d_PA_could_14 17 rfl ?_
    refine ax_aload_n 0 d_PA_could_17 rfl rfl 18 rfl ?_
    refine ax_getR fl_PA_32 x_0 rfl (rx_0_4 _) d_PA_could_18 21 rfl ?_
    refine ax_aload_n 0 d_PA_could_21 rfl rfl 22 rfl ?_
    refine ax_getR fl_PA_46 x_0 rfl (rx_0_6 _) d_PA_could_22 25 rfl ?_
    refine ax_callV mv_PA_272 ⟨Nat.le_of_ble_eq_true rfl, Nat.le_of_ble_eq_true rfl⟩ ⟨rfl, rfl⟩ [.ref 55] [.ref 55, .ref 24, .ref 24, .ref 48] rfl rfl (rc_x_24 _) (Nat.le_of_ble_eq_true rfl) d_PA_could_25 28 rfl (zc_Atlas_number 55 m in_55 (ok_b h (fun p1 h => ?_)))
    refine ax_callV mv_PA_318 ⟨Nat.le_of_ble_eq_true rfl, Nat.le_of_ble_eq_true rfl⟩ ⟨rfl, rfl⟩ [.ref 24, .int p1.1] [.int p1.1, .ref 24, .ref 48] rfl rfl (rc_x_48 _) (Nat.le_of_ble_eq_true rfl) d_PA_could_28 31 rfl (zc_Sight_look p1.1 p1.2 (ok_b h (fun p2 h => ?_)))
    refine ax_iload_n 1 d_PA_could_31 rfl rfl 32 rfl ?_
    refine ax_iconst (-1) d_PA_could_32 ic_m1 33 rfl ?_
    refine ax_icmp_ne 44 36 d_PA_could_33 rfl rfl (fun hc => ?_) (fun hc => ?_)
    · have h := ok_f hc h
      refine ax_iload_n 1 d_PA_could_44 rfl rfl 45 rfl ?_
      refine ax_if_lt 71 48 d_PA_could_45 rfl rfl (fun hc => ?_) (fun hc => ?_)
      · have h := ok_t hc h
        refine ax_iconst (-1) d_PA_could_71 ic_m1 72 rfl ?_
        exact ax_iret rfl d_PA_could_72 (hR ((-1), p2) (ok_some h))
      · have h := ok_f hc h
        refine ax_iload_n 1 d_PA_could_48 rfl rfl 49 rfl ?_
        refine ax_aload_n 0 d_PA_could_49 rfl rfl 50 rfl ?_
        refine ax_getR fl_PA_39 x_0 rfl (rx_0_5 _) d_PA_could_50 53 rfl ?_
        refine ax_getI fl_PA_322 x_48 rfl d_PA_could_53 56 rfl ?_
        refine ax_icmp_ge 71 59 d_PA_could_56 rfl rfl (fun hc => ?_) (fun hc => ?_)
        · have h := ok_t hc h
          refine ax_iconst (-1) d_PA_could_71 ic_m1 72 rfl ?_
          exact ax_iret rfl d_PA_could_72 (hR ((-1), p2) (ok_some h))
        · have h := ok_f hc h
          refine ax_aload_n 0 d_PA_could_59 rfl rfl 60 rfl ?_
          refine ax_getR fl_PA_39 x_0 rfl (rx_0_5 _) d_PA_could_60 63 rfl ?_
          refine ax_getR fl_PA_325 x_48 rfl (rx_48_6 _) d_PA_could_63 66 rfl ?_
          refine ax_iload_n 1 d_PA_could_66 rfl rfl 67 rfl ?_
          refine ax_iaload x_53 d_PA_could_67 68 rfl h (fun i3 h => ?_)
          refine ax_goto 72 d_PA_could_68 rfl ?_
          exact ax_iret rfl d_PA_could_72 (hR ((p2.1 53 i3), p2) (ok_some h))
    · have h := ok_t hc h
      refine ax_aload_n 0 d_PA_could_36 rfl rfl 37 rfl ?_
      refine ax_getR fl_PA_39 x_0 rfl (rx_0_5 _) d_PA_could_37 40 rfl ?_
      refine ax_getI fl_PA_322 x_48 rfl d_PA_could_40 43 rfl ?_
      exact ax_iret rfl d_PA_could_43 (hR ((p2.1 48 7), p2) (ok_some h))
  · have h := ok_t hc h
    refine ax_iconst (-1) d_PA_could_7 ic_m1 8 rfl ?_
    exact ax_iret rfl d_PA_could_8 (hR ((-1), m) (ok_some h))
set_option maxRecDepth 4000 in
theorem zc_Math_max (v0 : Int32) (v1 : Int32) (m : zM)  {Q : Option Value → zM → Prop} (h : Q (some (.int (f_Math_max v0 v1))) m) : zc gX s_Math_max [.int v0, .int v1] m Q := by
  refine zc_ofF (by decide +kernel) (Nat.le_of_ble_eq_true rfl) ?_
  show AX gX s_Math_max 0 [(0, .int v0), (1, .int v1)] [] m Q
  obtain ⟨K, hK⟩ : ∃ K : Int32 → Prop, K = (fun p : Int32 => Q (some (.int p)) m) := ⟨_, rfl⟩
  have hR : ∀ p : Int32, K p → Q (some (.int p)) m := fun p hp => by rw [hK] at hp; exact hp
  replace h : (fun p : Int32 => Q (some (.int p)) m) (f_Math_max v0 v1) := h
  rw [← hK] at h
  unfold f_Math_max at h
  refine ax_iload_n 0 d_Math_max_0 rfl rfl 1 rfl ?_
  refine ax_iload_n 1 d_Math_max_1 rfl rfl 2 rfl ?_
  refine ax_icmp_lt 9 5 d_Math_max_2 rfl rfl (fun hc => ?_) (fun hc => ?_)
  · have h := kt_t (K := K) hc h
    refine ax_iload_n 1 d_Math_max_9 rfl rfl 10 rfl ?_
    exact ax_iret rfl d_Math_max_10 (hR v1 h)
  · have h := kt_f (K := K) hc h
    refine ax_iload_n 0 d_Math_max_5 rfl rfl 6 rfl ?_
    refine ax_goto 10 d_Math_max_6 rfl ?_
    exact ax_iret rfl d_Math_max_10 (hR v0 h)
set_option maxRecDepth 4000 in
theorem c_Sight_mostLeft_B13 (v2 : Int32) (v3 : Int32) (v4 : Int32) (m : zM)  {Q : Option Value → zM → Prop} {K : ((Int32 × zM) ⊕ (Int32 × Int32 × zM)) → Prop} (hR : ∀ p : Int32 × zM, K (.inl p) → Q (some (.int p.1)) p.2) (h0 : ∀ s : Int32 × Int32 × zM, K (.inr s) → AX gX s_Sight_mostLeft 13 [(0, .ref 48), (1, .ref 24), (2, .int v2), (3, .int s.1), (4, .int s.2.1)] [] s.2.2 Q) (h : ok (f_Sight_mostLeft_B13 v2 v3 v4 m) K) : AX gX s_Sight_mostLeft 13 [(0, .ref 48), (1, .ref 24), (2, .int v2), (3, .int v3), (4, .int v4)] [] m Q := by
  unfold f_Sight_mostLeft_B13 at h
  refine ax_iload 4 d_Sight_mostLeft_13 rfl 15 rfl ?_
  refine ax_aload_n 0 d_Sight_mostLeft_15 rfl rfl 16 rfl ?_
  refine ax_getI fl_Sight_35 x_48 rfl d_Sight_mostLeft_16 19 rfl ?_
  refine ax_icmp_ge 65 22 d_Sight_mostLeft_19 rfl rfl (fun hc => ?_) (fun hc => ?_)
  · have h := ok_t hc h
    refine ax_iload_n 3 d_Sight_mostLeft_65 rfl rfl 66 rfl ?_
    exact ax_iret rfl d_Sight_mostLeft_66 (hR (v3, m) (ok_some h))
  · have h := ok_f hc h
    refine ax_aload_n 1 d_Sight_mostLeft_22 rfl rfl 23 rfl ?_
    refine ax_aload_n 0 d_Sight_mostLeft_23 rfl rfl 24 rfl ?_
    refine ax_getR fl_Sight_32 x_48 rfl (rx_48_6 _) d_Sight_mostLeft_24 27 rfl ?_
    refine ax_iload 4 d_Sight_mostLeft_27 rfl 29 rfl ?_
    refine ax_iaload x_53 d_Sight_mostLeft_29 30 rfl h (fun i2 h => ?_)
    refine ax_iload_n 2 d_Sight_mostLeft_30 rfl rfl 31 rfl ?_
    refine ax_callV mv_Sight_84 ⟨Nat.le_of_ble_eq_true rfl, Nat.le_of_ble_eq_true rfl⟩ ⟨rfl, rfl⟩ [.int (m.1 53 i2), .int v2] [.int v2, .int (m.1 53 i2), .ref 24] rfl rfl (rc_x_24 _) (Nat.le_of_ble_eq_true rfl) d_Sight_mostLeft_31 34 rfl (zc_Atlas_inState (m.1 53 i2) v2 m (ok_b h (fun r3 h => ?_)))
    refine ax_istore (ls1 := [(5, .int r3), (0, .ref 48), (1, .ref 24), (2, .int v2), (3, .int v3), (4, .int v4)]) d_Sight_mostLeft_34 (Nat.le_of_ble_eq_true rfl) rfl 36 rfl ?_
    refine ax_aload_n 1 d_Sight_mostLeft_36 rfl rfl 37 rfl ?_
    refine ax_getR fl_Sight_41 x_48 rfl (rx_48_9 _) d_Sight_mostLeft_37 40 rfl ?_
    refine ax_iload 0 d_Sight_mostLeft_40 rfl 42 rfl ?_
    refine ax_dup2 d_Sight_mostLeft_42 rfl rfl 43 rfl ?_
    refine ax_iaload x_54 d_Sight_mostLeft_43 44 rfl h (fun i4 h => ?_)
    refine ax_iconst 1 d_Sight_mostLeft_44 ic_1 45 rfl ?_
    refine ax_iadd d_Sight_mostLeft_45 46 rfl ?_
    refine ax_iastore x_54 d_Sight_mostLeft_46 47 rfl h (fun i5 m6 h => ?_)
    refine ax_iload_n 4 d_Sight_mostLeft_47 rfl rfl 48 rfl ?_
    refine ax_aload_n 1 d_Sight_mostLeft_48 rfl rfl 49 rfl ?_
    refine ax_getR fl_Sight_41 x_48 rfl (rx_48_9 _) d_Sight_mostLeft_49 52 rfl ?_
    refine ax_iload 0 d_Sight_mostLeft_52 rfl 54 rfl ?_
    refine ax_iaload x_54 d_Sight_mostLeft_54 55 rfl h (fun i7 h => ?_)
    refine ax_callS mv_Sight_93 ⟨Nat.le_of_ble_eq_true rfl, Nat.le_of_ble_eq_true rfl⟩ ⟨rfl, rfl⟩ [.int v3, .int (m6.1 54 i7)] [.int (m6.1 54 i7), .int v3] rfl rfl (Nat.le_of_ble_eq_true rfl) d_Sight_mostLeft_55 58 rfl (zc_Math_max v3 (m6.1 54 i7) m6 ?_)
    refine ax_istore_n (ls1 := [(3, .int (f_Math_max v3 (m6.1 54 i7))), (5, .int r3), (0, .ref 48), (1, .ref 24), (2, .int v2), (4, .int v4)]) d_Sight_mostLeft_58 rfl (Nat.le_of_ble_eq_true rfl) rfl 59 rfl ?_
    refine ax_iinc (ls1 := [(4, .int (v4 + 1)), (3, .int (f_Math_max v3 (m6.1 54 i7))), (5, .int r3), (0, .ref 48), (1, .ref 24), (2, .int v2)]) 5 1 d_Sight_mostLeft_59 rfl ic_1 (Nat.le_of_ble_eq_true rfl) rfl 62 rfl ?_
    refine ax_goto 13 d_Sight_mostLeft_62 rfl ?_
    exact ax_sub [3, 4, 5, 1, 0] rfl (h0 ((f_Math_max v3 (m6.1 54 i7)), (v4 + 1), m6) (ok_some h))
theorem c_Sight_mostLeft_L13 (v2 : Int32) (v3 : Int32) (v4 : Int32) (m : zM)  {Q : Option Value → zM → Prop} {K : (Int32 × zM) → Prop} (hR : ∀ p : Int32 × zM, K (p) → Q (some (.int p.1)) p.2)  (h : ok (f_Sight_mostLeft_L13 v2 v3 v4 m) K) : AX gX s_Sight_mostLeft 13 [(0, .ref 48), (1, .ref 24), (2, .int v2), (3, .int v3), (4, .int v4)] [] m Q :=
  ok_lp (K := K) (G := fun s : Int32 × Int32 × zM => AX gX s_Sight_mostLeft 13 [(0, .ref 48), (1, .ref 24), (2, .int v2), (3, .int s.1), (4, .int s.2.1)] [] s.2.2 Q) (fun s h => c_Sight_mostLeft_B13 v2 s.1 s.2.1 s.2.2  (fun p hp => hR p hp) (fun s hs => hs) h) FU (v3, v4, m) h
set_option maxRecDepth 4000 in
theorem zc_Sight_mostLeft (v2 : Int32) (m : zM)  {Q : Option Value → zM → Prop} (h : ok (f_Sight_mostLeft v2 m) (fun p => Q (some (.int p.1)) p.2)) : zc gX s_Sight_mostLeft [.ref 48, .ref 24, .int v2] m Q := by
  refine zc_of rfl (Nat.le_of_ble_eq_true rfl) ?_
  show AX gX s_Sight_mostLeft 0 [(0, .ref 48), (1, .ref 24), (2, .int v2)] [] m Q
  obtain ⟨K, hK⟩ : ∃ K : (Int32 × zM) → Prop, K = (fun p : Int32 × zM => Q (some (.int p.1)) p.2) := ⟨_, rfl⟩
  have hR : ∀ p : Int32 × zM, K p → Q (some (.int p.1)) p.2 := fun p hp => by rw [hK] at hp; exact hp
  replace h : ok (f_Sight_mostLeft v2 m) (fun p : Int32 × zM => Q (some (.int p.1)) p.2) := h
  rw [← hK] at h
  unfold f_Sight_mostLeft at h
  refine ax_aload_n 0 d_Sight_mostLeft_0 rfl rfl 1 rfl ?_
  refine ax_getR fl_Sight_41 x_48 rfl (rx_48_9 _) d_Sight_mostLeft_1 4 rfl ?_
  refine ax_iconst 0 d_Sight_mostLeft_4 ic_0 5 rfl ?_
  refine ax_callS mv_Sight_87 ⟨Nat.le_of_ble_eq_true rfl, Nat.le_of_ble_eq_true rfl⟩ ⟨rfl, rfl⟩ [.ref 54, .int 0] [.int 0, .ref 54] rfl rfl (Nat.le_of_ble_eq_true rfl) d_Sight_mostLeft_5 8 rfl (zc_Arrays_fill 54 0 m x_54z (ok_b h (fun p1 h => ?_)))
  refine ax_iconst 0 d_Sight_mostLeft_8 ic_0 9 rfl ?_
  refine ax_istore_n (ls1 := [(3, .int 0), (0, .ref 48), (1, .ref 24), (2, .int v2)]) d_Sight_mostLeft_9 rfl (Nat.le_of_ble_eq_true rfl) rfl 10 rfl ?_
  refine ax_iconst 0 d_Sight_mostLeft_10 ic_0 11 rfl ?_
  refine ax_istore (ls1 := [(4, .int 0), (3, .int 0), (0, .ref 48), (1, .ref 24), (2, .int v2)]) d_Sight_mostLeft_11 (Nat.le_of_ble_eq_true rfl) rfl 13 rfl ?_
  exact ax_sub [2, 3, 4, 1, 0] rfl (c_Sight_mostLeft_L13 v2 0 0 p1 (fun p hp => hR p hp) h)
set_option maxRecDepth 4000 in
theorem c_Sight_tellingState_J30 (v2 : Int32) (v3 : Int32) (v4 : Int32) (m : zM)  {Q : Option Value → zM → Prop} {K : ((Int32 × zM) ⊕ (Int32 × Int32 × zM)) → Prop} (hR : ∀ p : Int32 × zM, K (.inl p) → Q (some (.int p.1)) p.2) (h0 : ∀ s : Int32 × Int32 × zM, K (.inr s) → AX gX s_Sight_tellingState 5 [(0, .ref 48), (1, .ref 24), (2, .int v2), (3, .int s.1), (4, .int s.2.1)] [] s.2.2 Q) (h : ok (f_Sight_tellingState_J30 v2 v3 v4 m) K) : AX gX s_Sight_tellingState 30 [(0, .ref 48), (1, .ref 24), (2, .int v2), (3, .int v3), (4, .int v4)] [] m Q := by
  unfold f_Sight_tellingState_J30 at h
  refine ax_iinc (ls1 := [(4, .int (v4 + 1)), (0, .ref 48), (1, .ref 24), (2, .int v2), (3, .int v3)]) 4 1 d_Sight_tellingState_30 rfl ic_1 (Nat.le_of_ble_eq_true rfl) rfl 33 rfl ?_
  refine ax_goto 5 d_Sight_tellingState_33 rfl ?_
  exact ax_sub [1, 2, 3, 4, 0] rfl (h0 (v3, (v4 + 1), m) (ok_some h))
set_option maxRecDepth 4000 in
theorem c_Sight_tellingState_B5 (v2 : Int32) (v3 : Int32) (v4 : Int32) (m : zM)  {Q : Option Value → zM → Prop} {K : ((Int32 × zM) ⊕ (Int32 × Int32 × zM)) → Prop} (hR : ∀ p : Int32 × zM, K (.inl p) → Q (some (.int p.1)) p.2) (h0 : ∀ s : Int32 × Int32 × zM, K (.inr s) → AX gX s_Sight_tellingState 5 [(0, .ref 48), (1, .ref 24), (2, .int v2), (3, .int s.1), (4, .int s.2.1)] [] s.2.2 Q) (h : ok (f_Sight_tellingState_B5 v2 v3 v4 m) K) : AX gX s_Sight_tellingState 5 [(0, .ref 48), (1, .ref 24), (2, .int v2), (3, .int v3), (4, .int v4)] [] m Q := by
  unfold f_Sight_tellingState_B5 at h
  refine ax_iload 4 d_Sight_tellingState_5 rfl 7 rfl ?_
  refine ax_iload_n 2 d_Sight_tellingState_7 rfl rfl 8 rfl ?_
  refine ax_icmp_ge 36 11 d_Sight_tellingState_8 rfl rfl (fun hc => ?_) (fun hc => ?_)
  · have h := ok_t hc h
    refine ax_iload_n 3 d_Sight_tellingState_36 rfl rfl 37 rfl ?_
    exact ax_iret rfl d_Sight_tellingState_37 (hR (v3, m) (ok_some h))
  · have h := ok_f hc h
    refine ax_aload_n 0 d_Sight_tellingState_11 rfl rfl 12 rfl ?_
    refine ax_aload_n 1 d_Sight_tellingState_12 rfl rfl 13 rfl ?_
    refine ax_iload 4 d_Sight_tellingState_13 rfl 15 rfl ?_
    refine ax_callV mv_Sight_96 ⟨Nat.le_of_ble_eq_true rfl, Nat.le_of_ble_eq_true rfl⟩ ⟨rfl, rfl⟩ [.ref 24, .int v4] [.int v4, .ref 24, .ref 48] rfl rfl (rc_x_48 _) (Nat.le_of_ble_eq_true rfl) d_Sight_tellingState_15 18 rfl (zc_Sight_mostLeft v4 m (ok_b h (fun p1 h => ?_)))
    refine ax_aload_n 0 d_Sight_tellingState_18 rfl rfl 19 rfl ?_
    refine ax_aload_n 1 d_Sight_tellingState_19 rfl rfl 20 rfl ?_
    refine ax_iload_n 3 d_Sight_tellingState_20 rfl rfl 21 rfl ?_
    refine ax_callV mv_Sight_96 ⟨Nat.le_of_ble_eq_true rfl, Nat.le_of_ble_eq_true rfl⟩ ⟨rfl, rfl⟩ [.ref 24, .int v3] [.int v3, .ref 24, .ref 48, .int p1.1] rfl rfl (rc_x_48 _) (Nat.le_of_ble_eq_true rfl) d_Sight_tellingState_21 24 rfl (zc_Sight_mostLeft v3 p1.2 (ok_b h (fun p2 h => ?_)))
    refine ax_icmp_ge 30 27 d_Sight_tellingState_24 rfl rfl (fun hc => ?_) (fun hc => ?_)
    · have h := ok_t hc h
      exact ax_sub [0, 1, 2, 3, 4] rfl (c_Sight_tellingState_J30 v2 v3 v4 p2.2 (fun p hp => hR p hp) (fun s hs => h0 s hs) h)
    · have h := ok_f hc h
      refine ax_iload 4 d_Sight_tellingState_27 rfl 29 rfl ?_
      refine ax_istore_n (ls1 := [(3, .int v4), (0, .ref 48), (1, .ref 24), (2, .int v2), (4, .int v4)]) d_Sight_tellingState_29 rfl (Nat.le_of_ble_eq_true rfl) rfl 30 rfl ?_
      exact ax_sub [1, 2, 3, 0, 4] rfl (c_Sight_tellingState_J30 v2 v4 v4 p2.2 (fun p hp => hR p hp) (fun s hs => h0 s hs) h)
theorem c_Sight_tellingState_L5 (v2 : Int32) (v3 : Int32) (v4 : Int32) (m : zM)  {Q : Option Value → zM → Prop} {K : (Int32 × zM) → Prop} (hR : ∀ p : Int32 × zM, K (p) → Q (some (.int p.1)) p.2)  (h : ok (f_Sight_tellingState_L5 v2 v3 v4 m) K) : AX gX s_Sight_tellingState 5 [(0, .ref 48), (1, .ref 24), (2, .int v2), (3, .int v3), (4, .int v4)] [] m Q :=
  ok_lp (K := K) (G := fun s : Int32 × Int32 × zM => AX gX s_Sight_tellingState 5 [(0, .ref 48), (1, .ref 24), (2, .int v2), (3, .int s.1), (4, .int s.2.1)] [] s.2.2 Q) (fun s h => c_Sight_tellingState_B5 v2 s.1 s.2.1 s.2.2  (fun p hp => hR p hp) (fun s hs => hs) h) FU (v3, v4, m) h
set_option maxRecDepth 4000 in
theorem zc_Sight_tellingState (v2 : Int32) (m : zM)  {Q : Option Value → zM → Prop} (h : ok (f_Sight_tellingState v2 m) (fun p => Q (some (.int p.1)) p.2)) : zc gX s_Sight_tellingState [.ref 48, .ref 24, .int v2] m Q := by
  refine zc_of rfl (Nat.le_of_ble_eq_true rfl) ?_
  show AX gX s_Sight_tellingState 0 [(0, .ref 48), (1, .ref 24), (2, .int v2)] [] m Q
  obtain ⟨K, hK⟩ : ∃ K : (Int32 × zM) → Prop, K = (fun p : Int32 × zM => Q (some (.int p.1)) p.2) := ⟨_, rfl⟩
  have hR : ∀ p : Int32 × zM, K p → Q (some (.int p.1)) p.2 := fun p hp => by rw [hK] at hp; exact hp
  replace h : ok (f_Sight_tellingState v2 m) (fun p : Int32 × zM => Q (some (.int p.1)) p.2) := h
  rw [← hK] at h
  unfold f_Sight_tellingState at h
  refine ax_iconst 0 d_Sight_tellingState_0 ic_0 1 rfl ?_
  refine ax_istore_n (ls1 := [(3, .int 0), (0, .ref 48), (1, .ref 24), (2, .int v2)]) d_Sight_tellingState_1 rfl (Nat.le_of_ble_eq_true rfl) rfl 2 rfl ?_
  refine ax_iconst 1 d_Sight_tellingState_2 ic_1 3 rfl ?_
  refine ax_istore (ls1 := [(4, .int 1), (3, .int 0), (0, .ref 48), (1, .ref 24), (2, .int v2)]) d_Sight_tellingState_3 (Nat.le_of_ble_eq_true rfl) rfl 5 rfl ?_
  exact ax_sub [2, 3, 4, 1, 0] rfl (c_Sight_tellingState_L5 v2 0 1 m (fun p hp => hR p hp) h)
set_option maxRecDepth 4000 in
theorem zc_PA_tells (v1 : Int32) (m : zM)  {Q : Option Value → zM → Prop} (h : ok (f_PA_tells v1 m) (fun p => Q (some (.int p.1)) p.2)) : zc gX s_PA_tells [.ref 0, .int v1] m Q := by
  refine zc_of rfl (Nat.le_of_ble_eq_true rfl) ?_
  show AX gX s_PA_tells 0 [(0, .ref 0), (1, .int v1)] [] m Q
  obtain ⟨K, hK⟩ : ∃ K : (Int32 × zM) → Prop, K = (fun p : Int32 × zM => Q (some (.int p.1)) p.2) := ⟨_, rfl⟩
  have hR : ∀ p : Int32 × zM, K p → Q (some (.int p.1)) p.2 := fun p hp => by rw [hK] at hp; exact hp
  replace h : ok (f_PA_tells v1 m) (fun p : Int32 × zM => Q (some (.int p.1)) p.2) := h
  rw [← hK] at h
  unfold f_PA_tells at h
  refine ax_aload_n 0 d_PA_tells_0 rfl rfl 1 rfl ?_
  refine ax_getI fl_PA_84 x_0 rfl d_PA_tells_1 4 rfl ?_
  refine ax_if_eq 16 7 d_PA_tells_4 rfl rfl (fun hc => ?_) (fun hc => ?_)
  · have h := ok_t hc h
    refine ax_iconst (-1) d_PA_tells_16 ic_m1 17 rfl ?_
    exact ax_iret rfl d_PA_tells_17 (hR ((-1), m) (ok_some h))
  · have h := ok_f hc h
    refine ax_iload_n 1 d_PA_tells_7 rfl rfl 8 rfl ?_
    refine ax_if_lt 16 11 d_PA_tells_8 rfl rfl (fun hc => ?_) (fun hc => ?_)
    · have h := ok_t hc h
      refine ax_iconst (-1) d_PA_tells_16 ic_m1 17 rfl ?_
      exact ax_iret rfl d_PA_tells_17 (hR ((-1), m) (ok_some h))
    · have h := ok_f hc h
      refine ax_iload_n 1 d_PA_tells_11 rfl rfl 12 rfl ?_
      refine ax_iconst 1 d_PA_tells_12 ic_1 13 rfl ?_
      refine ax_icmp_le 18 16 d_PA_tells_13 rfl rfl (fun hc => ?_) (fun hc => ?_)
      · have h := ok_t hc h
        refine ax_aload_n 0 d_PA_tells_18 rfl rfl 19 rfl ?_
        refine ax_getR fl_PA_39 x_0 rfl (rx_0_5 _) d_PA_tells_19 22 rfl ?_
        refine ax_aload_n 0 d_PA_tells_22 rfl rfl 23 rfl ?_
        refine ax_getR fl_PA_32 x_0 rfl (rx_0_4 _) d_PA_tells_23 26 rfl ?_
        refine ax_aload_n 0 d_PA_tells_26 rfl rfl 27 rfl ?_
        refine ax_getR fl_PA_32 x_0 rfl (rx_0_4 _) d_PA_tells_27 30 rfl ?_
        refine ax_aload_n 0 d_PA_tells_30 rfl rfl 31 rfl ?_
        refine ax_getR fl_PA_46 x_0 rfl (rx_0_6 _) d_PA_tells_31 34 rfl ?_
        refine ax_callV mv_PA_272 ⟨Nat.le_of_ble_eq_true rfl, Nat.le_of_ble_eq_true rfl⟩ ⟨rfl, rfl⟩ [.ref 55] [.ref 55, .ref 24, .ref 24, .ref 48] rfl rfl (rc_x_24 _) (Nat.le_of_ble_eq_true rfl) d_PA_tells_34 37 rfl (zc_Atlas_number 55 m in_55 (ok_b h (fun p1 h => ?_)))
        refine ax_callV mv_PA_318 ⟨Nat.le_of_ble_eq_true rfl, Nat.le_of_ble_eq_true rfl⟩ ⟨rfl, rfl⟩ [.ref 24, .int p1.1] [.int p1.1, .ref 24, .ref 48] rfl rfl (rc_x_48 _) (Nat.le_of_ble_eq_true rfl) d_PA_tells_37 40 rfl (zc_Sight_look p1.1 p1.2 (ok_b h (fun p2 h => ?_)))
        refine ax_aload_n 0 d_PA_tells_40 rfl rfl 41 rfl ?_
        refine ax_getR fl_PA_39 x_0 rfl (rx_0_5 _) d_PA_tells_41 44 rfl ?_
        refine ax_getI fl_PA_322 x_48 rfl d_PA_tells_44 47 rfl ?_
        refine ax_if_ne 52 50 d_PA_tells_47 rfl rfl (fun hc => ?_) (fun hc => ?_)
        · have h := ok_f hc h
          refine ax_aload_n 0 d_PA_tells_52 rfl rfl 53 rfl ?_
          refine ax_getR fl_PA_39 x_0 rfl (rx_0_5 _) d_PA_tells_53 56 rfl ?_
          refine ax_aload_n 0 d_PA_tells_56 rfl rfl 57 rfl ?_
          refine ax_getR fl_PA_32 x_0 rfl (rx_0_4 _) d_PA_tells_57 60 rfl ?_
          refine ax_aload_n 0 d_PA_tells_60 rfl rfl 61 rfl ?_
          refine ok_tb h (fun t3 ht3 et3 h => ?_)
          refine ax_getR fl_PA_71 x_0 rfl (ry_0 et3) d_PA_tells_61 64 rfl ?_
          refine ax_getR fl_PA_146 (sx_Table ht3) rfl (ro_Table_1 ht3 _) d_PA_tells_64 67 rfl ?_
          refine ax_iconst 0 d_PA_tells_67 ic_0 68 rfl ?_
          refine ax_iaload (sa_Table_1 ht3) d_PA_tells_68 69 rfl h (fun i4 h => ?_)
          refine ax_callV mv_PA_328 ⟨Nat.le_of_ble_eq_true rfl, Nat.le_of_ble_eq_true rfl⟩ ⟨rfl, rfl⟩ [.ref 24, .int (p2.1 (t3 + 1) i4)] [.int (p2.1 (t3 + 1) i4), .ref 24, .ref 48] rfl rfl (rc_x_48 _) (Nat.le_of_ble_eq_true rfl) d_PA_tells_69 72 rfl (zc_Sight_tellingState (p2.1 (t3 + 1) i4) p2 (ok_b h (fun p5 h => ?_)))
          refine ax_istore_n (ls1 := [(2, .int p5.1), (0, .ref 0), (1, .int v1)]) d_PA_tells_72 rfl (Nat.le_of_ble_eq_true rfl) rfl 73 rfl ?_
          refine ax_iload_n 2 d_PA_tells_73 rfl rfl 74 rfl ?_
          refine ax_if_ne 81 77 d_PA_tells_74 rfl rfl (fun hc => ?_) (fun hc => ?_)
          · have h := ok_f hc h
            refine ax_aload_n 1 d_PA_tells_81 rfl rfl 82 rfl ?_
            refine ax_getR fl_PA_39 x_0 rfl (rx_0_5 _) d_PA_tells_82 85 rfl ?_
            refine ax_aload_n 1 d_PA_tells_85 rfl rfl 86 rfl ?_
            refine ax_getR fl_PA_32 x_0 rfl (rx_0_4 _) d_PA_tells_86 89 rfl ?_
            refine ax_iload_n 0 d_PA_tells_89 rfl rfl 90 rfl ?_
            refine ax_callV mv_PA_332 ⟨Nat.le_of_ble_eq_true rfl, Nat.le_of_ble_eq_true rfl⟩ ⟨rfl, rfl⟩ [.ref 24, .int p5.1] [.int p5.1, .ref 24, .ref 48] rfl rfl (rc_x_48 _) (Nat.le_of_ble_eq_true rfl) d_PA_tells_90 93 rfl (zc_Sight_mostLeft p5.1 p5.2 (ok_b h (fun p6 h => ?_)))
            exact ax_iret rfl d_PA_tells_93 (hR (p6.1, p6.2) (ok_some h))
          · have h := ok_t hc h
            refine ax_iload_n 0 d_PA_tells_77 rfl rfl 78 rfl ?_
            refine ax_goto 93 d_PA_tells_78 rfl ?_
            exact ax_iret rfl d_PA_tells_93 (hR (p5.1, p5.2) (ok_some h))
        · have h := ok_t hc h
          refine ax_iconst (-1) d_PA_tells_50 ic_m1 51 rfl ?_
          exact ax_iret rfl d_PA_tells_51 (hR ((-1), p2) (ok_some h))
      · have h := ok_f hc h
        refine ax_iconst (-1) d_PA_tells_16 ic_m1 17 rfl ?_
        exact ax_iret rfl d_PA_tells_17 (hR ((-1), m) (ok_some h))
set_option maxRecDepth 4000 in
theorem c_Bytes_addName_J26 (v0 : Nat) (v1 : Int32) (v2 : Int32) (m : zM) (hv0 : v0 ∈ li_Bytes) {Q : Option Value → zM → Prop} {K : ((zM) ⊕ (Int32 × zM)) → Prop} (hR : ∀ p : zM, K (.inl p) → Q none p) (h0 : ∀ s : Int32 × zM, K (.inr s) → AX gX s_Bytes_addName 2 [(0, .ref v0), (1, .int v1), (2, .int s.1)] [] s.2 Q) (h : ok (f_Bytes_addName_J26 v0 v1 v2 m) K) : AX gX s_Bytes_addName 26 [(0, .ref v0), (1, .int v1), (2, .int v2)] [] m Q := by
  unfold f_Bytes_addName_J26 at h
  refine ax_iinc (ls1 := [(2, .int (v2 + 1)), (0, .ref v0), (1, .int v1)]) 2 1 d_Bytes_addName_26 rfl ic_1 (Nat.le_of_ble_eq_true rfl) rfl 29 rfl ?_
  refine ax_goto 2 d_Bytes_addName_29 rfl ?_
  exact ax_sub [1, 2, 0] rfl (h0 ((v2 + 1), m) (ok_some h))
set_option maxRecDepth 4000 in
theorem c_Bytes_addName_B2 (v0 : Nat) (v1 : Int32) (v2 : Int32) (m : zM) (hv0 : v0 ∈ li_Bytes) {Q : Option Value → zM → Prop} {K : ((zM) ⊕ (Int32 × zM)) → Prop} (hR : ∀ p : zM, K (.inl p) → Q none p) (h0 : ∀ s : Int32 × zM, K (.inr s) → AX gX s_Bytes_addName 2 [(0, .ref v0), (1, .int v1), (2, .int s.1)] [] s.2 Q) (h : ok (f_Bytes_addName_B2 v0 v1 v2 m) K) : AX gX s_Bytes_addName 2 [(0, .ref v0), (1, .int v1), (2, .int v2)] [] m Q := by
  unfold f_Bytes_addName_B2 at h
  refine ax_iload_n 2 d_Bytes_addName_2 rfl rfl 3 rfl ?_
  refine ax_bipush 6 d_Bytes_addName_3 bp_6 5 rfl ?_
  refine ax_icmp_ge 32 8 d_Bytes_addName_5 rfl rfl (fun hc => ?_) (fun hc => ?_)
  · have h := ok_t hc h
    exact ax_vret rfl d_Bytes_addName_32 (hR m (ok_some h))
  · have h := ok_f hc h
    refine ax_iload_n 1 d_Bytes_addName_8 rfl rfl 9 rfl ?_
    refine ax_iload_n 2 d_Bytes_addName_9 rfl rfl 10 rfl ?_
    refine ax_callS mv_Bytes_23 ⟨Nat.le_of_ble_eq_true rfl, Nat.le_of_ble_eq_true rfl⟩ ⟨rfl, rfl⟩ [.int v1, .int v2] [.int v2, .int v1] rfl rfl (Nat.le_of_ble_eq_true rfl) d_Bytes_addName_10 13 rfl (zc_PA_letterOf v1 v2 m ?_)
    refine ax_istore_n (ls1 := [(3, .int (f_PA_letterOf v1 v2)), (0, .ref v0), (1, .int v1), (2, .int v2)]) d_Bytes_addName_13 rfl (Nat.le_of_ble_eq_true rfl) rfl 14 rfl ?_
    refine ax_iload_n 0 d_Bytes_addName_14 rfl rfl 15 rfl ?_
    refine ax_if_le 26 18 d_Bytes_addName_15 rfl rfl (fun hc => ?_) (fun hc => ?_)
    · have h := ok_t hc h
      exact ax_sub [1, 2, 3] rfl (c_Bytes_addName_J26 v0 v1 v2 m hv0 (fun p hp => hR p hp) (fun s hs => h0 s hs) h)
    · have h := ok_f hc h
      refine ax_aload_n 1 d_Bytes_addName_18 rfl rfl 19 rfl ?_
      refine ax_bipush 96 d_Bytes_addName_19 bp_96 21 rfl ?_
      refine ax_iload_n 0 d_Bytes_addName_21 rfl rfl 22 rfl ?_
      refine ax_iadd d_Bytes_addName_22 23 rfl ?_
      refine ax_callV mv_Bytes_19 ⟨Nat.le_of_ble_eq_true rfl, Nat.le_of_ble_eq_true rfl⟩ ⟨rfl, rfl⟩ [.int (96 + (f_PA_letterOf v1 v2))] [.int (96 + (f_PA_letterOf v1 v2)), .ref v0] rfl rfl (rc_Bytes hv0 _) (Nat.le_of_ble_eq_true rfl) d_Bytes_addName_23 26 rfl (zc_Bytes_add v0 (96 + (f_PA_letterOf v1 v2)) m hv0 (ok_b h (fun p1 h => ?_)))
      exact ax_sub [1, 2, 3] rfl (c_Bytes_addName_J26 v0 v1 v2 p1 hv0 (fun p hp => hR p hp) (fun s hs => h0 s hs) h)
theorem c_Bytes_addName_L2 (v0 : Nat) (v1 : Int32) (v2 : Int32) (m : zM) (hv0 : v0 ∈ li_Bytes) {Q : Option Value → zM → Prop} {K : zM → Prop} (hR : ∀ p : zM, K (p) → Q none p)  (h : ok (f_Bytes_addName_L2 v0 v1 v2 m) K) : AX gX s_Bytes_addName 2 [(0, .ref v0), (1, .int v1), (2, .int v2)] [] m Q :=
  ok_lp (K := K) (G := fun s : Int32 × zM => AX gX s_Bytes_addName 2 [(0, .ref v0), (1, .int v1), (2, .int s.1)] [] s.2 Q) (fun s h => c_Bytes_addName_B2 v0 v1 s.1 s.2 hv0 (fun p hp => hR p hp) (fun s hs => hs) h) FU (v2, m) h
set_option maxRecDepth 4000 in
theorem zc_Bytes_addName (v0 : Nat) (v1 : Int32) (m : zM) (hv0 : v0 ∈ li_Bytes) {Q : Option Value → zM → Prop} (h : ok (f_Bytes_addName v0 v1 m) (fun p => Q none p)) : zc gX s_Bytes_addName [.ref v0, .int v1] m Q := by
  refine zc_of rfl (Nat.le_of_ble_eq_true rfl) ?_
  show AX gX s_Bytes_addName 0 [(0, .ref v0), (1, .int v1)] [] m Q
  obtain ⟨K, hK⟩ : ∃ K : zM → Prop, K = (fun p : zM => Q none p) := ⟨_, rfl⟩
  have hR : ∀ p : zM, K p → Q none p := fun p hp => by rw [hK] at hp; exact hp
  replace h : ok (f_Bytes_addName v0 v1 m) (fun p : zM => Q none p) := h
  rw [← hK] at h
  unfold f_Bytes_addName at h
  refine ax_iconst 0 d_Bytes_addName_0 ic_0 1 rfl ?_
  refine ax_istore_n (ls1 := [(2, .int 0), (0, .ref v0), (1, .int v1)]) d_Bytes_addName_1 rfl (Nat.le_of_ble_eq_true rfl) rfl 2 rfl ?_
  exact ax_sub [1, 2, 0] rfl (c_Bytes_addName_L2 v0 v1 0 m hv0 (fun p hp => hR p hp) h)
set_option maxRecDepth 4000 in
theorem c_PA_writeAgent_J93 (v1 : Int32) (v2 : Nat) (m : zM) (hv2 : v2 ∈ li_Bytes) {Q : Option Value → zM → Prop} {K : zM → Prop} (hR : ∀ p : zM, K (p) → Q none p)  (h : ok (f_PA_writeAgent_J93 v1 v2 m) K) : AX gX s_PA_writeAgent 93 [(0, .ref 0), (1, .int v1), (2, .ref v2)] [] m Q := by
  unfold f_PA_writeAgent_J93 at h
  refine ax_iload_n 1 d_PA_writeAgent_93 rfl rfl 94 rfl ?_
  refine ax_iconst 3 d_PA_writeAgent_94 ic_3 95 rfl ?_
  refine ax_callS mv_PA_229 ⟨Nat.le_of_ble_eq_true rfl, Nat.le_of_ble_eq_true rfl⟩ ⟨rfl, rfl⟩ [.int v1, .int 3] [.int 3, .int v1] rfl rfl (Nat.le_of_ble_eq_true rfl) d_PA_writeAgent_95 98 rfl (zc_PA_held v1 3 m ?_)
  refine ax_iconst (-1) d_PA_writeAgent_98 ic_m1 99 rfl ?_
  refine ax_icmp_eq 125 102 d_PA_writeAgent_99 rfl rfl (fun hc => ?_) (fun hc => ?_)
  · have h := ok_t hc h
    exact ax_vret rfl d_PA_writeAgent_125 (hR m (ok_some h))
  · have h := ok_f hc h
    refine ax_aload_n 2 d_PA_writeAgent_102 rfl rfl 103 rfl ?_
    refine ax_bipush 33 d_PA_writeAgent_103 bp_33 105 rfl ?_
    refine ax_callV mv_PA_346 ⟨Nat.le_of_ble_eq_true rfl, Nat.le_of_ble_eq_true rfl⟩ ⟨rfl, rfl⟩ [.int 33] [.int 33, .ref v2] rfl rfl (rc_Bytes hv2 _) (Nat.le_of_ble_eq_true rfl) d_PA_writeAgent_105 108 rfl (zc_Bytes_add v2 33 m hv2 (ok_b h (fun p13 h => ?_)))
    refine ax_aload_n 2 d_PA_writeAgent_108 rfl rfl 109 rfl ?_
    refine ax_aload_n 0 d_PA_writeAgent_109 rfl rfl 110 rfl ?_
    refine ok_tb h (fun t14 ht14 et14 h => ?_)
    refine ax_getR fl_PA_71 x_0 rfl (ry_0 et14) d_PA_writeAgent_110 113 rfl ?_
    refine ax_iconst 2 d_PA_writeAgent_113 ic_2 114 rfl ?_
    refine ax_iload_n 1 d_PA_writeAgent_114 rfl rfl 115 rfl ?_
    refine ax_iconst 3 d_PA_writeAgent_115 ic_3 116 rfl ?_
    refine ax_callS mv_PA_229 ⟨Nat.le_of_ble_eq_true rfl, Nat.le_of_ble_eq_true rfl⟩ ⟨rfl, rfl⟩ [.int v1, .int 3] [.int 3, .int v1, .int 2, .ref t14, .ref v2] rfl rfl (Nat.le_of_ble_eq_true rfl) d_PA_writeAgent_116 119 rfl (zc_PA_held v1 3 p13 ?_)
    refine ax_callV mv_PA_174 ⟨Nat.le_of_ble_eq_true rfl, Nat.le_of_ble_eq_true rfl⟩ ⟨rfl, rfl⟩ [.int 2, .int (f_PA_held v1 3)] [.int (f_PA_held v1 3), .int 2, .ref t14, .ref v2] rfl rfl (rc_Table ht14 _) (Nat.le_of_ble_eq_true rfl) d_PA_writeAgent_119 122 rfl (zc_Table_name t14 2 (f_PA_held v1 3) p13 ht14 (ok_b h (fun r15 h => ?_)))
    refine ax_callV mv_PA_380 ⟨Nat.le_of_ble_eq_true rfl, Nat.le_of_ble_eq_true rfl⟩ ⟨rfl, rfl⟩ [.int r15] [.int r15, .ref v2] rfl rfl (rc_Bytes hv2 _) (Nat.le_of_ble_eq_true rfl) d_PA_writeAgent_122 125 rfl (zc_Bytes_addName v2 r15 p13 hv2 (ok_b h (fun p16 h => ?_)))
    exact ax_vret rfl d_PA_writeAgent_125 (hR p16 (ok_some h))
set_option maxRecDepth 4000 in
theorem c_PA_writeAgent_J87 (v1 : Int32) (v2 : Nat) (m : zM) (hv2 : v2 ∈ li_Bytes) {Q : Option Value → zM → Prop} {K : zM → Prop} (hR : ∀ p : zM, K (p) → Q none p)  (h : ok (f_PA_writeAgent_J87 v1 v2 m) K) : AX gX s_PA_writeAgent 87 [(0, .ref 0), (1, .int v1), (2, .ref v2)] [] m Q := by
  unfold f_PA_writeAgent_J87 at h
  refine ax_aload_n 2 d_PA_writeAgent_87 rfl rfl 88 rfl ?_
  refine ax_bipush 62 d_PA_writeAgent_88 bp_62 90 rfl ?_
  refine ax_callV mv_PA_346 ⟨Nat.le_of_ble_eq_true rfl, Nat.le_of_ble_eq_true rfl⟩ ⟨rfl, rfl⟩ [.int 62] [.int 62, .ref v2] rfl rfl (rc_Bytes hv2 _) (Nat.le_of_ble_eq_true rfl) d_PA_writeAgent_90 93 rfl (zc_Bytes_add v2 62 m hv2 (ok_b h (fun p17 h => ?_)))
  exact ax_sub [0, 1, 2] rfl (c_PA_writeAgent_J93 v1 v2 p17 hv2 (fun p hp => hR p hp) h)
set_option maxRecDepth 4000 in
theorem zc_PA_writeAgent (v1 : Int32) (v2 : Nat) (m : zM) (hv2 : v2 ∈ li_Bytes) {Q : Option Value → zM → Prop} (h : ok (f_PA_writeAgent v1 v2 m) (fun p => Q none p)) : zc gX s_PA_writeAgent [.ref 0, .int v1, .ref v2] m Q := by
  refine zc_of rfl (Nat.le_of_ble_eq_true rfl) ?_
  show AX gX s_PA_writeAgent 0 [(0, .ref 0), (1, .int v1), (2, .ref v2)] [] m Q
  obtain ⟨K, hK⟩ : ∃ K : zM → Prop, K = (fun p : zM => Q none p) := ⟨_, rfl⟩
  have hR : ∀ p : zM, K p → Q none p := fun p hp => by rw [hK] at hp; exact hp
  replace h : ok (f_PA_writeAgent v1 v2 m) (fun p : zM => Q none p) := h
  rw [← hK] at h
  unfold f_PA_writeAgent at h
  refine ax_aload_n 2 d_PA_writeAgent_0 rfl rfl 1 rfl ?_
  refine ax_bipush 32 d_PA_writeAgent_1 bp_32 3 rfl ?_
  refine ax_callV mv_PA_346 ⟨Nat.le_of_ble_eq_true rfl, Nat.le_of_ble_eq_true rfl⟩ ⟨rfl, rfl⟩ [.int 32] [.int 32, .ref v2] rfl rfl (rc_Bytes hv2 _) (Nat.le_of_ble_eq_true rfl) d_PA_writeAgent_3 6 rfl (zc_Bytes_add v2 32 m hv2 (ok_b h (fun p1 h => ?_)))
  refine ax_aload_n 2 d_PA_writeAgent_6 rfl rfl 7 rfl ?_
  refine ax_aload_n 0 d_PA_writeAgent_7 rfl rfl 8 rfl ?_
  refine ok_tb h (fun t2 ht2 et2 h => ?_)
  refine ax_getR fl_PA_71 x_0 rfl (ry_0 et2) d_PA_writeAgent_8 11 rfl ?_
  refine ax_iconst 0 d_PA_writeAgent_11 ic_0 12 rfl ?_
  refine ax_iload_n 1 d_PA_writeAgent_12 rfl rfl 13 rfl ?_
  refine ax_iconst 0 d_PA_writeAgent_13 ic_0 14 rfl ?_
  refine ax_callS mv_PA_229 ⟨Nat.le_of_ble_eq_true rfl, Nat.le_of_ble_eq_true rfl⟩ ⟨rfl, rfl⟩ [.int v1, .int 0] [.int 0, .int v1, .int 0, .ref t2, .ref v2] rfl rfl (Nat.le_of_ble_eq_true rfl) d_PA_writeAgent_14 17 rfl (zc_PA_held v1 0 p1 ?_)
  refine ax_callV mv_PA_174 ⟨Nat.le_of_ble_eq_true rfl, Nat.le_of_ble_eq_true rfl⟩ ⟨rfl, rfl⟩ [.int 0, .int (f_PA_held v1 0)] [.int (f_PA_held v1 0), .int 0, .ref t2, .ref v2] rfl rfl (rc_Table ht2 _) (Nat.le_of_ble_eq_true rfl) d_PA_writeAgent_17 20 rfl (zc_Table_name t2 0 (f_PA_held v1 0) p1 ht2 (ok_b h (fun r3 h => ?_)))
  refine ax_callV mv_PA_380 ⟨Nat.le_of_ble_eq_true rfl, Nat.le_of_ble_eq_true rfl⟩ ⟨rfl, rfl⟩ [.int r3] [.int r3, .ref v2] rfl rfl (rc_Bytes hv2 _) (Nat.le_of_ble_eq_true rfl) d_PA_writeAgent_20 23 rfl (zc_Bytes_addName v2 r3 p1 hv2 (ok_b h (fun p4 h => ?_)))
  refine ax_iload_n 1 d_PA_writeAgent_23 rfl rfl 24 rfl ?_
  refine ax_iconst 1 d_PA_writeAgent_24 ic_1 25 rfl ?_
  refine ax_callS mv_PA_229 ⟨Nat.le_of_ble_eq_true rfl, Nat.le_of_ble_eq_true rfl⟩ ⟨rfl, rfl⟩ [.int v1, .int 1] [.int 1, .int v1] rfl rfl (Nat.le_of_ble_eq_true rfl) d_PA_writeAgent_25 28 rfl (zc_PA_held v1 1 p4 ?_)
  refine ax_iconst (-1) d_PA_writeAgent_28 ic_m1 29 rfl ?_
  refine ax_icmp_eq 93 32 d_PA_writeAgent_29 rfl rfl (fun hc => ?_) (fun hc => ?_)
  · have h := ok_t hc h
    exact ax_sub [0, 1, 2] rfl (c_PA_writeAgent_J93 v1 v2 p4 hv2 (fun p hp => hR p hp) h)
  · have h := ok_f hc h
    refine ax_aload_n 2 d_PA_writeAgent_32 rfl rfl 33 rfl ?_
    refine ax_bipush 60 d_PA_writeAgent_33 bp_60 35 rfl ?_
    refine ax_callV mv_PA_346 ⟨Nat.le_of_ble_eq_true rfl, Nat.le_of_ble_eq_true rfl⟩ ⟨rfl, rfl⟩ [.int 60] [.int 60, .ref v2] rfl rfl (rc_Bytes hv2 _) (Nat.le_of_ble_eq_true rfl) d_PA_writeAgent_35 38 rfl (zc_Bytes_add v2 60 p4 hv2 (ok_b h (fun p5 h => ?_)))
    refine ax_aload_n 2 d_PA_writeAgent_38 rfl rfl 39 rfl ?_
    refine ax_aload_n 0 d_PA_writeAgent_39 rfl rfl 40 rfl ?_
    refine ok_tb h (fun t6 ht6 et6 h => ?_)
    refine ax_getR fl_PA_71 x_0 rfl (ry_0 et6) d_PA_writeAgent_40 43 rfl ?_
    refine ax_iconst 2 d_PA_writeAgent_43 ic_2 44 rfl ?_
    refine ax_iload_n 1 d_PA_writeAgent_44 rfl rfl 45 rfl ?_
    refine ax_iconst 1 d_PA_writeAgent_45 ic_1 46 rfl ?_
    refine ax_callS mv_PA_229 ⟨Nat.le_of_ble_eq_true rfl, Nat.le_of_ble_eq_true rfl⟩ ⟨rfl, rfl⟩ [.int v1, .int 1] [.int 1, .int v1, .int 2, .ref t6, .ref v2] rfl rfl (Nat.le_of_ble_eq_true rfl) d_PA_writeAgent_46 49 rfl (zc_PA_held v1 1 p5 ?_)
    refine ax_callV mv_PA_174 ⟨Nat.le_of_ble_eq_true rfl, Nat.le_of_ble_eq_true rfl⟩ ⟨rfl, rfl⟩ [.int 2, .int (f_PA_held v1 1)] [.int (f_PA_held v1 1), .int 2, .ref t6, .ref v2] rfl rfl (rc_Table ht6 _) (Nat.le_of_ble_eq_true rfl) d_PA_writeAgent_49 52 rfl (zc_Table_name t6 2 (f_PA_held v1 1) p5 ht6 (ok_b h (fun r7 h => ?_)))
    refine ax_callV mv_PA_380 ⟨Nat.le_of_ble_eq_true rfl, Nat.le_of_ble_eq_true rfl⟩ ⟨rfl, rfl⟩ [.int r7] [.int r7, .ref v2] rfl rfl (rc_Bytes hv2 _) (Nat.le_of_ble_eq_true rfl) d_PA_writeAgent_52 55 rfl (zc_Bytes_addName v2 r7 p5 hv2 (ok_b h (fun p8 h => ?_)))
    refine ax_iload_n 1 d_PA_writeAgent_55 rfl rfl 56 rfl ?_
    refine ax_iconst 2 d_PA_writeAgent_56 ic_2 57 rfl ?_
    refine ax_callS mv_PA_229 ⟨Nat.le_of_ble_eq_true rfl, Nat.le_of_ble_eq_true rfl⟩ ⟨rfl, rfl⟩ [.int v1, .int 2] [.int 2, .int v1] rfl rfl (Nat.le_of_ble_eq_true rfl) d_PA_writeAgent_57 60 rfl (zc_PA_held v1 2 p8 ?_)
    refine ax_iconst (-1) d_PA_writeAgent_60 ic_m1 61 rfl ?_
    refine ax_icmp_eq 87 64 d_PA_writeAgent_61 rfl rfl (fun hc => ?_) (fun hc => ?_)
    · have h := ok_t hc h
      exact ax_sub [0, 1, 2] rfl (c_PA_writeAgent_J87 v1 v2 p8 hv2 (fun p hp => hR p hp) h)
    · have h := ok_f hc h
      refine ax_aload_n 2 d_PA_writeAgent_64 rfl rfl 65 rfl ?_
      refine ax_bipush 44 d_PA_writeAgent_65 bp_44 67 rfl ?_
      refine ax_callV mv_PA_346 ⟨Nat.le_of_ble_eq_true rfl, Nat.le_of_ble_eq_true rfl⟩ ⟨rfl, rfl⟩ [.int 44] [.int 44, .ref v2] rfl rfl (rc_Bytes hv2 _) (Nat.le_of_ble_eq_true rfl) d_PA_writeAgent_67 70 rfl (zc_Bytes_add v2 44 p8 hv2 (ok_b h (fun p9 h => ?_)))
      refine ax_aload_n 2 d_PA_writeAgent_70 rfl rfl 71 rfl ?_
      refine ax_aload_n 0 d_PA_writeAgent_71 rfl rfl 72 rfl ?_
      refine ok_tb h (fun t10 ht10 et10 h => ?_)
      refine ax_getR fl_PA_71 x_0 rfl (ry_0 et10) d_PA_writeAgent_72 75 rfl ?_
      refine ax_iconst 2 d_PA_writeAgent_75 ic_2 76 rfl ?_
      refine ax_iload_n 1 d_PA_writeAgent_76 rfl rfl 77 rfl ?_
      refine ax_iconst 2 d_PA_writeAgent_77 ic_2 78 rfl ?_
      refine ax_callS mv_PA_229 ⟨Nat.le_of_ble_eq_true rfl, Nat.le_of_ble_eq_true rfl⟩ ⟨rfl, rfl⟩ [.int v1, .int 2] [.int 2, .int v1, .int 2, .ref t10, .ref v2] rfl rfl (Nat.le_of_ble_eq_true rfl) d_PA_writeAgent_78 81 rfl (zc_PA_held v1 2 p9 ?_)
      refine ax_callV mv_PA_174 ⟨Nat.le_of_ble_eq_true rfl, Nat.le_of_ble_eq_true rfl⟩ ⟨rfl, rfl⟩ [.int 2, .int (f_PA_held v1 2)] [.int (f_PA_held v1 2), .int 2, .ref t10, .ref v2] rfl rfl (rc_Table ht10 _) (Nat.le_of_ble_eq_true rfl) d_PA_writeAgent_81 84 rfl (zc_Table_name t10 2 (f_PA_held v1 2) p9 ht10 (ok_b h (fun r11 h => ?_)))
      refine ax_callV mv_PA_380 ⟨Nat.le_of_ble_eq_true rfl, Nat.le_of_ble_eq_true rfl⟩ ⟨rfl, rfl⟩ [.int r11] [.int r11, .ref v2] rfl rfl (rc_Bytes hv2 _) (Nat.le_of_ble_eq_true rfl) d_PA_writeAgent_84 87 rfl (zc_Bytes_addName v2 r11 p9 hv2 (ok_b h (fun p12 h => ?_)))
      exact ax_sub [0, 1, 2] rfl (c_PA_writeAgent_J87 v1 v2 p12 hv2 (fun p hp => hR p hp) h)
set_option maxRecDepth 4000 in
theorem c_PA_write_B44 (v1 : Int32) (v2 : Nat) (v4 : Int32) (m : zM) (hv2 : v2 ∈ li_Bytes) {Q : Option Value → zM → Prop} {K : ((zM) ⊕ (Int32 × zM)) → Prop} (hR : ∀ p : zM, K (.inl p) → Q none p) (h0 : ∀ s : Int32 × zM, K (.inr s) → AX gX s_PA_write 44 [(0, .ref 0), (1, .int v1), (2, .ref v2), (4, .int s.1)] [] s.2 Q) (h : ok (f_PA_write_B44 v1 v2 v4 m) K) : AX gX s_PA_write 44 [(0, .ref 0), (1, .int v1), (2, .ref v2), (4, .int v4)] [] m Q := by
  unfold f_PA_write_B44 at h
  refine ax_iload 3 d_PA_write_44 rfl 46 rfl ?_
  refine ax_aload_n 0 d_PA_write_46 rfl rfl 47 rfl ?_
  refine ok_tb h (fun t7 ht7 et7 h => ?_)
  refine ax_getR fl_PA_71 x_0 rfl (ry_0 et7) d_PA_write_47 50 rfl ?_
  refine ax_getI fl_PA_143 (sx_Table ht7) rfl d_PA_write_50 53 rfl ?_
  refine ax_icmp_ge 81 56 d_PA_write_53 rfl rfl (fun hc => ?_) (fun hc => ?_)
  · have h := ok_t hc h
    exact ax_vret rfl d_PA_write_81 (hR m (ok_some h))
  · have h := ok_f hc h
    refine ax_aload_n 0 d_PA_write_56 rfl rfl 57 rfl ?_
    refine ax_aload_n 0 d_PA_write_57 rfl rfl 58 rfl ?_
    refine ax_getR fl_PA_32 x_0 rfl (rx_0_4 _) d_PA_write_58 61 rfl ?_
    refine ax_getR fl_PA_226 x_24 rfl (rx_24_9 _) d_PA_write_61 64 rfl ?_
    refine ax_iload_n 1 d_PA_write_64 rfl rfl 65 rfl ?_
    refine ax_iconst 4 d_PA_write_65 ic_4 66 rfl ?_
    refine ax_imul d_PA_write_66 67 rfl ?_
    refine ax_iload 3 d_PA_write_67 rfl 69 rfl ?_
    refine ax_iadd d_PA_write_69 70 rfl ?_
    refine ax_iaload x_34 d_PA_write_70 71 rfl h (fun i8 h => ?_)
    refine ax_aload_n 2 d_PA_write_71 rfl rfl 72 rfl ?_
    refine ax_callV mv_PA_383 ⟨Nat.le_of_ble_eq_true rfl, Nat.le_of_ble_eq_true rfl⟩ ⟨rfl, rfl⟩ [.int (m.1 34 i8), .ref v2] [.ref v2, .int (m.1 34 i8), .ref 0] rfl rfl (rc_x_0 _) (Nat.le_of_ble_eq_true rfl) d_PA_write_72 75 rfl (zc_PA_writeAgent (m.1 34 i8) v2 m hv2 (ok_b h (fun p9 h => ?_)))
    refine ax_iinc (ls1 := [(4, .int (v4 + 1)), (0, .ref 0), (1, .int v1), (2, .ref v2)]) 3 1 d_PA_write_75 rfl ic_1 (Nat.le_of_ble_eq_true rfl) rfl 78 rfl ?_
    refine ax_goto 44 d_PA_write_78 rfl ?_
    exact ax_sub [1, 2, 3, 0] rfl (h0 ((v4 + 1), p9) (ok_some h))
theorem c_PA_write_L44 (v1 : Int32) (v2 : Nat) (v4 : Int32) (m : zM) (hv2 : v2 ∈ li_Bytes) {Q : Option Value → zM → Prop} {K : zM → Prop} (hR : ∀ p : zM, K (p) → Q none p)  (h : ok (f_PA_write_L44 v1 v2 v4 m) K) : AX gX s_PA_write 44 [(0, .ref 0), (1, .int v1), (2, .ref v2), (4, .int v4)] [] m Q :=
  ok_lp (K := K) (G := fun s : Int32 × zM => AX gX s_PA_write 44 [(0, .ref 0), (1, .int v1), (2, .ref v2), (4, .int s.1)] [] s.2 Q) (fun s h => c_PA_write_B44 v1 v2 s.1 s.2 hv2 (fun p hp => hR p hp) (fun s hs => hs) h) FU (v4, m) h
set_option maxRecDepth 4000 in
theorem c_PA_write_J41 (v1 : Int32) (v2 : Nat) (m : zM) (hv2 : v2 ∈ li_Bytes) {Q : Option Value → zM → Prop} {K : zM → Prop} (hR : ∀ p : zM, K (p) → Q none p)  (h : ok (f_PA_write_J41 v1 v2 m) K) : AX gX s_PA_write 41 [(0, .ref 0), (1, .int v1), (2, .ref v2)] [] m Q := by
  unfold f_PA_write_J41 at h
  refine ax_iconst 0 d_PA_write_41 ic_0 42 rfl ?_
  refine ax_istore (ls1 := [(4, .int 0), (0, .ref 0), (1, .int v1), (2, .ref v2)]) d_PA_write_42 (Nat.le_of_ble_eq_true rfl) rfl 44 rfl ?_
  exact ax_sub [1, 2, 3, 0] rfl (c_PA_write_L44 v1 v2 0 m hv2 (fun p hp => hR p hp) h)
