set_option maxRecDepth 4000 in
theorem zc_Bytes_size (v0 : Nat) (m : zM) (hv0 : v0 ∈ li_Bytes) {Q : Option Value → zM → Prop} (h : Q (some (.int (f_Bytes_size v0 m))) m) : zc gX s_Bytes_size [.ref v0] m Q := by
  refine zc_of rfl (Nat.le_of_ble_eq_true rfl) ?_
  show AX gX s_Bytes_size 0 [(0, .ref v0)] [] m Q
  obtain ⟨K, hK⟩ : ∃ K : Int32 → Prop, K = (fun p : Int32 => Q (some (.int p)) m) := ⟨_, rfl⟩
  have hR : ∀ p : Int32, K p → Q (some (.int p)) m := fun p hp => by rw [hK] at hp; exact hp
  replace h : (fun p : Int32 => Q (some (.int p)) m) (f_Bytes_size v0 m) := h
  rw [← hK] at h
  unfold f_Bytes_size at h
  refine ax_aload_n 0 d_Bytes_size_0 rfl rfl 1 rfl ?_
  refine ax_getI fl_Bytes_15 (sx_Bytes hv0) rfl d_Bytes_size_1 4 rfl ?_
  exact ax_iret rfl d_Bytes_size_4 (hR (m.1 v0 1) h)
set_option maxRecDepth 4000 in
theorem zc_PA_refuse (v1 : Int32) (m : zM)  {Q : Option Value → zM → Prop} (h : ok (f_PA_refuse v1 m) (fun p => Q (some (.int p.1)) p.2)) : zc gX s_PA_refuse [.ref 0, .int v1] m Q := by
  refine zc_of rfl (Nat.le_of_ble_eq_true rfl) ?_
  show AX gX s_PA_refuse 0 [(0, .ref 0), (1, .int v1)] [] m Q
  obtain ⟨K, hK⟩ : ∃ K : (Int32 × zM) → Prop, K = (fun p : Int32 × zM => Q (some (.int p.1)) p.2) := ⟨_, rfl⟩
  have hR : ∀ p : Int32 × zM, K p → Q (some (.int p.1)) p.2 := fun p hp => by rw [hK] at hp; exact hp
  replace h : ok (f_PA_refuse v1 m) (fun p : Int32 × zM => Q (some (.int p.1)) p.2) := h
  rw [← hK] at h
  unfold f_PA_refuse at h
  refine ax_aload_n 0 d_PA_refuse_0 rfl rfl 1 rfl ?_
  refine ax_getR fl_PA_57 x_0 rfl (rx_0_9 _) d_PA_refuse_1 4 rfl ?_
  refine ax_iload_n 1 d_PA_refuse_4 rfl rfl 5 rfl ?_
  refine ax_dup2 d_PA_refuse_5 rfl rfl 6 rfl ?_
  refine ax_iaload x_64 d_PA_refuse_6 7 rfl h (fun i1 h => ?_)
  refine ax_iconst 1 d_PA_refuse_7 ic_1 8 rfl ?_
  refine ax_iadd d_PA_refuse_8 9 rfl ?_
  refine ax_iastore x_64 d_PA_refuse_9 10 rfl h (fun i2 m3 h => ?_)
  refine ax_iconst (-1) d_PA_refuse_10 ic_m1 11 rfl ?_
  exact ax_iret rfl d_PA_refuse_11 (hR ((-1), m3) (ok_some h))
set_option maxRecDepth 4000 in
theorem zc_Bytes_add (v0 : Nat) (v1 : Int32) (m : zM) (hv0 : v0 ∈ li_Bytes) {Q : Option Value → zM → Prop} (h : ok (f_Bytes_add v0 v1 m) (fun p => Q none p)) : zc gX s_Bytes_add [.ref v0, .int v1] m Q := by
  refine zc_of rfl (Nat.le_of_ble_eq_true rfl) ?_
  show AX gX s_Bytes_add 0 [(0, .ref v0), (1, .int v1)] [] m Q
  obtain ⟨K, hK⟩ : ∃ K : zM → Prop, K = (fun p : zM => Q none p) := ⟨_, rfl⟩
  have hR : ∀ p : zM, K p → Q none p := fun p hp => by rw [hK] at hp; exact hp
  replace h : ok (f_Bytes_add v0 v1 m) (fun p : zM => Q none p) := h
  rw [← hK] at h
  unfold f_Bytes_add at h
  refine ax_aload_n 0 d_Bytes_add_0 rfl rfl 1 rfl ?_
  refine ax_getI fl_Bytes_15 (sx_Bytes hv0) rfl d_Bytes_add_1 4 rfl ?_
  refine ax_sipush 1600 d_Bytes_add_4 sp_1600 7 rfl ?_
  refine ax_icmp_ge 34 10 d_Bytes_add_7 rfl rfl (fun hc => ?_) (fun hc => ?_)
  · have h := ok_t hc h
    exact ax_vret rfl d_Bytes_add_34 (hR m (ok_some h))
  · have h := ok_f hc h
    refine ax_aload_n 0 d_Bytes_add_10 rfl rfl 11 rfl ?_
    refine ax_getR fl_Bytes_9 (sx_Bytes hv0) rfl (ro_Bytes_0 hv0 _) d_Bytes_add_11 14 rfl ?_
    refine ax_aload_n 0 d_Bytes_add_14 rfl rfl 15 rfl ?_
    refine ax_getI fl_Bytes_15 (sx_Bytes hv0) rfl d_Bytes_add_15 18 rfl ?_
    refine ax_iload_n 1 d_Bytes_add_18 rfl rfl 19 rfl ?_
    refine ax_sipush 255 d_Bytes_add_19 sp_255 22 rfl ?_
    refine ax_iand d_Bytes_add_22 23 rfl ?_
    refine ax_iastore (sa_Bytes_0 hv0) d_Bytes_add_23 24 rfl h (fun i1 m2 h => ?_)
    refine ax_aload_n 0 d_Bytes_add_24 rfl rfl 25 rfl ?_
    refine ax_dup d_Bytes_add_25 rfl 26 rfl ?_
    refine ax_getI fl_Bytes_15 (sx_Bytes hv0) rfl d_Bytes_add_26 29 rfl ?_
    refine ax_iconst 1 d_Bytes_add_29 ic_1 30 rfl ?_
    refine ax_iadd d_Bytes_add_30 31 rfl ?_
    refine ax_putI (K := K) fl_Bytes_15 (sx_Bytes hv0) rfl rfl rfl (Nat.le_of_ble_eq_true rfl) d_Bytes_add_31 34 rfl h (fun m3 h => ?_)
    exact ax_vret rfl d_Bytes_add_34 (hR m3 (ok_some h))
set_option maxRecDepth 4000 in
theorem c_Bytes_addNumber_B3 (v0 : Nat) (v1 : Int32) (v2 : Int32) (m : zM) (hv0 : v0 ∈ li_Bytes) {Q : Option Value → zM → Prop} {K : ((zM) ⊕ (Int32 × zM)) → Prop} (hR : ∀ p : zM, K (.inl p) → Q none p) (h0 : ∀ s : Int32 × zM, K (.inr s) → AX gX s_Bytes_addNumber 3 [(0, .ref v0), (1, .int v1), (2, .int s.1)] [] s.2 Q) (h : ok (f_Bytes_addNumber_B3 v0 v1 v2 m) K) : AX gX s_Bytes_addNumber 3 [(0, .ref v0), (1, .int v1), (2, .int v2)] [] m Q := by
  unfold f_Bytes_addNumber_B3 at h
  refine ax_iload_n 2 d_Bytes_addNumber_3 rfl rfl 4 rfl ?_
  refine ax_if_lt 20 7 d_Bytes_addNumber_4 rfl rfl (fun hc => ?_) (fun hc => ?_)
  · have h := ok_t hc h
    exact ax_vret rfl d_Bytes_addNumber_20 (hR m (ok_some h))
  · have h := ok_f hc h
    refine ax_aload_n 0 d_Bytes_addNumber_7 rfl rfl 8 rfl ?_
    refine ax_iload_n 1 d_Bytes_addNumber_8 rfl rfl 9 rfl ?_
    refine ax_iload_n 2 d_Bytes_addNumber_9 rfl rfl 10 rfl ?_
    refine ax_ishr d_Bytes_addNumber_10 11 rfl ?_
    refine ax_callV mv_Bytes_19 ⟨Nat.le_of_ble_eq_true rfl, Nat.le_of_ble_eq_true rfl⟩ ⟨rfl, rfl⟩ [.int (shr v1 v2)] [.int (shr v1 v2), .ref v0] rfl rfl (rc_Bytes hv0 _) (Nat.le_of_ble_eq_true rfl) d_Bytes_addNumber_11 14 rfl (zc_Bytes_add v0 (shr v1 v2) m hv0 (ok_b h (fun p1 h => ?_)))
    refine ax_iinc (ls1 := [(2, .int (v2 + (-8))), (0, .ref v0), (1, .int v1)]) 2 (-8) d_Bytes_addNumber_14 rfl ic_m8 (Nat.le_of_ble_eq_true rfl) rfl 17 rfl ?_
    refine ax_goto 3 d_Bytes_addNumber_17 rfl ?_
    exact ax_sub [1, 2, 0] rfl (h0 ((v2 + (-8)), p1) (ok_some h))
theorem c_Bytes_addNumber_L3 (v0 : Nat) (v1 : Int32) (v2 : Int32) (m : zM) (hv0 : v0 ∈ li_Bytes) {Q : Option Value → zM → Prop} {K : zM → Prop} (hR : ∀ p : zM, K (p) → Q none p)  (h : ok (f_Bytes_addNumber_L3 v0 v1 v2 m) K) : AX gX s_Bytes_addNumber 3 [(0, .ref v0), (1, .int v1), (2, .int v2)] [] m Q :=
  ok_lp (K := K) (G := fun s : Int32 × zM => AX gX s_Bytes_addNumber 3 [(0, .ref v0), (1, .int v1), (2, .int s.1)] [] s.2 Q) (fun s h => c_Bytes_addNumber_B3 v0 v1 s.1 s.2 hv0 (fun p hp => hR p hp) (fun s hs => hs) h) FU (v2, m) h
set_option maxRecDepth 4000 in
theorem zc_Bytes_addNumber (v0 : Nat) (v1 : Int32) (m : zM) (hv0 : v0 ∈ li_Bytes) {Q : Option Value → zM → Prop} (h : ok (f_Bytes_addNumber v0 v1 m) (fun p => Q none p)) : zc gX s_Bytes_addNumber [.ref v0, .int v1] m Q := by
  refine zc_of rfl (Nat.le_of_ble_eq_true rfl) ?_
  show AX gX s_Bytes_addNumber 0 [(0, .ref v0), (1, .int v1)] [] m Q
  obtain ⟨K, hK⟩ : ∃ K : zM → Prop, K = (fun p : zM => Q none p) := ⟨_, rfl⟩
  have hR : ∀ p : zM, K p → Q none p := fun p hp => by rw [hK] at hp; exact hp
  replace h : ok (f_Bytes_addNumber v0 v1 m) (fun p : zM => Q none p) := h
  rw [← hK] at h
  unfold f_Bytes_addNumber at h
  refine ax_bipush 24 d_Bytes_addNumber_0 bp_24 2 rfl ?_
  refine ax_istore_n (ls1 := [(2, .int 24), (0, .ref v0), (1, .int v1)]) d_Bytes_addNumber_2 rfl (Nat.le_of_ble_eq_true rfl) rfl 3 rfl ?_
  exact ax_sub [1, 2, 0] rfl (c_Bytes_addNumber_L3 v0 v1 24 m hv0 (fun p hp => hR p hp) h)
set_option maxRecDepth 4000 in
theorem zc_PA_feed (v1 : Int32) (v2 : Int32) (v3 : Int32) (v4 : Int32) (v5 : Int32) (m : zM)  {Q : Option Value → zM → Prop} (h : ok (f_PA_feed v1 v2 v3 v4 v5 m) (fun p => Q (some (.int p.1)) p.2)) : zc gX s_PA_feed [.ref 0, .int v1, .int v2, .int v3, .int v4, .int v5] m Q := by
  refine zc_of rfl (Nat.le_of_ble_eq_true rfl) ?_
  show AX gX s_PA_feed 0 [(0, .ref 0), (1, .int v1), (2, .int v2), (3, .int v3), (4, .int v4), (5, .int v5)] [] m Q
  obtain ⟨K, hK⟩ : ∃ K : (Int32 × zM) → Prop, K = (fun p : Int32 × zM => Q (some (.int p.1)) p.2) := ⟨_, rfl⟩
  have hR : ∀ p : Int32 × zM, K p → Q (some (.int p.1)) p.2 := fun p hp => by rw [hK] at hp; exact hp
  replace h : ok (f_PA_feed v1 v2 v3 v4 v5 m) (fun p : Int32 × zM => Q (some (.int p.1)) p.2) := h
  rw [← hK] at h
  unfold f_PA_feed at h
  refine ax_aload_n 0 d_PA_feed_0 rfl rfl 1 rfl ?_
  refine ax_getR fl_PA_12 x_0 rfl (rx_0_0 _) d_PA_feed_1 4 rfl ?_
  refine ax_callV mv_PA_96 ⟨Nat.le_of_ble_eq_true rfl, Nat.le_of_ble_eq_true rfl⟩ ⟨rfl, rfl⟩ [] [.ref 1] rfl rfl (rc_Bytes in_1 _) (Nat.le_of_ble_eq_true rfl) d_PA_feed_4 7 rfl (zc_Bytes_size 1 m in_1 ?_)
  refine ax_bipush 20 d_PA_feed_7 bp_20 9 rfl ?_
  refine ax_iadd d_PA_feed_9 10 rfl ?_
  refine ax_sipush 1600 d_PA_feed_10 sp_1600 13 rfl ?_
  refine ax_icmp_le 22 16 d_PA_feed_13 rfl rfl (fun hc => ?_) (fun hc => ?_)
  · have h := ok_t hc h
    refine ax_aload_n 0 d_PA_feed_22 rfl rfl 23 rfl ?_
    refine ax_getR fl_PA_12 x_0 rfl (rx_0_0 _) d_PA_feed_23 26 rfl ?_
    refine ax_iload_n 1 d_PA_feed_26 rfl rfl 27 rfl ?_
    refine ax_callV mv_PA_104 ⟨Nat.le_of_ble_eq_true rfl, Nat.le_of_ble_eq_true rfl⟩ ⟨rfl, rfl⟩ [.int v1] [.int v1, .ref 1] rfl rfl (rc_Bytes in_1 _) (Nat.le_of_ble_eq_true rfl) d_PA_feed_27 30 rfl (zc_Bytes_addNumber 1 v1 m in_1 (ok_b h (fun p1 h => ?_)))
    refine ax_aload_n 0 d_PA_feed_30 rfl rfl 31 rfl ?_
    refine ax_getR fl_PA_12 x_0 rfl (rx_0_0 _) d_PA_feed_31 34 rfl ?_
    refine ax_iload_n 2 d_PA_feed_34 rfl rfl 35 rfl ?_
    refine ax_callV mv_PA_104 ⟨Nat.le_of_ble_eq_true rfl, Nat.le_of_ble_eq_true rfl⟩ ⟨rfl, rfl⟩ [.int v2] [.int v2, .ref 1] rfl rfl (rc_Bytes in_1 _) (Nat.le_of_ble_eq_true rfl) d_PA_feed_35 38 rfl (zc_Bytes_addNumber 1 v2 p1 in_1 (ok_b h (fun p2 h => ?_)))
    refine ax_aload_n 0 d_PA_feed_38 rfl rfl 39 rfl ?_
    refine ax_getR fl_PA_12 x_0 rfl (rx_0_0 _) d_PA_feed_39 42 rfl ?_
    refine ax_iload_n 3 d_PA_feed_42 rfl rfl 43 rfl ?_
    refine ax_callV mv_PA_104 ⟨Nat.le_of_ble_eq_true rfl, Nat.le_of_ble_eq_true rfl⟩ ⟨rfl, rfl⟩ [.int v3] [.int v3, .ref 1] rfl rfl (rc_Bytes in_1 _) (Nat.le_of_ble_eq_true rfl) d_PA_feed_43 46 rfl (zc_Bytes_addNumber 1 v3 p2 in_1 (ok_b h (fun p3 h => ?_)))
    refine ax_aload_n 0 d_PA_feed_46 rfl rfl 47 rfl ?_
    refine ax_getR fl_PA_12 x_0 rfl (rx_0_0 _) d_PA_feed_47 50 rfl ?_
    refine ax_iload 4 d_PA_feed_50 rfl 52 rfl ?_
    refine ax_callV mv_PA_104 ⟨Nat.le_of_ble_eq_true rfl, Nat.le_of_ble_eq_true rfl⟩ ⟨rfl, rfl⟩ [.int v4] [.int v4, .ref 1] rfl rfl (rc_Bytes in_1 _) (Nat.le_of_ble_eq_true rfl) d_PA_feed_52 55 rfl (zc_Bytes_addNumber 1 v4 p3 in_1 (ok_b h (fun p4 h => ?_)))
    refine ax_aload_n 0 d_PA_feed_55 rfl rfl 56 rfl ?_
    refine ax_getR fl_PA_12 x_0 rfl (rx_0_0 _) d_PA_feed_56 59 rfl ?_
    refine ax_iload 5 d_PA_feed_59 rfl 61 rfl ?_
    refine ax_callV mv_PA_104 ⟨Nat.le_of_ble_eq_true rfl, Nat.le_of_ble_eq_true rfl⟩ ⟨rfl, rfl⟩ [.int v5] [.int v5, .ref 1] rfl rfl (rc_Bytes in_1 _) (Nat.le_of_ble_eq_true rfl) d_PA_feed_61 64 rfl (zc_Bytes_addNumber 1 v5 p4 in_1 (ok_b h (fun p5 h => ?_)))
    refine ax_aload_n 0 d_PA_feed_64 rfl rfl 65 rfl ?_
    refine ax_getR fl_PA_12 x_0 rfl (rx_0_0 _) d_PA_feed_65 68 rfl ?_
    refine ax_callV mv_PA_96 ⟨Nat.le_of_ble_eq_true rfl, Nat.le_of_ble_eq_true rfl⟩ ⟨rfl, rfl⟩ [] [.ref 1] rfl rfl (rc_Bytes in_1 _) (Nat.le_of_ble_eq_true rfl) d_PA_feed_68 71 rfl (zc_Bytes_size 1 p5 in_1 ?_)
    exact ax_iret rfl d_PA_feed_71 (hR ((f_Bytes_size 1 p5), p5) (ok_some h))
  · have h := ok_f hc h
    refine ax_aload_n 0 d_PA_feed_16 rfl rfl 17 rfl ?_
    refine ax_iconst 0 d_PA_feed_17 ic_0 18 rfl ?_
    refine ax_callV mv_PA_100 ⟨Nat.le_of_ble_eq_true rfl, Nat.le_of_ble_eq_true rfl⟩ ⟨rfl, rfl⟩ [.int 0] [.int 0, .ref 0] rfl rfl (rc_x_0 _) (Nat.le_of_ble_eq_true rfl) d_PA_feed_18 21 rfl (zc_PA_refuse 0 m (ok_b h (fun p6 h => ?_)))
    exact ax_iret rfl d_PA_feed_21 (hR (p6.1, p6.2) (ok_some h))
set_option maxRecDepth 4000 in
theorem zc_Bytes_cut (v0 : Nat) (v1 : Int32) (m : zM) (hv0 : v0 ∈ li_Bytes) {Q : Option Value → zM → Prop} (h : Q none (f_Bytes_cut v0 v1 m)) : zc gX s_Bytes_cut [.ref v0, .int v1] m Q := by
  refine zc_of rfl (Nat.le_of_ble_eq_true rfl) ?_
  show AX gX s_Bytes_cut 0 [(0, .ref v0), (1, .int v1)] [] m Q
  obtain ⟨K, hK⟩ : ∃ K : zM → Prop, K = (fun p : zM => Q none p) := ⟨_, rfl⟩
  have hR : ∀ p : zM, K p → Q none p := fun p hp => by rw [hK] at hp; exact hp
  replace h : (fun p : zM => Q none p) (f_Bytes_cut v0 v1 m) := h
  rw [← hK] at h
  unfold f_Bytes_cut at h
  refine ax_iload_n 1 d_Bytes_cut_0 rfl rfl 1 rfl ?_
  refine ax_if_lt 17 4 d_Bytes_cut_1 rfl rfl (fun hc => ?_) (fun hc => ?_)
  · have h := kt_t (K := K) hc h
    exact ax_vret rfl d_Bytes_cut_17 (hR m h)
  · have h := kt_f (K := K) hc h
    refine ax_iload_n 1 d_Bytes_cut_4 rfl rfl 5 rfl ?_
    refine ax_aload_n 0 d_Bytes_cut_5 rfl rfl 6 rfl ?_
    refine ax_getI fl_Bytes_15 (sx_Bytes hv0) rfl d_Bytes_cut_6 9 rfl ?_
    refine ax_icmp_ge 17 12 d_Bytes_cut_9 rfl rfl (fun hc => ?_) (fun hc => ?_)
    · have h := kt_t (K := K) hc h
      exact ax_vret rfl d_Bytes_cut_17 (hR m h)
    · have h := kt_f (K := K) hc h
      refine ax_aload_n 0 d_Bytes_cut_12 rfl rfl 13 rfl ?_
      refine ax_iload_n 1 d_Bytes_cut_13 rfl rfl 14 rfl ?_
      refine ax_putIk (K := K) fl_Bytes_15 (sx_Bytes hv0) rfl rfl rfl (Nat.le_of_ble_eq_true rfl) d_Bytes_cut_14 17 rfl h (fun m1 h => ?_)
      exact ax_vret rfl d_Bytes_cut_17 (hR m1 h)
set_option maxRecDepth 4000 in
theorem c_PA_end_J15  (m : zM)  {Q : Option Value → zM → Prop} {K : (Bool × zM) → Prop} (hR : ∀ p : Bool × zM, K (p) → Q (some (.int (b2i p.1))) p.2)  (h : ok (f_PA_end_J15  m) K) : AX gX s_PA_end 15 [(0, .ref 0)] [] m Q := by
  unfold f_PA_end_J15 at h
  refine ax_aload_n 0 d_PA_end_15 rfl rfl 16 rfl ?_
  refine ax_iconst 0 d_PA_end_16 ic_0 17 rfl ?_
  refine ax_callV mv_PA_100 ⟨Nat.le_of_ble_eq_true rfl, Nat.le_of_ble_eq_true rfl⟩ ⟨rfl, rfl⟩ [.int 0] [.int 0, .ref 0] rfl rfl (rc_x_0 _) (Nat.le_of_ble_eq_true rfl) d_PA_end_17 20 rfl (zc_PA_refuse 0 m (ok_b h (fun p2 h => ?_)))
  refine ax_pop d_PA_end_20 rfl 21 rfl ?_
  refine ax_iconst 0 d_PA_end_21 ic_0 22 rfl ?_
  exact ax_zret (b := false) rfl d_PA_end_22 (hR (false, p2.2) (ok_some h))
set_option maxRecDepth 4000 in
theorem zc_PA_end (v1 : Int32) (m : zM)  {Q : Option Value → zM → Prop} (h : ok (f_PA_end v1 m) (fun p => Q (some (.int (b2i p.1))) p.2)) : zc gX s_PA_end [.ref 0, .int v1] m Q := by
  refine zc_of rfl (Nat.le_of_ble_eq_true rfl) ?_
  show AX gX s_PA_end 0 [(0, .ref 0), (1, .int v1)] [] m Q
  obtain ⟨K, hK⟩ : ∃ K : (Bool × zM) → Prop, K = (fun p : Bool × zM => Q (some (.int (b2i p.1))) p.2) := ⟨_, rfl⟩
  have hR : ∀ p : Bool × zM, K p → Q (some (.int (b2i p.1))) p.2 := fun p hp => by rw [hK] at hp; exact hp
  replace h : ok (f_PA_end v1 m) (fun p : Bool × zM => Q (some (.int (b2i p.1))) p.2) := h
  rw [← hK] at h
  unfold f_PA_end at h
  refine ax_iload_n 1 d_PA_end_0 rfl rfl 1 rfl ?_
  refine ax_if_lt 15 4 d_PA_end_1 rfl rfl (fun hc => ?_) (fun hc => ?_)
  · have h := ok_t hc h
    exact ax_sub [0] rfl (c_PA_end_J15 m (fun p hp => hR p hp) h)
  · have h := ok_f hc h
    refine ax_iload_n 1 d_PA_end_4 rfl rfl 5 rfl ?_
    refine ax_aload_n 0 d_PA_end_5 rfl rfl 6 rfl ?_
    refine ax_getR fl_PA_12 x_0 rfl (rx_0_0 _) d_PA_end_6 9 rfl ?_
    refine ax_callV mv_PA_96 ⟨Nat.le_of_ble_eq_true rfl, Nat.le_of_ble_eq_true rfl⟩ ⟨rfl, rfl⟩ [] [.ref 1, .int v1] rfl rfl (rc_Bytes in_1 _) (Nat.le_of_ble_eq_true rfl) d_PA_end_9 12 rfl (zc_Bytes_size 1 m in_1 ?_)
    refine ax_icmp_le 23 15 d_PA_end_12 rfl rfl (fun hc => ?_) (fun hc => ?_)
    · have h := ok_t hc h
      refine ax_aload_n 0 d_PA_end_23 rfl rfl 24 rfl ?_
      refine ax_getR fl_PA_12 x_0 rfl (rx_0_0 _) d_PA_end_24 27 rfl ?_
      refine ax_iload_n 1 d_PA_end_27 rfl rfl 28 rfl ?_
      refine ax_callV mv_PA_108 ⟨Nat.le_of_ble_eq_true rfl, Nat.le_of_ble_eq_true rfl⟩ ⟨rfl, rfl⟩ [.int v1] [.int v1, .ref 1] rfl rfl (rc_Bytes in_1 _) (Nat.le_of_ble_eq_true rfl) d_PA_end_28 31 rfl (zc_Bytes_cut 1 v1 m in_1 ?_)
      refine ok_l (G := fun p => AX gX s_PA_end 31 [(0, .ref 0), (1, .int v1)] [] p Q) h (fun p1 h => ?_)
      refine ax_iconst 1 d_PA_end_31 ic_1 32 rfl ?_
      exact ax_zret (b := true) rfl d_PA_end_32 (hR (true, p1) (ok_some h))
    · have h := ok_f hc h
      exact ax_sub [0] rfl (c_PA_end_J15 m (fun p hp => hR p hp) h)
set_option maxRecDepth 4000 in
theorem c_Arrays_fill_B5 (v0 : Nat) (v1 : Int32) (v2 : Int32) (v3 : Int32) (m : zM) (hv0 : gX.1[v0]? = some (.inr (0, zlen gX v0))) {Q : Option Value → zM → Prop} {K : ((zM) ⊕ (Int32 × zM)) → Prop} (hR : ∀ p : zM, K (.inl p) → Q none p) (h0 : ∀ s : Int32 × zM, K (.inr s) → AX gX s_Arrays_fill 5 [(0, .ref v0), (1, .int v1), (2, .int s.1), (3, .int v3)] [] s.2 Q) (h : ok (f_Arrays_fill_B5 v0 v1 v2 v3 m) K) : AX gX s_Arrays_fill 5 [(0, .ref v0), (1, .int v1), (2, .int v2), (3, .int v3)] [] m Q := by
  unfold f_Arrays_fill_B5 at h
  refine ax_iload_n 2 d_Arrays_fill_5 rfl rfl 6 rfl ?_
  refine ax_iload_n 3 d_Arrays_fill_6 rfl rfl 7 rfl ?_
  refine ax_icmp_ge 20 10 d_Arrays_fill_7 rfl rfl (fun hc => ?_) (fun hc => ?_)
  · have h := ok_t hc h
    exact ax_vret rfl d_Arrays_fill_20 (hR m (ok_some h))
  · have h := ok_f hc h
    refine ax_aload_n 0 d_Arrays_fill_10 rfl rfl 11 rfl ?_
    refine ax_iload_n 2 d_Arrays_fill_11 rfl rfl 12 rfl ?_
    refine ax_iload_n 1 d_Arrays_fill_12 rfl rfl 13 rfl ?_
    refine ax_iastore hv0 d_Arrays_fill_13 14 rfl h (fun i1 m2 h => ?_)
    refine ax_iinc (ls1 := [(2, .int (v2 + 1)), (0, .ref v0), (1, .int v1), (3, .int v3)]) 2 1 d_Arrays_fill_14 rfl ic_1 (Nat.le_of_ble_eq_true rfl) rfl 17 rfl ?_
    refine ax_goto 5 d_Arrays_fill_17 rfl ?_
    exact ax_sub [1, 2, 0, 3] rfl (h0 ((v2 + 1), m2) (ok_some h))
theorem c_Arrays_fill_L5 (v0 : Nat) (v1 : Int32) (v2 : Int32) (v3 : Int32) (m : zM) (hv0 : gX.1[v0]? = some (.inr (0, zlen gX v0))) {Q : Option Value → zM → Prop} {K : zM → Prop} (hR : ∀ p : zM, K (p) → Q none p)  (h : ok (f_Arrays_fill_L5 v0 v1 v2 v3 m) K) : AX gX s_Arrays_fill 5 [(0, .ref v0), (1, .int v1), (2, .int v2), (3, .int v3)] [] m Q :=
  ok_lp (K := K) (G := fun s : Int32 × zM => AX gX s_Arrays_fill 5 [(0, .ref v0), (1, .int v1), (2, .int s.1), (3, .int v3)] [] s.2 Q) (fun s h => c_Arrays_fill_B5 v0 v1 s.1 v3 s.2 hv0 (fun p hp => hR p hp) (fun s hs => hs) h) FU (v2, m) h
set_option maxRecDepth 4000 in
theorem zc_Arrays_fill (v0 : Nat) (v1 : Int32) (m : zM) (hv0 : gX.1[v0]? = some (.inr (0, zlen gX v0))) {Q : Option Value → zM → Prop} (h : ok (f_Arrays_fill v0 v1 m) (fun p => Q none p)) : zc gX s_Arrays_fill [.ref v0, .int v1] m Q := by
  refine zc_ofF (by decide +kernel) (Nat.le_of_ble_eq_true rfl) ?_
  show AX gX s_Arrays_fill 0 [(0, .ref v0), (1, .int v1)] [] m Q
  obtain ⟨K, hK⟩ : ∃ K : zM → Prop, K = (fun p : zM => Q none p) := ⟨_, rfl⟩
  have hR : ∀ p : zM, K p → Q none p := fun p hp => by rw [hK] at hp; exact hp
  replace h : ok (f_Arrays_fill v0 v1 m) (fun p : zM => Q none p) := h
  rw [← hK] at h
  unfold f_Arrays_fill at h
  refine ax_iconst 0 d_Arrays_fill_0 ic_0 1 rfl ?_
  refine ax_istore_n (ls1 := [(2, .int 0), (0, .ref v0), (1, .int v1)]) d_Arrays_fill_1 rfl (Nat.le_of_ble_eq_true rfl) rfl 2 rfl ?_
  refine ax_aload_n 1 d_Arrays_fill_2 rfl rfl 3 rfl ?_
  refine ax_alen (Int32.ofNat (zlen gX v0)) hv0 (by decide) rfl d_Arrays_fill_3 4 rfl ?_
  refine ax_istore_n (ls1 := [(3, .int (Int32.ofNat (zlen gX v0))), (2, .int 0), (0, .ref v0), (1, .int v1)]) d_Arrays_fill_4 rfl (Nat.le_of_ble_eq_true rfl) rfl 5 rfl ?_
  exact ax_sub [2, 3, 1, 0] rfl (c_Arrays_fill_L5 v0 v1 0 (Int32.ofNat (zlen gX v0)) m hv0 (fun p hp => hR p hp) h)
set_option maxRecDepth 4000 in
theorem zc_Table_clear (v0 : Nat) (m : zM) (hv0 : v0 ∈ li_Table) {Q : Option Value → zM → Prop} (h : ok (f_Table_clear v0 m) (fun p => Q none p)) : zc gX s_Table_clear [.ref v0] m Q := by
  refine zc_of rfl (Nat.le_of_ble_eq_true rfl) ?_
  show AX gX s_Table_clear 0 [(0, .ref v0)] [] m Q
  obtain ⟨K, hK⟩ : ∃ K : zM → Prop, K = (fun p : zM => Q none p) := ⟨_, rfl⟩
  have hR : ∀ p : zM, K p → Q none p := fun p hp => by rw [hK] at hp; exact hp
  replace h : ok (f_Table_clear v0 m) (fun p : zM => Q none p) := h
  rw [← hK] at h
  unfold f_Table_clear at h
  refine ax_aload_n 0 d_Table_clear_0 rfl rfl 1 rfl ?_
  refine ax_iconst 0 d_Table_clear_1 ic_0 2 rfl ?_
  refine ax_putI (K := K) fl_Table_9 (sx_Table hv0) rfl rfl rfl (Nat.le_of_ble_eq_true rfl) d_Table_clear_2 5 rfl h (fun m1 h => ?_)
  refine ax_aload_n 0 d_Table_clear_5 rfl rfl 6 rfl ?_
  refine ax_getR fl_Table_15 (sx_Table hv0) rfl (ro_Table_1 hv0 _) d_Table_clear_6 9 rfl ?_
  refine ax_iconst 0 d_Table_clear_9 ic_0 10 rfl ?_
  refine ax_callS mv_Table_54 ⟨Nat.le_of_ble_eq_true rfl, Nat.le_of_ble_eq_true rfl⟩ ⟨rfl, rfl⟩ [.ref (v0 + 1), .int 0] [.int 0, .ref (v0 + 1)] rfl rfl (Nat.le_of_ble_eq_true rfl) d_Table_clear_10 13 rfl (zc_Arrays_fill (v0 + 1) 0 m1 (sa_Table_1z hv0) (ok_b h (fun p2 h => ?_)))
  refine ax_aload_n 0 d_Table_clear_13 rfl rfl 14 rfl ?_
  refine ax_iconst 0 d_Table_clear_14 ic_0 15 rfl ?_
  refine ax_putZ (K := K) fl_Table_22 (sx_Table hv0) (Or.inl rfl) rfl rfl rfl (Nat.le_of_ble_eq_true rfl) d_Table_clear_15 18 rfl h (fun m3 h => ?_)
  refine ax_aload_n 0 d_Table_clear_18 rfl rfl 19 rfl ?_
  refine ax_iconst 0 d_Table_clear_19 ic_0 20 rfl ?_
  refine ax_putI (K := K) fl_Table_26 (sx_Table hv0) rfl rfl rfl (Nat.le_of_ble_eq_true rfl) d_Table_clear_20 23 rfl h (fun m4 h => ?_)
  refine ax_aload_n 0 d_Table_clear_23 rfl rfl 24 rfl ?_
  refine ax_iconst 0 d_Table_clear_24 ic_0 25 rfl ?_
  refine ax_putI (K := K) fl_Table_35 (sx_Table hv0) rfl rfl rfl (Nat.le_of_ble_eq_true rfl) d_Table_clear_25 28 rfl h (fun m5 h => ?_)
  refine ax_aload_n 0 d_Table_clear_28 rfl rfl 29 rfl ?_
  refine ax_iconst (-1) d_Table_clear_29 ic_m1 30 rfl ?_
  refine ax_putI (K := K) fl_Table_47 (sx_Table hv0) rfl rfl rfl (Nat.le_of_ble_eq_true rfl) d_Table_clear_30 33 rfl h (fun m6 h => ?_)
  refine ax_aload_n 0 d_Table_clear_33 rfl rfl 34 rfl ?_
  refine ax_iconst (-1) d_Table_clear_34 ic_m1 35 rfl ?_
  refine ax_putI (K := K) fl_Table_50 (sx_Table hv0) rfl rfl rfl (Nat.le_of_ble_eq_true rfl) d_Table_clear_35 38 rfl h (fun m7 h => ?_)
  exact ax_vret rfl d_Table_clear_38 (hR m7 (ok_some h))
set_option maxRecDepth 4000 in
theorem zc_Bytes_get (v0 : Nat) (v1 : Int32) (m : zM) (hv0 : v0 ∈ li_Bytes) {Q : Option Value → zM → Prop} (h : ok (f_Bytes_get v0 v1 m) (fun p => Q (some (.int p)) m)) : zc gX s_Bytes_get [.ref v0, .int v1] m Q := by
  refine zc_of rfl (Nat.le_of_ble_eq_true rfl) ?_
  show AX gX s_Bytes_get 0 [(0, .ref v0), (1, .int v1)] [] m Q
  obtain ⟨K, hK⟩ : ∃ K : Int32 → Prop, K = (fun p : Int32 => Q (some (.int p)) m) := ⟨_, rfl⟩
  have hR : ∀ p : Int32, K p → Q (some (.int p)) m := fun p hp => by rw [hK] at hp; exact hp
  replace h : ok (f_Bytes_get v0 v1 m) (fun p : Int32 => Q (some (.int p)) m) := h
  rw [← hK] at h
  unfold f_Bytes_get at h
  refine ax_iload_n 1 d_Bytes_get_0 rfl rfl 1 rfl ?_
  refine ax_if_lt 21 4 d_Bytes_get_1 rfl rfl (fun hc => ?_) (fun hc => ?_)
  · have h := ok_t hc h
    refine ax_iconst (-1) d_Bytes_get_21 ic_m1 22 rfl ?_
    exact ax_iret rfl d_Bytes_get_22 (hR (-1) (ok_some h))
  · have h := ok_f hc h
    refine ax_iload_n 1 d_Bytes_get_4 rfl rfl 5 rfl ?_
    refine ax_aload_n 0 d_Bytes_get_5 rfl rfl 6 rfl ?_
    refine ax_getI fl_Bytes_15 (sx_Bytes hv0) rfl d_Bytes_get_6 9 rfl ?_
    refine ax_icmp_ge 21 12 d_Bytes_get_9 rfl rfl (fun hc => ?_) (fun hc => ?_)
    · have h := ok_t hc h
      refine ax_iconst (-1) d_Bytes_get_21 ic_m1 22 rfl ?_
      exact ax_iret rfl d_Bytes_get_22 (hR (-1) (ok_some h))
    · have h := ok_f hc h
      refine ax_aload_n 0 d_Bytes_get_12 rfl rfl 13 rfl ?_
      refine ax_getR fl_Bytes_9 (sx_Bytes hv0) rfl (ro_Bytes_0 hv0 _) d_Bytes_get_13 16 rfl ?_
      refine ax_iload_n 1 d_Bytes_get_16 rfl rfl 17 rfl ?_
      refine ax_iaload (sa_Bytes_0 hv0) d_Bytes_get_17 18 rfl h (fun i1 h => ?_)
      refine ax_goto 22 d_Bytes_get_18 rfl ?_
      exact ax_iret rfl d_Bytes_get_22 (hR (m.1 (v0 + 1) i1) (ok_some h))
set_option maxRecDepth 4000 in
theorem c_PA_isBlank_J12  (m : zM)  {Q : Option Value → zM → Prop} {K : Bool → Prop} (hR : ∀ p : Bool, K (p) → Q (some (.int (b2i p))) m)  (h : K (f_PA_isBlank_J12 )) : AX gX s_PA_isBlank 12 [] [] m Q := by
  unfold f_PA_isBlank_J12 at h
  refine ax_iconst 1 d_PA_isBlank_12 ic_1 13 rfl ?_
  refine ax_goto 17 d_PA_isBlank_13 rfl ?_
  exact ax_zret (b := true) rfl d_PA_isBlank_17 (hR true h)
set_option maxRecDepth 4000 in
theorem zc_PA_isBlank (v0 : Int32) (m : zM)  {Q : Option Value → zM → Prop} (h : Q (some (.int (b2i (f_PA_isBlank v0)))) m) : zc gX s_PA_isBlank [.int v0] m Q := by
  refine zc_of rfl (Nat.le_of_ble_eq_true rfl) ?_
  show AX gX s_PA_isBlank 0 [(0, .int v0)] [] m Q
  obtain ⟨K, hK⟩ : ∃ K : Bool → Prop, K = (fun p : Bool => Q (some (.int (b2i p))) m) := ⟨_, rfl⟩
  have hR : ∀ p : Bool, K p → Q (some (.int (b2i p))) m := fun p hp => by rw [hK] at hp; exact hp
  replace h : (fun p : Bool => Q (some (.int (b2i p))) m) (f_PA_isBlank v0) := h
  rw [← hK] at h
  unfold f_PA_isBlank at h
  refine ax_iload_n 0 d_PA_isBlank_0 rfl rfl 1 rfl ?_
  refine ax_bipush 32 d_PA_isBlank_1 bp_32 3 rfl ?_
  refine ax_icmp_eq 12 6 d_PA_isBlank_3 rfl rfl (fun hc => ?_) (fun hc => ?_)
  · have h := kt_t (K := K) hc h
    exact ax_sub [] rfl (c_PA_isBlank_J12 m (fun p hp => hR p hp) h)
  · have h := kt_f (K := K) hc h
    refine ax_iload_n 0 d_PA_isBlank_6 rfl rfl 7 rfl ?_
    refine ax_bipush 10 d_PA_isBlank_7 bp_10 9 rfl ?_
    refine ax_icmp_ne 16 12 d_PA_isBlank_9 rfl rfl (fun hc => ?_) (fun hc => ?_)
    · have h := kt_f (K := K) hc h
      refine ax_iconst 0 d_PA_isBlank_16 ic_0 17 rfl ?_
      exact ax_zret (b := false) rfl d_PA_isBlank_17 (hR false h)
    · have h := kt_t (K := K) hc h
      exact ax_sub [] rfl (c_PA_isBlank_J12 m (fun p hp => hR p hp) h)
set_option maxRecDepth 4000 in
theorem zc_PA_isLetter (v0 : Int32) (m : zM)  {Q : Option Value → zM → Prop} (h : Q (some (.int (b2i (f_PA_isLetter v0)))) m) : zc gX s_PA_isLetter [.int v0] m Q := by
  refine zc_of rfl (Nat.le_of_ble_eq_true rfl) ?_
  show AX gX s_PA_isLetter 0 [(0, .int v0)] [] m Q
  obtain ⟨K, hK⟩ : ∃ K : Bool → Prop, K = (fun p : Bool => Q (some (.int (b2i p))) m) := ⟨_, rfl⟩
  have hR : ∀ p : Bool, K p → Q (some (.int (b2i p))) m := fun p hp => by rw [hK] at hp; exact hp
  replace h : (fun p : Bool => Q (some (.int (b2i p))) m) (f_PA_isLetter v0) := h
  rw [← hK] at h
  unfold f_PA_isLetter at h
  refine ax_iload_n 0 d_PA_isLetter_0 rfl rfl 1 rfl ?_
  refine ax_bipush 97 d_PA_isLetter_1 bp_97 3 rfl ?_
  refine ax_icmp_lt 16 6 d_PA_isLetter_3 rfl rfl (fun hc => ?_) (fun hc => ?_)
  · have h := kt_t (K := K) hc h
    refine ax_iconst 0 d_PA_isLetter_16 ic_0 17 rfl ?_
    exact ax_zret (b := false) rfl d_PA_isLetter_17 (hR false h)
  · have h := kt_f (K := K) hc h
    refine ax_iload_n 0 d_PA_isLetter_6 rfl rfl 7 rfl ?_
    refine ax_bipush 122 d_PA_isLetter_7 bp_122 9 rfl ?_
    refine ax_icmp_gt 16 12 d_PA_isLetter_9 rfl rfl (fun hc => ?_) (fun hc => ?_)
    · have h := kt_t (K := K) hc h
      refine ax_iconst 0 d_PA_isLetter_16 ic_0 17 rfl ?_
      exact ax_zret (b := false) rfl d_PA_isLetter_17 (hR false h)
    · have h := kt_f (K := K) hc h
      refine ax_iconst 1 d_PA_isLetter_12 ic_1 13 rfl ?_
      refine ax_goto 17 d_PA_isLetter_13 rfl ?_
      exact ax_zret (b := true) rfl d_PA_isLetter_17 (hR true h)
set_option maxRecDepth 4000 in
theorem c_Reader_isOwnWord_J57 (v0 : Int64) (v2 : Int64) (v4 : Int32) (m : zM)  {Q : Option Value → zM → Prop} {K : ((Bool) ⊕ (Int64 × Int32)) → Prop} (hR : ∀ p : Bool, K (.inl p) → Q (some (.int (b2i p))) m) (h0 : ∀ s : Int64 × Int32, K (.inr s) → AX gX s_Reader_isOwnWord 5 [(0, .long v0), (2, .long s.1), (4, .int s.2)] [] m Q) (h : ok (f_Reader_isOwnWord_J57 v0 v2 v4) K) : AX gX s_Reader_isOwnWord 57 [(0, .long v0), (2, .long v2), (4, .int v4)] [] m Q := by
  unfold f_Reader_isOwnWord_J57 at h
  refine ax_iinc (ls1 := [(4, .int (v4 + 1)), (0, .long v0), (2, .long v2)]) 2 1 d_Reader_isOwnWord_57 rfl ic_1 (Nat.le_of_ble_eq_true rfl) rfl 60 rfl ?_
  refine ax_goto 5 d_Reader_isOwnWord_60 rfl ?_
  exact ax_sub [1, 2, 0] rfl (h0 (v2, (v4 + 1)) (ok_some h))
set_option maxRecDepth 4000 in
theorem c_Reader_isOwnWord_B5 (v0 : Int64) (v2 : Int64) (v4 : Int32) (m : zM)  {Q : Option Value → zM → Prop} {K : ((Bool) ⊕ (Int64 × Int32)) → Prop} (hR : ∀ p : Bool, K (.inl p) → Q (some (.int (b2i p))) m) (h0 : ∀ s : Int64 × Int32, K (.inr s) → AX gX s_Reader_isOwnWord 5 [(0, .long v0), (2, .long s.1), (4, .int s.2)] [] m Q) (h : ok (f_Reader_isOwnWord_B5 v0 v2 v4) K) : AX gX s_Reader_isOwnWord 5 [(0, .long v0), (2, .long v2), (4, .int v4)] [] m Q := by
  unfold f_Reader_isOwnWord_B5 at h
  refine ax_iload 2 d_Reader_isOwnWord_5 rfl 7 rfl ?_
  refine ax_ldcS 0 (Nat.le_of_ble_eq_true rfl) rfl rfl d_Reader_isOwnWord_7 9 rfl ?_
  refine ax_callV mv_Reader_106 ⟨Nat.le_of_ble_eq_true rfl, Nat.le_of_ble_eq_true rfl⟩ ⟨rfl, rfl⟩ [] [.ref (1000 + 0), .int v4] rfl rfl (Or.inr ⟨rfl, 0, (Nat.le_of_ble_eq_true rfl), rfl⟩) (Nat.le_of_ble_eq_true rfl) d_Reader_isOwnWord_9 12 rfl (zc_String_length 0 m (Nat.le_of_ble_eq_true rfl) ?_)
  refine ax_icmp_ge 63 15 d_Reader_isOwnWord_12 rfl rfl (fun hc => ?_) (fun hc => ?_)
  · have h := ok_t hc h
    refine ax_iconst 0 d_Reader_isOwnWord_63 ic_0 64 rfl ?_
    exact ax_zret (b := false) rfl d_Reader_isOwnWord_64 (hR false (ok_some h))
  · have h := ok_f hc h
    refine ax_ldcS 0 (Nat.le_of_ble_eq_true rfl) rfl rfl d_Reader_isOwnWord_15 17 rfl ?_
    refine ax_iload 2 d_Reader_isOwnWord_17 rfl 19 rfl ?_
    refine ax_callV mv_Reader_111 ⟨Nat.le_of_ble_eq_true rfl, Nat.le_of_ble_eq_true rfl⟩ ⟨rfl, rfl⟩ [.int v4] [.int v4, .ref (1000 + 0)] rfl rfl (Or.inr ⟨rfl, 0, (Nat.le_of_ble_eq_true rfl), rfl⟩) (Nat.le_of_ble_eq_true rfl) d_Reader_isOwnWord_19 22 rfl (zc_String_charAt 0 v4 m (Nat.le_of_ble_eq_true rfl) (ok_b h (fun r1 h => ?_)))
    refine ax_istore (ls1 := [(5, .int r1), (0, .long v0), (2, .long v2), (4, .int v4)]) d_Reader_isOwnWord_22 (Nat.le_of_ble_eq_true rfl) rfl 24 rfl ?_
    refine ax_iload 0 d_Reader_isOwnWord_24 rfl 26 rfl ?_
    refine ax_bipush 32 d_Reader_isOwnWord_26 bp_32 28 rfl ?_
    refine ax_icmp_eq 47 31 d_Reader_isOwnWord_28 rfl rfl (fun hc => ?_) (fun hc => ?_)
    · have h := ok_t hc h
      refine ax_lload_n 2 d_Reader_isOwnWord_47 rfl rfl 48 rfl ?_
      refine ax_lload_n 1 d_Reader_isOwnWord_48 rfl rfl 49 rfl ?_
      refine ax_lcmp d_Reader_isOwnWord_49 50 rfl ?_
      refine ax_if_ne 55 53 d_Reader_isOwnWord_50 rfl rfl (fun hc => ?_) (fun hc => ?_)
      · have h := ok_f hc h
        refine ax_lconst 0 d_Reader_isOwnWord_55 lc_0 56 rfl ?_
        refine ax_lstore_n (ls1 := [(2, .long 0), (5, .int r1), (0, .long v0), (4, .int v4)]) d_Reader_isOwnWord_56 rfl (Nat.le_of_ble_eq_true rfl) rfl 57 rfl ?_
        exact ax_sub [2, 0, 3] rfl (c_Reader_isOwnWord_J57 v0 0 v4 m (fun p hp => hR p hp) (fun s hs => h0 s hs) h)
      · have h := ok_t hc h
        refine ax_iconst 1 d_Reader_isOwnWord_53 ic_1 54 rfl ?_
        exact ax_zret (b := true) rfl d_Reader_isOwnWord_54 (hR true (ok_some h))
    · have h := ok_f hc h
      refine ax_lload_n 2 d_Reader_isOwnWord_31 rfl rfl 32 rfl ?_
      refine ax_iconst 5 d_Reader_isOwnWord_32 ic_5 33 rfl ?_
      refine ax_lshl d_Reader_isOwnWord_33 34 rfl ?_
      refine ax_iload 0 d_Reader_isOwnWord_34 rfl 36 rfl ?_
      refine ax_bipush 97 d_Reader_isOwnWord_36 bp_97 38 rfl ?_
      refine ax_isub d_Reader_isOwnWord_38 39 rfl ?_
      refine ax_iconst 1 d_Reader_isOwnWord_39 ic_1 40 rfl ?_
      refine ax_iadd d_Reader_isOwnWord_40 41 rfl ?_
      refine ax_i2l d_Reader_isOwnWord_41 42 rfl ?_
      refine ax_lor d_Reader_isOwnWord_42 43 rfl ?_
      refine ax_lstore_n (ls1 := [(2, .long ((lsl v2 5) ||| (((r1 - 97) + 1).toInt64))), (5, .int r1), (0, .long v0), (4, .int v4)]) d_Reader_isOwnWord_43 rfl (Nat.le_of_ble_eq_true rfl) rfl 44 rfl ?_
      refine ax_goto 57 d_Reader_isOwnWord_44 rfl ?_
      exact ax_sub [2, 0, 3] rfl (c_Reader_isOwnWord_J57 v0 ((lsl v2 5) ||| (((r1 - 97) + 1).toInt64)) v4 m (fun p hp => hR p hp) (fun s hs => h0 s hs) h)
theorem c_Reader_isOwnWord_L5 (v0 : Int64) (v2 : Int64) (v4 : Int32) (m : zM)  {Q : Option Value → zM → Prop} {K : Bool → Prop} (hR : ∀ p : Bool, K (p) → Q (some (.int (b2i p))) m)  (h : ok (f_Reader_isOwnWord_L5 v0 v2 v4) K) : AX gX s_Reader_isOwnWord 5 [(0, .long v0), (2, .long v2), (4, .int v4)] [] m Q :=
  ok_lp (K := K) (G := fun s : Int64 × Int32 => AX gX s_Reader_isOwnWord 5 [(0, .long v0), (2, .long s.1), (4, .int s.2)] [] m Q) (fun s h => c_Reader_isOwnWord_B5 v0 s.1 s.2 m  (fun p hp => hR p hp) (fun s hs => hs) h) FU (v2, v4) h
set_option maxRecDepth 4000 in
theorem zc_Reader_isOwnWord (v0 : Int64) (m : zM)  {Q : Option Value → zM → Prop} (h : ok (f_Reader_isOwnWord v0) (fun p => Q (some (.int (b2i p))) m)) : zc gX s_Reader_isOwnWord [.long v0] m Q := by
  refine zc_of rfl (Nat.le_of_ble_eq_true rfl) ?_
  show AX gX s_Reader_isOwnWord 0 [(0, .long v0)] [] m Q
  obtain ⟨K, hK⟩ : ∃ K : Bool → Prop, K = (fun p : Bool => Q (some (.int (b2i p))) m) := ⟨_, rfl⟩
  have hR : ∀ p : Bool, K p → Q (some (.int (b2i p))) m := fun p hp => by rw [hK] at hp; exact hp
  replace h : ok (f_Reader_isOwnWord v0) (fun p : Bool => Q (some (.int (b2i p))) m) := h
  rw [← hK] at h
  unfold f_Reader_isOwnWord at h
  refine ax_lconst 0 d_Reader_isOwnWord_0 lc_0 1 rfl ?_
  refine ax_lstore_n (ls1 := [(2, .long 0), (0, .long v0)]) d_Reader_isOwnWord_1 rfl (Nat.le_of_ble_eq_true rfl) rfl 2 rfl ?_
  refine ax_iconst 0 d_Reader_isOwnWord_2 ic_0 3 rfl ?_
  refine ax_istore (ls1 := [(4, .int 0), (2, .long 0), (0, .long v0)]) d_Reader_isOwnWord_3 (Nat.le_of_ble_eq_true rfl) rfl 5 rfl ?_
  exact ax_sub [2, 1, 0] rfl (c_Reader_isOwnWord_L5 v0 0 0 m (fun p hp => hR p hp) h)
set_option maxRecDepth 4000 in
theorem c_Reader_takeWord_J101 (t0 : Nat) (t1 : Int32) (t2 : Int32) (m : zM) (ht0 : gX.1[t0]? = some (.inr (0, zlen gX t0))) {Q : Option Value → zM → Prop} {K : zM → Prop} (hR : ∀ p : zM, K (p) → Q none p)  (h : ok (f_Reader_takeWord_J101 t0 t1 t2 m) K) : AX gX s_Reader_takeWord 101 [] [.int t2, .int t1, .ref t0] m Q := by
  unfold f_Reader_takeWord_J101 at h
  refine ax_iastore ht0 d_Reader_takeWord_101 102 rfl h (fun i8 m9 h => ?_)
  exact ax_vret rfl d_Reader_takeWord_102 (hR m9 (ok_some h))
set_option maxRecDepth 4000 in
theorem c_Reader_takeWord_J67 (v3 : Int32) (v4 : Int64) (v6 : Int32) (m : zM)  {Q : Option Value → zM → Prop} {K : zM → Prop} (hR : ∀ p : zM, K (p) → Q none p)  (h : ok (f_Reader_takeWord_J67 v3 v4 v6 m) K) : AX gX s_Reader_takeWord 67 [(0, .ref 65), (3, .int v3), (4, .long v4), (6, .int v6)] [] m Q := by
  unfold f_Reader_takeWord_J67 at h
  refine ax_aload_n 0 d_Reader_takeWord_67 rfl rfl 68 rfl ?_
  refine ax_getR fl_Reader_25 x_65 rfl (rx_65_3 _) d_Reader_takeWord_68 71 rfl ?_
  refine ax_iload_n 1 d_Reader_takeWord_71 rfl rfl 72 rfl ?_
  refine ax_iload 3 d_Reader_takeWord_72 rfl 74 rfl ?_
  refine ax_iastore x_91 d_Reader_takeWord_74 75 rfl h (fun i3 m4 h => ?_)
  refine ax_aload_n 0 d_Reader_takeWord_75 rfl rfl 76 rfl ?_
  refine ax_getR fl_Reader_28 x_65 rfl (rx_65_4 _) d_Reader_takeWord_76 79 rfl ?_
  refine ax_iload_n 1 d_Reader_takeWord_79 rfl rfl 80 rfl ?_
  refine ax_lload 2 d_Reader_takeWord_80 rfl 82 rfl ?_
  refine ax_lastore x_92 d_Reader_takeWord_82 83 rfl h (fun i5 m6 h => ?_)
  refine ax_aload_n 0 d_Reader_takeWord_83 rfl rfl 84 rfl ?_
  refine ax_getR fl_Reader_18 x_65 rfl (rx_65_1 _) d_Reader_takeWord_84 87 rfl ?_
  refine ax_iload_n 1 d_Reader_takeWord_87 rfl rfl 88 rfl ?_
  refine ax_lload 2 d_Reader_takeWord_88 rfl 90 rfl ?_
  refine ax_callS mv_Reader_100 ⟨Nat.le_of_ble_eq_true rfl, Nat.le_of_ble_eq_true rfl⟩ ⟨rfl, rfl⟩ [.long v4] [.long v4, .int v3, .ref 89] rfl rfl (Nat.le_of_ble_eq_true rfl) d_Reader_takeWord_90 93 rfl (zc_Reader_isOwnWord v4 m6 (ok_b h (fun r7 h => ?_)))
  refine ax_ifb_eq 100 96 d_Reader_takeWord_93 rfl rfl (fun hc => ?_) (fun hc => ?_)
  · have h := ok_f (bf hc) h
    refine ax_iconst 1 d_Reader_takeWord_100 ic_1 101 rfl ?_
    exact ax_sub [] rfl (c_Reader_takeWord_J101 89 v3 1 m6 x_89z (fun p hp => hR p hp) h)
  · have h := ok_t hc h
    refine ax_iconst 2 d_Reader_takeWord_96 ic_2 97 rfl ?_
    refine ax_goto 101 d_Reader_takeWord_97 rfl ?_
    exact ax_sub [] rfl (c_Reader_takeWord_J101 89 v3 2 m6 x_89z (fun p hp => hR p hp) h)
set_option maxRecDepth 4000 in
theorem c_Reader_takeWord_J59 (v1 : Nat) (v2 : Int32) (v3 : Int32) (v6 : Int32) (t0 : Int64) (m : zM) (hv1 : v1 ∈ li_Bytes) {Q : Option Value → zM → Prop} {K : ((zM) ⊕ (Int64 × Int32)) → Prop} (hR : ∀ p : zM, K (.inl p) → Q none p) (h0 : ∀ s : Int64 × Int32, K (.inr s) → AX gX s_Reader_takeWord 6 [(0, .ref 65), (1, .ref v1), (2, .int v2), (3, .int v3), (4, .long s.1), (6, .int s.2)] [] m Q) (h : ok (f_Reader_takeWord_J59 v1 v2 v3 v6 t0 m) K) : AX gX s_Reader_takeWord 59 [(0, .ref 65), (1, .ref v1), (2, .int v2), (3, .int v3), (6, .int v6)] [.long t0] m Q := by
  unfold f_Reader_takeWord_J59 at h
  refine ax_lstore (ls1 := [(4, .long t0), (0, .ref 65), (1, .ref v1), (2, .int v2), (3, .int v3), (6, .int v6)]) d_Reader_takeWord_59 (Nat.le_of_ble_eq_true rfl) rfl 61 rfl ?_
  refine ax_iinc (ls1 := [(6, .int (v6 + 1)), (4, .long t0), (0, .ref 65), (1, .ref v1), (2, .int v2), (3, .int v3)]) 5 1 d_Reader_takeWord_61 rfl ic_1 (Nat.le_of_ble_eq_true rfl) rfl 64 rfl ?_
  refine ax_goto 6 d_Reader_takeWord_64 rfl ?_
  exact ax_sub [2, 3, 4, 5, 1, 0] rfl (h0 (t0, (v6 + 1)) (ok_some h))
set_option maxRecDepth 4000 in
theorem c_Reader_takeWord_B6 (v1 : Nat) (v2 : Int32) (v3 : Int32) (v4 : Int64) (v6 : Int32) (m : zM) (hv1 : v1 ∈ li_Bytes) {Q : Option Value → zM → Prop} {K : ((zM) ⊕ (Int64 × Int32)) → Prop} (hR : ∀ p : zM, K (.inl p) → Q none p) (h0 : ∀ s : Int64 × Int32, K (.inr s) → AX gX s_Reader_takeWord 6 [(0, .ref 65), (1, .ref v1), (2, .int v2), (3, .int v3), (4, .long s.1), (6, .int s.2)] [] m Q) (h : ok (f_Reader_takeWord_B6 v1 v2 v3 v4 v6 m) K) : AX gX s_Reader_takeWord 6 [(0, .ref 65), (1, .ref v1), (2, .int v2), (3, .int v3), (4, .long v4), (6, .int v6)] [] m Q := by
  unfold f_Reader_takeWord_B6 at h
  refine ax_iload 5 d_Reader_takeWord_6 rfl 8 rfl ?_
  refine ax_sipush 1600 d_Reader_takeWord_8 sp_1600 11 rfl ?_
  refine ax_icmp_ge 67 14 d_Reader_takeWord_11 rfl rfl (fun hc => ?_) (fun hc => ?_)
  · have h := ok_t hc h
    exact ax_sub [0, 3, 4, 5] rfl (c_Reader_takeWord_J67 v3 v4 v6 m (fun p hp => hR p hp) (ok_z h))
  · have h := ok_f hc h
    refine ax_aload_n 1 d_Reader_takeWord_14 rfl rfl 15 rfl ?_
    refine ax_iload_n 2 d_Reader_takeWord_15 rfl rfl 16 rfl ?_
    refine ax_iload 5 d_Reader_takeWord_16 rfl 18 rfl ?_
    refine ax_iadd d_Reader_takeWord_18 19 rfl ?_
    refine ax_callV mv_Reader_75 ⟨Nat.le_of_ble_eq_true rfl, Nat.le_of_ble_eq_true rfl⟩ ⟨rfl, rfl⟩ [.int (v2 + v6)] [.int (v2 + v6), .ref v1] rfl rfl (rc_Bytes hv1 _) (Nat.le_of_ble_eq_true rfl) d_Reader_takeWord_19 22 rfl (zc_Bytes_get v1 (v2 + v6) m hv1 (ok_b h (fun r1 h => ?_)))
    refine ax_callS mv_Reader_87 ⟨Nat.le_of_ble_eq_true rfl, Nat.le_of_ble_eq_true rfl⟩ ⟨rfl, rfl⟩ [.int r1] [.int r1] rfl rfl (Nat.le_of_ble_eq_true rfl) d_Reader_takeWord_22 25 rfl (zc_PA_isLetter r1 m ?_)
    refine ax_ifb_eq 67 28 d_Reader_takeWord_25 rfl rfl (fun hc => ?_) (fun hc => ?_)
    · have h := ok_f (bf hc) h
      exact ax_sub [0, 3, 4, 5] rfl (c_Reader_takeWord_J67 v3 v4 v6 m (fun p hp => hR p hp) (ok_z h))
    · have h := ok_t hc h
      refine ax_iload 5 d_Reader_takeWord_28 rfl 30 rfl ?_
      refine ax_bipush 12 d_Reader_takeWord_30 bp_12 32 rfl ?_
      refine ax_icmp_ge 57 35 d_Reader_takeWord_32 rfl rfl (fun hc => ?_) (fun hc => ?_)
      · have h := ok_t hc h
        refine ax_lload 4 d_Reader_takeWord_57 rfl 59 rfl ?_
        exact ax_sub [0, 1, 2, 3, 5] rfl (c_Reader_takeWord_J59 v1 v2 v3 v6 v4 m hv1 (fun p hp => hR p hp) (fun s hs => h0 s hs) h)
      · have h := ok_f hc h
        refine ax_lload 4 d_Reader_takeWord_35 rfl 37 rfl ?_
        refine ax_iconst 5 d_Reader_takeWord_37 ic_5 38 rfl ?_
        refine ax_lshl d_Reader_takeWord_38 39 rfl ?_
        refine ax_aload_n 1 d_Reader_takeWord_39 rfl rfl 40 rfl ?_
        refine ax_iload_n 2 d_Reader_takeWord_40 rfl rfl 41 rfl ?_
        refine ax_iload 5 d_Reader_takeWord_41 rfl 43 rfl ?_
        refine ax_iadd d_Reader_takeWord_43 44 rfl ?_
        refine ax_callV mv_Reader_75 ⟨Nat.le_of_ble_eq_true rfl, Nat.le_of_ble_eq_true rfl⟩ ⟨rfl, rfl⟩ [.int (v2 + v6)] [.int (v2 + v6), .ref v1, .long (lsl v4 5)] rfl rfl (rc_Bytes hv1 _) (Nat.le_of_ble_eq_true rfl) d_Reader_takeWord_44 47 rfl (zc_Bytes_get v1 (v2 + v6) m hv1 (ok_b h (fun r2 h => ?_)))
        refine ax_bipush 97 d_Reader_takeWord_47 bp_97 49 rfl ?_
        refine ax_isub d_Reader_takeWord_49 50 rfl ?_
        refine ax_iconst 1 d_Reader_takeWord_50 ic_1 51 rfl ?_
        refine ax_iadd d_Reader_takeWord_51 52 rfl ?_
        refine ax_i2l d_Reader_takeWord_52 53 rfl ?_
        refine ax_lor d_Reader_takeWord_53 54 rfl ?_
        refine ax_goto 59 d_Reader_takeWord_54 rfl ?_
        exact ax_sub [0, 1, 2, 3, 5] rfl (c_Reader_takeWord_J59 v1 v2 v3 v6 ((lsl v4 5) ||| (((r2 - 97) + 1).toInt64)) m hv1 (fun p hp => hR p hp) (fun s hs => h0 s hs) h)
theorem c_Reader_takeWord_L6 (v1 : Nat) (v2 : Int32) (v3 : Int32) (v4 : Int64) (v6 : Int32) (m : zM) (hv1 : v1 ∈ li_Bytes) {Q : Option Value → zM → Prop} {K : zM → Prop} (hR : ∀ p : zM, K (p) → Q none p)  (h : ok (f_Reader_takeWord_L6 v1 v2 v3 v4 v6 m) K) : AX gX s_Reader_takeWord 6 [(0, .ref 65), (1, .ref v1), (2, .int v2), (3, .int v3), (4, .long v4), (6, .int v6)] [] m Q :=
  ok_lp (K := K) (G := fun s : Int64 × Int32 => AX gX s_Reader_takeWord 6 [(0, .ref 65), (1, .ref v1), (2, .int v2), (3, .int v3), (4, .long s.1), (6, .int s.2)] [] m Q) (fun s h => c_Reader_takeWord_B6 v1 v2 v3 s.1 s.2 m hv1 (fun p hp => hR p hp) (fun s hs => hs) h) FU (v4, v6) h
set_option maxRecDepth 4000 in
theorem zc_Reader_takeWord (v1 : Nat) (v2 : Int32) (v3 : Int32) (m : zM) (hv1 : v1 ∈ li_Bytes) {Q : Option Value → zM → Prop} (h : ok (f_Reader_takeWord v1 v2 v3 m) (fun p => Q none p)) : zc gX s_Reader_takeWord [.ref 65, .ref v1, .int v2, .int v3] m Q := by
  refine zc_of rfl (Nat.le_of_ble_eq_true rfl) ?_
  show AX gX s_Reader_takeWord 0 [(0, .ref 65), (1, .ref v1), (2, .int v2), (3, .int v3)] [] m Q
  obtain ⟨K, hK⟩ : ∃ K : zM → Prop, K = (fun p : zM => Q none p) := ⟨_, rfl⟩
  have hR : ∀ p : zM, K p → Q none p := fun p hp => by rw [hK] at hp; exact hp
  replace h : ok (f_Reader_takeWord v1 v2 v3 m) (fun p : zM => Q none p) := h
  rw [← hK] at h
  unfold f_Reader_takeWord at h
  refine ax_lconst 0 d_Reader_takeWord_0 lc_0 1 rfl ?_
  refine ax_lstore (ls1 := [(4, .long 0), (0, .ref 65), (1, .ref v1), (2, .int v2), (3, .int v3)]) d_Reader_takeWord_1 (Nat.le_of_ble_eq_true rfl) rfl 3 rfl ?_
  refine ax_iconst 0 d_Reader_takeWord_3 ic_0 4 rfl ?_
  refine ax_istore (ls1 := [(6, .int 0), (4, .long 0), (0, .ref 65), (1, .ref v1), (2, .int v2), (3, .int v3)]) d_Reader_takeWord_4 (Nat.le_of_ble_eq_true rfl) rfl 6 rfl ?_
  exact ax_sub [2, 3, 4, 5, 1, 0] rfl (c_Reader_takeWord_L6 v1 v2 v3 0 0 m hv1 (fun p hp => hR p hp) h)
set_option maxRecDepth 4000 in
theorem zc_PA_isDigit (v0 : Int32) (m : zM)  {Q : Option Value → zM → Prop} (h : Q (some (.int (b2i (f_PA_isDigit v0)))) m) : zc gX s_PA_isDigit [.int v0] m Q := by
  refine zc_of rfl (Nat.le_of_ble_eq_true rfl) ?_
  show AX gX s_PA_isDigit 0 [(0, .int v0)] [] m Q
  obtain ⟨K, hK⟩ : ∃ K : Bool → Prop, K = (fun p : Bool => Q (some (.int (b2i p))) m) := ⟨_, rfl⟩
  have hR : ∀ p : Bool, K p → Q (some (.int (b2i p))) m := fun p hp => by rw [hK] at hp; exact hp
  replace h : (fun p : Bool => Q (some (.int (b2i p))) m) (f_PA_isDigit v0) := h
  rw [← hK] at h
  unfold f_PA_isDigit at h
  refine ax_iload_n 0 d_PA_isDigit_0 rfl rfl 1 rfl ?_
  refine ax_bipush 48 d_PA_isDigit_1 bp_48 3 rfl ?_
  refine ax_icmp_lt 16 6 d_PA_isDigit_3 rfl rfl (fun hc => ?_) (fun hc => ?_)
  · have h := kt_t (K := K) hc h
    refine ax_iconst 0 d_PA_isDigit_16 ic_0 17 rfl ?_
    exact ax_zret (b := false) rfl d_PA_isDigit_17 (hR false h)
  · have h := kt_f (K := K) hc h
    refine ax_iload_n 0 d_PA_isDigit_6 rfl rfl 7 rfl ?_
    refine ax_bipush 57 d_PA_isDigit_7 bp_57 9 rfl ?_
    refine ax_icmp_gt 16 12 d_PA_isDigit_9 rfl rfl (fun hc => ?_) (fun hc => ?_)
    · have h := kt_t (K := K) hc h
      refine ax_iconst 0 d_PA_isDigit_16 ic_0 17 rfl ?_
      exact ax_zret (b := false) rfl d_PA_isDigit_17 (hR false h)
    · have h := kt_f (K := K) hc h
      refine ax_iconst 1 d_PA_isDigit_12 ic_1 13 rfl ?_
      refine ax_goto 17 d_PA_isDigit_13 rfl ?_
      exact ax_zret (b := true) rfl d_PA_isDigit_17 (hR true h)
set_option maxRecDepth 4000 in
theorem c_Reader_takeNumber_J31 (v1 : Nat) (v2 : Int32) (v3 : Int32) (v4 : Int32) (m : zM) (hv1 : v1 ∈ li_Bytes) {Q : Option Value → zM → Prop} {K : zM → Prop} (hR : ∀ p : zM, K (p) → Q none p)  (h : ok (f_Reader_takeNumber_J31 v1 v2 v3 v4 m) K) : AX gX s_Reader_takeNumber 31 [(0, .ref 65), (1, .ref v1), (2, .int v2), (3, .int v3), (4, .int v4)] [] m Q := by
  unfold f_Reader_takeNumber_J31 at h
  refine ax_aload_n 0 d_Reader_takeNumber_31 rfl rfl 32 rfl ?_
  refine ax_getR fl_Reader_25 x_65 rfl (rx_65_3 _) d_Reader_takeNumber_32 35 rfl ?_
  refine ax_iload_n 3 d_Reader_takeNumber_35 rfl rfl 36 rfl ?_
  refine ax_iload 4 d_Reader_takeNumber_36 rfl 38 rfl ?_
  refine ax_iastore x_91 d_Reader_takeNumber_38 39 rfl h (fun i2 m3 h => ?_)
  refine ax_aload_n 0 d_Reader_takeNumber_39 rfl rfl 40 rfl ?_
  refine ax_getR fl_Reader_28 x_65 rfl (rx_65_4 _) d_Reader_takeNumber_40 43 rfl ?_
  refine ax_iload_n 3 d_Reader_takeNumber_43 rfl rfl 44 rfl ?_
  refine ax_aload_n 1 d_Reader_takeNumber_44 rfl rfl 45 rfl ?_
  refine ax_iload_n 2 d_Reader_takeNumber_45 rfl rfl 46 rfl ?_
  refine ax_callV mv_Reader_75 ⟨Nat.le_of_ble_eq_true rfl, Nat.le_of_ble_eq_true rfl⟩ ⟨rfl, rfl⟩ [.int v2] [.int v2, .ref v1, .int v3, .ref 92] rfl rfl (rc_Bytes hv1 _) (Nat.le_of_ble_eq_true rfl) d_Reader_takeNumber_46 49 rfl (zc_Bytes_get v1 v2 m3 hv1 (ok_b h (fun r4 h => ?_)))
  refine ax_bipush 48 d_Reader_takeNumber_49 bp_48 51 rfl ?_
  refine ax_isub d_Reader_takeNumber_51 52 rfl ?_
  refine ax_i2l d_Reader_takeNumber_52 53 rfl ?_
  refine ax_lastore x_92 d_Reader_takeNumber_53 54 rfl h (fun i5 m6 h => ?_)
  refine ax_aload_n 0 d_Reader_takeNumber_54 rfl rfl 55 rfl ?_
  refine ax_getR fl_Reader_18 x_65 rfl (rx_65_1 _) d_Reader_takeNumber_55 58 rfl ?_
  refine ax_iload_n 3 d_Reader_takeNumber_58 rfl rfl 59 rfl ?_
  refine ax_iconst 3 d_Reader_takeNumber_59 ic_3 60 rfl ?_
  refine ax_iastore x_89 d_Reader_takeNumber_60 61 rfl h (fun i7 m8 h => ?_)
  exact ax_vret rfl d_Reader_takeNumber_61 (hR m8 (ok_some h))
set_option maxRecDepth 4000 in
theorem c_Reader_takeNumber_B3 (v1 : Nat) (v2 : Int32) (v3 : Int32) (v4 : Int32) (m : zM) (hv1 : v1 ∈ li_Bytes) {Q : Option Value → zM → Prop} {K : ((zM) ⊕ (Int32)) → Prop} (hR : ∀ p : zM, K (.inl p) → Q none p) (h0 : ∀ s : Int32, K (.inr s) → AX gX s_Reader_takeNumber 3 [(0, .ref 65), (1, .ref v1), (2, .int v2), (3, .int v3), (4, .int s)] [] m Q) (h : ok (f_Reader_takeNumber_B3 v1 v2 v3 v4 m) K) : AX gX s_Reader_takeNumber 3 [(0, .ref 65), (1, .ref v1), (2, .int v2), (3, .int v3), (4, .int v4)] [] m Q := by
  unfold f_Reader_takeNumber_B3 at h
  refine ax_iload 4 d_Reader_takeNumber_3 rfl 5 rfl ?_
  refine ax_sipush 1600 d_Reader_takeNumber_5 sp_1600 8 rfl ?_
  refine ax_icmp_ge 31 11 d_Reader_takeNumber_8 rfl rfl (fun hc => ?_) (fun hc => ?_)
  · have h := ok_t hc h
    exact ax_sub [0, 1, 2, 3, 4] rfl (c_Reader_takeNumber_J31 v1 v2 v3 v4 m hv1 (fun p hp => hR p hp) (ok_z h))
  · have h := ok_f hc h
    refine ax_aload_n 1 d_Reader_takeNumber_11 rfl rfl 12 rfl ?_
    refine ax_iload_n 2 d_Reader_takeNumber_12 rfl rfl 13 rfl ?_
    refine ax_iload 4 d_Reader_takeNumber_13 rfl 15 rfl ?_
    refine ax_iadd d_Reader_takeNumber_15 16 rfl ?_
    refine ax_callV mv_Reader_75 ⟨Nat.le_of_ble_eq_true rfl, Nat.le_of_ble_eq_true rfl⟩ ⟨rfl, rfl⟩ [.int (v2 + v4)] [.int (v2 + v4), .ref v1] rfl rfl (rc_Bytes hv1 _) (Nat.le_of_ble_eq_true rfl) d_Reader_takeNumber_16 19 rfl (zc_Bytes_get v1 (v2 + v4) m hv1 (ok_b h (fun r1 h => ?_)))
    refine ax_callS mv_Reader_94 ⟨Nat.le_of_ble_eq_true rfl, Nat.le_of_ble_eq_true rfl⟩ ⟨rfl, rfl⟩ [.int r1] [.int r1] rfl rfl (Nat.le_of_ble_eq_true rfl) d_Reader_takeNumber_19 22 rfl (zc_PA_isDigit r1 m ?_)
    refine ax_ifb_eq 31 25 d_Reader_takeNumber_22 rfl rfl (fun hc => ?_) (fun hc => ?_)
    · have h := ok_f (bf hc) h
      exact ax_sub [0, 1, 2, 3, 4] rfl (c_Reader_takeNumber_J31 v1 v2 v3 v4 m hv1 (fun p hp => hR p hp) (ok_z h))
    · have h := ok_t hc h
      refine ax_iinc (ls1 := [(4, .int (v4 + 1)), (0, .ref 65), (1, .ref v1), (2, .int v2), (3, .int v3)]) 4 1 d_Reader_takeNumber_25 rfl ic_1 (Nat.le_of_ble_eq_true rfl) rfl 28 rfl ?_
      refine ax_goto 3 d_Reader_takeNumber_28 rfl ?_
      exact ax_sub [1, 2, 3, 4, 0] rfl (h0 (v4 + 1) (ok_some h))
theorem c_Reader_takeNumber_L3 (v1 : Nat) (v2 : Int32) (v3 : Int32) (v4 : Int32) (m : zM) (hv1 : v1 ∈ li_Bytes) {Q : Option Value → zM → Prop} {K : zM → Prop} (hR : ∀ p : zM, K (p) → Q none p)  (h : ok (f_Reader_takeNumber_L3 v1 v2 v3 v4 m) K) : AX gX s_Reader_takeNumber 3 [(0, .ref 65), (1, .ref v1), (2, .int v2), (3, .int v3), (4, .int v4)] [] m Q :=
  ok_lp (K := K) (G := fun s : Int32 => AX gX s_Reader_takeNumber 3 [(0, .ref 65), (1, .ref v1), (2, .int v2), (3, .int v3), (4, .int s)] [] m Q) (fun s h => c_Reader_takeNumber_B3 v1 v2 v3 s m hv1 (fun p hp => hR p hp) (fun s hs => hs) h) FU v4 h
set_option maxRecDepth 4000 in
theorem zc_Reader_takeNumber (v1 : Nat) (v2 : Int32) (v3 : Int32) (m : zM) (hv1 : v1 ∈ li_Bytes) {Q : Option Value → zM → Prop} (h : ok (f_Reader_takeNumber v1 v2 v3 m) (fun p => Q none p)) : zc gX s_Reader_takeNumber [.ref 65, .ref v1, .int v2, .int v3] m Q := by
  refine zc_of rfl (Nat.le_of_ble_eq_true rfl) ?_
  show AX gX s_Reader_takeNumber 0 [(0, .ref 65), (1, .ref v1), (2, .int v2), (3, .int v3)] [] m Q
  obtain ⟨K, hK⟩ : ∃ K : zM → Prop, K = (fun p : zM => Q none p) := ⟨_, rfl⟩
  have hR : ∀ p : zM, K p → Q none p := fun p hp => by rw [hK] at hp; exact hp
  replace h : ok (f_Reader_takeNumber v1 v2 v3 m) (fun p : zM => Q none p) := h
  rw [← hK] at h
  unfold f_Reader_takeNumber at h
  refine ax_iconst 0 d_Reader_takeNumber_0 ic_0 1 rfl ?_
  refine ax_istore (ls1 := [(4, .int 0), (0, .ref 65), (1, .ref v1), (2, .int v2), (3, .int v3)]) d_Reader_takeNumber_1 (Nat.le_of_ble_eq_true rfl) rfl 3 rfl ?_
  exact ax_sub [1, 2, 3, 4, 0] rfl (c_Reader_takeNumber_L3 v1 v2 v3 0 m hv1 (fun p hp => hR p hp) h)
set_option maxRecDepth 4000 in
theorem c_Reader_take_J70 (v3 : Int32) (m : zM)  {Q : Option Value → zM → Prop} {K : (Bool × zM) → Prop} (hR : ∀ p : Bool × zM, K (p) → Q (some (.int (b2i p.1))) p.2)  (h : ok (f_Reader_take_J70 v3 m) K) : AX gX s_Reader_take 70 [(0, .ref 65), (3, .int v3)] [] m Q := by
  unfold f_Reader_take_J70 at h
  refine ax_aload_n 0 d_Reader_take_70 rfl rfl 71 rfl ?_
  refine ax_getR fl_Reader_18 x_65 rfl (rx_65_1 _) d_Reader_take_71 74 rfl ?_
  refine ax_iload_n 1 d_Reader_take_74 rfl rfl 75 rfl ?_
  refine ax_iaload x_89 d_Reader_take_75 76 rfl h (fun i12 h => ?_)
  refine ax_iconst 4 d_Reader_take_76 ic_4 77 rfl ?_
  refine ax_icmp_ne 84 80 d_Reader_take_77 rfl rfl (fun hc => ?_) (fun hc => ?_)
  · have h := ok_f hc h
    refine ax_iconst 0 d_Reader_take_84 ic_0 85 rfl ?_
    exact ax_zret (b := false) rfl d_Reader_take_85 (hR (false, m) (ok_some h))
  · have h := ok_t hc h
    refine ax_iconst 1 d_Reader_take_80 ic_1 81 rfl ?_
    refine ax_goto 85 d_Reader_take_81 rfl ?_
    exact ax_zret (b := true) rfl d_Reader_take_85 (hR (true, m) (ok_some h))
set_option maxRecDepth 4000 in
theorem zc_Reader_take (v1 : Nat) (v2 : Int32) (v3 : Int32) (m : zM) (hv1 : v1 ∈ li_Bytes) {Q : Option Value → zM → Prop} (h : ok (f_Reader_take v1 v2 v3 m) (fun p => Q (some (.int (b2i p.1))) p.2)) : zc gX s_Reader_take [.ref 65, .ref v1, .int v2, .int v3] m Q := by
  refine zc_of rfl (Nat.le_of_ble_eq_true rfl) ?_
  show AX gX s_Reader_take 0 [(0, .ref 65), (1, .ref v1), (2, .int v2), (3, .int v3)] [] m Q
  obtain ⟨K, hK⟩ : ∃ K : (Bool × zM) → Prop, K = (fun p : Bool × zM => Q (some (.int (b2i p.1))) p.2) := ⟨_, rfl⟩
  have hR : ∀ p : Bool × zM, K p → Q (some (.int (b2i p.1))) p.2 := fun p hp => by rw [hK] at hp; exact hp
  replace h : ok (f_Reader_take v1 v2 v3 m) (fun p : Bool × zM => Q (some (.int (b2i p.1))) p.2) := h
  rw [← hK] at h
  unfold f_Reader_take at h
  refine ax_aload_n 1 d_Reader_take_0 rfl rfl 1 rfl ?_
  refine ax_iload_n 2 d_Reader_take_1 rfl rfl 2 rfl ?_
  refine ax_callV mv_Reader_75 ⟨Nat.le_of_ble_eq_true rfl, Nat.le_of_ble_eq_true rfl⟩ ⟨rfl, rfl⟩ [.int v2] [.int v2, .ref v1] rfl rfl (rc_Bytes hv1 _) (Nat.le_of_ble_eq_true rfl) d_Reader_take_2 5 rfl (zc_Bytes_get v1 v2 m hv1 (ok_b h (fun r1 h => ?_)))
  refine ax_istore (ls1 := [(4, .int r1), (0, .ref 65), (1, .ref v1), (2, .int v2), (3, .int v3)]) d_Reader_take_5 (Nat.le_of_ble_eq_true rfl) rfl 7 rfl ?_
  refine ax_aload_n 1 d_Reader_take_7 rfl rfl 8 rfl ?_
  refine ax_getR fl_Reader_22 x_65 rfl (rx_65_2 _) d_Reader_take_8 11 rfl ?_
  refine ax_iload_n 4 d_Reader_take_11 rfl rfl 12 rfl ?_
  refine ax_iload_n 3 d_Reader_take_12 rfl rfl 13 rfl ?_
  refine ax_iastore x_90 d_Reader_take_13 14 rfl h (fun i2 m3 h => ?_)
  refine ax_aload_n 1 d_Reader_take_14 rfl rfl 15 rfl ?_
  refine ax_getR fl_Reader_25 x_65 rfl (rx_65_3 _) d_Reader_take_15 18 rfl ?_
  refine ax_iload_n 4 d_Reader_take_18 rfl rfl 19 rfl ?_
  refine ax_iconst 1 d_Reader_take_19 ic_1 20 rfl ?_
  refine ax_iastore x_91 d_Reader_take_20 21 rfl h (fun i4 m5 h => ?_)
  refine ax_aload_n 1 d_Reader_take_21 rfl rfl 22 rfl ?_
  refine ax_getR fl_Reader_28 x_65 rfl (rx_65_4 _) d_Reader_take_22 25 rfl ?_
  refine ax_iload_n 4 d_Reader_take_25 rfl rfl 26 rfl ?_
  refine ax_iload 0 d_Reader_take_26 rfl 28 rfl ?_
  refine ax_i2l d_Reader_take_28 29 rfl ?_
  refine ax_lastore x_92 d_Reader_take_29 30 rfl h (fun i6 m7 h => ?_)
  refine ax_aload_n 1 d_Reader_take_30 rfl rfl 31 rfl ?_
  refine ax_getR fl_Reader_18 x_65 rfl (rx_65_1 _) d_Reader_take_31 34 rfl ?_
  refine ax_iload_n 4 d_Reader_take_34 rfl rfl 35 rfl ?_
  refine ax_iconst 4 d_Reader_take_35 ic_4 36 rfl ?_
  refine ax_iastore x_89 d_Reader_take_36 37 rfl h (fun i8 m9 h => ?_)
  refine ax_iload 0 d_Reader_take_37 rfl 39 rfl ?_
  refine ax_callS mv_Reader_87 ⟨Nat.le_of_ble_eq_true rfl, Nat.le_of_ble_eq_true rfl⟩ ⟨rfl, rfl⟩ [.int r1] [.int r1] rfl rfl (Nat.le_of_ble_eq_true rfl) d_Reader_take_39 42 rfl (zc_PA_isLetter r1 m9 ?_)
  refine ax_ifb_eq 55 45 d_Reader_take_42 rfl rfl (fun hc => ?_) (fun hc => ?_)
  · have h := ok_f (bf hc) h
    refine ax_iload 0 d_Reader_take_55 rfl 57 rfl ?_
    refine ax_callS mv_Reader_94 ⟨Nat.le_of_ble_eq_true rfl, Nat.le_of_ble_eq_true rfl⟩ ⟨rfl, rfl⟩ [.int r1] [.int r1] rfl rfl (Nat.le_of_ble_eq_true rfl) d_Reader_take_57 60 rfl (zc_PA_isDigit r1 m9 ?_)
    refine ax_ifb_eq 70 63 d_Reader_take_60 rfl rfl (fun hc => ?_) (fun hc => ?_)
    · have h := ok_f (bf hc) h
      exact ax_sub [1, 4] rfl (c_Reader_take_J70 v3 m9 (fun p hp => hR p hp) h)
    · have h := ok_t hc h
      refine ax_aload_n 1 d_Reader_take_63 rfl rfl 64 rfl ?_
      refine ax_aload_n 2 d_Reader_take_64 rfl rfl 65 rfl ?_
      refine ax_iload_n 3 d_Reader_take_65 rfl rfl 66 rfl ?_
      refine ax_iload_n 4 d_Reader_take_66 rfl rfl 67 rfl ?_
      refine ax_callV mv_Reader_97 ⟨Nat.le_of_ble_eq_true rfl, Nat.le_of_ble_eq_true rfl⟩ ⟨rfl, rfl⟩ [.ref v1, .int v2, .int v3] [.int v3, .int v2, .ref v1, .ref 65] rfl rfl (rc_x_65 _) (Nat.le_of_ble_eq_true rfl) d_Reader_take_67 70 rfl (zc_Reader_takeNumber v1 v2 v3 m9 hv1 (ok_b h (fun p10 h => ?_)))
      exact ax_sub [1, 4] rfl (c_Reader_take_J70 v3 p10 (fun p hp => hR p hp) h)
  · have h := ok_t hc h
    refine ax_aload_n 1 d_Reader_take_45 rfl rfl 46 rfl ?_
    refine ax_aload_n 2 d_Reader_take_46 rfl rfl 47 rfl ?_
    refine ax_iload_n 3 d_Reader_take_47 rfl rfl 48 rfl ?_
    refine ax_iload_n 4 d_Reader_take_48 rfl rfl 49 rfl ?_
    refine ax_callV mv_Reader_90 ⟨Nat.le_of_ble_eq_true rfl, Nat.le_of_ble_eq_true rfl⟩ ⟨rfl, rfl⟩ [.ref v1, .int v2, .int v3] [.int v3, .int v2, .ref v1, .ref 65] rfl rfl (rc_x_65 _) (Nat.le_of_ble_eq_true rfl) d_Reader_take_49 52 rfl (zc_Reader_takeWord v1 v2 v3 m9 hv1 (ok_b h (fun p11 h => ?_)))
    refine ax_goto 70 d_Reader_take_52 rfl ?_
    exact ax_sub [1, 4] rfl (c_Reader_take_J70 v3 p11 (fun p hp => hR p hp) h)
set_option maxRecDepth 4000 in
theorem c_Reader_scan_J109 (v1 : Nat) (v2 : Int32) (m : zM) (hv1 : v1 ∈ li_Bytes) {Q : Option Value → zM → Prop} {K : zM → Prop} (hR : ∀ p : zM, K (p) → Q none p)  (h : ok (f_Reader_scan_J109 v1 v2 m) K) : AX gX s_Reader_scan 109 [(0, .ref 65), (1, .ref v1), (2, .int v2)] [] m Q := by
  unfold f_Reader_scan_J109 at h
  refine ax_aload_n 0 d_Reader_scan_109 rfl rfl 110 rfl ?_
  refine ax_getR fl_Reader_18 x_65 rfl (rx_65_1 _) d_Reader_scan_110 113 rfl ?_
  refine ax_iload_n 2 d_Reader_scan_113 rfl rfl 114 rfl ?_
  refine ax_iconst 0 d_Reader_scan_114 ic_0 115 rfl ?_
  refine ax_iastore x_89 d_Reader_scan_115 116 rfl h (fun i5 m6 h => ?_)
  refine ax_aload_n 0 d_Reader_scan_116 rfl rfl 117 rfl ?_
  refine ax_getR fl_Reader_22 x_65 rfl (rx_65_2 _) d_Reader_scan_117 120 rfl ?_
  refine ax_iload_n 2 d_Reader_scan_120 rfl rfl 121 rfl ?_
  refine ax_aload_n 1 d_Reader_scan_121 rfl rfl 122 rfl ?_
  refine ax_callV mv_Reader_70 ⟨Nat.le_of_ble_eq_true rfl, Nat.le_of_ble_eq_true rfl⟩ ⟨rfl, rfl⟩ [] [.ref v1, .int v2, .ref 90] rfl rfl (rc_Bytes hv1 _) (Nat.le_of_ble_eq_true rfl) d_Reader_scan_122 125 rfl (zc_Bytes_size v1 m6 hv1 ?_)
  refine ax_iastore x_90 d_Reader_scan_125 126 rfl h (fun i7 m8 h => ?_)
  exact ax_vret rfl d_Reader_scan_126 (hR m8 (ok_some h))
set_option maxRecDepth 4000 in
theorem c_Reader_scan_J96 (v1 : Nat) (v2 : Int32) (v3 : Int32) (v4 : Int32) (v5 : Int32) (v6 : Int32) (m : zM) (hv1 : v1 ∈ li_Bytes) {Q : Option Value → zM → Prop} {K : ((zM) ⊕ (Int32 × Int32 × Int32 × Int32 × zM)) → Prop} (hR : ∀ p : zM, K (.inl p) → Q none p) (h0 : ∀ s : Int32 × Int32 × Int32 × Int32 × zM, K (.inr s) → AX gX s_Reader_scan 10 [(0, .ref 65), (1, .ref v1), (2, .int s.1), (3, .int s.2.1), (4, .int s.2.2.1), (5, .int s.2.2.2.1)] [] s.2.2.2.2 Q) (h : ok (f_Reader_scan_J96 v1 v2 v3 v4 v5 v6 m) K) : AX gX s_Reader_scan 96 [(0, .ref 65), (1, .ref v1), (2, .int v2), (3, .int v3), (4, .int v4), (5, .int v5), (6, .int v6)] [] m Q := by
  unfold f_Reader_scan_J96 at h
  refine ax_iload 4 d_Reader_scan_96 rfl 98 rfl ?_
  refine ax_iload 6 d_Reader_scan_98 rfl 100 rfl ?_
  refine ax_iadd d_Reader_scan_100 101 rfl ?_
  refine ax_istore (ls1 := [(4, .int (v4 + v6)), (0, .ref 65), (1, .ref v1), (2, .int v2), (3, .int v3), (5, .int v5), (6, .int v6)]) d_Reader_scan_101 (Nat.le_of_ble_eq_true rfl) rfl 103 rfl ?_
  refine ax_iinc (ls1 := [(5, .int (v5 + 1)), (4, .int (v4 + v6)), (0, .ref 65), (1, .ref v1), (2, .int v2), (3, .int v3), (6, .int v6)]) 5 1 d_Reader_scan_103 rfl ic_1 (Nat.le_of_ble_eq_true rfl) rfl 106 rfl ?_
  refine ax_goto 10 d_Reader_scan_106 rfl ?_
  exact ax_sub [2, 3, 4, 5, 1, 0] rfl (h0 (v2, v3, (v4 + v6), (v5 + 1), m) (ok_some h))
set_option maxRecDepth 4000 in
theorem c_Reader_scan_J93 (v1 : Nat) (v2 : Int32) (v3 : Int32) (v4 : Int32) (v5 : Int32) (v6 : Int32) (m : zM) (hv1 : v1 ∈ li_Bytes) {Q : Option Value → zM → Prop} {K : ((zM) ⊕ (Int32 × Int32 × Int32 × Int32 × zM)) → Prop} (hR : ∀ p : zM, K (.inl p) → Q none p) (h0 : ∀ s : Int32 × Int32 × Int32 × Int32 × zM, K (.inr s) → AX gX s_Reader_scan 10 [(0, .ref 65), (1, .ref v1), (2, .int s.1), (3, .int s.2.1), (4, .int s.2.2.1), (5, .int s.2.2.2.1)] [] s.2.2.2.2 Q) (h : ok (f_Reader_scan_J93 v1 v2 v3 v4 v5 v6 m) K) : AX gX s_Reader_scan 93 [(0, .ref 65), (1, .ref v1), (2, .int v2), (3, .int v3), (4, .int v4), (5, .int v5), (6, .int v6)] [] m Q := by
  unfold f_Reader_scan_J93 at h
  refine ax_iinc (ls1 := [(2, .int (v2 + 1)), (0, .ref 65), (1, .ref v1), (3, .int v3), (4, .int v4), (5, .int v5), (6, .int v6)]) 2 1 d_Reader_scan_93 rfl ic_1 (Nat.le_of_ble_eq_true rfl) rfl 96 rfl ?_
  exact ax_sub [1, 2, 0, 3, 4, 5, 6] rfl (c_Reader_scan_J96 v1 (v2 + 1) v3 v4 v5 v6 m hv1 (fun p hp => hR p hp) (fun s hs => h0 s hs) h)
set_option maxRecDepth 4000 in
theorem c_Reader_scan_J86 (v1 : Nat) (v2 : Int32) (v4 : Int32) (v5 : Int32) (v6 : Int32) (t0 : Nat) (t1 : Int32) (t2 : Int32) (m : zM) (hv1 : v1 ∈ li_Bytes) (ht0 : gX.1[t0]? = some (.inr (0, zlen gX t0))) {Q : Option Value → zM → Prop} {K : ((zM) ⊕ (Int32 × Int32 × Int32 × Int32 × zM)) → Prop} (hR : ∀ p : zM, K (.inl p) → Q none p) (h0 : ∀ s : Int32 × Int32 × Int32 × Int32 × zM, K (.inr s) → AX gX s_Reader_scan 10 [(0, .ref 65), (1, .ref v1), (2, .int s.1), (3, .int s.2.1), (4, .int s.2.2.1), (5, .int s.2.2.2.1)] [] s.2.2.2.2 Q) (h : ok (f_Reader_scan_J86 v1 v2 v4 v5 v6 t0 t1 t2 m) K) : AX gX s_Reader_scan 86 [(0, .ref 65), (1, .ref v1), (2, .int v2), (4, .int v4), (5, .int v5), (6, .int v6)] [.int t2, .int t1, .ref t0] m Q := by
  unfold f_Reader_scan_J86 at h
  refine ax_iastore ht0 d_Reader_scan_86 87 rfl h (fun i9 m10 h => ?_)
  refine ax_iload 3 d_Reader_scan_87 rfl 89 rfl ?_
  refine ax_iload 5 d_Reader_scan_89 rfl 91 rfl ?_
  refine ax_iadd d_Reader_scan_91 92 rfl ?_
  refine ax_istore_n (ls1 := [(3, .int (v4 + v6)), (0, .ref 65), (1, .ref v1), (2, .int v2), (4, .int v4), (5, .int v5), (6, .int v6)]) d_Reader_scan_92 rfl (Nat.le_of_ble_eq_true rfl) rfl 93 rfl ?_
  exact ax_sub [1, 2, 3, 0, 4, 5, 6] rfl (c_Reader_scan_J93 v1 v2 (v4 + v6) v4 v5 v6 m10 hv1 (fun p hp => hR p hp) (fun s hs => h0 s hs) h)
set_option maxRecDepth 4000 in
theorem c_Reader_scan_B10 (v1 : Nat) (v2 : Int32) (v3 : Int32) (v4 : Int32) (v5 : Int32) (m : zM) (hv1 : v1 ∈ li_Bytes) {Q : Option Value → zM → Prop} {K : ((zM) ⊕ (Int32 × Int32 × Int32 × Int32 × zM)) → Prop} (hR : ∀ p : zM, K (.inl p) → Q none p) (h0 : ∀ s : Int32 × Int32 × Int32 × Int32 × zM, K (.inr s) → AX gX s_Reader_scan 10 [(0, .ref 65), (1, .ref v1), (2, .int s.1), (3, .int s.2.1), (4, .int s.2.2.1), (5, .int s.2.2.2.1)] [] s.2.2.2.2 Q) (h : ok (f_Reader_scan_B10 v1 v2 v3 v4 v5 m) K) : AX gX s_Reader_scan 10 [(0, .ref 65), (1, .ref v1), (2, .int v2), (3, .int v3), (4, .int v4), (5, .int v5)] [] m Q := by
  unfold f_Reader_scan_B10 at h
  refine ax_iload 5 d_Reader_scan_10 rfl 12 rfl ?_
  refine ax_sipush 1600 d_Reader_scan_12 sp_1600 15 rfl ?_
  refine ax_icmp_ge 109 18 d_Reader_scan_15 rfl rfl (fun hc => ?_) (fun hc => ?_)
  · have h := ok_t hc h
    exact ax_sub [0, 1, 2] rfl (c_Reader_scan_J109 v1 v2 m hv1 (fun p hp => hR p hp) (ok_z h))
  · have h := ok_f hc h
    refine ax_iload 4 d_Reader_scan_18 rfl 20 rfl ?_
    refine ax_aload_n 1 d_Reader_scan_20 rfl rfl 21 rfl ?_
    refine ax_callV mv_Reader_70 ⟨Nat.le_of_ble_eq_true rfl, Nat.le_of_ble_eq_true rfl⟩ ⟨rfl, rfl⟩ [] [.ref v1, .int v4] rfl rfl (rc_Bytes hv1 _) (Nat.le_of_ble_eq_true rfl) d_Reader_scan_21 24 rfl (zc_Bytes_size v1 m hv1 ?_)
    refine ax_icmp_ge 109 27 d_Reader_scan_24 rfl rfl (fun hc => ?_) (fun hc => ?_)
    · have h := ok_t hc h
      exact ax_sub [0, 1, 2] rfl (c_Reader_scan_J109 v1 v2 m hv1 (fun p hp => hR p hp) (ok_z h))
    · have h := ok_f hc h
      refine ax_iconst 1 d_Reader_scan_27 ic_1 28 rfl ?_
      refine ax_istore (ls1 := [(6, .int 1), (0, .ref 65), (1, .ref v1), (2, .int v2), (3, .int v3), (4, .int v4), (5, .int v5)]) d_Reader_scan_28 (Nat.le_of_ble_eq_true rfl) rfl 30 rfl ?_
      refine ax_aload_n 2 d_Reader_scan_30 rfl rfl 31 rfl ?_
      refine ax_iload 5 d_Reader_scan_31 rfl 33 rfl ?_
      refine ax_callV mv_Reader_75 ⟨Nat.le_of_ble_eq_true rfl, Nat.le_of_ble_eq_true rfl⟩ ⟨rfl, rfl⟩ [.int v4] [.int v4, .ref v1] rfl rfl (rc_Bytes hv1 _) (Nat.le_of_ble_eq_true rfl) d_Reader_scan_33 36 rfl (zc_Bytes_get v1 v4 m hv1 (ok_b h (fun r1 h => ?_)))
      refine ax_callS mv_Reader_79 ⟨Nat.le_of_ble_eq_true rfl, Nat.le_of_ble_eq_true rfl⟩ ⟨rfl, rfl⟩ [.int r1] [.int r1] rfl rfl (Nat.le_of_ble_eq_true rfl) d_Reader_scan_36 39 rfl (zc_PA_isBlank r1 m ?_)
      refine ax_ifb_ne 96 42 d_Reader_scan_39 rfl rfl (fun hc => ?_) (fun hc => ?_)
      · have h := ok_t hc h
        exact ax_sub [1, 2, 3, 4, 5, 6, 0] rfl (c_Reader_scan_J96 v1 v2 v3 v4 v5 1 m hv1 (fun p hp => hR p hp) (fun s hs => h0 s hs) h)
      · have h := ok_f (bf hc) h
        refine ax_aload_n 1 d_Reader_scan_42 rfl rfl 43 rfl ?_
        refine ax_aload_n 2 d_Reader_scan_43 rfl rfl 44 rfl ?_
        refine ax_iload 5 d_Reader_scan_44 rfl 46 rfl ?_
        refine ax_iload_n 3 d_Reader_scan_46 rfl rfl 47 rfl ?_
        refine ax_callV mv_Reader_83 ⟨Nat.le_of_ble_eq_true rfl, Nat.le_of_ble_eq_true rfl⟩ ⟨rfl, rfl⟩ [.ref v1, .int v4, .int v2] [.int v2, .int v4, .ref v1, .ref 65] rfl rfl (rc_x_65 _) (Nat.le_of_ble_eq_true rfl) d_Reader_scan_47 50 rfl (zc_Reader_take v1 v4 v2 m hv1 (ok_b h (fun p2 h => ?_)))
        refine ax_istore (ls1 := [(7, .int (b2i p2.1)), (6, .int 1), (0, .ref 65), (1, .ref v1), (2, .int v2), (3, .int v3), (4, .int v4), (5, .int v5)]) d_Reader_scan_50 (Nat.le_of_ble_eq_true rfl) rfl 52 rfl ?_
        refine ax_aload_n 2 d_Reader_scan_52 rfl rfl 53 rfl ?_
        refine ax_getR fl_Reader_25 x_65 rfl (rx_65_3 _) d_Reader_scan_53 56 rfl ?_
        refine ax_iload_n 4 d_Reader_scan_56 rfl rfl 57 rfl ?_
        refine ax_iaload x_91 d_Reader_scan_57 58 rfl h (fun i3 h => ?_)
        refine ax_istore (ls1 := [(6, .int (p2.2.1 91 i3)), (7, .int (b2i p2.1)), (0, .ref 65), (1, .ref v1), (2, .int v2), (3, .int v3), (4, .int v4), (5, .int v5)]) d_Reader_scan_58 (Nat.le_of_ble_eq_true rfl) rfl 60 rfl ?_
        refine ax_iload 1 d_Reader_scan_60 rfl 62 rfl ?_
        refine ax_ifb_ne 93 65 d_Reader_scan_62 rfl rfl (fun hc => ?_) (fun hc => ?_)
        · have h := ok_t hc h
          exact ax_sub [2, 3, 4, 5, 6, 7, 0] rfl (c_Reader_scan_J93 v1 v2 v3 v4 v5 (p2.2.1 91 i3) p2.2 hv1 (fun p hp => hR p hp) (fun s hs => h0 s hs) h)
        · have h := ok_f (bf hc) h
          refine ax_aload_n 2 d_Reader_scan_65 rfl rfl 66 rfl ?_
          refine ax_getR fl_Reader_18 x_65 rfl (rx_65_1 _) d_Reader_scan_66 69 rfl ?_
          refine ax_iload_n 4 d_Reader_scan_69 rfl rfl 70 rfl ?_
          refine ax_iload_n 5 d_Reader_scan_70 rfl rfl 71 rfl ?_
          refine ax_iload 6 d_Reader_scan_71 rfl 73 rfl ?_
          refine ax_icmp_ne 80 76 d_Reader_scan_73 rfl rfl (fun hc => ?_) (fun hc => ?_)
          · have h := ok_f hc h
            refine ax_aload_n 2 d_Reader_scan_80 rfl rfl 81 rfl ?_
            refine ax_getR fl_Reader_18 x_65 rfl (rx_65_1 _) d_Reader_scan_81 84 rfl ?_
            refine ax_iload_n 4 d_Reader_scan_84 rfl rfl 85 rfl ?_
            refine ax_iaload x_89 d_Reader_scan_85 86 rfl h (fun i4 h => ?_)
            exact ax_sub [2, 3, 4, 6, 7, 0] rfl (c_Reader_scan_J86 v1 v2 v4 v5 (p2.2.1 91 i3) 89 v2 (p2.2.1 89 i4) p2.2 hv1 x_89z (fun p hp => hR p hp) (fun s hs => h0 s hs) h)
          · have h := ok_t hc h
            refine ax_iconst 5 d_Reader_scan_76 ic_5 77 rfl ?_
            refine ax_goto 86 d_Reader_scan_77 rfl ?_
            exact ax_sub [2, 3, 4, 6, 7, 0] rfl (c_Reader_scan_J86 v1 v2 v4 v5 (p2.2.1 91 i3) 89 v2 5 p2.2 hv1 x_89z (fun p hp => hR p hp) (fun s hs => h0 s hs) h)
theorem c_Reader_scan_L10 (v1 : Nat) (v2 : Int32) (v3 : Int32) (v4 : Int32) (v5 : Int32) (m : zM) (hv1 : v1 ∈ li_Bytes) {Q : Option Value → zM → Prop} {K : zM → Prop} (hR : ∀ p : zM, K (p) → Q none p)  (h : ok (f_Reader_scan_L10 v1 v2 v3 v4 v5 m) K) : AX gX s_Reader_scan 10 [(0, .ref 65), (1, .ref v1), (2, .int v2), (3, .int v3), (4, .int v4), (5, .int v5)] [] m Q :=
  ok_lp (K := K) (G := fun s : Int32 × Int32 × Int32 × Int32 × zM => AX gX s_Reader_scan 10 [(0, .ref 65), (1, .ref v1), (2, .int s.1), (3, .int s.2.1), (4, .int s.2.2.1), (5, .int s.2.2.2.1)] [] s.2.2.2.2 Q) (fun s h => c_Reader_scan_B10 v1 s.1 s.2.1 s.2.2.1 s.2.2.2.1 s.2.2.2.2 hv1 (fun p hp => hR p hp) (fun s hs => hs) h) FU (v2, v3, v4, v5, m) h
set_option maxRecDepth 4000 in
theorem zc_Reader_scan (v1 : Nat) (m : zM) (hv1 : v1 ∈ li_Bytes) {Q : Option Value → zM → Prop} (h : ok (f_Reader_scan v1 m) (fun p => Q none p)) : zc gX s_Reader_scan [.ref 65, .ref v1] m Q := by
  refine zc_of rfl (Nat.le_of_ble_eq_true rfl) ?_
  show AX gX s_Reader_scan 0 [(0, .ref 65), (1, .ref v1)] [] m Q
  obtain ⟨K, hK⟩ : ∃ K : zM → Prop, K = (fun p : zM => Q none p) := ⟨_, rfl⟩
  have hR : ∀ p : zM, K p → Q none p := fun p hp => by rw [hK] at hp; exact hp
  replace h : ok (f_Reader_scan v1 m) (fun p : zM => Q none p) := h
  rw [← hK] at h
  unfold f_Reader_scan at h
  refine ax_iconst 0 d_Reader_scan_0 ic_0 1 rfl ?_
  refine ax_istore_n (ls1 := [(2, .int 0), (0, .ref 65), (1, .ref v1)]) d_Reader_scan_1 rfl (Nat.le_of_ble_eq_true rfl) rfl 2 rfl ?_
  refine ax_iconst (-1) d_Reader_scan_2 ic_m1 3 rfl ?_
  refine ax_istore_n (ls1 := [(3, .int (-1)), (2, .int 0), (0, .ref 65), (1, .ref v1)]) d_Reader_scan_3 rfl (Nat.le_of_ble_eq_true rfl) rfl 4 rfl ?_
  refine ax_iconst 0 d_Reader_scan_4 ic_0 5 rfl ?_
  refine ax_istore (ls1 := [(4, .int 0), (3, .int (-1)), (2, .int 0), (0, .ref 65), (1, .ref v1)]) d_Reader_scan_5 (Nat.le_of_ble_eq_true rfl) rfl 7 rfl ?_
  refine ax_iconst 0 d_Reader_scan_7 ic_0 8 rfl ?_
  refine ax_istore (ls1 := [(5, .int 0), (4, .int 0), (3, .int (-1)), (2, .int 0), (0, .ref 65), (1, .ref v1)]) d_Reader_scan_8 (Nat.le_of_ble_eq_true rfl) rfl 10 rfl ?_
  exact ax_sub [4, 5, 3, 2, 1, 0] rfl (c_Reader_scan_L10 v1 0 (-1) 0 0 m hv1 (fun p hp => hR p hp) h)
set_option maxRecDepth 4000 in
theorem zc_Reader_refuse (v1 : Int32) (v2 : Int32) (m : zM)  {Q : Option Value → zM → Prop} (h : Q (some (.int (b2i (f_Reader_refuse v1 v2 m).1))) ((f_Reader_refuse v1 v2 m).2)) : zc gX s_Reader_refuse [.ref 65, .int v1, .int v2] m Q := by
  refine zc_of rfl (Nat.le_of_ble_eq_true rfl) ?_
  show AX gX s_Reader_refuse 0 [(0, .ref 65), (1, .int v1), (2, .int v2)] [] m Q
  obtain ⟨K, hK⟩ : ∃ K : (Bool × zM) → Prop, K = (fun p : Bool × zM => Q (some (.int (b2i p.1))) p.2) := ⟨_, rfl⟩
  have hR : ∀ p : Bool × zM, K p → Q (some (.int (b2i p.1))) p.2 := fun p hp => by rw [hK] at hp; exact hp
  replace h : (fun p : Bool × zM => Q (some (.int (b2i p.1))) p.2) (f_Reader_refuse v1 v2 m) := h
  rw [← hK] at h
  unfold f_Reader_refuse at h
  refine ax_aload_n 0 d_Reader_refuse_0 rfl rfl 1 rfl ?_
  refine ax_iload_n 1 d_Reader_refuse_1 rfl rfl 2 rfl ?_
  refine ax_putIk (K := K) fl_Reader_39 x_65 rfl rfl rfl (Nat.le_of_ble_eq_true rfl) d_Reader_refuse_2 5 rfl h (fun m1 h => ?_)
  refine ax_aload_n 0 d_Reader_refuse_5 rfl rfl 6 rfl ?_
  refine ax_iload_n 2 d_Reader_refuse_6 rfl rfl 7 rfl ?_
  refine ax_putIk (K := K) fl_Reader_42 x_65 rfl rfl rfl (Nat.le_of_ble_eq_true rfl) d_Reader_refuse_7 10 rfl h (fun m2 h => ?_)
  refine ax_iconst 0 d_Reader_refuse_10 ic_0 11 rfl ?_
  exact ax_zret (b := false) rfl d_Reader_refuse_11 (hR (false, m2) h)
set_option maxRecDepth 4000 in
theorem c_Reader_isNext_J37 (v2 : Int64) (m : zM)  {Q : Option Value → zM → Prop} {K : Bool → Prop} (hR : ∀ p : Bool, K (p) → Q (some (.int (b2i p))) m)  (h : ok (f_Reader_isNext_J37 v2 m) K) : AX gX s_Reader_isNext 37 [(0, .ref 65), (2, .long v2)] [] m Q := by
  unfold f_Reader_isNext_J37 at h
  refine ax_aload_n 0 d_Reader_isNext_37 rfl rfl 38 rfl ?_
  refine ax_getR fl_Reader_18 x_65 rfl (rx_65_1 _) d_Reader_isNext_38 41 rfl ?_
  refine ax_aload_n 0 d_Reader_isNext_41 rfl rfl 42 rfl ?_
  refine ax_getI fl_Reader_32 x_65 rfl d_Reader_isNext_42 45 rfl ?_
  refine ax_iaload x_89 d_Reader_isNext_45 46 rfl h (fun i2 h => ?_)
  refine ax_iconst 2 d_Reader_isNext_46 ic_2 47 rfl ?_
  refine ax_icmp_ne 68 50 d_Reader_isNext_47 rfl rfl (fun hc => ?_) (fun hc => ?_)
  · have h := ok_f hc h
    refine ax_iconst 0 d_Reader_isNext_68 ic_0 69 rfl ?_
    exact ax_zret (b := false) rfl d_Reader_isNext_69 (hR false (ok_some h))
  · have h := ok_t hc h
    refine ax_aload_n 0 d_Reader_isNext_50 rfl rfl 51 rfl ?_
    refine ax_getR fl_Reader_28 x_65 rfl (rx_65_4 _) d_Reader_isNext_51 54 rfl ?_
    refine ax_aload_n 0 d_Reader_isNext_54 rfl rfl 55 rfl ?_
    refine ax_getI fl_Reader_32 x_65 rfl d_Reader_isNext_55 58 rfl ?_
    refine ax_laload x_92 d_Reader_isNext_58 59 rfl h (fun i3 h => ?_)
    refine ax_lload_n 1 d_Reader_isNext_59 rfl rfl 60 rfl ?_
    refine ax_lcmp d_Reader_isNext_60 61 rfl ?_
    refine ax_if_ne 68 64 d_Reader_isNext_61 rfl rfl (fun hc => ?_) (fun hc => ?_)
    · have h := ok_f hc h
      refine ax_iconst 0 d_Reader_isNext_68 ic_0 69 rfl ?_
      exact ax_zret (b := false) rfl d_Reader_isNext_69 (hR false (ok_some h))
    · have h := ok_t hc h
      refine ax_iconst 1 d_Reader_isNext_64 ic_1 65 rfl ?_
      refine ax_goto 69 d_Reader_isNext_65 rfl ?_
      exact ax_zret (b := true) rfl d_Reader_isNext_69 (hR true (ok_some h))
set_option maxRecDepth 4000 in
theorem c_Reader_isNext_B5 (v1 : Nat) (v2 : Int64) (v4 : Int32) (m : zM) (hv1 : v1 < zsN) {Q : Option Value → zM → Prop} {K : ((Bool) ⊕ (Int64 × Int32)) → Prop} (hR : ∀ p : Bool, K (.inl p) → Q (some (.int (b2i p))) m) (h0 : ∀ s : Int64 × Int32, K (.inr s) → AX gX s_Reader_isNext 5 [(0, .ref 65), (1, .ref (1000 + v1)), (2, .long s.1), (4, .int s.2)] [] m Q) (h : ok (f_Reader_isNext_B5 v1 v2 v4 m) K) : AX gX s_Reader_isNext 5 [(0, .ref 65), (1, .ref (1000 + v1)), (2, .long v2), (4, .int v4)] [] m Q := by
  unfold f_Reader_isNext_B5 at h
  refine ax_iload 3 d_Reader_isNext_5 rfl 7 rfl ?_
  refine ax_aload_n 1 d_Reader_isNext_7 rfl rfl 8 rfl ?_
  refine ax_callV mv_Reader_106 ⟨Nat.le_of_ble_eq_true rfl, Nat.le_of_ble_eq_true rfl⟩ ⟨rfl, rfl⟩ [] [.ref (1000 + v1), .int v4] rfl rfl (Or.inr ⟨rfl, v1, hv1, rfl⟩) (Nat.le_of_ble_eq_true rfl) d_Reader_isNext_8 11 rfl (zc_String_length v1 m hv1 ?_)
  refine ax_icmp_ge 37 14 d_Reader_isNext_11 rfl rfl (fun hc => ?_) (fun hc => ?_)
  · have h := ok_t hc h
    exact ax_sub [0, 2] rfl (c_Reader_isNext_J37 v2 m (fun p hp => hR p hp) (ok_z h))
  · have h := ok_f hc h
    refine ax_lload_n 2 d_Reader_isNext_14 rfl rfl 15 rfl ?_
    refine ax_iconst 5 d_Reader_isNext_15 ic_5 16 rfl ?_
    refine ax_lshl d_Reader_isNext_16 17 rfl ?_
    refine ax_aload_n 1 d_Reader_isNext_17 rfl rfl 18 rfl ?_
    refine ax_iload 3 d_Reader_isNext_18 rfl 20 rfl ?_
    refine ax_callV mv_Reader_111 ⟨Nat.le_of_ble_eq_true rfl, Nat.le_of_ble_eq_true rfl⟩ ⟨rfl, rfl⟩ [.int v4] [.int v4, .ref (1000 + v1), .long (lsl v2 5)] rfl rfl (Or.inr ⟨rfl, v1, hv1, rfl⟩) (Nat.le_of_ble_eq_true rfl) d_Reader_isNext_20 23 rfl (zc_String_charAt v1 v4 m hv1 (ok_b h (fun r1 h => ?_)))
    refine ax_bipush 97 d_Reader_isNext_23 bp_97 25 rfl ?_
    refine ax_isub d_Reader_isNext_25 26 rfl ?_
    refine ax_iconst 1 d_Reader_isNext_26 ic_1 27 rfl ?_
    refine ax_iadd d_Reader_isNext_27 28 rfl ?_
    refine ax_i2l d_Reader_isNext_28 29 rfl ?_
    refine ax_lor d_Reader_isNext_29 30 rfl ?_
    refine ax_lstore_n (ls1 := [(2, .long ((lsl v2 5) ||| (((r1 - 97) + 1).toInt64))), (0, .ref 65), (1, .ref (1000 + v1)), (4, .int v4)]) d_Reader_isNext_30 rfl (Nat.le_of_ble_eq_true rfl) rfl 31 rfl ?_
    refine ax_iinc (ls1 := [(4, .int (v4 + 1)), (2, .long ((lsl v2 5) ||| (((r1 - 97) + 1).toInt64))), (0, .ref 65), (1, .ref (1000 + v1))]) 3 1 d_Reader_isNext_31 rfl ic_1 (Nat.le_of_ble_eq_true rfl) rfl 34 rfl ?_
    refine ax_goto 5 d_Reader_isNext_34 rfl ?_
    exact ax_sub [2, 3, 1, 0] rfl (h0 (((lsl v2 5) ||| (((r1 - 97) + 1).toInt64)), (v4 + 1)) (ok_some h))
theorem c_Reader_isNext_L5 (v1 : Nat) (v2 : Int64) (v4 : Int32) (m : zM) (hv1 : v1 < zsN) {Q : Option Value → zM → Prop} {K : Bool → Prop} (hR : ∀ p : Bool, K (p) → Q (some (.int (b2i p))) m)  (h : ok (f_Reader_isNext_L5 v1 v2 v4 m) K) : AX gX s_Reader_isNext 5 [(0, .ref 65), (1, .ref (1000 + v1)), (2, .long v2), (4, .int v4)] [] m Q :=
  ok_lp (K := K) (G := fun s : Int64 × Int32 => AX gX s_Reader_isNext 5 [(0, .ref 65), (1, .ref (1000 + v1)), (2, .long s.1), (4, .int s.2)] [] m Q) (fun s h => c_Reader_isNext_B5 v1 s.1 s.2 m hv1 (fun p hp => hR p hp) (fun s hs => hs) h) FU (v2, v4) h
set_option maxRecDepth 4000 in
theorem zc_Reader_isNext (v1 : Nat) (m : zM) (hv1 : v1 < zsN) {Q : Option Value → zM → Prop} (h : ok (f_Reader_isNext v1 m) (fun p => Q (some (.int (b2i p))) m)) : zc gX s_Reader_isNext [.ref 65, .ref (1000 + v1)] m Q := by
  refine zc_of rfl (Nat.le_of_ble_eq_true rfl) ?_
  show AX gX s_Reader_isNext 0 [(0, .ref 65), (1, .ref (1000 + v1))] [] m Q
  obtain ⟨K, hK⟩ : ∃ K : Bool → Prop, K = (fun p : Bool => Q (some (.int (b2i p))) m) := ⟨_, rfl⟩
  have hR : ∀ p : Bool, K p → Q (some (.int (b2i p))) m := fun p hp => by rw [hK] at hp; exact hp
  replace h : ok (f_Reader_isNext v1 m) (fun p : Bool => Q (some (.int (b2i p))) m) := h
  rw [← hK] at h
  unfold f_Reader_isNext at h
  refine ax_lconst 0 d_Reader_isNext_0 lc_0 1 rfl ?_
  refine ax_lstore_n (ls1 := [(2, .long 0), (0, .ref 65), (1, .ref (1000 + v1))]) d_Reader_isNext_1 rfl (Nat.le_of_ble_eq_true rfl) rfl 2 rfl ?_
  refine ax_iconst 0 d_Reader_isNext_2 ic_0 3 rfl ?_
  refine ax_istore (ls1 := [(4, .int 0), (2, .long 0), (0, .ref 65), (1, .ref (1000 + v1))]) d_Reader_isNext_3 (Nat.le_of_ble_eq_true rfl) rfl 5 rfl ?_
  exact ax_sub [2, 3, 1, 0] rfl (c_Reader_isNext_L5 v1 0 0 m hv1 (fun p hp => hR p hp) h)
set_option maxRecDepth 4000 in
theorem c_Reader_word_J20 (v2 : Bool) (t1 : Int32) (t2 : Bool) (m : zM)  {Q : Option Value → zM → Prop} {K : (Bool × zM) → Prop} (hR : ∀ p : Bool × zM, K (p) → Q (some (.int (b2i p.1))) p.2)  (h : ok (f_Reader_word_J20 v2 t1 t2 m) K) : AX gX s_Reader_word 20 [(2, .int (b2i v2))] [.int (b2i t2), .int t1, .ref 65] m Q := by
  unfold f_Reader_word_J20 at h
  refine ax_iadd d_Reader_word_20 21 rfl ?_
  refine ax_putI (K := K) fl_Reader_32 x_65 rfl rfl rfl (Nat.le_of_ble_eq_true rfl) d_Reader_word_21 24 rfl h (fun m2 h => ?_)
  refine ax_iload_n 0 d_Reader_word_24 rfl rfl 25 rfl ?_
  exact ax_zret (b := v2) rfl d_Reader_word_25 (hR (v2, m2) (ok_some h))
set_option maxRecDepth 4000 in
theorem zc_Reader_word (v1 : Nat) (m : zM) (hv1 : v1 < zsN) {Q : Option Value → zM → Prop} (h : ok (f_Reader_word v1 m) (fun p => Q (some (.int (b2i p.1))) p.2)) : zc gX s_Reader_word [.ref 65, .ref (1000 + v1)] m Q := by
  refine zc_of rfl (Nat.le_of_ble_eq_true rfl) ?_
  show AX gX s_Reader_word 0 [(0, .ref 65), (1, .ref (1000 + v1))] [] m Q
  obtain ⟨K, hK⟩ : ∃ K : (Bool × zM) → Prop, K = (fun p : Bool × zM => Q (some (.int (b2i p.1))) p.2) := ⟨_, rfl⟩
  have hR : ∀ p : Bool × zM, K p → Q (some (.int (b2i p.1))) p.2 := fun p hp => by rw [hK] at hp; exact hp
  replace h : ok (f_Reader_word v1 m) (fun p : Bool × zM => Q (some (.int (b2i p.1))) p.2) := h
  rw [← hK] at h
  unfold f_Reader_word at h
  refine ax_aload_n 0 d_Reader_word_0 rfl rfl 1 rfl ?_
  refine ax_aload_n 1 d_Reader_word_1 rfl rfl 2 rfl ?_
  refine ax_callV mv_Reader_115 ⟨Nat.le_of_ble_eq_true rfl, Nat.le_of_ble_eq_true rfl⟩ ⟨rfl, rfl⟩ [.ref (1000 + v1)] [.ref (1000 + v1), .ref 65] rfl rfl (rc_x_65 _) (Nat.le_of_ble_eq_true rfl) d_Reader_word_2 5 rfl (zc_Reader_isNext v1 m hv1 (ok_b h (fun r1 h => ?_)))
  refine ax_istore_n (ls1 := [(2, .int (b2i r1)), (0, .ref 65), (1, .ref (1000 + v1))]) d_Reader_word_5 rfl (Nat.le_of_ble_eq_true rfl) rfl 6 rfl ?_
  refine ax_aload_n 1 d_Reader_word_6 rfl rfl 7 rfl ?_
  refine ax_dup d_Reader_word_7 rfl 8 rfl ?_
  refine ax_getI fl_Reader_32 x_65 rfl d_Reader_word_8 11 rfl ?_
  refine ax_iload_n 0 d_Reader_word_11 rfl rfl 12 rfl ?_
  refine ax_ifb_eq 19 15 d_Reader_word_12 rfl rfl (fun hc => ?_) (fun hc => ?_)
  · have h := ok_f (bf hc) h
    refine ax_iconst 0 d_Reader_word_19 ic_0 20 rfl ?_
    exact ax_sub [0] rfl (c_Reader_word_J20 r1 (m.1 65 5) false m (fun p hp => hR p hp) h)
  · have h := ok_t hc h
    refine ax_iconst 1 d_Reader_word_15 ic_1 16 rfl ?_
    refine ax_goto 20 d_Reader_word_16 rfl ?_
    exact ax_sub [0] rfl (c_Reader_word_J20 r1 (m.1 65 5) true m (fun p hp => hR p hp) h)
set_option maxRecDepth 4000 in
theorem zc_Reader_unexpected  (m : zM)  {Q : Option Value → zM → Prop} (h : ok (f_Reader_unexpected m) (fun p => Q (some (.int (b2i p.1))) p.2)) : zc gX s_Reader_unexpected [.ref 65] m Q := by
  refine zc_of rfl (Nat.le_of_ble_eq_true rfl) ?_
  show AX gX s_Reader_unexpected 0 [(0, .ref 65)] [] m Q
  obtain ⟨K, hK⟩ : ∃ K : (Bool × zM) → Prop, K = (fun p : Bool × zM => Q (some (.int (b2i p.1))) p.2) := ⟨_, rfl⟩
  have hR : ∀ p : Bool × zM, K p → Q (some (.int (b2i p.1))) p.2 := fun p hp => by rw [hK] at hp; exact hp
  replace h : ok (f_Reader_unexpected m) (fun p : Bool × zM => Q (some (.int (b2i p.1))) p.2) := h
  rw [← hK] at h
  unfold f_Reader_unexpected at h
  refine ax_aload_n 0 d_Reader_unexpected_0 rfl rfl 1 rfl ?_
  refine ax_iconst 1 d_Reader_unexpected_1 ic_1 2 rfl ?_
  refine ax_putI (K := K) fl_Reader_39 x_65 rfl rfl rfl (Nat.le_of_ble_eq_true rfl) d_Reader_unexpected_2 5 rfl h (fun m1 h => ?_)
  refine ax_aload_n 0 d_Reader_unexpected_5 rfl rfl 6 rfl ?_
  refine ax_aload_n 0 d_Reader_unexpected_6 rfl rfl 7 rfl ?_
  refine ax_getR fl_Reader_22 x_65 rfl (rx_65_2 _) d_Reader_unexpected_7 10 rfl ?_
  refine ax_aload_n 0 d_Reader_unexpected_10 rfl rfl 11 rfl ?_
  refine ax_getI fl_Reader_32 x_65 rfl d_Reader_unexpected_11 14 rfl ?_
  refine ax_iaload x_90 d_Reader_unexpected_14 15 rfl h (fun i2 h => ?_)
  refine ax_putI (K := K) fl_Reader_42 x_65 rfl rfl rfl (Nat.le_of_ble_eq_true rfl) d_Reader_unexpected_15 18 rfl h (fun m3 h => ?_)
  refine ax_iconst 0 d_Reader_unexpected_18 ic_0 19 rfl ?_
  exact ax_zret (b := false) rfl d_Reader_unexpected_19 (hR (false, m3) (ok_some h))
set_option maxRecDepth 4000 in
theorem c_Reader_ask_J15  (m : zM)  {Q : Option Value → zM → Prop} {K : (Bool × zM) → Prop} (hR : ∀ p : Bool × zM, K (p) → Q (some (.int (b2i p.1))) p.2)  (h : ok (f_Reader_ask_J15  m) K) : AX gX s_Reader_ask 15 [] [] m Q := by
  unfold f_Reader_ask_J15 at h
  refine ax_iconst 1 d_Reader_ask_15 ic_1 16 rfl ?_
  refine ax_goto 20 d_Reader_ask_16 rfl ?_
  exact ax_zret (b := true) rfl d_Reader_ask_20 (hR (true, m) (ok_some h))
set_option maxRecDepth 4000 in
theorem zc_Reader_ask (v1 : Nat) (m : zM) (hv1 : v1 < zsN) {Q : Option Value → zM → Prop} (h : ok (f_Reader_ask v1 m) (fun p => Q (some (.int (b2i p.1))) p.2)) : zc gX s_Reader_ask [.ref 65, .ref (1000 + v1)] m Q := by
  refine zc_of rfl (Nat.le_of_ble_eq_true rfl) ?_
  show AX gX s_Reader_ask 0 [(0, .ref 65), (1, .ref (1000 + v1))] [] m Q
  obtain ⟨K, hK⟩ : ∃ K : (Bool × zM) → Prop, K = (fun p : Bool × zM => Q (some (.int (b2i p.1))) p.2) := ⟨_, rfl⟩
  have hR : ∀ p : Bool × zM, K p → Q (some (.int (b2i p.1))) p.2 := fun p hp => by rw [hK] at hp; exact hp
  replace h : ok (f_Reader_ask v1 m) (fun p : Bool × zM => Q (some (.int (b2i p.1))) p.2) := h
  rw [← hK] at h
  unfold f_Reader_ask at h
  refine ax_aload_n 0 d_Reader_ask_0 rfl rfl 1 rfl ?_
  refine ax_aload_n 1 d_Reader_ask_1 rfl rfl 2 rfl ?_
  refine ax_callV mv_Reader_119 ⟨Nat.le_of_ble_eq_true rfl, Nat.le_of_ble_eq_true rfl⟩ ⟨rfl, rfl⟩ [.ref (1000 + v1)] [.ref (1000 + v1), .ref 65] rfl rfl (rc_x_65 _) (Nat.le_of_ble_eq_true rfl) d_Reader_ask_2 5 rfl (zc_Reader_word v1 m hv1 (ok_b h (fun p1 h => ?_)))
  refine ax_ifb_ne 15 8 d_Reader_ask_5 rfl rfl (fun hc => ?_) (fun hc => ?_)
  · have h := ok_t hc h
    exact ax_sub [] rfl (c_Reader_ask_J15 p1.2 (fun p hp => hR p hp) h)
  · have h := ok_f (bf hc) h
    refine ax_aload_n 0 d_Reader_ask_8 rfl rfl 9 rfl ?_
    refine ax_callV mv_Reader_67 ⟨Nat.le_of_ble_eq_true rfl, Nat.le_of_ble_eq_true rfl⟩ ⟨rfl, rfl⟩ [] [.ref 65] rfl rfl (rc_x_65 _) (Nat.le_of_ble_eq_true rfl) d_Reader_ask_9 12 rfl (zc_Reader_unexpected p1.2 (ok_b h (fun p2 h => ?_)))
    refine ax_ifb_eq 19 15 d_Reader_ask_12 rfl rfl (fun hc => ?_) (fun hc => ?_)
    · have h := ok_f (bf hc) h
      refine ax_iconst 0 d_Reader_ask_19 ic_0 20 rfl ?_
      exact ax_zret (b := false) rfl d_Reader_ask_20 (hR (false, p2.2) (ok_some h))
    · have h := ok_t hc h
      exact ax_sub [] rfl (c_Reader_ask_J15 p2.2 (fun p hp => hR p hp) h)
set_option maxRecDepth 4000 in
theorem c_Reader_number_J78  (m : zM)  {Q : Option Value → zM → Prop} {K : (Bool × zM) → Prop} (hR : ∀ p : Bool × zM, K (p) → Q (some (.int (b2i p.1))) p.2)  (h : ok (f_Reader_number_J78  m) K) : AX gX s_Reader_number 78 [(0, .ref 65)] [] m Q := by
  unfold f_Reader_number_J78 at h
  refine ax_aload_n 0 d_Reader_number_78 rfl rfl 79 rfl ?_
  refine ax_iconst 2 d_Reader_number_79 ic_2 80 rfl ?_
  refine ax_aload_n 0 d_Reader_number_80 rfl rfl 81 rfl ?_
  refine ax_getR fl_Reader_22 x_65 rfl (rx_65_2 _) d_Reader_number_81 84 rfl ?_
  refine ax_aload_n 0 d_Reader_number_84 rfl rfl 85 rfl ?_
  refine ax_getI fl_Reader_32 x_65 rfl d_Reader_number_85 88 rfl ?_
  refine ax_iaload x_90 d_Reader_number_88 89 rfl h (fun i9 h => ?_)
  refine ax_callV mv_Reader_52 ⟨Nat.le_of_ble_eq_true rfl, Nat.le_of_ble_eq_true rfl⟩ ⟨rfl, rfl⟩ [.int 2, .int (m.1 90 i9)] [.int (m.1 90 i9), .int 2, .ref 65] rfl rfl (rc_x_65 _) (Nat.le_of_ble_eq_true rfl) d_Reader_number_89 92 rfl (zc_Reader_refuse 2 (m.1 90 i9) m ?_)
  refine ok_l (G := fun p => AX gX s_Reader_number 92 [(0, .ref 65)] [.int (b2i p.1)] p.2 Q) h (fun p10 h => ?_)
  exact ax_zret (b := p10.1) rfl d_Reader_number_92 (hR (p10.1, p10.2) (ok_some h))
set_option maxRecDepth 4000 in
theorem zc_Reader_number (v1 : Int32) (v2 : Int32) (m : zM)  {Q : Option Value → zM → Prop} (h : ok (f_Reader_number v1 v2 m) (fun p => Q (some (.int (b2i p.1))) p.2)) : zc gX s_Reader_number [.ref 65, .int v1, .int v2] m Q := by
  refine zc_of rfl (Nat.le_of_ble_eq_true rfl) ?_
  show AX gX s_Reader_number 0 [(0, .ref 65), (1, .int v1), (2, .int v2)] [] m Q
  obtain ⟨K, hK⟩ : ∃ K : (Bool × zM) → Prop, K = (fun p : Bool × zM => Q (some (.int (b2i p.1))) p.2) := ⟨_, rfl⟩
  have hR : ∀ p : Bool × zM, K p → Q (some (.int (b2i p.1))) p.2 := fun p hp => by rw [hK] at hp; exact hp
  replace h : ok (f_Reader_number v1 v2 m) (fun p : Bool × zM => Q (some (.int (b2i p.1))) p.2) := h
  rw [← hK] at h
  unfold f_Reader_number at h
  refine ax_aload_n 0 d_Reader_number_0 rfl rfl 1 rfl ?_
  refine ax_getR fl_Reader_18 x_65 rfl (rx_65_1 _) d_Reader_number_1 4 rfl ?_
  refine ax_aload_n 0 d_Reader_number_4 rfl rfl 5 rfl ?_
  refine ax_getI fl_Reader_32 x_65 rfl d_Reader_number_5 8 rfl ?_
  refine ax_iaload x_89 d_Reader_number_8 9 rfl h (fun i1 h => ?_)
  refine ax_iconst 3 d_Reader_number_9 ic_3 10 rfl ?_
  refine ax_icmp_eq 18 13 d_Reader_number_10 rfl rfl (fun hc => ?_) (fun hc => ?_)
  · have h := ok_t hc h
    refine ax_aload_n 0 d_Reader_number_18 rfl rfl 19 rfl ?_
    refine ax_getR fl_Reader_25 x_65 rfl (rx_65_3 _) d_Reader_number_19 22 rfl ?_
    refine ax_aload_n 0 d_Reader_number_22 rfl rfl 23 rfl ?_
    refine ax_getI fl_Reader_32 x_65 rfl d_Reader_number_23 26 rfl ?_
    refine ax_iaload x_91 d_Reader_number_26 27 rfl h (fun i2 h => ?_)
    refine ax_iconst 1 d_Reader_number_27 ic_1 28 rfl ?_
    refine ax_icmp_le 48 31 d_Reader_number_28 rfl rfl (fun hc => ?_) (fun hc => ?_)
    · have h := ok_t hc h
      refine ax_aload_n 0 d_Reader_number_48 rfl rfl 49 rfl ?_
      refine ax_aload_n 0 d_Reader_number_49 rfl rfl 50 rfl ?_
      refine ax_getR fl_Reader_28 x_65 rfl (rx_65_4 _) d_Reader_number_50 53 rfl ?_
      refine ax_aload_n 0 d_Reader_number_53 rfl rfl 54 rfl ?_
      refine ax_getI fl_Reader_32 x_65 rfl d_Reader_number_54 57 rfl ?_
      refine ax_laload x_92 d_Reader_number_57 58 rfl h (fun i3 h => ?_)
      refine ax_l2i d_Reader_number_58 59 rfl ?_
      refine ax_putI (K := K) fl_Reader_36 x_65 rfl rfl rfl (Nat.le_of_ble_eq_true rfl) d_Reader_number_59 62 rfl h (fun m4 h => ?_)
      refine ax_aload_n 0 d_Reader_number_62 rfl rfl 63 rfl ?_
      refine ax_getI fl_Reader_36 x_65 rfl d_Reader_number_63 66 rfl ?_
      refine ax_iload_n 1 d_Reader_number_66 rfl rfl 67 rfl ?_
      refine ax_icmp_lt 78 70 d_Reader_number_67 rfl rfl (fun hc => ?_) (fun hc => ?_)
      · have h := ok_t hc h
        exact ax_sub [0] rfl (c_Reader_number_J78 m4 (fun p hp => hR p hp) h)
      · have h := ok_f hc h
        refine ax_aload_n 0 d_Reader_number_70 rfl rfl 71 rfl ?_
        refine ax_getI fl_Reader_36 x_65 rfl d_Reader_number_71 74 rfl ?_
        refine ax_iload_n 2 d_Reader_number_74 rfl rfl 75 rfl ?_
        refine ax_icmp_le 93 78 d_Reader_number_75 rfl rfl (fun hc => ?_) (fun hc => ?_)
        · have h := ok_t hc h
          refine ax_aload_n 0 d_Reader_number_93 rfl rfl 94 rfl ?_
          refine ax_dup d_Reader_number_94 rfl 95 rfl ?_
          refine ax_getI fl_Reader_32 x_65 rfl d_Reader_number_95 98 rfl ?_
          refine ax_iconst 1 d_Reader_number_98 ic_1 99 rfl ?_
          refine ax_iadd d_Reader_number_99 100 rfl ?_
          refine ax_putI (K := K) fl_Reader_32 x_65 rfl rfl rfl (Nat.le_of_ble_eq_true rfl) d_Reader_number_100 103 rfl h (fun m5 h => ?_)
          refine ax_iconst 1 d_Reader_number_103 ic_1 104 rfl ?_
          exact ax_zret (b := true) rfl d_Reader_number_104 (hR (true, m5) (ok_some h))
        · have h := ok_f hc h
          exact ax_sub [0] rfl (c_Reader_number_J78 m4 (fun p hp => hR p hp) h)
    · have h := ok_f hc h
      refine ax_aload_n 0 d_Reader_number_31 rfl rfl 32 rfl ?_
      refine ax_iconst 1 d_Reader_number_32 ic_1 33 rfl ?_
      refine ax_aload_n 0 d_Reader_number_33 rfl rfl 34 rfl ?_
      refine ax_getR fl_Reader_22 x_65 rfl (rx_65_2 _) d_Reader_number_34 37 rfl ?_
      refine ax_aload_n 0 d_Reader_number_37 rfl rfl 38 rfl ?_
      refine ax_getI fl_Reader_32 x_65 rfl d_Reader_number_38 41 rfl ?_
      refine ax_iaload x_90 d_Reader_number_41 42 rfl h (fun i6 h => ?_)
      refine ax_iconst 1 d_Reader_number_42 ic_1 43 rfl ?_
      refine ax_iadd d_Reader_number_43 44 rfl ?_
      refine ax_callV mv_Reader_52 ⟨Nat.le_of_ble_eq_true rfl, Nat.le_of_ble_eq_true rfl⟩ ⟨rfl, rfl⟩ [.int 1, .int ((m.1 90 i6) + 1)] [.int ((m.1 90 i6) + 1), .int 1, .ref 65] rfl rfl (rc_x_65 _) (Nat.le_of_ble_eq_true rfl) d_Reader_number_44 47 rfl (zc_Reader_refuse 1 ((m.1 90 i6) + 1) m ?_)
      refine ok_l (G := fun p => AX gX s_Reader_number 47 [(0, .ref 65), (1, .int v1), (2, .int v2)] [.int (b2i p.1)] p.2 Q) h (fun p7 h => ?_)
      exact ax_zret (b := p7.1) rfl d_Reader_number_47 (hR (p7.1, p7.2) (ok_some h))
  · have h := ok_f hc h
    refine ax_aload_n 0 d_Reader_number_13 rfl rfl 14 rfl ?_
    refine ax_callV mv_Reader_67 ⟨Nat.le_of_ble_eq_true rfl, Nat.le_of_ble_eq_true rfl⟩ ⟨rfl, rfl⟩ [] [.ref 65] rfl rfl (rc_x_65 _) (Nat.le_of_ble_eq_true rfl) d_Reader_number_14 17 rfl (zc_Reader_unexpected m (ok_b h (fun p8 h => ?_)))
    exact ax_zret (b := p8.1) rfl d_Reader_number_17 (hR (p8.1, p8.2) (ok_some h))
set_option maxRecDepth 4000 in
theorem zc_Reader_name  (m : zM)  {Q : Option Value → zM → Prop} (h : ok (f_Reader_name m) (fun p => Q (some (.int (b2i p.1))) p.2)) : zc gX s_Reader_name [.ref 65] m Q := by
  refine zc_of rfl (Nat.le_of_ble_eq_true rfl) ?_
  show AX gX s_Reader_name 0 [(0, .ref 65)] [] m Q
  obtain ⟨K, hK⟩ : ∃ K : (Bool × zM) → Prop, K = (fun p : Bool × zM => Q (some (.int (b2i p.1))) p.2) := ⟨_, rfl⟩
  have hR : ∀ p : Bool × zM, K p → Q (some (.int (b2i p.1))) p.2 := fun p hp => by rw [hK] at hp; exact hp
  replace h : ok (f_Reader_name m) (fun p : Bool × zM => Q (some (.int (b2i p.1))) p.2) := h
  rw [← hK] at h
  unfold f_Reader_name at h
  refine ax_aload_n 0 d_Reader_name_0 rfl rfl 1 rfl ?_
  refine ax_getR fl_Reader_18 x_65 rfl (rx_65_1 _) d_Reader_name_1 4 rfl ?_
  refine ax_aload_n 0 d_Reader_name_4 rfl rfl 5 rfl ?_
  refine ax_getI fl_Reader_32 x_65 rfl d_Reader_name_5 8 rfl ?_
  refine ax_iaload x_89 d_Reader_name_8 9 rfl h (fun i1 h => ?_)
  refine ax_iconst 1 d_Reader_name_9 ic_1 10 rfl ?_
  refine ax_icmp_eq 18 13 d_Reader_name_10 rfl rfl (fun hc => ?_) (fun hc => ?_)
  · have h := ok_t hc h
    refine ax_aload_n 0 d_Reader_name_18 rfl rfl 19 rfl ?_
    refine ax_getR fl_Reader_25 x_65 rfl (rx_65_3 _) d_Reader_name_19 22 rfl ?_
    refine ax_aload_n 0 d_Reader_name_22 rfl rfl 23 rfl ?_
    refine ax_getI fl_Reader_32 x_65 rfl d_Reader_name_23 26 rfl ?_
    refine ax_iaload x_91 d_Reader_name_26 27 rfl h (fun i2 h => ?_)
    refine ax_bipush 6 d_Reader_name_27 bp_6 29 rfl ?_
    refine ax_icmp_le 50 32 d_Reader_name_29 rfl rfl (fun hc => ?_) (fun hc => ?_)
    · have h := ok_t hc h
      refine ax_aload_n 0 d_Reader_name_50 rfl rfl 51 rfl ?_
      refine ax_aload_n 0 d_Reader_name_51 rfl rfl 52 rfl ?_
      refine ax_getR fl_Reader_28 x_65 rfl (rx_65_4 _) d_Reader_name_52 55 rfl ?_
      refine ax_aload_n 0 d_Reader_name_55 rfl rfl 56 rfl ?_
      refine ax_getI fl_Reader_32 x_65 rfl d_Reader_name_56 59 rfl ?_
      refine ax_laload x_92 d_Reader_name_59 60 rfl h (fun i3 h => ?_)
      refine ax_iconst 5 d_Reader_name_60 ic_5 61 rfl ?_
      refine ax_bipush 6 d_Reader_name_61 bp_6 63 rfl ?_
      refine ax_aload_n 0 d_Reader_name_63 rfl rfl 64 rfl ?_
      refine ax_getR fl_Reader_25 x_65 rfl (rx_65_3 _) d_Reader_name_64 67 rfl ?_
      refine ax_aload_n 0 d_Reader_name_67 rfl rfl 68 rfl ?_
      refine ax_getI fl_Reader_32 x_65 rfl d_Reader_name_68 71 rfl ?_
      refine ax_iaload x_91 d_Reader_name_71 72 rfl h (fun i4 h => ?_)
      refine ax_isub d_Reader_name_72 73 rfl ?_
      refine ax_imul d_Reader_name_73 74 rfl ?_
      refine ax_lshl d_Reader_name_74 75 rfl ?_
      refine ax_l2i d_Reader_name_75 76 rfl ?_
      refine ax_putI (K := K) fl_Reader_36 x_65 rfl rfl rfl (Nat.le_of_ble_eq_true rfl) d_Reader_name_76 79 rfl h (fun m5 h => ?_)
      refine ax_iconst 1 d_Reader_name_79 ic_1 80 rfl ?_
      exact ax_zret (b := true) rfl d_Reader_name_80 (hR (true, m5) (ok_some h))
    · have h := ok_f hc h
      refine ax_aload_n 0 d_Reader_name_32 rfl rfl 33 rfl ?_
      refine ax_iconst 1 d_Reader_name_33 ic_1 34 rfl ?_
      refine ax_aload_n 0 d_Reader_name_34 rfl rfl 35 rfl ?_
      refine ax_getR fl_Reader_22 x_65 rfl (rx_65_2 _) d_Reader_name_35 38 rfl ?_
      refine ax_aload_n 0 d_Reader_name_38 rfl rfl 39 rfl ?_
      refine ax_getI fl_Reader_32 x_65 rfl d_Reader_name_39 42 rfl ?_
      refine ax_iaload x_90 d_Reader_name_42 43 rfl h (fun i6 h => ?_)
      refine ax_bipush 6 d_Reader_name_43 bp_6 45 rfl ?_
      refine ax_iadd d_Reader_name_45 46 rfl ?_
      refine ax_callV mv_Reader_52 ⟨Nat.le_of_ble_eq_true rfl, Nat.le_of_ble_eq_true rfl⟩ ⟨rfl, rfl⟩ [.int 1, .int ((m.1 90 i6) + 6)] [.int ((m.1 90 i6) + 6), .int 1, .ref 65] rfl rfl (rc_x_65 _) (Nat.le_of_ble_eq_true rfl) d_Reader_name_46 49 rfl (zc_Reader_refuse 1 ((m.1 90 i6) + 6) m ?_)
      refine ok_l (G := fun p => AX gX s_Reader_name 49 [(0, .ref 65)] [.int (b2i p.1)] p.2 Q) h (fun p7 h => ?_)
      exact ax_zret (b := p7.1) rfl d_Reader_name_49 (hR (p7.1, p7.2) (ok_some h))
  · have h := ok_f hc h
    refine ax_aload_n 0 d_Reader_name_13 rfl rfl 14 rfl ?_
    refine ax_callV mv_Reader_67 ⟨Nat.le_of_ble_eq_true rfl, Nat.le_of_ble_eq_true rfl⟩ ⟨rfl, rfl⟩ [] [.ref 65] rfl rfl (rc_x_65 _) (Nat.le_of_ble_eq_true rfl) d_Reader_name_14 17 rfl (zc_Reader_unexpected m (ok_b h (fun p8 h => ?_)))
    exact ax_zret (b := p8.1) rfl d_Reader_name_17 (hR (p8.1, p8.2) (ok_some h))
set_option maxRecDepth 4000 in
theorem c_Table_find_B2 (v0 : Nat) (v1 : Int32) (v2 : Int32) (v3 : Int32) (m : zM) (hv0 : v0 ∈ li_Table) {Q : Option Value → zM → Prop} {K : ((Int32) ⊕ (Int32)) → Prop} (hR : ∀ p : Int32, K (.inl p) → Q (some (.int p)) m) (h0 : ∀ s : Int32, K (.inr s) → AX gX s_Table_find 2 [(0, .ref v0), (1, .int v1), (2, .int v2), (3, .int s)] [] m Q) (h : ok (f_Table_find_B2 v0 v1 v2 v3 m) K) : AX gX s_Table_find 2 [(0, .ref v0), (1, .int v1), (2, .int v2), (3, .int v3)] [] m Q := by
  unfold f_Table_find_B2 at h
  refine ax_iload_n 3 d_Table_find_2 rfl rfl 3 rfl ?_
  refine ax_aload_n 0 d_Table_find_3 rfl rfl 4 rfl ?_
  refine ax_getR fl_Table_15 (sx_Table hv0) rfl (ro_Table_1 hv0 _) d_Table_find_4 7 rfl ?_
  refine ax_iload_n 1 d_Table_find_7 rfl rfl 8 rfl ?_
  refine ax_iaload (sa_Table_1 hv0) d_Table_find_8 9 rfl h (fun i1 h => ?_)
  refine ax_icmp_ge 35 12 d_Table_find_9 rfl rfl (fun hc => ?_) (fun hc => ?_)
  · have h := ok_t hc h
    refine ax_iconst (-1) d_Table_find_35 ic_m1 36 rfl ?_
    exact ax_iret rfl d_Table_find_36 (hR (-1) (ok_some h))
  · have h := ok_f hc h
    refine ax_aload_n 0 d_Table_find_12 rfl rfl 13 rfl ?_
    refine ax_getR fl_Table_19 (sx_Table hv0) rfl (ro_Table_2 hv0 _) d_Table_find_13 16 rfl ?_
    refine ax_iload_n 1 d_Table_find_16 rfl rfl 17 rfl ?_
    refine ax_bipush 6 d_Table_find_17 bp_6 19 rfl ?_
    refine ax_imul d_Table_find_19 20 rfl ?_
    refine ax_iload_n 3 d_Table_find_20 rfl rfl 21 rfl ?_
    refine ax_iadd d_Table_find_21 22 rfl ?_
    refine ax_iaload (sa_Table_2 hv0) d_Table_find_22 23 rfl h (fun i2 h => ?_)
    refine ax_iload_n 2 d_Table_find_23 rfl rfl 24 rfl ?_
    refine ax_icmp_ne 29 27 d_Table_find_24 rfl rfl (fun hc => ?_) (fun hc => ?_)
    · have h := ok_f hc h
      refine ax_iinc (ls1 := [(3, .int (v3 + 1)), (0, .ref v0), (1, .int v1), (2, .int v2)]) 3 1 d_Table_find_29 rfl ic_1 (Nat.le_of_ble_eq_true rfl) rfl 32 rfl ?_
      refine ax_goto 2 d_Table_find_32 rfl ?_
      exact ax_sub [1, 2, 3, 0] rfl (h0 (v3 + 1) (ok_some h))
    · have h := ok_t hc h
      refine ax_iload_n 3 d_Table_find_27 rfl rfl 28 rfl ?_
      exact ax_iret rfl d_Table_find_28 (hR v3 (ok_some h))
theorem c_Table_find_L2 (v0 : Nat) (v1 : Int32) (v2 : Int32) (v3 : Int32) (m : zM) (hv0 : v0 ∈ li_Table) {Q : Option Value → zM → Prop} {K : Int32 → Prop} (hR : ∀ p : Int32, K (p) → Q (some (.int p)) m)  (h : ok (f_Table_find_L2 v0 v1 v2 v3 m) K) : AX gX s_Table_find 2 [(0, .ref v0), (1, .int v1), (2, .int v2), (3, .int v3)] [] m Q :=
  ok_lp (K := K) (G := fun s : Int32 => AX gX s_Table_find 2 [(0, .ref v0), (1, .int v1), (2, .int v2), (3, .int s)] [] m Q) (fun s h => c_Table_find_B2 v0 v1 v2 s m hv0 (fun p hp => hR p hp) (fun s hs => hs) h) FU v3 h
set_option maxRecDepth 4000 in
theorem zc_Table_find (v0 : Nat) (v1 : Int32) (v2 : Int32) (m : zM) (hv0 : v0 ∈ li_Table) {Q : Option Value → zM → Prop} (h : ok (f_Table_find v0 v1 v2 m) (fun p => Q (some (.int p)) m)) : zc gX s_Table_find [.ref v0, .int v1, .int v2] m Q := by
  refine zc_of rfl (Nat.le_of_ble_eq_true rfl) ?_
  show AX gX s_Table_find 0 [(0, .ref v0), (1, .int v1), (2, .int v2)] [] m Q
  obtain ⟨K, hK⟩ : ∃ K : Int32 → Prop, K = (fun p : Int32 => Q (some (.int p)) m) := ⟨_, rfl⟩
  have hR : ∀ p : Int32, K p → Q (some (.int p)) m := fun p hp => by rw [hK] at hp; exact hp
  replace h : ok (f_Table_find v0 v1 v2 m) (fun p : Int32 => Q (some (.int p)) m) := h
  rw [← hK] at h
  unfold f_Table_find at h
  refine ax_iconst 0 d_Table_find_0 ic_0 1 rfl ?_
  refine ax_istore_n (ls1 := [(3, .int 0), (0, .ref v0), (1, .int v1), (2, .int v2)]) d_Table_find_1 rfl (Nat.le_of_ble_eq_true rfl) rfl 2 rfl ?_
  exact ax_sub [1, 2, 3, 0] rfl (c_Table_find_L2 v0 v1 v2 0 m hv0 (fun p hp => hR p hp) h)
set_option maxRecDepth 4000 in
theorem c_Table_isTaken_B2 (v0 : Nat) (v1 : Int32) (v2 : Int32) (m : zM) (hv0 : v0 ∈ li_Table) {Q : Option Value → zM → Prop} {K : ((Bool) ⊕ (Int32)) → Prop} (hR : ∀ p : Bool, K (.inl p) → Q (some (.int (b2i p))) m) (h0 : ∀ s : Int32, K (.inr s) → AX gX s_Table_isTaken 2 [(0, .ref v0), (1, .int v1), (2, .int s)] [] m Q) (h : ok (f_Table_isTaken_B2 v0 v1 v2 m) K) : AX gX s_Table_isTaken 2 [(0, .ref v0), (1, .int v1), (2, .int v2)] [] m Q := by
  unfold f_Table_isTaken_B2 at h
  refine ax_iload_n 2 d_Table_isTaken_2 rfl rfl 3 rfl ?_
  refine ax_iconst 3 d_Table_isTaken_3 ic_3 4 rfl ?_
  refine ax_icmp_ge 25 7 d_Table_isTaken_4 rfl rfl (fun hc => ?_) (fun hc => ?_)
  · have h := ok_t hc h
    refine ax_iconst 0 d_Table_isTaken_25 ic_0 26 rfl ?_
    exact ax_zret (b := false) rfl d_Table_isTaken_26 (hR false (ok_some h))
  · have h := ok_f hc h
    refine ax_aload_n 0 d_Table_isTaken_7 rfl rfl 8 rfl ?_
    refine ax_iload_n 2 d_Table_isTaken_8 rfl rfl 9 rfl ?_
    refine ax_iload_n 1 d_Table_isTaken_9 rfl rfl 10 rfl ?_
    refine ax_callV mv_Table_60 ⟨Nat.le_of_ble_eq_true rfl, Nat.le_of_ble_eq_true rfl⟩ ⟨rfl, rfl⟩ [.int v2, .int v1] [.int v1, .int v2, .ref v0] rfl rfl (rc_Table hv0 _) (Nat.le_of_ble_eq_true rfl) d_Table_isTaken_10 13 rfl (zc_Table_find v0 v2 v1 m hv0 (ok_b h (fun r1 h => ?_)))
    refine ax_iconst (-1) d_Table_isTaken_13 ic_m1 14 rfl ?_
    refine ax_icmp_eq 19 17 d_Table_isTaken_14 rfl rfl (fun hc => ?_) (fun hc => ?_)
    · have h := ok_t hc h
      refine ax_iinc (ls1 := [(2, .int (v2 + 1)), (0, .ref v0), (1, .int v1)]) 2 1 d_Table_isTaken_19 rfl ic_1 (Nat.le_of_ble_eq_true rfl) rfl 22 rfl ?_
      refine ax_goto 2 d_Table_isTaken_22 rfl ?_
      exact ax_sub [1, 2, 0] rfl (h0 (v2 + 1) (ok_some h))
    · have h := ok_f hc h
      refine ax_iconst 1 d_Table_isTaken_17 ic_1 18 rfl ?_
      exact ax_zret (b := true) rfl d_Table_isTaken_18 (hR true (ok_some h))
theorem c_Table_isTaken_L2 (v0 : Nat) (v1 : Int32) (v2 : Int32) (m : zM) (hv0 : v0 ∈ li_Table) {Q : Option Value → zM → Prop} {K : Bool → Prop} (hR : ∀ p : Bool, K (p) → Q (some (.int (b2i p))) m)  (h : ok (f_Table_isTaken_L2 v0 v1 v2 m) K) : AX gX s_Table_isTaken 2 [(0, .ref v0), (1, .int v1), (2, .int v2)] [] m Q :=
  ok_lp (K := K) (G := fun s : Int32 => AX gX s_Table_isTaken 2 [(0, .ref v0), (1, .int v1), (2, .int s)] [] m Q) (fun s h => c_Table_isTaken_B2 v0 v1 s m hv0 (fun p hp => hR p hp) (fun s hs => hs) h) FU v2 h
set_option maxRecDepth 4000 in
theorem zc_Table_isTaken (v0 : Nat) (v1 : Int32) (m : zM) (hv0 : v0 ∈ li_Table) {Q : Option Value → zM → Prop} (h : ok (f_Table_isTaken v0 v1 m) (fun p => Q (some (.int (b2i p))) m)) : zc gX s_Table_isTaken [.ref v0, .int v1] m Q := by
  refine zc_of rfl (Nat.le_of_ble_eq_true rfl) ?_
  show AX gX s_Table_isTaken 0 [(0, .ref v0), (1, .int v1)] [] m Q
  obtain ⟨K, hK⟩ : ∃ K : Bool → Prop, K = (fun p : Bool => Q (some (.int (b2i p))) m) := ⟨_, rfl⟩
  have hR : ∀ p : Bool, K p → Q (some (.int (b2i p))) m := fun p hp => by rw [hK] at hp; exact hp
  replace h : ok (f_Table_isTaken v0 v1 m) (fun p : Bool => Q (some (.int (b2i p))) m) := h
  rw [← hK] at h
  unfold f_Table_isTaken at h
  refine ax_iconst 0 d_Table_isTaken_0 ic_0 1 rfl ?_
  refine ax_istore_n (ls1 := [(2, .int 0), (0, .ref v0), (1, .int v1)]) d_Table_isTaken_1 rfl (Nat.le_of_ble_eq_true rfl) rfl 2 rfl ?_
  exact ax_sub [1, 2, 0] rfl (c_Table_isTaken_L2 v0 v1 0 m hv0 (fun p hp => hR p hp) h)
set_option maxRecDepth 4000 in
theorem zc_Table_give (v0 : Nat) (v1 : Int32) (v2 : Int32) (m : zM) (hv0 : v0 ∈ li_Table) {Q : Option Value → zM → Prop} (h : ok (f_Table_give v0 v1 v2 m) (fun p => Q none p)) : zc gX s_Table_give [.ref v0, .int v1, .int v2] m Q := by
  refine zc_of rfl (Nat.le_of_ble_eq_true rfl) ?_
  show AX gX s_Table_give 0 [(0, .ref v0), (1, .int v1), (2, .int v2)] [] m Q
  obtain ⟨K, hK⟩ : ∃ K : zM → Prop, K = (fun p : zM => Q none p) := ⟨_, rfl⟩
  have hR : ∀ p : zM, K p → Q none p := fun p hp => by rw [hK] at hp; exact hp
  replace h : ok (f_Table_give v0 v1 v2 m) (fun p : zM => Q none p) := h
  rw [← hK] at h
  unfold f_Table_give at h
  refine ax_aload_n 0 d_Table_give_0 rfl rfl 1 rfl ?_
  refine ax_getR fl_Table_15 (sx_Table hv0) rfl (ro_Table_1 hv0 _) d_Table_give_1 4 rfl ?_
  refine ax_iload_n 1 d_Table_give_4 rfl rfl 5 rfl ?_
  refine ax_iaload (sa_Table_1 hv0) d_Table_give_5 6 rfl h (fun i1 h => ?_)
  refine ax_bipush 6 d_Table_give_6 bp_6 8 rfl ?_
  refine ax_icmp_ge 38 11 d_Table_give_8 rfl rfl (fun hc => ?_) (fun hc => ?_)
  · have h := ok_t hc h
    exact ax_vret rfl d_Table_give_38 (hR m (ok_some h))
  · have h := ok_f hc h
    refine ax_aload_n 0 d_Table_give_11 rfl rfl 12 rfl ?_
    refine ax_getR fl_Table_19 (sx_Table hv0) rfl (ro_Table_2 hv0 _) d_Table_give_12 15 rfl ?_
    refine ax_iload_n 1 d_Table_give_15 rfl rfl 16 rfl ?_
    refine ax_bipush 6 d_Table_give_16 bp_6 18 rfl ?_
    refine ax_imul d_Table_give_18 19 rfl ?_
    refine ax_aload_n 0 d_Table_give_19 rfl rfl 20 rfl ?_
    refine ax_getR fl_Table_15 (sx_Table hv0) rfl (ro_Table_1 hv0 _) d_Table_give_20 23 rfl ?_
    refine ax_iload_n 1 d_Table_give_23 rfl rfl 24 rfl ?_
    refine ax_iaload (sa_Table_1 hv0) d_Table_give_24 25 rfl h (fun i2 h => ?_)
    refine ax_iadd d_Table_give_25 26 rfl ?_
    refine ax_iload_n 2 d_Table_give_26 rfl rfl 27 rfl ?_
    refine ax_iastore (sa_Table_2 hv0) d_Table_give_27 28 rfl h (fun i3 m4 h => ?_)
    refine ax_aload_n 0 d_Table_give_28 rfl rfl 29 rfl ?_
    refine ax_getR fl_Table_15 (sx_Table hv0) rfl (ro_Table_1 hv0 _) d_Table_give_29 32 rfl ?_
    refine ax_iload_n 1 d_Table_give_32 rfl rfl 33 rfl ?_
    refine ax_dup2 d_Table_give_33 rfl rfl 34 rfl ?_
    refine ax_iaload (sa_Table_1 hv0) d_Table_give_34 35 rfl h (fun i5 h => ?_)
    refine ax_iconst 1 d_Table_give_35 ic_1 36 rfl ?_
    refine ax_iadd d_Table_give_36 37 rfl ?_
    refine ax_iastore (sa_Table_1 hv0) d_Table_give_37 38 rfl h (fun i6 m7 h => ?_)
    exact ax_vret rfl d_Table_give_38 (hR m7 (ok_some h))
set_option maxRecDepth 4000 in
theorem zc_Reader_given (v1 : Int32) (m : zM)  {Q : Option Value → zM → Prop} (h : ok (f_Reader_given v1 m) (fun p => Q (some (.int (b2i p.1))) p.2)) : zc gX s_Reader_given [.ref 65, .int v1] m Q := by
  refine zc_of rfl (Nat.le_of_ble_eq_true rfl) ?_
  show AX gX s_Reader_given 0 [(0, .ref 65), (1, .int v1)] [] m Q
  obtain ⟨K, hK⟩ : ∃ K : (Bool × zM) → Prop, K = (fun p : Bool × zM => Q (some (.int (b2i p.1))) p.2) := ⟨_, rfl⟩
  have hR : ∀ p : Bool × zM, K p → Q (some (.int (b2i p.1))) p.2 := fun p hp => by rw [hK] at hp; exact hp
  replace h : ok (f_Reader_given v1 m) (fun p : Bool × zM => Q (some (.int (b2i p.1))) p.2) := h
  rw [← hK] at h
  unfold f_Reader_given at h
  refine ax_aload_n 0 d_Reader_given_0 rfl rfl 1 rfl ?_
  refine ax_callV mv_Reader_122 ⟨Nat.le_of_ble_eq_true rfl, Nat.le_of_ble_eq_true rfl⟩ ⟨rfl, rfl⟩ [] [.ref 65] rfl rfl (rc_x_65 _) (Nat.le_of_ble_eq_true rfl) d_Reader_given_1 4 rfl (zc_Reader_name m (ok_b h (fun p1 h => ?_)))
  refine ax_ifb_ne 9 7 d_Reader_given_4 rfl rfl (fun hc => ?_) (fun hc => ?_)
  · have h := ok_t hc h
    refine ax_aload_n 0 d_Reader_given_9 rfl rfl 10 rfl ?_
    refine ok_tb h (fun t2 ht2 et2 h => ?_)
    refine ax_getR fl_Reader_12 x_65 rfl (ry_1 et2) d_Reader_given_10 13 rfl ?_
    refine ax_aload_n 0 d_Reader_given_13 rfl rfl 14 rfl ?_
    refine ax_getI fl_Reader_36 x_65 rfl d_Reader_given_14 17 rfl ?_
    refine ax_callV mv_Reader_129 ⟨Nat.le_of_ble_eq_true rfl, Nat.le_of_ble_eq_true rfl⟩ ⟨rfl, rfl⟩ [.int (p1.2.1 65 6)] [.int (p1.2.1 65 6), .ref t2] rfl rfl (rc_Table ht2 _) (Nat.le_of_ble_eq_true rfl) d_Reader_given_17 20 rfl (zc_Table_isTaken t2 (p1.2.1 65 6) p1.2 ht2 (ok_b h (fun r3 h => ?_)))
    refine ax_ifb_eq 38 23 d_Reader_given_20 rfl rfl (fun hc => ?_) (fun hc => ?_)
    · have h := ok_f (bf hc) h
      refine ax_aload_n 0 d_Reader_given_38 rfl rfl 39 rfl ?_
      refine ok_tb h (fun t4 ht4 et4 h => ?_)
      refine ax_getR fl_Reader_12 x_65 rfl (ry_1 et4) d_Reader_given_39 42 rfl ?_
      refine ax_iload_n 1 d_Reader_given_42 rfl rfl 43 rfl ?_
      refine ax_aload_n 0 d_Reader_given_43 rfl rfl 44 rfl ?_
      refine ax_getI fl_Reader_36 x_65 rfl d_Reader_given_44 47 rfl ?_
      refine ax_callV mv_Reader_132 ⟨Nat.le_of_ble_eq_true rfl, Nat.le_of_ble_eq_true rfl⟩ ⟨rfl, rfl⟩ [.int v1, .int (p1.2.1 65 6)] [.int (p1.2.1 65 6), .int v1, .ref t4] rfl rfl (rc_Table ht4 _) (Nat.le_of_ble_eq_true rfl) d_Reader_given_47 50 rfl (zc_Table_give t4 v1 (p1.2.1 65 6) p1.2 ht4 (ok_b h (fun p5 h => ?_)))
      refine ax_aload_n 0 d_Reader_given_50 rfl rfl 51 rfl ?_
      refine ax_dup d_Reader_given_51 rfl 52 rfl ?_
      refine ax_getI fl_Reader_32 x_65 rfl d_Reader_given_52 55 rfl ?_
      refine ax_iconst 1 d_Reader_given_55 ic_1 56 rfl ?_
      refine ax_iadd d_Reader_given_56 57 rfl ?_
      refine ax_putI (K := K) fl_Reader_32 x_65 rfl rfl rfl (Nat.le_of_ble_eq_true rfl) d_Reader_given_57 60 rfl h (fun m6 h => ?_)
      refine ax_iconst 1 d_Reader_given_60 ic_1 61 rfl ?_
      exact ax_zret (b := true) rfl d_Reader_given_61 (hR (true, m6) (ok_some h))
    · have h := ok_t hc h
      refine ax_aload_n 0 d_Reader_given_23 rfl rfl 24 rfl ?_
      refine ax_iconst 3 d_Reader_given_24 ic_3 25 rfl ?_
      refine ax_aload_n 0 d_Reader_given_25 rfl rfl 26 rfl ?_
      refine ax_getR fl_Reader_22 x_65 rfl (rx_65_2 _) d_Reader_given_26 29 rfl ?_
      refine ax_aload_n 0 d_Reader_given_29 rfl rfl 30 rfl ?_
      refine ax_getI fl_Reader_32 x_65 rfl d_Reader_given_30 33 rfl ?_
      refine ax_iaload x_90 d_Reader_given_33 34 rfl h (fun i7 h => ?_)
      refine ax_callV mv_Reader_52 ⟨Nat.le_of_ble_eq_true rfl, Nat.le_of_ble_eq_true rfl⟩ ⟨rfl, rfl⟩ [.int 3, .int (p1.2.1 90 i7)] [.int (p1.2.1 90 i7), .int 3, .ref 65] rfl rfl (rc_x_65 _) (Nat.le_of_ble_eq_true rfl) d_Reader_given_34 37 rfl (zc_Reader_refuse 3 (p1.2.1 90 i7) p1.2 ?_)
      refine ok_l (G := fun p => AX gX s_Reader_given 37 [(0, .ref 65), (1, .int v1)] [.int (b2i p.1)] p.2 Q) h (fun p8 h => ?_)
      exact ax_zret (b := p8.1) rfl d_Reader_given_37 (hR (p8.1, p8.2) (ok_some h))
  · have h := ok_f (bf hc) h
    refine ax_iconst 0 d_Reader_given_7 ic_0 8 rfl ?_
    exact ax_zret (b := false) rfl d_Reader_given_8 (hR (false, p1.2) (ok_some h))
set_option maxRecDepth 4000 in
theorem zc_Reader_oneTooMany  (m : zM)  {Q : Option Value → zM → Prop} (h : ok (f_Reader_oneTooMany m) (fun p => Q (some (.int (b2i p.1))) p.2)) : zc gX s_Reader_oneTooMany [.ref 65] m Q := by
  refine zc_of rfl (Nat.le_of_ble_eq_true rfl) ?_
  show AX gX s_Reader_oneTooMany 0 [(0, .ref 65)] [] m Q
  obtain ⟨K, hK⟩ : ∃ K : (Bool × zM) → Prop, K = (fun p : Bool × zM => Q (some (.int (b2i p.1))) p.2) := ⟨_, rfl⟩
  have hR : ∀ p : Bool × zM, K p → Q (some (.int (b2i p.1))) p.2 := fun p hp => by rw [hK] at hp; exact hp
  replace h : ok (f_Reader_oneTooMany m) (fun p : Bool × zM => Q (some (.int (b2i p.1))) p.2) := h
  rw [← hK] at h
  unfold f_Reader_oneTooMany at h
  refine ax_aload_n 0 d_Reader_oneTooMany_0 rfl rfl 1 rfl ?_
  refine ax_getR fl_Reader_18 x_65 rfl (rx_65_1 _) d_Reader_oneTooMany_1 4 rfl ?_
  refine ax_aload_n 0 d_Reader_oneTooMany_4 rfl rfl 5 rfl ?_
  refine ax_getI fl_Reader_32 x_65 rfl d_Reader_oneTooMany_5 8 rfl ?_
  refine ax_iaload x_89 d_Reader_oneTooMany_8 9 rfl h (fun i1 h => ?_)
  refine ax_if_ne 19 12 d_Reader_oneTooMany_9 rfl rfl (fun hc => ?_) (fun hc => ?_)
  · have h := ok_f hc h
    refine ax_aload_n 0 d_Reader_oneTooMany_19 rfl rfl 20 rfl ?_
    refine ax_iconst 5 d_Reader_oneTooMany_20 ic_5 21 rfl ?_
    refine ax_aload_n 0 d_Reader_oneTooMany_21 rfl rfl 22 rfl ?_
    refine ax_getR fl_Reader_22 x_65 rfl (rx_65_2 _) d_Reader_oneTooMany_22 25 rfl ?_
    refine ax_aload_n 0 d_Reader_oneTooMany_25 rfl rfl 26 rfl ?_
    refine ax_getI fl_Reader_32 x_65 rfl d_Reader_oneTooMany_26 29 rfl ?_
    refine ax_iaload x_90 d_Reader_oneTooMany_29 30 rfl h (fun i2 h => ?_)
    refine ax_callV mv_Reader_52 ⟨Nat.le_of_ble_eq_true rfl, Nat.le_of_ble_eq_true rfl⟩ ⟨rfl, rfl⟩ [.int 5, .int (m.1 90 i2)] [.int (m.1 90 i2), .int 5, .ref 65] rfl rfl (rc_x_65 _) (Nat.le_of_ble_eq_true rfl) d_Reader_oneTooMany_30 33 rfl (zc_Reader_refuse 5 (m.1 90 i2) m ?_)
    refine ok_l (G := fun p => AX gX s_Reader_oneTooMany 33 [(0, .ref 65)] [.int (b2i p.1)] p.2 Q) h (fun p3 h => ?_)
    exact ax_zret (b := p3.1) rfl d_Reader_oneTooMany_33 (hR (p3.1, p3.2) (ok_some h))
  · have h := ok_t hc h
    refine ax_aload_n 0 d_Reader_oneTooMany_12 rfl rfl 13 rfl ?_
    refine ax_callV mv_Reader_67 ⟨Nat.le_of_ble_eq_true rfl, Nat.le_of_ble_eq_true rfl⟩ ⟨rfl, rfl⟩ [] [.ref 65] rfl rfl (rc_x_65 _) (Nat.le_of_ble_eq_true rfl) d_Reader_oneTooMany_13 16 rfl (zc_Reader_unexpected m (ok_b h (fun p4 h => ?_)))
    refine ax_goto 33 d_Reader_oneTooMany_16 rfl ?_
    exact ax_zret (b := p4.1) rfl d_Reader_oneTooMany_33 (hR (p4.1, p4.2) (ok_some h))
set_option maxRecDepth 4000 in
theorem c_Reader_names_J65  (m : zM)  {Q : Option Value → zM → Prop} {K : (Bool × zM) → Prop} (hR : ∀ p : Bool × zM, K (p) → Q (some (.int (b2i p.1))) p.2)  (h : ok (f_Reader_names_J65  m) K) : AX gX s_Reader_names 65 [(0, .ref 65)] [] m Q := by
  unfold f_Reader_names_J65 at h
  refine ax_aload_n 0 d_Reader_names_65 rfl rfl 66 rfl ?_
  refine ax_callV mv_Reader_144 ⟨Nat.le_of_ble_eq_true rfl, Nat.le_of_ble_eq_true rfl⟩ ⟨rfl, rfl⟩ [] [.ref 65] rfl rfl (rc_x_65 _) (Nat.le_of_ble_eq_true rfl) d_Reader_names_66 69 rfl (zc_Reader_oneTooMany m (ok_b h (fun p5 h => ?_)))
  exact ax_zret (b := p5.1) rfl d_Reader_names_69 (hR (p5.1, p5.2) (ok_some h))
set_option maxRecDepth 4000 in
theorem c_Reader_names_B2 (v1 : Int32) (v2 : Int32) (m : zM)  {Q : Option Value → zM → Prop} {K : ((Bool × zM) ⊕ (Int32 × zM)) → Prop} (hR : ∀ p : Bool × zM, K (.inl p) → Q (some (.int (b2i p.1))) p.2) (h0 : ∀ s : Int32 × zM, K (.inr s) → AX gX s_Reader_names 2 [(0, .ref 65), (1, .int v1), (2, .int s.1)] [] s.2 Q) (h : ok (f_Reader_names_B2 v1 v2 m) K) : AX gX s_Reader_names 2 [(0, .ref 65), (1, .int v1), (2, .int v2)] [] m Q := by
  unfold f_Reader_names_B2 at h
  refine ax_iload_n 2 d_Reader_names_2 rfl rfl 3 rfl ?_
  refine ax_bipush 6 d_Reader_names_3 bp_6 5 rfl ?_
  refine ax_icmp_ge 65 8 d_Reader_names_5 rfl rfl (fun hc => ?_) (fun hc => ?_)
  · have h := ok_t hc h
    exact ax_sub [0] rfl (c_Reader_names_J65 m (fun p hp => hR p hp) (ok_z h))
  · have h := ok_f hc h
    refine ax_aload_n 0 d_Reader_names_8 rfl rfl 9 rfl ?_
    refine ax_iload_n 1 d_Reader_names_9 rfl rfl 10 rfl ?_
    refine ax_callV mv_Reader_139 ⟨Nat.le_of_ble_eq_true rfl, Nat.le_of_ble_eq_true rfl⟩ ⟨rfl, rfl⟩ [.int v1] [.int v1, .ref 65] rfl rfl (rc_x_65 _) (Nat.le_of_ble_eq_true rfl) d_Reader_names_10 13 rfl (zc_Reader_given v1 m (ok_b h (fun p1 h => ?_)))
    refine ax_ifb_ne 18 16 d_Reader_names_13 rfl rfl (fun hc => ?_) (fun hc => ?_)
    · have h := ok_t hc h
      refine ax_aload_n 0 d_Reader_names_18 rfl rfl 19 rfl ?_
      refine ax_getR fl_Reader_18 x_65 rfl (rx_65_1 _) d_Reader_names_19 22 rfl ?_
      refine ax_aload_n 0 d_Reader_names_22 rfl rfl 23 rfl ?_
      refine ax_getI fl_Reader_32 x_65 rfl d_Reader_names_23 26 rfl ?_
      refine ax_iaload x_89 d_Reader_names_26 27 rfl h (fun i2 h => ?_)
      refine ax_iconst 4 d_Reader_names_27 ic_4 28 rfl ?_
      refine ax_icmp_ne 47 31 d_Reader_names_28 rfl rfl (fun hc => ?_) (fun hc => ?_)
      · have h := ok_f hc h
        refine ax_iconst 1 d_Reader_names_47 ic_1 48 rfl ?_
        exact ax_zret (b := true) rfl d_Reader_names_48 (hR (true, p1.2) (ok_some h))
      · have h := ok_t hc h
        refine ax_aload_n 0 d_Reader_names_31 rfl rfl 32 rfl ?_
        refine ax_getR fl_Reader_28 x_65 rfl (rx_65_4 _) d_Reader_names_32 35 rfl ?_
        refine ax_aload_n 0 d_Reader_names_35 rfl rfl 36 rfl ?_
        refine ax_getI fl_Reader_32 x_65 rfl d_Reader_names_36 39 rfl ?_
        refine ax_laload x_92 d_Reader_names_39 40 rfl h (fun i3 h => ?_)
        refine ax_ldc2 44 wk_Reader_142 d_Reader_names_40 43 rfl ?_
        refine ax_lcmp d_Reader_names_43 44 rfl ?_
        refine ax_if_eq 49 47 d_Reader_names_44 rfl rfl (fun hc => ?_) (fun hc => ?_)
        · have h := ok_t hc h
          refine ax_aload_n 0 d_Reader_names_49 rfl rfl 50 rfl ?_
          refine ax_dup d_Reader_names_50 rfl 51 rfl ?_
          refine ax_getI fl_Reader_32 x_65 rfl d_Reader_names_51 54 rfl ?_
          refine ax_iconst 1 d_Reader_names_54 ic_1 55 rfl ?_
          refine ax_iadd d_Reader_names_55 56 rfl ?_
          refine ax_putI (K := K) fl_Reader_32 x_65 rfl rfl rfl (Nat.le_of_ble_eq_true rfl) d_Reader_names_56 59 rfl h (fun m4 h => ?_)
          refine ax_iinc (ls1 := [(2, .int (v2 + 1)), (0, .ref 65), (1, .int v1)]) 2 1 d_Reader_names_59 rfl ic_1 (Nat.le_of_ble_eq_true rfl) rfl 62 rfl ?_
          refine ax_goto 2 d_Reader_names_62 rfl ?_
          exact ax_sub [1, 2, 0] rfl (h0 ((v2 + 1), m4) (ok_some h))
        · have h := ok_f hc h
          refine ax_iconst 1 d_Reader_names_47 ic_1 48 rfl ?_
          exact ax_zret (b := true) rfl d_Reader_names_48 (hR (true, p1.2) (ok_some h))
    · have h := ok_f (bf hc) h
      refine ax_iconst 0 d_Reader_names_16 ic_0 17 rfl ?_
      exact ax_zret (b := false) rfl d_Reader_names_17 (hR (false, p1.2) (ok_some h))
theorem c_Reader_names_L2 (v1 : Int32) (v2 : Int32) (m : zM)  {Q : Option Value → zM → Prop} {K : (Bool × zM) → Prop} (hR : ∀ p : Bool × zM, K (p) → Q (some (.int (b2i p.1))) p.2)  (h : ok (f_Reader_names_L2 v1 v2 m) K) : AX gX s_Reader_names 2 [(0, .ref 65), (1, .int v1), (2, .int v2)] [] m Q :=
  ok_lp (K := K) (G := fun s : Int32 × zM => AX gX s_Reader_names 2 [(0, .ref 65), (1, .int v1), (2, .int s.1)] [] s.2 Q) (fun s h => c_Reader_names_B2 v1 s.1 s.2  (fun p hp => hR p hp) (fun s hs => hs) h) FU (v2, m) h
set_option maxRecDepth 4000 in
theorem zc_Reader_names (v1 : Int32) (m : zM)  {Q : Option Value → zM → Prop} (h : ok (f_Reader_names v1 m) (fun p => Q (some (.int (b2i p.1))) p.2)) : zc gX s_Reader_names [.ref 65, .int v1] m Q := by
  refine zc_of rfl (Nat.le_of_ble_eq_true rfl) ?_
  show AX gX s_Reader_names 0 [(0, .ref 65), (1, .int v1)] [] m Q
  obtain ⟨K, hK⟩ : ∃ K : (Bool × zM) → Prop, K = (fun p : Bool × zM => Q (some (.int (b2i p.1))) p.2) := ⟨_, rfl⟩
  have hR : ∀ p : Bool × zM, K p → Q (some (.int (b2i p.1))) p.2 := fun p hp => by rw [hK] at hp; exact hp
  replace h : ok (f_Reader_names v1 m) (fun p : Bool × zM => Q (some (.int (b2i p.1))) p.2) := h
  rw [← hK] at h
  unfold f_Reader_names at h
  refine ax_iconst 0 d_Reader_names_0 ic_0 1 rfl ?_
  refine ax_istore_n (ls1 := [(2, .int 0), (0, .ref 65), (1, .int v1)]) d_Reader_names_1 rfl (Nat.le_of_ble_eq_true rfl) rfl 2 rfl ?_
  exact ax_sub [1, 2, 0] rfl (c_Reader_names_L2 v1 0 m (fun p hp => hR p hp) h)
set_option maxRecDepth 4000 in
theorem zc_Reader_opening  (m : zM)  {Q : Option Value → zM → Prop} (h : ok (f_Reader_opening m) (fun p => Q (some (.int (b2i p.1))) p.2)) : zc gX s_Reader_opening [.ref 65] m Q := by
  refine zc_of rfl (Nat.le_of_ble_eq_true rfl) ?_
  show AX gX s_Reader_opening 0 [(0, .ref 65)] [] m Q
  obtain ⟨K, hK⟩ : ∃ K : (Bool × zM) → Prop, K = (fun p : Bool × zM => Q (some (.int (b2i p.1))) p.2) := ⟨_, rfl⟩
  have hR : ∀ p : Bool × zM, K p → Q (some (.int (b2i p.1))) p.2 := fun p hp => by rw [hK] at hp; exact hp
  replace h : ok (f_Reader_opening m) (fun p : Bool × zM => Q (some (.int (b2i p.1))) p.2) := h
  rw [← hK] at h
  unfold f_Reader_opening at h
  refine ax_aload_n 0 d_Reader_opening_0 rfl rfl 1 rfl ?_
  refine ax_ldcS 1 (Nat.le_of_ble_eq_true rfl) rfl rfl d_Reader_opening_1 3 rfl ?_
  refine ax_callV mv_Reader_149 ⟨Nat.le_of_ble_eq_true rfl, Nat.le_of_ble_eq_true rfl⟩ ⟨rfl, rfl⟩ [.ref (1000 + 1)] [.ref (1000 + 1), .ref 65] rfl rfl (rc_x_65 _) (Nat.le_of_ble_eq_true rfl) d_Reader_opening_3 6 rfl (zc_Reader_ask 1 m (Nat.le_of_ble_eq_true rfl) (ok_b h (fun p1 h => ?_)))
  refine ax_ifb_eq 18 9 d_Reader_opening_6 rfl rfl (fun hc => ?_) (fun hc => ?_)
  · have h := ok_f (bf hc) h
    refine ax_iconst 0 d_Reader_opening_18 ic_0 19 rfl ?_
    exact ax_zret (b := false) rfl d_Reader_opening_19 (hR (false, p1.2) (ok_some h))
  · have h := ok_t hc h
    refine ax_aload_n 0 d_Reader_opening_9 rfl rfl 10 rfl ?_
    refine ax_iconst 2 d_Reader_opening_10 ic_2 11 rfl ?_
    refine ax_iconst 4 d_Reader_opening_11 ic_4 12 rfl ?_
    refine ax_callV mv_Reader_152 ⟨Nat.le_of_ble_eq_true rfl, Nat.le_of_ble_eq_true rfl⟩ ⟨rfl, rfl⟩ [.int 2, .int 4] [.int 4, .int 2, .ref 65] rfl rfl (rc_x_65 _) (Nat.le_of_ble_eq_true rfl) d_Reader_opening_12 15 rfl (zc_Reader_number 2 4 p1.2 (ok_b h (fun p2 h => ?_)))
    refine ax_ifb_ne 20 18 d_Reader_opening_15 rfl rfl (fun hc => ?_) (fun hc => ?_)
    · have h := ok_t hc h
      refine ax_aload_n 0 d_Reader_opening_20 rfl rfl 21 rfl ?_
      refine ok_tb h (fun t3 ht3 et3 h => ?_)
      refine ax_getR fl_Reader_12 x_65 rfl (ry_1 et3) d_Reader_opening_21 24 rfl ?_
      refine ax_aload_n 0 d_Reader_opening_24 rfl rfl 25 rfl ?_
      refine ax_getI fl_Reader_36 x_65 rfl d_Reader_opening_25 28 rfl ?_
      refine ax_putI (K := K) fl_Reader_155 (sx_Table ht3) rfl rfl rfl (Nat.le_of_ble_eq_true rfl) d_Reader_opening_28 31 rfl h (fun m4 h => ?_)
      refine ax_aload_n 0 d_Reader_opening_31 rfl rfl 32 rfl ?_
      refine ax_ldcS 2 (Nat.le_of_ble_eq_true rfl) rfl rfl d_Reader_opening_32 34 rfl ?_
      refine ax_callV mv_Reader_149 ⟨Nat.le_of_ble_eq_true rfl, Nat.le_of_ble_eq_true rfl⟩ ⟨rfl, rfl⟩ [.ref (1000 + 2)] [.ref (1000 + 2), .ref 65] rfl rfl (rc_x_65 _) (Nat.le_of_ble_eq_true rfl) d_Reader_opening_34 37 rfl (zc_Reader_ask 2 m4 (Nat.le_of_ble_eq_true rfl) (ok_b h (fun p5 h => ?_)))
      refine ax_ifb_eq 52 40 d_Reader_opening_37 rfl rfl (fun hc => ?_) (fun hc => ?_)
      · have h := ok_f (bf hc) h
        refine ax_iconst 0 d_Reader_opening_52 ic_0 53 rfl ?_
        exact ax_zret (b := false) rfl d_Reader_opening_53 (hR (false, p5.2) (ok_some h))
      · have h := ok_t hc h
        refine ax_aload_n 0 d_Reader_opening_40 rfl rfl 41 rfl ?_
        refine ax_iconst 0 d_Reader_opening_41 ic_0 42 rfl ?_
        refine ax_callV mv_Reader_159 ⟨Nat.le_of_ble_eq_true rfl, Nat.le_of_ble_eq_true rfl⟩ ⟨rfl, rfl⟩ [.int 0] [.int 0, .ref 65] rfl rfl (rc_x_65 _) (Nat.le_of_ble_eq_true rfl) d_Reader_opening_42 45 rfl (zc_Reader_names 0 p5.2 (ok_b h (fun p6 h => ?_)))
        refine ax_ifb_eq 52 48 d_Reader_opening_45 rfl rfl (fun hc => ?_) (fun hc => ?_)
        · have h := ok_f (bf hc) h
          refine ax_iconst 0 d_Reader_opening_52 ic_0 53 rfl ?_
          exact ax_zret (b := false) rfl d_Reader_opening_53 (hR (false, p6.2) (ok_some h))
        · have h := ok_t hc h
          refine ax_iconst 1 d_Reader_opening_48 ic_1 49 rfl ?_
          refine ax_goto 53 d_Reader_opening_49 rfl ?_
          exact ax_zret (b := true) rfl d_Reader_opening_53 (hR (true, p6.2) (ok_some h))
    · have h := ok_f (bf hc) h
      refine ax_iconst 0 d_Reader_opening_18 ic_0 19 rfl ?_
      exact ax_zret (b := false) rfl d_Reader_opening_19 (hR (false, p2.2) (ok_some h))
set_option maxRecDepth 4000 in
theorem c_Reader_isFree_J13  (m : zM)  {Q : Option Value → zM → Prop} {K : (Bool × zM) → Prop} (hR : ∀ p : Bool × zM, K (p) → Q (some (.int (b2i p.1))) p.2)  (h : K (f_Reader_isFree_J13  m)) : AX gX s_Reader_isFree 13 [] [] m Q := by
  unfold f_Reader_isFree_J13 at h
  refine ax_iconst 1 d_Reader_isFree_13 ic_1 14 rfl ?_
  refine ax_goto 18 d_Reader_isFree_14 rfl ?_
  exact ax_zret (b := true) rfl d_Reader_isFree_18 (hR (true, m) h)
set_option maxRecDepth 4000 in
theorem zc_Reader_isFree (v1 : Int32) (v2 : Int32) (m : zM)  {Q : Option Value → zM → Prop} (h : Q (some (.int (b2i (f_Reader_isFree v1 v2 m).1))) ((f_Reader_isFree v1 v2 m).2)) : zc gX s_Reader_isFree [.ref 65, .int v1, .int v2] m Q := by
  refine zc_of rfl (Nat.le_of_ble_eq_true rfl) ?_
  show AX gX s_Reader_isFree 0 [(0, .ref 65), (1, .int v1), (2, .int v2)] [] m Q
  obtain ⟨K, hK⟩ : ∃ K : (Bool × zM) → Prop, K = (fun p : Bool × zM => Q (some (.int (b2i p.1))) p.2) := ⟨_, rfl⟩
  have hR : ∀ p : Bool × zM, K p → Q (some (.int (b2i p.1))) p.2 := fun p hp => by rw [hK] at hp; exact hp
  replace h : (fun p : Bool × zM => Q (some (.int (b2i p.1))) p.2) (f_Reader_isFree v1 v2 m) := h
  rw [← hK] at h
  unfold f_Reader_isFree at h
  refine ax_iload_n 1 d_Reader_isFree_0 rfl rfl 1 rfl ?_
  refine ax_if_ne 13 4 d_Reader_isFree_1 rfl rfl (fun hc => ?_) (fun hc => ?_)
  · have h := kt_f (K := K) hc h
    exact ax_sub [] rfl (c_Reader_isFree_J13 m (fun p hp => hR p hp) h)
  · have h := kt_t (K := K) hc h
    refine ax_aload_n 0 d_Reader_isFree_4 rfl rfl 5 rfl ?_
    refine ax_iconst 5 d_Reader_isFree_5 ic_5 6 rfl ?_
    refine ax_iload_n 2 d_Reader_isFree_6 rfl rfl 7 rfl ?_
    refine ax_callV mv_Reader_52 ⟨Nat.le_of_ble_eq_true rfl, Nat.le_of_ble_eq_true rfl⟩ ⟨rfl, rfl⟩ [.int 5, .int v2] [.int v2, .int 5, .ref 65] rfl rfl (rc_x_65 _) (Nat.le_of_ble_eq_true rfl) d_Reader_isFree_7 10 rfl (zc_Reader_refuse 5 v2 m ?_)
    refine kt_l (K := K) (G := fun p => AX gX s_Reader_isFree 10 [(0, .ref 65), (1, .int v1), (2, .int v2)] [.int (b2i p.1)] p.2 Q) h (fun p1 h => ?_)
    refine ax_ifb_eq 17 13 d_Reader_isFree_10 rfl rfl (fun hc => ?_) (fun hc => ?_)
    · have h := kt_f (K := K) (bf hc) h
      refine ax_iconst 0 d_Reader_isFree_17 ic_0 18 rfl ?_
      exact ax_zret (b := false) rfl d_Reader_isFree_18 (hR (false, p1.2) h)
    · have h := kt_t (K := K) hc h
      exact ax_sub [] rfl (c_Reader_isFree_J13 p1.2 (fun p hp => hR p hp) h)
set_option maxRecDepth 4000 in
theorem zc_Table_openNever (v0 : Nat) (m : zM) (hv0 : v0 ∈ li_Table) {Q : Option Value → zM → Prop} (h : ok (f_Table_openNever v0 m) (fun p => Q none p)) : zc gX s_Table_openNever [.ref v0] m Q := by
  refine zc_of rfl (Nat.le_of_ble_eq_true rfl) ?_
  show AX gX s_Table_openNever 0 [(0, .ref v0)] [] m Q
  obtain ⟨K, hK⟩ : ∃ K : zM → Prop, K = (fun p : zM => Q none p) := ⟨_, rfl⟩
  have hR : ∀ p : zM, K p → Q none p := fun p hp => by rw [hK] at hp; exact hp
  replace h : ok (f_Table_openNever v0 m) (fun p : zM => Q none p) := h
  rw [← hK] at h
  unfold f_Table_openNever at h
  refine ax_aload_n 0 d_Table_openNever_0 rfl rfl 1 rfl ?_
  refine ax_getI fl_Table_35 (sx_Table hv0) rfl d_Table_openNever_1 4 rfl ?_
  refine ax_iconst 4 d_Table_openNever_4 ic_4 5 rfl ?_
  refine ax_icmp_ge 28 8 d_Table_openNever_5 rfl rfl (fun hc => ?_) (fun hc => ?_)
  · have h := ok_t hc h
    exact ax_vret rfl d_Table_openNever_28 (hR m (ok_some h))
  · have h := ok_f hc h
    refine ax_aload_n 0 d_Table_openNever_8 rfl rfl 9 rfl ?_
    refine ax_getR fl_Table_38 (sx_Table hv0) rfl (ro_Table_7 hv0 _) d_Table_openNever_9 12 rfl ?_
    refine ax_aload_n 0 d_Table_openNever_12 rfl rfl 13 rfl ?_
    refine ax_getI fl_Table_35 (sx_Table hv0) rfl d_Table_openNever_13 16 rfl ?_
    refine ax_iconst 0 d_Table_openNever_16 ic_0 17 rfl ?_
    refine ax_iastore (sa_Table_7 hv0) d_Table_openNever_17 18 rfl h (fun i1 m2 h => ?_)
    refine ax_aload_n 0 d_Table_openNever_18 rfl rfl 19 rfl ?_
    refine ax_dup d_Table_openNever_19 rfl 20 rfl ?_
    refine ax_getI fl_Table_35 (sx_Table hv0) rfl d_Table_openNever_20 23 rfl ?_
    refine ax_iconst 1 d_Table_openNever_23 ic_1 24 rfl ?_
    refine ax_iadd d_Table_openNever_24 25 rfl ?_
    refine ax_putI (K := K) fl_Table_35 (sx_Table hv0) rfl rfl rfl (Nat.le_of_ble_eq_true rfl) d_Table_openNever_25 28 rfl h (fun m3 h => ?_)
    exact ax_vret rfl d_Table_openNever_28 (hR m3 (ok_some h))
set_option maxRecDepth 4000 in
theorem zc_Reader_known (v1 : Int32) (m : zM)  {Q : Option Value → zM → Prop} (h : ok (f_Reader_known v1 m) (fun p => Q (some (.int (b2i p.1))) p.2)) : zc gX s_Reader_known [.ref 65, .int v1] m Q := by
  refine zc_of rfl (Nat.le_of_ble_eq_true rfl) ?_
  show AX gX s_Reader_known 0 [(0, .ref 65), (1, .int v1)] [] m Q
  obtain ⟨K, hK⟩ : ∃ K : (Bool × zM) → Prop, K = (fun p : Bool × zM => Q (some (.int (b2i p.1))) p.2) := ⟨_, rfl⟩
  have hR : ∀ p : Bool × zM, K p → Q (some (.int (b2i p.1))) p.2 := fun p hp => by rw [hK] at hp; exact hp
  replace h : ok (f_Reader_known v1 m) (fun p : Bool × zM => Q (some (.int (b2i p.1))) p.2) := h
  rw [← hK] at h
  unfold f_Reader_known at h
  refine ax_aload_n 0 d_Reader_known_0 rfl rfl 1 rfl ?_
  refine ax_callV mv_Reader_122 ⟨Nat.le_of_ble_eq_true rfl, Nat.le_of_ble_eq_true rfl⟩ ⟨rfl, rfl⟩ [] [.ref 65] rfl rfl (rc_x_65 _) (Nat.le_of_ble_eq_true rfl) d_Reader_known_1 4 rfl (zc_Reader_name m (ok_b h (fun p1 h => ?_)))
  refine ax_ifb_ne 9 7 d_Reader_known_4 rfl rfl (fun hc => ?_) (fun hc => ?_)
  · have h := ok_t hc h
    refine ax_aload_n 0 d_Reader_known_9 rfl rfl 10 rfl ?_
    refine ax_aload_n 0 d_Reader_known_10 rfl rfl 11 rfl ?_
    refine ok_tb h (fun t2 ht2 et2 h => ?_)
    refine ax_getR fl_Reader_12 x_65 rfl (ry_1 et2) d_Reader_known_11 14 rfl ?_
    refine ax_iload_n 1 d_Reader_known_14 rfl rfl 15 rfl ?_
    refine ax_aload_n 0 d_Reader_known_15 rfl rfl 16 rfl ?_
    refine ax_getI fl_Reader_36 x_65 rfl d_Reader_known_16 19 rfl ?_
    refine ax_callV mv_Reader_125 ⟨Nat.le_of_ble_eq_true rfl, Nat.le_of_ble_eq_true rfl⟩ ⟨rfl, rfl⟩ [.int v1, .int (p1.2.1 65 6)] [.int (p1.2.1 65 6), .int v1, .ref t2, .ref 65] rfl rfl (rc_Table ht2 _) (Nat.le_of_ble_eq_true rfl) d_Reader_known_19 22 rfl (zc_Table_find t2 v1 (p1.2.1 65 6) p1.2 ht2 (ok_b h (fun r3 h => ?_)))
    refine ax_putI (K := K) fl_Reader_36 x_65 rfl rfl rfl (Nat.le_of_ble_eq_true rfl) d_Reader_known_22 25 rfl h (fun m4 h => ?_)
    refine ax_aload_n 0 d_Reader_known_25 rfl rfl 26 rfl ?_
    refine ax_getI fl_Reader_36 x_65 rfl d_Reader_known_26 29 rfl ?_
    refine ax_iconst (-1) d_Reader_known_29 ic_m1 30 rfl ?_
    refine ax_icmp_ne 48 33 d_Reader_known_30 rfl rfl (fun hc => ?_) (fun hc => ?_)
    · have h := ok_f hc h
      refine ax_aload_n 0 d_Reader_known_48 rfl rfl 49 rfl ?_
      refine ax_dup d_Reader_known_49 rfl 50 rfl ?_
      refine ax_getI fl_Reader_32 x_65 rfl d_Reader_known_50 53 rfl ?_
      refine ax_iconst 1 d_Reader_known_53 ic_1 54 rfl ?_
      refine ax_iadd d_Reader_known_54 55 rfl ?_
      refine ax_putI (K := K) fl_Reader_32 x_65 rfl rfl rfl (Nat.le_of_ble_eq_true rfl) d_Reader_known_55 58 rfl h (fun m5 h => ?_)
      refine ax_iconst 1 d_Reader_known_58 ic_1 59 rfl ?_
      exact ax_zret (b := true) rfl d_Reader_known_59 (hR (true, m5) (ok_some h))
    · have h := ok_t hc h
      refine ax_aload_n 0 d_Reader_known_33 rfl rfl 34 rfl ?_
      refine ax_iconst 3 d_Reader_known_34 ic_3 35 rfl ?_
      refine ax_aload_n 0 d_Reader_known_35 rfl rfl 36 rfl ?_
      refine ax_getR fl_Reader_22 x_65 rfl (rx_65_2 _) d_Reader_known_36 39 rfl ?_
      refine ax_aload_n 0 d_Reader_known_39 rfl rfl 40 rfl ?_
      refine ax_getI fl_Reader_32 x_65 rfl d_Reader_known_40 43 rfl ?_
      refine ax_iaload x_90 d_Reader_known_43 44 rfl h (fun i6 h => ?_)
      refine ax_callV mv_Reader_52 ⟨Nat.le_of_ble_eq_true rfl, Nat.le_of_ble_eq_true rfl⟩ ⟨rfl, rfl⟩ [.int 3, .int (m4.1 90 i6)] [.int (m4.1 90 i6), .int 3, .ref 65] rfl rfl (rc_x_65 _) (Nat.le_of_ble_eq_true rfl) d_Reader_known_44 47 rfl (zc_Reader_refuse 3 (m4.1 90 i6) m4 ?_)
      refine ok_l (G := fun p => AX gX s_Reader_known 47 [(0, .ref 65), (1, .int v1)] [.int (b2i p.1)] p.2 Q) h (fun p7 h => ?_)
      exact ax_zret (b := p7.1) rfl d_Reader_known_47 (hR (p7.1, p7.2) (ok_some h))
  · have h := ok_f (bf hc) h
    refine ax_iconst 0 d_Reader_known_7 ic_0 8 rfl ?_
    exact ax_zret (b := false) rfl d_Reader_known_8 (hR (false, p1.2) (ok_some h))
set_option maxRecDepth 4000 in
theorem zc_Table_addCount (v0 : Nat) (v1 : Int32) (v2 : Int32) (m : zM) (hv0 : v0 ∈ li_Table) {Q : Option Value → zM → Prop} (h : ok (f_Table_addCount v0 v1 v2 m) (fun p => Q none p)) : zc gX s_Table_addCount [.ref v0, .int v1, .int v2] m Q := by
  refine zc_of rfl (Nat.le_of_ble_eq_true rfl) ?_
  show AX gX s_Table_addCount 0 [(0, .ref v0), (1, .int v1), (2, .int v2)] [] m Q
  obtain ⟨K, hK⟩ : ∃ K : zM → Prop, K = (fun p : zM => Q none p) := ⟨_, rfl⟩
  have hR : ∀ p : zM, K p → Q none p := fun p hp => by rw [hK] at hp; exact hp
  replace h : ok (f_Table_addCount v0 v1 v2 m) (fun p : zM => Q none p) := h
  rw [← hK] at h
  unfold f_Table_addCount at h
  refine ax_aload_n 0 d_Table_addCount_0 rfl rfl 1 rfl ?_
  refine ax_getI fl_Table_35 (sx_Table hv0) rfl d_Table_addCount_1 4 rfl ?_
  refine ax_iconst 1 d_Table_addCount_4 ic_1 5 rfl ?_
  refine ax_isub d_Table_addCount_5 6 rfl ?_
  refine ax_istore_n (ls1 := [(3, .int ((m.1 v0 6) - 1)), (0, .ref v0), (1, .int v1), (2, .int v2)]) d_Table_addCount_6 rfl (Nat.le_of_ble_eq_true rfl) rfl 7 rfl ?_
  refine ax_iload_n 0 d_Table_addCount_7 rfl rfl 8 rfl ?_
  refine ax_if_lt 59 11 d_Table_addCount_8 rfl rfl (fun hc => ?_) (fun hc => ?_)
  · have h := ok_t hc h
    exact ax_vret rfl d_Table_addCount_59 (hR m (ok_some h))
  · have h := ok_f hc h
    refine ax_aload_n 1 d_Table_addCount_11 rfl rfl 12 rfl ?_
    refine ax_getR fl_Table_38 (sx_Table hv0) rfl (ro_Table_7 hv0 _) d_Table_addCount_12 15 rfl ?_
    refine ax_iload_n 0 d_Table_addCount_15 rfl rfl 16 rfl ?_
    refine ax_iaload (sa_Table_7 hv0) d_Table_addCount_16 17 rfl h (fun i1 h => ?_)
    refine ax_iconst 3 d_Table_addCount_17 ic_3 18 rfl ?_
    refine ax_icmp_ge 59 21 d_Table_addCount_18 rfl rfl (fun hc => ?_) (fun hc => ?_)
    · have h := ok_t hc h
      exact ax_vret rfl d_Table_addCount_59 (hR m (ok_some h))
    · have h := ok_f hc h
      refine ax_iload_n 0 d_Table_addCount_21 rfl rfl 22 rfl ?_
      refine ax_iconst 3 d_Table_addCount_22 ic_3 23 rfl ?_
      refine ax_imul d_Table_addCount_23 24 rfl ?_
      refine ax_aload_n 1 d_Table_addCount_24 rfl rfl 25 rfl ?_
      refine ax_getR fl_Table_38 (sx_Table hv0) rfl (ro_Table_7 hv0 _) d_Table_addCount_25 28 rfl ?_
      refine ax_iload_n 0 d_Table_addCount_28 rfl rfl 29 rfl ?_
      refine ax_iaload (sa_Table_7 hv0) d_Table_addCount_29 30 rfl h (fun i2 h => ?_)
      refine ax_iadd d_Table_addCount_30 31 rfl ?_
      refine ax_istore (ls1 := [(4, .int ((((m.1 v0 6) - 1) * 3) + (m.1 (v0 + 4) i2))), (3, .int ((m.1 v0 6) - 1)), (0, .ref v0), (1, .int v1), (2, .int v2)]) d_Table_addCount_31 (Nat.le_of_ble_eq_true rfl) rfl 33 rfl ?_
      refine ax_aload_n 2 d_Table_addCount_33 rfl rfl 34 rfl ?_
      refine ax_getR fl_Table_41 (sx_Table hv0) rfl (ro_Table_8 hv0 _) d_Table_addCount_34 37 rfl ?_
      refine ax_iload 0 d_Table_addCount_37 rfl 39 rfl ?_
      refine ax_iload_n 3 d_Table_addCount_39 rfl rfl 40 rfl ?_
      refine ax_iastore (sa_Table_8 hv0) d_Table_addCount_40 41 rfl h (fun i3 m4 h => ?_)
      refine ax_aload_n 2 d_Table_addCount_41 rfl rfl 42 rfl ?_
      refine ax_getR fl_Table_44 (sx_Table hv0) rfl (ro_Table_9 hv0 _) d_Table_addCount_42 45 rfl ?_
      refine ax_iload 0 d_Table_addCount_45 rfl 47 rfl ?_
      refine ax_iload_n 4 d_Table_addCount_47 rfl rfl 48 rfl ?_
      refine ax_iastore (sa_Table_9 hv0) d_Table_addCount_48 49 rfl h (fun i5 m6 h => ?_)
      refine ax_aload_n 2 d_Table_addCount_49 rfl rfl 50 rfl ?_
      refine ax_getR fl_Table_38 (sx_Table hv0) rfl (ro_Table_7 hv0 _) d_Table_addCount_50 53 rfl ?_
      refine ax_iload_n 1 d_Table_addCount_53 rfl rfl 54 rfl ?_
      refine ax_dup2 d_Table_addCount_54 rfl rfl 55 rfl ?_
      refine ax_iaload (sa_Table_7 hv0) d_Table_addCount_55 56 rfl h (fun i7 h => ?_)
      refine ax_iconst 1 d_Table_addCount_56 ic_1 57 rfl ?_
      refine ax_iadd d_Table_addCount_57 58 rfl ?_
      refine ax_iastore (sa_Table_7 hv0) d_Table_addCount_58 59 rfl h (fun i8 m9 h => ?_)
      exact ax_vret rfl d_Table_addCount_59 (hR m9 (ok_some h))
set_option maxRecDepth 4000 in
theorem c_Reader_never_J69  (m : zM)  {Q : Option Value → zM → Prop} {K : (Bool × zM) → Prop} (hR : ∀ p : Bool × zM, K (p) → Q (some (.int (b2i p.1))) p.2)  (h : ok (f_Reader_never_J69  m) K) : AX gX s_Reader_never 69 [(0, .ref 65)] [] m Q := by
  unfold f_Reader_never_J69 at h
  refine ax_aload_n 0 d_Reader_never_69 rfl rfl 70 rfl ?_
  refine ax_callV mv_Reader_144 ⟨Nat.le_of_ble_eq_true rfl, Nat.le_of_ble_eq_true rfl⟩ ⟨rfl, rfl⟩ [] [.ref 65] rfl rfl (rc_x_65 _) (Nat.le_of_ble_eq_true rfl) d_Reader_never_70 73 rfl (zc_Reader_oneTooMany m (ok_b h (fun p8 h => ?_)))
  exact ax_zret (b := p8.1) rfl d_Reader_never_73 (hR (p8.1, p8.2) (ok_some h))
set_option maxRecDepth 4000 in
theorem c_Reader_never_B9 (v1 : Int32) (m : zM)  {Q : Option Value → zM → Prop} {K : ((Bool × zM) ⊕ (Int32 × zM)) → Prop} (hR : ∀ p : Bool × zM, K (.inl p) → Q (some (.int (b2i p.1))) p.2) (h0 : ∀ s : Int32 × zM, K (.inr s) → AX gX s_Reader_never 9 [(0, .ref 65), (1, .int s.1)] [] s.2 Q) (h : ok (f_Reader_never_B9 v1 m) K) : AX gX s_Reader_never 9 [(0, .ref 65), (1, .int v1)] [] m Q := by
  unfold f_Reader_never_B9 at h
  refine ax_iload_n 1 d_Reader_never_9 rfl rfl 10 rfl ?_
  refine ax_iconst 3 d_Reader_never_10 ic_3 11 rfl ?_
  refine ax_icmp_ge 69 14 d_Reader_never_11 rfl rfl (fun hc => ?_) (fun hc => ?_)
  · have h := ok_t hc h
    exact ax_sub [0] rfl (c_Reader_never_J69 m (fun p hp => hR p hp) (ok_z h))
  · have h := ok_f hc h
    refine ax_aload_n 0 d_Reader_never_14 rfl rfl 15 rfl ?_
    refine ax_iconst 1 d_Reader_never_15 ic_1 16 rfl ?_
    refine ax_iconst 4 d_Reader_never_16 ic_4 17 rfl ?_
    refine ax_callV mv_Reader_152 ⟨Nat.le_of_ble_eq_true rfl, Nat.le_of_ble_eq_true rfl⟩ ⟨rfl, rfl⟩ [.int 1, .int 4] [.int 4, .int 1, .ref 65] rfl rfl (rc_x_65 _) (Nat.le_of_ble_eq_true rfl) d_Reader_never_17 20 rfl (zc_Reader_number 1 4 m (ok_b h (fun p3 h => ?_)))
    refine ax_ifb_ne 25 23 d_Reader_never_20 rfl rfl (fun hc => ?_) (fun hc => ?_)
    · have h := ok_t hc h
      refine ax_aload_n 0 d_Reader_never_25 rfl rfl 26 rfl ?_
      refine ax_getI fl_Reader_36 x_65 rfl d_Reader_never_26 29 rfl ?_
      refine ax_istore_n (ls1 := [(2, .int (p3.2.1 65 6)), (0, .ref 65), (1, .int v1)]) d_Reader_never_29 rfl (Nat.le_of_ble_eq_true rfl) rfl 30 rfl ?_
      refine ax_aload_n 1 d_Reader_never_30 rfl rfl 31 rfl ?_
      refine ax_iconst 0 d_Reader_never_31 ic_0 32 rfl ?_
      refine ax_callV mv_Reader_136 ⟨Nat.le_of_ble_eq_true rfl, Nat.le_of_ble_eq_true rfl⟩ ⟨rfl, rfl⟩ [.int 0] [.int 0, .ref 65] rfl rfl (rc_x_65 _) (Nat.le_of_ble_eq_true rfl) d_Reader_never_32 35 rfl (zc_Reader_known 0 p3.2 (ok_b h (fun p4 h => ?_)))
      refine ax_ifb_ne 40 38 d_Reader_never_35 rfl rfl (fun hc => ?_) (fun hc => ?_)
      · have h := ok_t hc h
        refine ax_aload_n 1 d_Reader_never_40 rfl rfl 41 rfl ?_
        refine ok_tb h (fun t5 ht5 et5 h => ?_)
        refine ax_getR fl_Reader_12 x_65 rfl (ry_1 et5) d_Reader_never_41 44 rfl ?_
        refine ax_iload_n 0 d_Reader_never_44 rfl rfl 45 rfl ?_
        refine ax_aload_n 1 d_Reader_never_45 rfl rfl 46 rfl ?_
        refine ax_getI fl_Reader_36 x_65 rfl d_Reader_never_46 49 rfl ?_
        refine ax_callV mv_Reader_216 ⟨Nat.le_of_ble_eq_true rfl, Nat.le_of_ble_eq_true rfl⟩ ⟨rfl, rfl⟩ [.int (p3.2.1 65 6), .int (p4.2.1 65 6)] [.int (p4.2.1 65 6), .int (p3.2.1 65 6), .ref t5] rfl rfl (rc_Table ht5 _) (Nat.le_of_ble_eq_true rfl) d_Reader_never_49 52 rfl (zc_Table_addCount t5 (p3.2.1 65 6) (p4.2.1 65 6) p4.2 ht5 (ok_b h (fun p6 h => ?_)))
        refine ax_aload_n 1 d_Reader_never_52 rfl rfl 53 rfl ?_
        refine ax_ldcS 9 (Nat.le_of_ble_eq_true rfl) rfl rfl d_Reader_never_53 55 rfl ?_
        refine ax_callV mv_Reader_119 ⟨Nat.le_of_ble_eq_true rfl, Nat.le_of_ble_eq_true rfl⟩ ⟨rfl, rfl⟩ [.ref (1000 + 9)] [.ref (1000 + 9), .ref 65] rfl rfl (rc_x_65 _) (Nat.le_of_ble_eq_true rfl) d_Reader_never_55 58 rfl (zc_Reader_word 9 p6 (Nat.le_of_ble_eq_true rfl) (ok_b h (fun p7 h => ?_)))
        refine ax_ifb_ne 63 61 d_Reader_never_58 rfl rfl (fun hc => ?_) (fun hc => ?_)
        · have h := ok_t hc h
          refine ax_iinc (ls1 := [(1, .int (v1 + 1)), (2, .int (p3.2.1 65 6)), (0, .ref 65)]) 2 1 d_Reader_never_63 rfl ic_1 (Nat.le_of_ble_eq_true rfl) rfl 66 rfl ?_
          refine ax_goto 9 d_Reader_never_66 rfl ?_
          exact ax_sub [2, 0] rfl (h0 ((v1 + 1), p7.2) (ok_some h))
        · have h := ok_f (bf hc) h
          refine ax_iconst 1 d_Reader_never_61 ic_1 62 rfl ?_
          exact ax_zret (b := true) rfl d_Reader_never_62 (hR (true, p7.2) (ok_some h))
      · have h := ok_f (bf hc) h
        refine ax_iconst 0 d_Reader_never_38 ic_0 39 rfl ?_
        exact ax_zret (b := false) rfl d_Reader_never_39 (hR (false, p4.2) (ok_some h))
    · have h := ok_f (bf hc) h
      refine ax_iconst 0 d_Reader_never_23 ic_0 24 rfl ?_
      exact ax_zret (b := false) rfl d_Reader_never_24 (hR (false, p3.2) (ok_some h))
theorem c_Reader_never_L9 (v1 : Int32) (m : zM)  {Q : Option Value → zM → Prop} {K : (Bool × zM) → Prop} (hR : ∀ p : Bool × zM, K (p) → Q (some (.int (b2i p.1))) p.2)  (h : ok (f_Reader_never_L9 v1 m) K) : AX gX s_Reader_never 9 [(0, .ref 65), (1, .int v1)] [] m Q :=
  ok_lp (K := K) (G := fun s : Int32 × zM => AX gX s_Reader_never 9 [(0, .ref 65), (1, .int s.1)] [] s.2 Q) (fun s h => c_Reader_never_B9 s.1 s.2  (fun p hp => hR p hp) (fun s hs => hs) h) FU (v1, m) h
set_option maxRecDepth 4000 in
theorem zc_Reader_never  (m : zM)  {Q : Option Value → zM → Prop} (h : ok (f_Reader_never m) (fun p => Q (some (.int (b2i p.1))) p.2)) : zc gX s_Reader_never [.ref 65] m Q := by
  refine zc_of rfl (Nat.le_of_ble_eq_true rfl) ?_
  show AX gX s_Reader_never 0 [(0, .ref 65)] [] m Q
  obtain ⟨K, hK⟩ : ∃ K : (Bool × zM) → Prop, K = (fun p : Bool × zM => Q (some (.int (b2i p.1))) p.2) := ⟨_, rfl⟩
  have hR : ∀ p : Bool × zM, K p → Q (some (.int (b2i p.1))) p.2 := fun p hp => by rw [hK] at hp; exact hp
  replace h : ok (f_Reader_never m) (fun p : Bool × zM => Q (some (.int (b2i p.1))) p.2) := h
  rw [← hK] at h
  unfold f_Reader_never at h
  refine ax_aload_n 0 d_Reader_never_0 rfl rfl 1 rfl ?_
  refine ok_tb h (fun t1 ht1 et1 h => ?_)
  refine ax_getR fl_Reader_12 x_65 rfl (ry_1 et1) d_Reader_never_1 4 rfl ?_
  refine ax_callV mv_Reader_213 ⟨Nat.le_of_ble_eq_true rfl, Nat.le_of_ble_eq_true rfl⟩ ⟨rfl, rfl⟩ [] [.ref t1] rfl rfl (rc_Table ht1 _) (Nat.le_of_ble_eq_true rfl) d_Reader_never_4 7 rfl (zc_Table_openNever t1 m ht1 (ok_b h (fun p2 h => ?_)))
  refine ax_iconst 0 d_Reader_never_7 ic_0 8 rfl ?_
  refine ax_istore_n (ls1 := [(1, .int 0), (0, .ref 65)]) d_Reader_never_8 rfl (Nat.le_of_ble_eq_true rfl) rfl 9 rfl ?_
  exact ax_sub [1, 0] rfl (c_Reader_never_L9 0 p2 (fun p hp => hR p hp) h)
set_option maxRecDepth 4000 in
theorem zc_Reader_wants  (m : zM)  {Q : Option Value → zM → Prop} (h : ok (f_Reader_wants m) (fun p => Q (some (.int (b2i p.1))) p.2)) : zc gX s_Reader_wants [.ref 65] m Q := by
  refine zc_of rfl (Nat.le_of_ble_eq_true rfl) ?_
  show AX gX s_Reader_wants 0 [(0, .ref 65)] [] m Q
  obtain ⟨K, hK⟩ : ∃ K : (Bool × zM) → Prop, K = (fun p : Bool × zM => Q (some (.int (b2i p.1))) p.2) := ⟨_, rfl⟩
  have hR : ∀ p : Bool × zM, K p → Q (some (.int (b2i p.1))) p.2 := fun p hp => by rw [hK] at hp; exact hp
  replace h : ok (f_Reader_wants m) (fun p : Bool × zM => Q (some (.int (b2i p.1))) p.2) := h
  rw [← hK] at h
  unfold f_Reader_wants at h
  refine ax_aload_n 0 d_Reader_wants_0 rfl rfl 1 rfl ?_
  refine ax_iconst 0 d_Reader_wants_1 ic_0 2 rfl ?_
  refine ax_callV mv_Reader_136 ⟨Nat.le_of_ble_eq_true rfl, Nat.le_of_ble_eq_true rfl⟩ ⟨rfl, rfl⟩ [.int 0] [.int 0, .ref 65] rfl rfl (rc_x_65 _) (Nat.le_of_ble_eq_true rfl) d_Reader_wants_2 5 rfl (zc_Reader_known 0 m (ok_b h (fun p1 h => ?_)))
  refine ax_ifb_ne 10 8 d_Reader_wants_5 rfl rfl (fun hc => ?_) (fun hc => ?_)
  · have h := ok_t hc h
    refine ax_aload_n 0 d_Reader_wants_10 rfl rfl 11 rfl ?_
    refine ok_tb h (fun t2 ht2 et2 h => ?_)
    refine ax_getR fl_Reader_12 x_65 rfl (ry_1 et2) d_Reader_wants_11 14 rfl ?_
    refine ax_aload_n 0 d_Reader_wants_14 rfl rfl 15 rfl ?_
    refine ax_getI fl_Reader_36 x_65 rfl d_Reader_wants_15 18 rfl ?_
    refine ax_putI (K := K) fl_Reader_191 (sx_Table ht2) rfl rfl rfl (Nat.le_of_ble_eq_true rfl) d_Reader_wants_18 21 rfl h (fun m3 h => ?_)
    refine ax_aload_n 0 d_Reader_wants_21 rfl rfl 22 rfl ?_
    refine ax_iconst 0 d_Reader_wants_22 ic_0 23 rfl ?_
    refine ax_callV mv_Reader_136 ⟨Nat.le_of_ble_eq_true rfl, Nat.le_of_ble_eq_true rfl⟩ ⟨rfl, rfl⟩ [.int 0] [.int 0, .ref 65] rfl rfl (rc_x_65 _) (Nat.le_of_ble_eq_true rfl) d_Reader_wants_23 26 rfl (zc_Reader_known 0 m3 (ok_b h (fun p4 h => ?_)))
    refine ax_ifb_ne 31 29 d_Reader_wants_26 rfl rfl (fun hc => ?_) (fun hc => ?_)
    · have h := ok_t hc h
      refine ax_aload_n 0 d_Reader_wants_31 rfl rfl 32 rfl ?_
      refine ok_tb h (fun t5 ht5 et5 h => ?_)
      refine ax_getR fl_Reader_12 x_65 rfl (ry_1 et5) d_Reader_wants_32 35 rfl ?_
      refine ax_aload_n 0 d_Reader_wants_35 rfl rfl 36 rfl ?_
      refine ax_getI fl_Reader_36 x_65 rfl d_Reader_wants_36 39 rfl ?_
      refine ax_putI (K := K) fl_Reader_221 (sx_Table ht5) rfl rfl rfl (Nat.le_of_ble_eq_true rfl) d_Reader_wants_39 42 rfl h (fun m6 h => ?_)
      refine ax_iconst 1 d_Reader_wants_42 ic_1 43 rfl ?_
      exact ax_zret (b := true) rfl d_Reader_wants_43 (hR (true, m6) (ok_some h))
    · have h := ok_f (bf hc) h
      refine ax_iconst 0 d_Reader_wants_29 ic_0 30 rfl ?_
      exact ax_zret (b := false) rfl d_Reader_wants_30 (hR (false, p4.2) (ok_some h))
  · have h := ok_f (bf hc) h
    refine ax_iconst 0 d_Reader_wants_8 ic_0 9 rfl ?_
    exact ax_zret (b := false) rfl d_Reader_wants_9 (hR (false, p1.2) (ok_some h))
set_option maxRecDepth 4000 in
theorem zc_Math_min (v0 : Int32) (v1 : Int32) (m : zM)  {Q : Option Value → zM → Prop} (h : Q (some (.int (f_Math_min v0 v1))) m) : zc gX s_Math_min [.int v0, .int v1] m Q := by
  refine zc_ofF (by decide +kernel) (Nat.le_of_ble_eq_true rfl) ?_
  show AX gX s_Math_min 0 [(0, .int v0), (1, .int v1)] [] m Q
  obtain ⟨K, hK⟩ : ∃ K : Int32 → Prop, K = (fun p : Int32 => Q (some (.int p)) m) := ⟨_, rfl⟩
  have hR : ∀ p : Int32, K p → Q (some (.int p)) m := fun p hp => by rw [hK] at hp; exact hp
  replace h : (fun p : Int32 => Q (some (.int p)) m) (f_Math_min v0 v1) := h
  rw [← hK] at h
  unfold f_Math_min at h
  refine ax_iload_n 0 d_Math_min_0 rfl rfl 1 rfl ?_
  refine ax_iload_n 1 d_Math_min_1 rfl rfl 2 rfl ?_
  refine ax_icmp_gt 9 5 d_Math_min_2 rfl rfl (fun hc => ?_) (fun hc => ?_)
  · have h := kt_t (K := K) hc h
    refine ax_iload_n 1 d_Math_min_9 rfl rfl 10 rfl ?_
    exact ax_iret rfl d_Math_min_10 (hR v1 h)
  · have h := kt_f (K := K) hc h
    refine ax_iload_n 0 d_Math_min_5 rfl rfl 6 rfl ?_
    refine ax_goto 10 d_Math_min_6 rfl ?_
    exact ax_iret rfl d_Math_min_10 (hR v0 h)
set_option maxRecDepth 4000 in
theorem zc_Row_clear (v0 : Nat) (v1 : Int32) (m : zM) (hv0 : v0 ∈ li_Row) {Q : Option Value → zM → Prop} (h : ok (f_Row_clear v0 v1 m) (fun p => Q none p)) : zc gX s_Row_clear [.ref v0, .int v1] m Q := by
  refine zc_of rfl (Nat.le_of_ble_eq_true rfl) ?_
  show AX gX s_Row_clear 0 [(0, .ref v0), (1, .int v1)] [] m Q
  obtain ⟨K, hK⟩ : ∃ K : zM → Prop, K = (fun p : zM => Q none p) := ⟨_, rfl⟩
  have hR : ∀ p : zM, K p → Q none p := fun p hp => by rw [hK] at hp; exact hp
  replace h : ok (f_Row_clear v0 v1 m) (fun p : zM => Q none p) := h
  rw [← hK] at h
  unfold f_Row_clear at h
  refine ax_aload_n 0 d_Row_clear_0 rfl rfl 1 rfl ?_
  refine ax_iload_n 1 d_Row_clear_1 rfl rfl 2 rfl ?_
  refine ok_bt h (fun hx h => ?_)
  refine ax_putZ (K := K) fl_Row_9 (sx_Row hv0) hx rfl rfl rfl (Nat.le_of_ble_eq_true rfl) d_Row_clear_2 5 rfl h (fun m1 h => ?_)
  refine ax_aload_n 0 d_Row_clear_5 rfl rfl 6 rfl ?_
  refine ax_iconst (-1) d_Row_clear_6 ic_m1 7 rfl ?_
  refine ax_putI (K := K) fl_Row_15 (sx_Row hv0) rfl rfl rfl (Nat.le_of_ble_eq_true rfl) d_Row_clear_7 10 rfl h (fun m2 h => ?_)
  refine ax_aload_n 0 d_Row_clear_10 rfl rfl 11 rfl ?_
  refine ax_iconst (-1) d_Row_clear_11 ic_m1 12 rfl ?_
  refine ax_putI (K := K) fl_Row_19 (sx_Row hv0) rfl rfl rfl (Nat.le_of_ble_eq_true rfl) d_Row_clear_12 15 rfl h (fun m3 h => ?_)
  refine ax_aload_n 0 d_Row_clear_15 rfl rfl 16 rfl ?_
  refine ax_iconst (-1) d_Row_clear_16 ic_m1 17 rfl ?_
  refine ax_putI (K := K) fl_Row_22 (sx_Row hv0) rfl rfl rfl (Nat.le_of_ble_eq_true rfl) d_Row_clear_17 20 rfl h (fun m4 h => ?_)
  refine ax_aload_n 0 d_Row_clear_20 rfl rfl 21 rfl ?_
  refine ax_iconst (-1) d_Row_clear_21 ic_m1 22 rfl ?_
  refine ax_putI (K := K) fl_Row_25 (sx_Row hv0) rfl rfl rfl (Nat.le_of_ble_eq_true rfl) d_Row_clear_22 25 rfl h (fun m5 h => ?_)
  refine ax_aload_n 0 d_Row_clear_25 rfl rfl 26 rfl ?_
  refine ax_iconst (-1) d_Row_clear_26 ic_m1 27 rfl ?_
  refine ax_putI (K := K) fl_Row_28 (sx_Row hv0) rfl rfl rfl (Nat.le_of_ble_eq_true rfl) d_Row_clear_27 30 rfl h (fun m6 h => ?_)
  refine ax_aload_n 0 d_Row_clear_30 rfl rfl 31 rfl ?_
  refine ax_iconst (-1) d_Row_clear_31 ic_m1 32 rfl ?_
  refine ax_putI (K := K) fl_Row_31 (sx_Row hv0) rfl rfl rfl (Nat.le_of_ble_eq_true rfl) d_Row_clear_32 35 rfl h (fun m7 h => ?_)
  refine ax_aload_n 0 d_Row_clear_35 rfl rfl 36 rfl ?_
  refine ax_iconst 0 d_Row_clear_36 ic_0 37 rfl ?_
  refine ax_putZ (K := K) fl_Row_34 (sx_Row hv0) (Or.inl rfl) rfl rfl rfl (Nat.le_of_ble_eq_true rfl) d_Row_clear_37 40 rfl h (fun m8 h => ?_)
  exact ax_vret rfl d_Row_clear_40 (hR m8 (ok_some h))
set_option maxRecDepth 4000 in
theorem zc_Table_newRow (v0 : Nat) (v1 : Int32) (m : zM) (hv0 : v0 ∈ li_Table) {Q : Option Value → zM → Prop} (h : ok (f_Table_newRow v0 v1 m) (fun p => Q (some (.ref p.1)) p.2)) : zc gX s_Table_newRow [.ref v0, .int v1] m Q := by
  refine zc_of rfl (Nat.le_of_ble_eq_true rfl) ?_
  show AX gX s_Table_newRow 0 [(0, .ref v0), (1, .int v1)] [] m Q
  obtain ⟨K, hK⟩ : ∃ K : (Nat × zM) → Prop, K = (fun p : Nat × zM => Q (some (.ref p.1)) p.2) := ⟨_, rfl⟩
  have hR : ∀ p : Nat × zM, K p → Q (some (.ref p.1)) p.2 := fun p hp => by rw [hK] at hp; exact hp
  replace h : ok (f_Table_newRow v0 v1 m) (fun p : Nat × zM => Q (some (.ref p.1)) p.2) := h
  rw [← hK] at h
  unfold f_Table_newRow at h
  refine ax_aload_n 0 d_Table_newRow_0 rfl rfl 1 rfl ?_
  refine ax_getI fl_Table_26 (sx_Table hv0) rfl d_Table_newRow_1 4 rfl ?_
  refine ax_bipush 15 d_Table_newRow_4 bp_15 6 rfl ?_
  refine ax_callS mv_Table_64 ⟨Nat.le_of_ble_eq_true rfl, Nat.le_of_ble_eq_true rfl⟩ ⟨rfl, rfl⟩ [.int (m.1 v0 4), .int 15] [.int 15, .int (m.1 v0 4)] rfl rfl (Nat.le_of_ble_eq_true rfl) d_Table_newRow_6 9 rfl (zc_Math_min (m.1 v0 4) 15 m ?_)
  refine ax_istore_n (ls1 := [(2, .int (f_Math_min (m.1 v0 4) 15)), (0, .ref v0), (1, .int v1)]) d_Table_newRow_9 rfl (Nat.le_of_ble_eq_true rfl) rfl 10 rfl ?_
  refine ax_aload_n 1 d_Table_newRow_10 rfl rfl 11 rfl ?_
  refine ax_getR fl_Table_31 (sx_Table hv0) rfl (ro_Table_5 hv0 _) d_Table_newRow_11 14 rfl ?_
  refine ax_iload_n 0 d_Table_newRow_14 rfl rfl 15 rfl ?_
  refine ax_aaload (fun i => v0 + 7 + i) (sa_Table_5 hv0) (ra_row hv0 _) d_Table_newRow_15 16 rfl h (fun i1 hli1 h => ?_)
  refine ax_iload_n 2 d_Table_newRow_16 rfl rfl 17 rfl ?_
  refine ax_callV mv_Table_69 ⟨Nat.le_of_ble_eq_true rfl, Nat.le_of_ble_eq_true rfl⟩ ⟨rfl, rfl⟩ [.int v1] [.int v1, .ref (v0 + 7 + i1)] rfl rfl (rc_Row (in_row hv0 hli1) _) (Nat.le_of_ble_eq_true rfl) d_Table_newRow_17 20 rfl (zc_Row_clear (v0 + 7 + i1) v1 m (in_row hv0 hli1) (ok_b h (fun p2 h => ?_)))
  refine ax_aload_n 1 d_Table_newRow_20 rfl rfl 21 rfl ?_
  refine ax_iload_n 0 d_Table_newRow_21 rfl rfl 22 rfl ?_
  refine ax_iconst 1 d_Table_newRow_22 ic_1 23 rfl ?_
  refine ax_iadd d_Table_newRow_23 24 rfl ?_
  refine ax_putI (K := K) fl_Table_26 (sx_Table hv0) rfl rfl rfl (Nat.le_of_ble_eq_true rfl) d_Table_newRow_24 27 rfl h (fun m3 h => ?_)
  refine ax_aload_n 1 d_Table_newRow_27 rfl rfl 28 rfl ?_
  refine ax_getR fl_Table_31 (sx_Table hv0) rfl (ro_Table_5 hv0 _) d_Table_newRow_28 31 rfl ?_
  refine ax_iload_n 0 d_Table_newRow_31 rfl rfl 32 rfl ?_
  refine ax_aaload (fun i => v0 + 7 + i) (sa_Table_5 hv0) (ra_row hv0 _) d_Table_newRow_32 33 rfl h (fun i4 hli4 h => ?_)
  exact ax_aret rfl d_Table_newRow_33 (hR ((v0 + 7 + i4), m3) (ok_some h))
