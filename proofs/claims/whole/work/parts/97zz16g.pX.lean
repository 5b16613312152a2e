set_option maxRecDepth 4000 in
theorem zc_PA_write (v1 : Int32) (v2 : Nat) (m : zM) (hv2 : v2 ∈ li_Bytes) {Q : Option Value → zM → Prop} (h : ok (f_PA_write v1 v2 m) (fun p => Q none p)) : zc gX s_PA_write [.ref 0, .int v1, .ref v2] m Q := by
  refine zc_of rfl (Nat.le_of_ble_eq_true rfl) ?_
  show AX gX s_PA_write 0 [(0, .ref 0), (1, .int v1), (2, .ref v2)] [] m Q
  obtain ⟨K, hK⟩ : ∃ K : zM → Prop, K = (fun p : zM => Q none p) := ⟨_, rfl⟩
  have hR : ∀ p : zM, K p → Q none p := fun p hp => by rw [hK] at hp; exact hp
  replace h : ok (f_PA_write v1 v2 m) (fun p : zM => Q none p) := h
  rw [← hK] at h
  unfold f_PA_write at h
  refine ax_aload_n 2 d_PA_write_0 rfl rfl 1 rfl ?_
  refine ax_iconst 0 d_PA_write_1 ic_0 2 rfl ?_
  refine ax_callV mv_PA_108 ⟨Nat.le_of_ble_eq_true rfl, Nat.le_of_ble_eq_true rfl⟩ ⟨rfl, rfl⟩ [.int 0] [.int 0, .ref v2] rfl rfl (rc_Bytes hv2 _) (Nat.le_of_ble_eq_true rfl) d_PA_write_2 5 rfl (zc_Bytes_cut v2 0 m hv2 ?_)
  refine ok_l (G := fun p => AX gX s_PA_write 5 [(0, .ref 0), (1, .int v1), (2, .ref v2)] [] p Q) h (fun p1 h => ?_)
  refine ax_aload_n 0 d_PA_write_5 rfl rfl 6 rfl ?_
  refine ax_getR fl_PA_32 x_0 rfl (rx_0_4 _) d_PA_write_6 9 rfl ?_
  refine ax_iload_n 1 d_PA_write_9 rfl rfl 10 rfl ?_
  refine ax_callV mv_PA_200 ⟨Nat.le_of_ble_eq_true rfl, Nat.le_of_ble_eq_true rfl⟩ ⟨rfl, rfl⟩ [.int v1] [.int v1, .ref 24] rfl rfl (rc_x_24 _) (Nat.le_of_ble_eq_true rfl) d_PA_write_10 13 rfl (zc_Atlas_home v1 p1 (ok_b h (fun p2 h => ?_)))
  refine ax_istore_n (ls1 := [(3, .int p2.1), (0, .ref 0), (1, .int v1), (2, .ref v2)]) d_PA_write_13 rfl (Nat.le_of_ble_eq_true rfl) rfl 14 rfl ?_
  refine ax_iload_n 0 d_PA_write_14 rfl rfl 15 rfl ?_
  refine ax_iconst (-1) d_PA_write_15 ic_m1 16 rfl ?_
  refine ax_icmp_ne 28 19 d_PA_write_16 rfl rfl (fun hc => ?_) (fun hc => ?_)
  · have h := ok_f hc h
    refine ax_aload_n 3 d_PA_write_28 rfl rfl 29 rfl ?_
    refine ax_aload_n 1 d_PA_write_29 rfl rfl 30 rfl ?_
    refine ok_tb h (fun t3 ht3 et3 h => ?_)
    refine ax_getR fl_PA_71 x_0 rfl (ry_0 et3) d_PA_write_30 33 rfl ?_
    refine ax_iconst 1 d_PA_write_33 ic_1 34 rfl ?_
    refine ax_iload_n 0 d_PA_write_34 rfl rfl 35 rfl ?_
    refine ax_callV mv_PA_174 ⟨Nat.le_of_ble_eq_true rfl, Nat.le_of_ble_eq_true rfl⟩ ⟨rfl, rfl⟩ [.int 1, .int p2.1] [.int p2.1, .int 1, .ref t3, .ref v2] rfl rfl (rc_Table ht3 _) (Nat.le_of_ble_eq_true rfl) d_PA_write_35 38 rfl (zc_Table_name t3 1 p2.1 p2.2 ht3 (ok_b h (fun r4 h => ?_)))
    refine ax_callV mv_PA_380 ⟨Nat.le_of_ble_eq_true rfl, Nat.le_of_ble_eq_true rfl⟩ ⟨rfl, rfl⟩ [.int r4] [.int r4, .ref v2] rfl rfl (rc_Bytes hv2 _) (Nat.le_of_ble_eq_true rfl) d_PA_write_38 41 rfl (zc_Bytes_addName v2 r4 p2.2 hv2 (ok_b h (fun p5 h => ?_)))
    exact ax_sub [1, 2, 3] rfl (c_PA_write_J41 v1 v2 p5 hv2 (fun p hp => hR p hp) h)
  · have h := ok_t hc h
    refine ax_aload_n 3 d_PA_write_19 rfl rfl 20 rfl ?_
    refine ax_bipush 45 d_PA_write_20 bp_45 22 rfl ?_
    refine ax_callV mv_PA_346 ⟨Nat.le_of_ble_eq_true rfl, Nat.le_of_ble_eq_true rfl⟩ ⟨rfl, rfl⟩ [.int 45] [.int 45, .ref v2] rfl rfl (rc_Bytes hv2 _) (Nat.le_of_ble_eq_true rfl) d_PA_write_22 25 rfl (zc_Bytes_add v2 45 p2.2 hv2 (ok_b h (fun p6 h => ?_)))
    refine ax_goto 41 d_PA_write_25 rfl ?_
    exact ax_sub [1, 2, 3] rfl (c_PA_write_J41 v1 v2 p6 hv2 (fun p hp => hR p hp) h)
set_option maxRecDepth 4000 in
theorem zc_PA_spell (v1 : Int32) (m : zM)  {Q : Option Value → zM → Prop} (h : ok (f_PA_spell v1 m) (fun p => Q (some (.int p.1)) p.2)) : zc gX s_PA_spell [.ref 0, .int v1] m Q := by
  refine zc_of rfl (Nat.le_of_ble_eq_true rfl) ?_
  show AX gX s_PA_spell 0 [(0, .ref 0), (1, .int v1)] [] m Q
  obtain ⟨K, hK⟩ : ∃ K : (Int32 × zM) → Prop, K = (fun p : Int32 × zM => Q (some (.int p.1)) p.2) := ⟨_, rfl⟩
  have hR : ∀ p : Int32 × zM, K p → Q (some (.int p.1)) p.2 := fun p hp => by rw [hK] at hp; exact hp
  replace h : ok (f_PA_spell v1 m) (fun p : Int32 × zM => Q (some (.int p.1)) p.2) := h
  rw [← hK] at h
  unfold f_PA_spell at h
  refine ax_aload_n 0 d_PA_spell_0 rfl rfl 1 rfl ?_
  refine ax_iload_n 1 d_PA_spell_1 rfl rfl 2 rfl ?_
  refine ax_callV mv_PA_194 ⟨Nat.le_of_ble_eq_true rfl, Nat.le_of_ble_eq_true rfl⟩ ⟨rfl, rfl⟩ [.int v1] [.int v1, .ref 0] rfl rfl (rc_x_0 _) (Nat.le_of_ble_eq_true rfl) d_PA_spell_2 5 rfl (zc_PA_isWorld v1 m ?_)
  refine ax_ifb_ne 10 8 d_PA_spell_5 rfl rfl (fun hc => ?_) (fun hc => ?_)
  · have h := ok_t hc h
    refine ax_aload_n 0 d_PA_spell_10 rfl rfl 11 rfl ?_
    refine ax_iload_n 1 d_PA_spell_11 rfl rfl 12 rfl ?_
    refine ax_aload_n 0 d_PA_spell_12 rfl rfl 13 rfl ?_
    refine ax_getR fl_PA_16 x_0 rfl (rx_0_1 _) d_PA_spell_13 16 rfl ?_
    refine ax_callV mv_PA_335 ⟨Nat.le_of_ble_eq_true rfl, Nat.le_of_ble_eq_true rfl⟩ ⟨rfl, rfl⟩ [.int v1, .ref 3] [.ref 3, .int v1, .ref 0] rfl rfl (rc_x_0 _) (Nat.le_of_ble_eq_true rfl) d_PA_spell_16 19 rfl (zc_PA_write v1 3 m in_3 (ok_b h (fun p1 h => ?_)))
    refine ax_aload_n 0 d_PA_spell_19 rfl rfl 20 rfl ?_
    refine ax_getR fl_PA_16 x_0 rfl (rx_0_1 _) d_PA_spell_20 23 rfl ?_
    refine ax_callV mv_PA_96 ⟨Nat.le_of_ble_eq_true rfl, Nat.le_of_ble_eq_true rfl⟩ ⟨rfl, rfl⟩ [] [.ref 3] rfl rfl (rc_Bytes in_3 _) (Nat.le_of_ble_eq_true rfl) d_PA_spell_23 26 rfl (zc_Bytes_size 3 p1 in_3 ?_)
    exact ax_iret rfl d_PA_spell_26 (hR ((f_Bytes_size 3 p1), p1) (ok_some h))
  · have h := ok_f (bf hc) h
    refine ax_iconst (-1) d_PA_spell_8 ic_m1 9 rfl ?_
    exact ax_iret rfl d_PA_spell_9 (hR ((-1), m) (ok_some h))
set_option maxRecDepth 4000 in
theorem c_Bytes_isLike_B15 (v0 : Nat) (v1 : Nat) (v2 : Int32) (m : zM) (hv0 : v0 ∈ li_Bytes) (hv1 : v1 ∈ li_Bytes) {Q : Option Value → zM → Prop} {K : ((Bool) ⊕ (Int32)) → Prop} (hR : ∀ p : Bool, K (.inl p) → Q (some (.int (b2i p))) m) (h0 : ∀ s : Int32, K (.inr s) → AX gX s_Bytes_isLike 15 [(0, .ref v0), (1, .ref v1), (2, .int s)] [] m Q) (h : ok (f_Bytes_isLike_B15 v0 v1 v2 m) K) : AX gX s_Bytes_isLike 15 [(0, .ref v0), (1, .ref v1), (2, .int v2)] [] m Q := by
  unfold f_Bytes_isLike_B15 at h
  refine ax_iload_n 2 d_Bytes_isLike_15 rfl rfl 16 rfl ?_
  refine ax_aload_n 0 d_Bytes_isLike_16 rfl rfl 17 rfl ?_
  refine ax_getI fl_Bytes_15 (sx_Bytes hv0) rfl d_Bytes_isLike_17 20 rfl ?_
  refine ax_icmp_ge 46 23 d_Bytes_isLike_20 rfl rfl (fun hc => ?_) (fun hc => ?_)
  · have h := ok_t hc h
    refine ax_iconst 1 d_Bytes_isLike_46 ic_1 47 rfl ?_
    exact ax_zret (b := true) rfl d_Bytes_isLike_47 (hR true (ok_some h))
  · have h := ok_f hc h
    refine ax_aload_n 0 d_Bytes_isLike_23 rfl rfl 24 rfl ?_
    refine ax_getR fl_Bytes_9 (sx_Bytes hv0) rfl (ro_Bytes_0 hv0 _) d_Bytes_isLike_24 27 rfl ?_
    refine ax_iload_n 2 d_Bytes_isLike_27 rfl rfl 28 rfl ?_
    refine ax_iaload (sa_Bytes_0 hv0) d_Bytes_isLike_28 29 rfl h (fun i1 h => ?_)
    refine ax_aload_n 1 d_Bytes_isLike_29 rfl rfl 30 rfl ?_
    refine ax_getR fl_Bytes_9 (sx_Bytes hv1) rfl (ro_Bytes_0 hv1 _) d_Bytes_isLike_30 33 rfl ?_
    refine ax_iload_n 2 d_Bytes_isLike_33 rfl rfl 34 rfl ?_
    refine ax_iaload (sa_Bytes_0 hv1) d_Bytes_isLike_34 35 rfl h (fun i2 h => ?_)
    refine ax_icmp_eq 40 38 d_Bytes_isLike_35 rfl rfl (fun hc => ?_) (fun hc => ?_)
    · have h := ok_t hc h
      refine ax_iinc (ls1 := [(2, .int (v2 + 1)), (0, .ref v0), (1, .ref v1)]) 2 1 d_Bytes_isLike_40 rfl ic_1 (Nat.le_of_ble_eq_true rfl) rfl 43 rfl ?_
      refine ax_goto 15 d_Bytes_isLike_43 rfl ?_
      exact ax_sub [1, 2, 0] rfl (h0 (v2 + 1) (ok_some h))
    · have h := ok_f hc h
      refine ax_iconst 0 d_Bytes_isLike_38 ic_0 39 rfl ?_
      exact ax_zret (b := false) rfl d_Bytes_isLike_39 (hR false (ok_some h))
theorem c_Bytes_isLike_L15 (v0 : Nat) (v1 : Nat) (v2 : Int32) (m : zM) (hv0 : v0 ∈ li_Bytes) (hv1 : v1 ∈ li_Bytes) {Q : Option Value → zM → Prop} {K : Bool → Prop} (hR : ∀ p : Bool, K (p) → Q (some (.int (b2i p))) m)  (h : ok (f_Bytes_isLike_L15 v0 v1 v2 m) K) : AX gX s_Bytes_isLike 15 [(0, .ref v0), (1, .ref v1), (2, .int v2)] [] m Q :=
  ok_lp (K := K) (G := fun s : Int32 => AX gX s_Bytes_isLike 15 [(0, .ref v0), (1, .ref v1), (2, .int s)] [] m Q) (fun s h => c_Bytes_isLike_B15 v0 v1 s m hv0 hv1 (fun p hp => hR p hp) (fun s hs => hs) h) FU v2 h
set_option maxRecDepth 4000 in
theorem zc_Bytes_isLike (v0 : Nat) (v1 : Nat) (m : zM) (hv0 : v0 ∈ li_Bytes) (hv1 : v1 ∈ li_Bytes) {Q : Option Value → zM → Prop} (h : ok (f_Bytes_isLike v0 v1 m) (fun p => Q (some (.int (b2i p))) m)) : zc gX s_Bytes_isLike [.ref v0, .ref v1] m Q := by
  refine zc_of rfl (Nat.le_of_ble_eq_true rfl) ?_
  show AX gX s_Bytes_isLike 0 [(0, .ref v0), (1, .ref v1)] [] m Q
  obtain ⟨K, hK⟩ : ∃ K : Bool → Prop, K = (fun p : Bool => Q (some (.int (b2i p))) m) := ⟨_, rfl⟩
  have hR : ∀ p : Bool, K p → Q (some (.int (b2i p))) m := fun p hp => by rw [hK] at hp; exact hp
  replace h : ok (f_Bytes_isLike v0 v1 m) (fun p : Bool => Q (some (.int (b2i p))) m) := h
  rw [← hK] at h
  unfold f_Bytes_isLike at h
  refine ax_aload_n 0 d_Bytes_isLike_0 rfl rfl 1 rfl ?_
  refine ax_getI fl_Bytes_15 (sx_Bytes hv0) rfl d_Bytes_isLike_1 4 rfl ?_
  refine ax_aload_n 1 d_Bytes_isLike_4 rfl rfl 5 rfl ?_
  refine ax_getI fl_Bytes_15 (sx_Bytes hv1) rfl d_Bytes_isLike_5 8 rfl ?_
  refine ax_icmp_eq 13 11 d_Bytes_isLike_8 rfl rfl (fun hc => ?_) (fun hc => ?_)
  · have h := ok_t hc h
    refine ax_iconst 0 d_Bytes_isLike_13 ic_0 14 rfl ?_
    refine ax_istore_n (ls1 := [(2, .int 0), (0, .ref v0), (1, .ref v1)]) d_Bytes_isLike_14 rfl (Nat.le_of_ble_eq_true rfl) rfl 15 rfl ?_
    exact ax_sub [1, 2, 0] rfl (c_Bytes_isLike_L15 v0 v1 0 m hv0 hv1 (fun p hp => hR p hp) h)
  · have h := ok_f hc h
    refine ax_iconst 0 d_Bytes_isLike_11 ic_0 12 rfl ?_
    exact ax_zret (b := false) rfl d_Bytes_isLike_12 (hR false (ok_some h))
set_option maxRecDepth 4000 in
theorem c_PA_which_J58 (v1 : Int32) (m : zM)  {Q : Option Value → zM → Prop} {K : (Int32 × zM) → Prop} (hR : ∀ p : Int32 × zM, K (p) → Q (some (.int p.1)) p.2)  (h : ok (f_PA_which_J58 v1 m) K) : AX gX s_PA_which 58 [(0, .ref 0), (1, .int v1)] [] m Q := by
  unfold f_PA_which_J58 at h
  refine ax_aload_n 0 d_PA_which_58 rfl rfl 59 rfl ?_
  refine ax_getR fl_PA_12 x_0 rfl (rx_0_0 _) d_PA_which_59 62 rfl ?_
  refine ax_iconst 0 d_PA_which_62 ic_0 63 rfl ?_
  refine ax_callV mv_PA_108 ⟨Nat.le_of_ble_eq_true rfl, Nat.le_of_ble_eq_true rfl⟩ ⟨rfl, rfl⟩ [.int 0] [.int 0, .ref 1] rfl rfl (rc_Bytes in_1 _) (Nat.le_of_ble_eq_true rfl) d_PA_which_63 66 rfl (zc_Bytes_cut 1 0 m in_1 ?_)
  refine ok_l (G := fun p => AX gX s_PA_which 66 [(0, .ref 0), (1, .int v1)] [] p Q) h (fun p3 h => ?_)
  refine ax_iload_n 1 d_PA_which_66 rfl rfl 67 rfl ?_
  refine ax_iconst (-1) d_PA_which_67 ic_m1 68 rfl ?_
  refine ax_icmp_ne 79 71 d_PA_which_68 rfl rfl (fun hc => ?_) (fun hc => ?_)
  · have h := ok_f hc h
    refine ax_iload_n 1 d_PA_which_79 rfl rfl 80 rfl ?_
    exact ax_iret rfl d_PA_which_80 (hR (v1, p3) (ok_some h))
  · have h := ok_t hc h
    refine ax_aload_n 0 d_PA_which_71 rfl rfl 72 rfl ?_
    refine ax_iconst 5 d_PA_which_72 ic_5 73 rfl ?_
    refine ax_callV mv_PA_100 ⟨Nat.le_of_ble_eq_true rfl, Nat.le_of_ble_eq_true rfl⟩ ⟨rfl, rfl⟩ [.int 5] [.int 5, .ref 0] rfl rfl (rc_x_0 _) (Nat.le_of_ble_eq_true rfl) d_PA_which_73 76 rfl (zc_PA_refuse 5 p3 (ok_b h (fun p4 h => ?_)))
    refine ax_goto 80 d_PA_which_76 rfl ?_
    exact ax_iret rfl d_PA_which_80 (hR (p4.1, p4.2) (ok_some h))
set_option maxRecDepth 4000 in
theorem c_PA_which_J52 (v1 : Int32) (v2 : Int32) (m : zM)  {Q : Option Value → zM → Prop} {K : ((Int32 × zM) ⊕ (Int32 × Int32 × zM)) → Prop} (hR : ∀ p : Int32 × zM, K (.inl p) → Q (some (.int p.1)) p.2) (h0 : ∀ s : Int32 × Int32 × zM, K (.inr s) → AX gX s_PA_which 4 [(0, .ref 0), (1, .int s.1), (2, .int s.2.1)] [] s.2.2 Q) (h : ok (f_PA_which_J52 v1 v2 m) K) : AX gX s_PA_which 52 [(0, .ref 0), (1, .int v1), (2, .int v2)] [] m Q := by
  unfold f_PA_which_J52 at h
  refine ax_iinc (ls1 := [(2, .int (v2 + 1)), (0, .ref 0), (1, .int v1)]) 2 1 d_PA_which_52 rfl ic_1 (Nat.le_of_ble_eq_true rfl) rfl 55 rfl ?_
  refine ax_goto 4 d_PA_which_55 rfl ?_
  exact ax_sub [1, 2, 0] rfl (h0 (v1, (v2 + 1), m) (ok_some h))
set_option maxRecDepth 4000 in
theorem c_PA_which_B4 (v1 : Int32) (v2 : Int32) (m : zM)  {Q : Option Value → zM → Prop} {K : ((Int32 × zM) ⊕ (Int32 × Int32 × zM)) → Prop} (hR : ∀ p : Int32 × zM, K (.inl p) → Q (some (.int p.1)) p.2) (h0 : ∀ s : Int32 × Int32 × zM, K (.inr s) → AX gX s_PA_which 4 [(0, .ref 0), (1, .int s.1), (2, .int s.2.1)] [] s.2.2 Q) (h : ok (f_PA_which_B4 v1 v2 m) K) : AX gX s_PA_which 4 [(0, .ref 0), (1, .int v1), (2, .int v2)] [] m Q := by
  unfold f_PA_which_B4 at h
  refine ax_aload_n 0 d_PA_which_4 rfl rfl 5 rfl ?_
  refine ax_getI fl_PA_84 x_0 rfl d_PA_which_5 8 rfl ?_
  refine ax_if_eq 58 11 d_PA_which_8 rfl rfl (fun hc => ?_) (fun hc => ?_)
  · have h := ok_t hc h
    exact ax_sub [0, 1] rfl (c_PA_which_J58 v1 m (fun p hp => hR p hp) (ok_z h))
  · have h := ok_f hc h
    refine ax_iload_n 2 d_PA_which_11 rfl rfl 12 rfl ?_
    refine ax_aload_n 0 d_PA_which_12 rfl rfl 13 rfl ?_
    refine ax_getR fl_PA_32 x_0 rfl (rx_0_4 _) d_PA_which_13 16 rfl ?_
    refine ax_getI fl_PA_152 x_24 rfl d_PA_which_16 19 rfl ?_
    refine ax_icmp_ge 58 22 d_PA_which_19 rfl rfl (fun hc => ?_) (fun hc => ?_)
    · have h := ok_t hc h
      exact ax_sub [0, 1] rfl (c_PA_which_J58 v1 m (fun p hp => hR p hp) (ok_z h))
    · have h := ok_f hc h
      refine ax_iload_n 1 d_PA_which_22 rfl rfl 23 rfl ?_
      refine ax_iconst (-1) d_PA_which_23 ic_m1 24 rfl ?_
      refine ax_icmp_ne 58 27 d_PA_which_24 rfl rfl (fun hc => ?_) (fun hc => ?_)
      · have h := ok_f hc h
        exact ax_sub [0, 1] rfl (c_PA_which_J58 v1 m (fun p hp => hR p hp) (ok_z h))
      · have h := ok_t hc h
        refine ax_aload_n 0 d_PA_which_27 rfl rfl 28 rfl ?_
        refine ax_iload_n 2 d_PA_which_28 rfl rfl 29 rfl ?_
        refine ax_aload_n 0 d_PA_which_29 rfl rfl 30 rfl ?_
        refine ax_getR fl_PA_19 x_0 rfl (rx_0_2 _) d_PA_which_30 33 rfl ?_
        refine ax_callV mv_PA_335 ⟨Nat.le_of_ble_eq_true rfl, Nat.le_of_ble_eq_true rfl⟩ ⟨rfl, rfl⟩ [.int v2, .ref 5] [.ref 5, .int v2, .ref 0] rfl rfl (rc_x_0 _) (Nat.le_of_ble_eq_true rfl) d_PA_which_33 36 rfl (zc_PA_write v2 5 m in_5 (ok_b h (fun p1 h => ?_)))
        refine ax_aload_n 0 d_PA_which_36 rfl rfl 37 rfl ?_
        refine ax_getR fl_PA_19 x_0 rfl (rx_0_2 _) d_PA_which_37 40 rfl ?_
        refine ax_aload_n 0 d_PA_which_40 rfl rfl 41 rfl ?_
        refine ax_getR fl_PA_12 x_0 rfl (rx_0_0 _) d_PA_which_41 44 rfl ?_
        refine ax_callV mv_PA_339 ⟨Nat.le_of_ble_eq_true rfl, Nat.le_of_ble_eq_true rfl⟩ ⟨rfl, rfl⟩ [.ref 1] [.ref 1, .ref 5] rfl rfl (rc_Bytes in_5 _) (Nat.le_of_ble_eq_true rfl) d_PA_which_44 47 rfl (zc_Bytes_isLike 5 1 p1 in_5 in_1 (ok_b h (fun r2 h => ?_)))
        refine ax_ifb_eq 52 50 d_PA_which_47 rfl rfl (fun hc => ?_) (fun hc => ?_)
        · have h := ok_f (bf hc) h
          exact ax_sub [0, 1, 2] rfl (c_PA_which_J52 v1 v2 p1 (fun p hp => hR p hp) (fun s hs => h0 s hs) h)
        · have h := ok_t hc h
          refine ax_iload_n 2 d_PA_which_50 rfl rfl 51 rfl ?_
          refine ax_istore_n (ls1 := [(1, .int v2), (0, .ref 0), (2, .int v2)]) d_PA_which_51 rfl (Nat.le_of_ble_eq_true rfl) rfl 52 rfl ?_
          exact ax_sub [1, 0, 2] rfl (c_PA_which_J52 v2 v2 p1 (fun p hp => hR p hp) (fun s hs => h0 s hs) h)
theorem c_PA_which_L4 (v1 : Int32) (v2 : Int32) (m : zM)  {Q : Option Value → zM → Prop} {K : (Int32 × zM) → Prop} (hR : ∀ p : Int32 × zM, K (p) → Q (some (.int p.1)) p.2)  (h : ok (f_PA_which_L4 v1 v2 m) K) : AX gX s_PA_which 4 [(0, .ref 0), (1, .int v1), (2, .int v2)] [] m Q :=
  ok_lp (K := K) (G := fun s : Int32 × Int32 × zM => AX gX s_PA_which 4 [(0, .ref 0), (1, .int s.1), (2, .int s.2.1)] [] s.2.2 Q) (fun s h => c_PA_which_B4 s.1 s.2.1 s.2.2  (fun p hp => hR p hp) (fun s hs => hs) h) FU (v1, v2, m) h
set_option maxRecDepth 4000 in
theorem zc_PA_which  (m : zM)  {Q : Option Value → zM → Prop} (h : ok (f_PA_which m) (fun p => Q (some (.int p.1)) p.2)) : zc gX s_PA_which [.ref 0] m Q := by
  refine zc_of rfl (Nat.le_of_ble_eq_true rfl) ?_
  show AX gX s_PA_which 0 [(0, .ref 0)] [] m Q
  obtain ⟨K, hK⟩ : ∃ K : (Int32 × zM) → Prop, K = (fun p : Int32 × zM => Q (some (.int p.1)) p.2) := ⟨_, rfl⟩
  have hR : ∀ p : Int32 × zM, K p → Q (some (.int p.1)) p.2 := fun p hp => by rw [hK] at hp; exact hp
  replace h : ok (f_PA_which m) (fun p : Int32 × zM => Q (some (.int p.1)) p.2) := h
  rw [← hK] at h
  unfold f_PA_which at h
  refine ax_iconst (-1) d_PA_which_0 ic_m1 1 rfl ?_
  refine ax_istore_n (ls1 := [(1, .int (-1)), (0, .ref 0)]) d_PA_which_1 rfl (Nat.le_of_ble_eq_true rfl) rfl 2 rfl ?_
  refine ax_iconst 0 d_PA_which_2 ic_0 3 rfl ?_
  refine ax_istore_n (ls1 := [(2, .int 0), (1, .int (-1)), (0, .ref 0)]) d_PA_which_3 rfl (Nat.le_of_ble_eq_true rfl) rfl 4 rfl ?_
  exact ax_sub [2, 1, 0] rfl (c_PA_which_L4 (-1) 0 m (fun p hp => hR p hp) h)
set_option maxRecDepth 4000 in
theorem zc_PA_asByte (v0 : Int32) (m : zM)  {Q : Option Value → zM → Prop} (h : Q (some (.int (f_PA_asByte v0))) m) : zc gX s_PA_asByte [.int v0] m Q := by
  refine zc_of rfl (Nat.le_of_ble_eq_true rfl) ?_
  show AX gX s_PA_asByte 0 [(0, .int v0)] [] m Q
  obtain ⟨K, hK⟩ : ∃ K : Int32 → Prop, K = (fun p : Int32 => Q (some (.int p)) m) := ⟨_, rfl⟩
  have hR : ∀ p : Int32, K p → Q (some (.int p)) m := fun p hp => by rw [hK] at hp; exact hp
  replace h : (fun p : Int32 => Q (some (.int p)) m) (f_PA_asByte v0) := h
  rw [← hK] at h
  unfold f_PA_asByte at h
  refine ax_iload_n 0 d_PA_asByte_0 rfl rfl 1 rfl ?_
  refine ax_iconst (-1) d_PA_asByte_1 ic_m1 2 rfl ?_
  refine ax_icmp_ne 11 5 d_PA_asByte_2 rfl rfl (fun hc => ?_) (fun hc => ?_)
  · have h := kt_f (K := K) hc h
    refine ax_iload_n 0 d_PA_asByte_11 rfl rfl 12 rfl ?_
    exact ax_iret rfl d_PA_asByte_12 (hR v0 h)
  · have h := kt_t (K := K) hc h
    refine ax_sipush 255 d_PA_asByte_5 sp_255 8 rfl ?_
    refine ax_goto 12 d_PA_asByte_8 rfl ?_
    exact ax_iret rfl d_PA_asByte_12 (hR 255 h)
set_option maxRecDepth 4000 in
theorem c_Bytes_check_B6 (v0 : Nat) (v1 : Int32) (v2 : Int32) (v3 : Int32) (m : zM) (hv0 : v0 ∈ li_Bytes) {Q : Option Value → zM → Prop} {K : ((Int32) ⊕ (Int32 × Int32)) → Prop} (hR : ∀ p : Int32, K (.inl p) → Q (some (.int p)) m) (h0 : ∀ s : Int32 × Int32, K (.inr s) → AX gX s_Bytes_check 6 [(0, .ref v0), (1, .int v1), (2, .int s.1), (3, .int s.2)] [] m Q) (h : ok (f_Bytes_check_B6 v0 v1 v2 v3 m) K) : AX gX s_Bytes_check 6 [(0, .ref v0), (1, .int v1), (2, .int v2), (3, .int v3)] [] m Q := by
  unfold f_Bytes_check_B6 at h
  refine ax_iload_n 3 d_Bytes_check_6 rfl rfl 7 rfl ?_
  refine ax_iload_n 1 d_Bytes_check_7 rfl rfl 8 rfl ?_
  refine ax_icmp_ge 40 11 d_Bytes_check_8 rfl rfl (fun hc => ?_) (fun hc => ?_)
  · have h := ok_t hc h
    refine ax_iload_n 2 d_Bytes_check_40 rfl rfl 41 rfl ?_
    exact ax_iret rfl d_Bytes_check_41 (hR v2 (ok_some h))
  · have h := ok_f hc h
    refine ax_iload_n 3 d_Bytes_check_11 rfl rfl 12 rfl ?_
    refine ax_aload_n 0 d_Bytes_check_12 rfl rfl 13 rfl ?_
    refine ax_getI fl_Bytes_15 (sx_Bytes hv0) rfl d_Bytes_check_13 16 rfl ?_
    refine ax_icmp_ge 40 19 d_Bytes_check_16 rfl rfl (fun hc => ?_) (fun hc => ?_)
    · have h := ok_t hc h
      refine ax_iload_n 2 d_Bytes_check_40 rfl rfl 41 rfl ?_
      exact ax_iret rfl d_Bytes_check_41 (hR v2 (ok_some h))
    · have h := ok_f hc h
      refine ax_iconst 5 d_Bytes_check_19 ic_5 20 rfl ?_
      refine ax_iload_n 2 d_Bytes_check_20 rfl rfl 21 rfl ?_
      refine ax_imul d_Bytes_check_21 22 rfl ?_
      refine ax_aload_n 0 d_Bytes_check_22 rfl rfl 23 rfl ?_
      refine ax_getR fl_Bytes_9 (sx_Bytes hv0) rfl (ro_Bytes_0 hv0 _) d_Bytes_check_23 26 rfl ?_
      refine ax_iload_n 3 d_Bytes_check_26 rfl rfl 27 rfl ?_
      refine ax_iaload (sa_Bytes_0 hv0) d_Bytes_check_27 28 rfl h (fun i1 h => ?_)
      refine ax_iadd d_Bytes_check_28 29 rfl ?_
      refine ax_sipush 251 d_Bytes_check_29 sp_251 32 rfl ?_
      refine ax_irem d_Bytes_check_32 (by decide) 33 rfl ?_
      refine ax_istore_n (ls1 := [(2, .int (ir ((5 * v2) + (m.1 (v0 + 1) i1)) 251)), (0, .ref v0), (1, .int v1), (3, .int v3)]) d_Bytes_check_33 rfl (Nat.le_of_ble_eq_true rfl) rfl 34 rfl ?_
      refine ax_iinc (ls1 := [(3, .int (v3 + 1)), (2, .int (ir ((5 * v2) + (m.1 (v0 + 1) i1)) 251)), (0, .ref v0), (1, .int v1)]) 3 1 d_Bytes_check_34 rfl ic_1 (Nat.le_of_ble_eq_true rfl) rfl 37 rfl ?_
      refine ax_goto 6 d_Bytes_check_37 rfl ?_
      exact ax_sub [2, 3, 1, 0] rfl (h0 ((ir ((5 * v2) + (m.1 (v0 + 1) i1)) 251), (v3 + 1)) (ok_some h))
theorem c_Bytes_check_L6 (v0 : Nat) (v1 : Int32) (v2 : Int32) (v3 : Int32) (m : zM) (hv0 : v0 ∈ li_Bytes) {Q : Option Value → zM → Prop} {K : Int32 → Prop} (hR : ∀ p : Int32, K (p) → Q (some (.int p)) m)  (h : ok (f_Bytes_check_L6 v0 v1 v2 v3 m) K) : AX gX s_Bytes_check 6 [(0, .ref v0), (1, .int v1), (2, .int v2), (3, .int v3)] [] m Q :=
  ok_lp (K := K) (G := fun s : Int32 × Int32 => AX gX s_Bytes_check 6 [(0, .ref v0), (1, .int v1), (2, .int s.1), (3, .int s.2)] [] m Q) (fun s h => c_Bytes_check_B6 v0 v1 s.1 s.2 m hv0 (fun p hp => hR p hp) (fun s hs => hs) h) FU (v2, v3) h
set_option maxRecDepth 4000 in
theorem zc_Bytes_check (v0 : Nat) (v1 : Int32) (m : zM) (hv0 : v0 ∈ li_Bytes) {Q : Option Value → zM → Prop} (h : ok (f_Bytes_check v0 v1 m) (fun p => Q (some (.int p)) m)) : zc gX s_Bytes_check [.ref v0, .int v1] m Q := by
  refine zc_of rfl (Nat.le_of_ble_eq_true rfl) ?_
  show AX gX s_Bytes_check 0 [(0, .ref v0), (1, .int v1)] [] m Q
  obtain ⟨K, hK⟩ : ∃ K : Int32 → Prop, K = (fun p : Int32 => Q (some (.int p)) m) := ⟨_, rfl⟩
  have hR : ∀ p : Int32, K p → Q (some (.int p)) m := fun p hp => by rw [hK] at hp; exact hp
  replace h : ok (f_Bytes_check v0 v1 m) (fun p : Int32 => Q (some (.int p)) m) := h
  rw [← hK] at h
  unfold f_Bytes_check at h
  refine ax_sipush 193 d_Bytes_check_0 sp_193 3 rfl ?_
  refine ax_istore_n (ls1 := [(2, .int 193), (0, .ref v0), (1, .int v1)]) d_Bytes_check_3 rfl (Nat.le_of_ble_eq_true rfl) rfl 4 rfl ?_
  refine ax_iconst 0 d_Bytes_check_4 ic_0 5 rfl ?_
  refine ax_istore_n (ls1 := [(3, .int 0), (2, .int 193), (0, .ref v0), (1, .int v1)]) d_Bytes_check_5 rfl (Nat.le_of_ble_eq_true rfl) rfl 6 rfl ?_
  exact ax_sub [2, 3, 1, 0] rfl (c_Bytes_check_L6 v0 v1 193 0 m hv0 (fun p hp => hR p hp) h)
set_option maxRecDepth 4000 in
theorem c_PA_image_J89  (m : zM)  {Q : Option Value → zM → Prop} {K : (Int32 × zM) → Prop} (hR : ∀ p : Int32 × zM, K (p) → Q (some (.int p.1)) p.2)  (h : ok (f_PA_image_J89  m) K) : AX gX s_PA_image 89 [(0, .ref 0)] [] m Q := by
  unfold f_PA_image_J89 at h
  refine ax_aload_n 0 d_PA_image_89 rfl rfl 90 rfl ?_
  refine ax_getR fl_PA_16 x_0 rfl (rx_0_1 _) d_PA_image_90 93 rfl ?_
  refine ax_aload_n 0 d_PA_image_93 rfl rfl 94 rfl ?_
  refine ax_getR fl_PA_16 x_0 rfl (rx_0_1 _) d_PA_image_94 97 rfl ?_
  refine ax_aload_n 0 d_PA_image_97 rfl rfl 98 rfl ?_
  refine ax_getR fl_PA_16 x_0 rfl (rx_0_1 _) d_PA_image_98 101 rfl ?_
  refine ax_callV mv_PA_96 ⟨Nat.le_of_ble_eq_true rfl, Nat.le_of_ble_eq_true rfl⟩ ⟨rfl, rfl⟩ [] [.ref 3, .ref 3, .ref 3] rfl rfl (rc_Bytes in_3 _) (Nat.le_of_ble_eq_true rfl) d_PA_image_101 104 rfl (zc_Bytes_size 3 m in_3 ?_)
  refine ax_callV mv_PA_349 ⟨Nat.le_of_ble_eq_true rfl, Nat.le_of_ble_eq_true rfl⟩ ⟨rfl, rfl⟩ [.int (f_Bytes_size 3 m)] [.int (f_Bytes_size 3 m), .ref 3, .ref 3] rfl rfl (rc_Bytes in_3 _) (Nat.le_of_ble_eq_true rfl) d_PA_image_104 107 rfl (zc_Bytes_check 3 (f_Bytes_size 3 m) m in_3 (ok_b h (fun r4 h => ?_)))
  refine ax_callV mv_PA_346 ⟨Nat.le_of_ble_eq_true rfl, Nat.le_of_ble_eq_true rfl⟩ ⟨rfl, rfl⟩ [.int r4] [.int r4, .ref 3] rfl rfl (rc_Bytes in_3 _) (Nat.le_of_ble_eq_true rfl) d_PA_image_107 110 rfl (zc_Bytes_add 3 r4 m in_3 (ok_b h (fun p5 h => ?_)))
  refine ax_aload_n 0 d_PA_image_110 rfl rfl 111 rfl ?_
  refine ax_getR fl_PA_16 x_0 rfl (rx_0_1 _) d_PA_image_111 114 rfl ?_
  refine ax_callV mv_PA_96 ⟨Nat.le_of_ble_eq_true rfl, Nat.le_of_ble_eq_true rfl⟩ ⟨rfl, rfl⟩ [] [.ref 3] rfl rfl (rc_Bytes in_3 _) (Nat.le_of_ble_eq_true rfl) d_PA_image_114 117 rfl (zc_Bytes_size 3 p5 in_3 ?_)
  exact ax_iret rfl d_PA_image_117 (hR ((f_Bytes_size 3 p5), p5) (ok_some h))
set_option maxRecDepth 4000 in
theorem c_PA_image_J83 (v1 : Int32) (m : zM)  {Q : Option Value → zM → Prop} {K : ((Int32 × zM) ⊕ (Int32 × zM)) → Prop} (hR : ∀ p : Int32 × zM, K (.inl p) → Q (some (.int p.1)) p.2) (h0 : ∀ s : Int32 × zM, K (.inr s) → AX gX s_PA_image 36 [(0, .ref 0), (1, .int s.1)] [] s.2 Q) (h : ok (f_PA_image_J83 v1 m) K) : AX gX s_PA_image 83 [(0, .ref 0), (1, .int v1)] [] m Q := by
  unfold f_PA_image_J83 at h
  refine ax_iinc (ls1 := [(1, .int (v1 + 1)), (0, .ref 0)]) 1 1 d_PA_image_83 rfl ic_1 (Nat.le_of_ble_eq_true rfl) rfl 86 rfl ?_
  refine ax_goto 36 d_PA_image_86 rfl ?_
  exact ax_sub [1, 0] rfl (h0 ((v1 + 1), m) (ok_some h))
set_option maxRecDepth 4000 in
theorem c_PA_image_B49 (v1 : Int32) (v2 : Int32) (m : zM)  {Q : Option Value → zM → Prop} {K : (((Int32 × zM) ⊕ (Int32 × zM)) ⊕ (Int32 × zM)) → Prop} (hR : ∀ p : Int32 × zM, K (.inl (.inl p)) → Q (some (.int p.1)) p.2) (h0 : ∀ s : Int32 × zM, K (.inl (.inr s)) → AX gX s_PA_image 36 [(0, .ref 0), (1, .int s.1)] [] s.2 Q) (h1 : ∀ s : Int32 × zM, K (.inr s) → AX gX s_PA_image 49 [(0, .ref 0), (1, .int v1), (2, .int s.1)] [] s.2 Q) (h : ok (f_PA_image_B49 v1 v2 m) K) : AX gX s_PA_image 49 [(0, .ref 0), (1, .int v1), (2, .int v2)] [] m Q := by
  unfold f_PA_image_B49 at h
  refine ax_iload_n 2 d_PA_image_49 rfl rfl 50 rfl ?_
  refine ax_iconst 4 d_PA_image_50 ic_4 51 rfl ?_
  refine ax_icmp_ge 83 54 d_PA_image_51 rfl rfl (fun hc => ?_) (fun hc => ?_)
  · have h := ok_t hc h
    exact ax_sub [0, 1] rfl (c_PA_image_J83 v1 m (fun p hp => hR p hp) (fun s hs => h0 s hs) (ok_z h))
  · have h := ok_f hc h
    refine ax_aload_n 0 d_PA_image_54 rfl rfl 55 rfl ?_
    refine ax_getR fl_PA_16 x_0 rfl (rx_0_1 _) d_PA_image_55 58 rfl ?_
    refine ax_aload_n 0 d_PA_image_58 rfl rfl 59 rfl ?_
    refine ax_getR fl_PA_46 x_0 rfl (rx_0_6 _) d_PA_image_59 62 rfl ?_
    refine ax_getR fl_PA_280 (sx_World in_55) rfl (ro_World_2 in_55 _) d_PA_image_62 65 rfl ?_
    refine ax_iload_n 1 d_PA_image_65 rfl rfl 66 rfl ?_
    refine ax_iaload (sa_World_2 in_55) d_PA_image_66 67 rfl h (fun i6 h => ?_)
    refine ax_iload_n 2 d_PA_image_67 rfl rfl 68 rfl ?_
    refine ax_callS mv_PA_229 ⟨Nat.le_of_ble_eq_true rfl, Nat.le_of_ble_eq_true rfl⟩ ⟨rfl, rfl⟩ [.int (m.1 (55 + 1) i6), .int v2] [.int v2, .int (m.1 (55 + 1) i6), .ref 3] rfl rfl (Nat.le_of_ble_eq_true rfl) d_PA_image_68 71 rfl (zc_PA_held (m.1 (55 + 1) i6) v2 m ?_)
    refine ax_callS mv_PA_343 ⟨Nat.le_of_ble_eq_true rfl, Nat.le_of_ble_eq_true rfl⟩ ⟨rfl, rfl⟩ [.int (f_PA_held (m.1 (55 + 1) i6) v2)] [.int (f_PA_held (m.1 (55 + 1) i6) v2), .ref 3] rfl rfl (Nat.le_of_ble_eq_true rfl) d_PA_image_71 74 rfl (zc_PA_asByte (f_PA_held (m.1 (55 + 1) i6) v2) m ?_)
    refine ax_callV mv_PA_346 ⟨Nat.le_of_ble_eq_true rfl, Nat.le_of_ble_eq_true rfl⟩ ⟨rfl, rfl⟩ [.int (f_PA_asByte (f_PA_held (m.1 (55 + 1) i6) v2))] [.int (f_PA_asByte (f_PA_held (m.1 (55 + 1) i6) v2)), .ref 3] rfl rfl (rc_Bytes in_3 _) (Nat.le_of_ble_eq_true rfl) d_PA_image_74 77 rfl (zc_Bytes_add 3 (f_PA_asByte (f_PA_held (m.1 (55 + 1) i6) v2)) m in_3 (ok_b h (fun p7 h => ?_)))
    refine ax_iinc (ls1 := [(2, .int (v2 + 1)), (0, .ref 0), (1, .int v1)]) 2 1 d_PA_image_77 rfl ic_1 (Nat.le_of_ble_eq_true rfl) rfl 80 rfl ?_
    refine ax_goto 49 d_PA_image_80 rfl ?_
    exact ax_sub [1, 2, 0] rfl (h1 ((v2 + 1), p7) (ok_some h))
theorem c_PA_image_L49 (v1 : Int32) (v2 : Int32) (m : zM)  {Q : Option Value → zM → Prop} {K : ((Int32 × zM) ⊕ (Int32 × zM)) → Prop} (hR : ∀ p : Int32 × zM, K (.inl p) → Q (some (.int p.1)) p.2) (h0 : ∀ s : Int32 × zM, K (.inr s) → AX gX s_PA_image 36 [(0, .ref 0), (1, .int s.1)] [] s.2 Q) (h : ok (f_PA_image_L49 v1 v2 m) K) : AX gX s_PA_image 49 [(0, .ref 0), (1, .int v1), (2, .int v2)] [] m Q :=
  ok_lp (K := K) (G := fun s : Int32 × zM => AX gX s_PA_image 49 [(0, .ref 0), (1, .int v1), (2, .int s.1)] [] s.2 Q) (fun s h => c_PA_image_B49 v1 s.1 s.2  (fun p hp => hR p hp) (fun s hs => h0 s hs) (fun s hs => hs) h) FU (v2, m) h
set_option maxRecDepth 4000 in
theorem c_PA_image_B36 (v1 : Int32) (m : zM)  {Q : Option Value → zM → Prop} {K : ((Int32 × zM) ⊕ (Int32 × zM)) → Prop} (hR : ∀ p : Int32 × zM, K (.inl p) → Q (some (.int p.1)) p.2) (h0 : ∀ s : Int32 × zM, K (.inr s) → AX gX s_PA_image 36 [(0, .ref 0), (1, .int s.1)] [] s.2 Q) (h : ok (f_PA_image_B36 v1 m) K) : AX gX s_PA_image 36 [(0, .ref 0), (1, .int v1)] [] m Q := by
  unfold f_PA_image_B36 at h
  refine ax_iload_n 1 d_PA_image_36 rfl rfl 37 rfl ?_
  refine ax_aload_n 0 d_PA_image_37 rfl rfl 38 rfl ?_
  refine ok_tb h (fun t3 ht3 et3 h => ?_)
  refine ax_getR fl_PA_71 x_0 rfl (ry_0 et3) d_PA_image_38 41 rfl ?_
  refine ax_getI fl_PA_143 (sx_Table ht3) rfl d_PA_image_41 44 rfl ?_
  refine ax_icmp_ge 89 47 d_PA_image_44 rfl rfl (fun hc => ?_) (fun hc => ?_)
  · have h := ok_t hc h
    exact ax_sub [0] rfl (c_PA_image_J89 m (fun p hp => hR p hp) (ok_z h))
  · have h := ok_f hc h
    refine ax_iconst 0 d_PA_image_47 ic_0 48 rfl ?_
    refine ax_istore_n (ls1 := [(2, .int 0), (0, .ref 0), (1, .int v1)]) d_PA_image_48 rfl (Nat.le_of_ble_eq_true rfl) rfl 49 rfl ?_
    exact ax_sub [1, 2, 0] rfl (c_PA_image_L49 v1 0 m (fun p hp => hR p hp) (fun s hs => h0 s hs) h)
theorem c_PA_image_L36 (v1 : Int32) (m : zM)  {Q : Option Value → zM → Prop} {K : (Int32 × zM) → Prop} (hR : ∀ p : Int32 × zM, K (p) → Q (some (.int p.1)) p.2)  (h : ok (f_PA_image_L36 v1 m) K) : AX gX s_PA_image 36 [(0, .ref 0), (1, .int v1)] [] m Q :=
  ok_lp (K := K) (G := fun s : Int32 × zM => AX gX s_PA_image 36 [(0, .ref 0), (1, .int s.1)] [] s.2 Q) (fun s h => c_PA_image_B36 s.1 s.2  (fun p hp => hR p hp) (fun s hs => hs) h) FU (v1, m) h
set_option maxRecDepth 4000 in
theorem zc_PA_image  (m : zM)  {Q : Option Value → zM → Prop} (h : ok (f_PA_image m) (fun p => Q (some (.int p.1)) p.2)) : zc gX s_PA_image [.ref 0] m Q := by
  refine zc_of rfl (Nat.le_of_ble_eq_true rfl) ?_
  show AX gX s_PA_image 0 [(0, .ref 0)] [] m Q
  obtain ⟨K, hK⟩ : ∃ K : (Int32 × zM) → Prop, K = (fun p : Int32 × zM => Q (some (.int p.1)) p.2) := ⟨_, rfl⟩
  have hR : ∀ p : Int32 × zM, K p → Q (some (.int p.1)) p.2 := fun p hp => by rw [hK] at hp; exact hp
  replace h : ok (f_PA_image m) (fun p : Int32 × zM => Q (some (.int p.1)) p.2) := h
  rw [← hK] at h
  unfold f_PA_image at h
  refine ax_aload_n 0 d_PA_image_0 rfl rfl 1 rfl ?_
  refine ax_getI fl_PA_84 x_0 rfl d_PA_image_1 4 rfl ?_
  refine ax_if_ne 9 7 d_PA_image_4 rfl rfl (fun hc => ?_) (fun hc => ?_)
  · have h := ok_f hc h
    refine ax_aload_n 0 d_PA_image_9 rfl rfl 10 rfl ?_
    refine ax_getR fl_PA_16 x_0 rfl (rx_0_1 _) d_PA_image_10 13 rfl ?_
    refine ax_iconst 0 d_PA_image_13 ic_0 14 rfl ?_
    refine ax_callV mv_PA_108 ⟨Nat.le_of_ble_eq_true rfl, Nat.le_of_ble_eq_true rfl⟩ ⟨rfl, rfl⟩ [.int 0] [.int 0, .ref 3] rfl rfl (rc_Bytes in_3 _) (Nat.le_of_ble_eq_true rfl) d_PA_image_14 17 rfl (zc_Bytes_cut 3 0 m in_3 ?_)
    refine ok_l (G := fun p => AX gX s_PA_image 17 [(0, .ref 0)] [] p Q) h (fun p1 h => ?_)
    refine ax_aload_n 0 d_PA_image_17 rfl rfl 18 rfl ?_
    refine ax_getR fl_PA_16 x_0 rfl (rx_0_1 _) d_PA_image_18 21 rfl ?_
    refine ax_aload_n 0 d_PA_image_21 rfl rfl 22 rfl ?_
    refine ax_getR fl_PA_46 x_0 rfl (rx_0_6 _) d_PA_image_22 25 rfl ?_
    refine ax_getI fl_PA_270 (sx_World in_55) rfl d_PA_image_25 28 rfl ?_
    refine ax_callS mv_PA_343 ⟨Nat.le_of_ble_eq_true rfl, Nat.le_of_ble_eq_true rfl⟩ ⟨rfl, rfl⟩ [.int (p1.1 55 0)] [.int (p1.1 55 0), .ref 3] rfl rfl (Nat.le_of_ble_eq_true rfl) d_PA_image_28 31 rfl (zc_PA_asByte (p1.1 55 0) p1 ?_)
    refine ax_callV mv_PA_346 ⟨Nat.le_of_ble_eq_true rfl, Nat.le_of_ble_eq_true rfl⟩ ⟨rfl, rfl⟩ [.int (f_PA_asByte (p1.1 55 0))] [.int (f_PA_asByte (p1.1 55 0)), .ref 3] rfl rfl (rc_Bytes in_3 _) (Nat.le_of_ble_eq_true rfl) d_PA_image_31 34 rfl (zc_Bytes_add 3 (f_PA_asByte (p1.1 55 0)) p1 in_3 (ok_b h (fun p2 h => ?_)))
    refine ax_iconst 0 d_PA_image_34 ic_0 35 rfl ?_
    refine ax_istore_n (ls1 := [(1, .int 0), (0, .ref 0)]) d_PA_image_35 rfl (Nat.le_of_ble_eq_true rfl) rfl 36 rfl ?_
    exact ax_sub [1, 0] rfl (c_PA_image_L36 0 p2 (fun p hp => hR p hp) h)
  · have h := ok_t hc h
    refine ax_iconst (-1) d_PA_image_7 ic_m1 8 rfl ?_
    exact ax_iret rfl d_PA_image_8 (hR ((-1), m) (ok_some h))
set_option maxRecDepth 4000 in
theorem zc_PA_octet (v1 : Int32) (m : zM)  {Q : Option Value → zM → Prop} (h : ok (f_PA_octet v1 m) (fun p => Q (some (.int p)) m)) : zc gX s_PA_octet [.ref 0, .int v1] m Q := by
  refine zc_of rfl (Nat.le_of_ble_eq_true rfl) ?_
  show AX gX s_PA_octet 0 [(0, .ref 0), (1, .int v1)] [] m Q
  obtain ⟨K, hK⟩ : ∃ K : Int32 → Prop, K = (fun p : Int32 => Q (some (.int p)) m) := ⟨_, rfl⟩
  have hR : ∀ p : Int32, K p → Q (some (.int p)) m := fun p hp => by rw [hK] at hp; exact hp
  replace h : ok (f_PA_octet v1 m) (fun p : Int32 => Q (some (.int p)) m) := h
  rw [← hK] at h
  unfold f_PA_octet at h
  refine ax_aload_n 0 d_PA_octet_0 rfl rfl 1 rfl ?_
  refine ax_getR fl_PA_16 x_0 rfl (rx_0_1 _) d_PA_octet_1 4 rfl ?_
  refine ax_iload_n 1 d_PA_octet_4 rfl rfl 5 rfl ?_
  refine ax_callV mv_PA_352 ⟨Nat.le_of_ble_eq_true rfl, Nat.le_of_ble_eq_true rfl⟩ ⟨rfl, rfl⟩ [.int v1] [.int v1, .ref 3] rfl rfl (rc_Bytes in_3 _) (Nat.le_of_ble_eq_true rfl) d_PA_octet_5 8 rfl (zc_Bytes_get 3 v1 m in_3 (ok_b h (fun r1 h => ?_)))
  exact ax_iret rfl d_PA_octet_8 (hR r1 (ok_some h))
set_option maxRecDepth 4000 in
theorem c_Table_isOneOf_J17  (m : zM)  {Q : Option Value → zM → Prop} {K : Bool → Prop} (hR : ∀ p : Bool, K (p) → Q (some (.int (b2i p))) m)  (h : ok (f_Table_isOneOf_J17  m) K) : AX gX s_Table_isOneOf 17 [] [] m Q := by
  unfold f_Table_isOneOf_J17 at h
  refine ax_iconst 1 d_Table_isOneOf_17 ic_1 18 rfl ?_
  refine ax_goto 22 d_Table_isOneOf_18 rfl ?_
  exact ax_zret (b := true) rfl d_Table_isOneOf_22 (hR true (ok_some h))
set_option maxRecDepth 4000 in
theorem zc_Table_isOneOf (v0 : Nat) (v1 : Int32) (v2 : Int32) (m : zM) (hv0 : v0 ∈ li_Table) {Q : Option Value → zM → Prop} (h : ok (f_Table_isOneOf v0 v1 v2 m) (fun p => Q (some (.int (b2i p))) m)) : zc gX s_Table_isOneOf [.ref v0, .int v1, .int v2] m Q := by
  refine zc_of rfl (Nat.le_of_ble_eq_true rfl) ?_
  show AX gX s_Table_isOneOf 0 [(0, .ref v0), (1, .int v1), (2, .int v2)] [] m Q
  obtain ⟨K, hK⟩ : ∃ K : Bool → Prop, K = (fun p : Bool => Q (some (.int (b2i p))) m) := ⟨_, rfl⟩
  have hR : ∀ p : Bool, K p → Q (some (.int (b2i p))) m := fun p hp => by rw [hK] at hp; exact hp
  replace h : ok (f_Table_isOneOf v0 v1 v2 m) (fun p : Bool => Q (some (.int (b2i p))) m) := h
  rw [← hK] at h
  unfold f_Table_isOneOf at h
  refine ax_iload_n 1 d_Table_isOneOf_0 rfl rfl 1 rfl ?_
  refine ax_sipush 255 d_Table_isOneOf_1 sp_255 4 rfl ?_
  refine ax_icmp_eq 17 7 d_Table_isOneOf_4 rfl rfl (fun hc => ?_) (fun hc => ?_)
  · have h := ok_t hc h
    exact ax_sub [] rfl (c_Table_isOneOf_J17 m (fun p hp => hR p hp) h)
  · have h := ok_f hc h
    refine ax_iload_n 1 d_Table_isOneOf_7 rfl rfl 8 rfl ?_
    refine ax_aload_n 0 d_Table_isOneOf_8 rfl rfl 9 rfl ?_
    refine ax_getR fl_Table_15 (sx_Table hv0) rfl (ro_Table_1 hv0 _) d_Table_isOneOf_9 12 rfl ?_
    refine ax_iload_n 2 d_Table_isOneOf_12 rfl rfl 13 rfl ?_
    refine ax_iaload (sa_Table_1 hv0) d_Table_isOneOf_13 14 rfl h (fun i1 h => ?_)
    refine ax_icmp_ge 21 17 d_Table_isOneOf_14 rfl rfl (fun hc => ?_) (fun hc => ?_)
    · have h := ok_t hc h
      refine ax_iconst 0 d_Table_isOneOf_21 ic_0 22 rfl ?_
      exact ax_zret (b := false) rfl d_Table_isOneOf_22 (hR false (ok_some h))
    · have h := ok_f hc h
      exact ax_sub [] rfl (c_Table_isOneOf_J17 m (fun p hp => hR p hp) h)
set_option maxRecDepth 4000 in
theorem c_Table_isImage_J111 (v0 : Nat) (v1 : Nat) (v2 : Int32) (v3 : Int32) (m : zM) (hv0 : v0 ∈ li_Table) (hv1 : v1 ∈ li_Bytes) {Q : Option Value → zM → Prop} {K : ((Bool) ⊕ (Int32)) → Prop} (hR : ∀ p : Bool, K (.inl p) → Q (some (.int (b2i p))) m) (h0 : ∀ s : Int32, K (.inr s) → AX gX s_Table_isImage 53 [(0, .ref v0), (1, .ref v1), (2, .int v2), (3, .int s)] [] m Q) (h : ok (f_Table_isImage_J111 v0 v1 v2 v3 m) K) : AX gX s_Table_isImage 111 [(0, .ref v0), (1, .ref v1), (2, .int v2), (3, .int v3)] [] m Q := by
  unfold f_Table_isImage_J111 at h
  refine ax_iinc (ls1 := [(3, .int (v3 + 1)), (0, .ref v0), (1, .ref v1), (2, .int v2)]) 3 1 d_Table_isImage_111 rfl ic_1 (Nat.le_of_ble_eq_true rfl) rfl 114 rfl ?_
  refine ax_goto 53 d_Table_isImage_114 rfl ?_
  exact ax_sub [1, 2, 3, 0] rfl (h0 (v3 + 1) (ok_some h))
set_option maxRecDepth 4000 in
theorem c_Table_isImage_J93  (m : zM)  {Q : Option Value → zM → Prop} {K : Bool → Prop} (hR : ∀ p : Bool, K (p) → Q (some (.int (b2i p))) m)  (h : ok (f_Table_isImage_J93  m) K) : AX gX s_Table_isImage 93 [] [] m Q := by
  unfold f_Table_isImage_J93 at h
  refine ax_goto 109 d_Table_isImage_93 rfl ?_
  refine ax_iconst 0 d_Table_isImage_109 ic_0 110 rfl ?_
  exact ax_zret (b := false) rfl d_Table_isImage_110 (hR false (ok_some h))
set_option maxRecDepth 4000 in
theorem c_Table_isImage_J72 (v0 : Nat) (v1 : Nat) (v2 : Int32) (v3 : Int32) (t0 : Bool) (m : zM) (hv0 : v0 ∈ li_Table) (hv1 : v1 ∈ li_Bytes) {Q : Option Value → zM → Prop} {K : ((Bool) ⊕ (Int32)) → Prop} (hR : ∀ p : Bool, K (.inl p) → Q (some (.int (b2i p))) m) (h0 : ∀ s : Int32, K (.inr s) → AX gX s_Table_isImage 53 [(0, .ref v0), (1, .ref v1), (2, .int v2), (3, .int s)] [] m Q) (h : ok (f_Table_isImage_J72 v0 v1 v2 v3 t0 m) K) : AX gX s_Table_isImage 72 [(0, .ref v0), (1, .ref v1), (2, .int v2), (3, .int v3)] [.int (b2i t0)] m Q := by
  unfold f_Table_isImage_J72 at h
  refine ax_istore (ls1 := [(4, .int (b2i t0)), (0, .ref v0), (1, .ref v1), (2, .int v2), (3, .int v3)]) d_Table_isImage_72 (Nat.le_of_ble_eq_true rfl) rfl 74 rfl ?_
  refine ax_iload 0 d_Table_isImage_74 rfl 76 rfl ?_
  refine ax_ifb_eq 96 79 d_Table_isImage_76 rfl rfl (fun hc => ?_) (fun hc => ?_)
  · have h := ok_f (bf hc) h
    refine ax_aload_n 1 d_Table_isImage_96 rfl rfl 97 rfl ?_
    refine ax_aload_n 2 d_Table_isImage_97 rfl rfl 98 rfl ?_
    refine ax_iload_n 4 d_Table_isImage_98 rfl rfl 99 rfl ?_
    refine ax_callV mv_Table_100 ⟨Nat.le_of_ble_eq_true rfl, Nat.le_of_ble_eq_true rfl⟩ ⟨rfl, rfl⟩ [.int v3] [.int v3, .ref v1, .ref v0] rfl rfl (rc_Bytes hv1 _) (Nat.le_of_ble_eq_true rfl) d_Table_isImage_99 102 rfl (zc_Bytes_get v1 v3 m hv1 (ok_b h (fun r5 h => ?_)))
    refine ax_iconst 2 d_Table_isImage_102 ic_2 103 rfl ?_
    refine ax_callV mv_Table_106 ⟨Nat.le_of_ble_eq_true rfl, Nat.le_of_ble_eq_true rfl⟩ ⟨rfl, rfl⟩ [.int r5, .int 2] [.int 2, .int r5, .ref v0] rfl rfl (rc_Table hv0 _) (Nat.le_of_ble_eq_true rfl) d_Table_isImage_103 106 rfl (zc_Table_isOneOf v0 r5 2 m hv0 (ok_b h (fun r6 h => ?_)))
    refine ax_ifb_ne 111 109 d_Table_isImage_106 rfl rfl (fun hc => ?_) (fun hc => ?_)
    · have h := ok_t hc h
      exact ax_sub [1, 2, 3, 4] rfl (c_Table_isImage_J111 v0 v1 v2 v3 m hv0 hv1 (fun p hp => hR p hp) (fun s hs => h0 s hs) h)
    · have h := ok_f (bf hc) h
      refine ax_iconst 0 d_Table_isImage_109 ic_0 110 rfl ?_
      exact ax_zret (b := false) rfl d_Table_isImage_110 (hR false (ok_some h))
  · have h := ok_t hc h
    refine ax_aload_n 2 d_Table_isImage_79 rfl rfl 80 rfl ?_
    refine ax_iload_n 4 d_Table_isImage_80 rfl rfl 81 rfl ?_
    refine ax_callV mv_Table_100 ⟨Nat.le_of_ble_eq_true rfl, Nat.le_of_ble_eq_true rfl⟩ ⟨rfl, rfl⟩ [.int v3] [.int v3, .ref v1] rfl rfl (rc_Bytes hv1 _) (Nat.le_of_ble_eq_true rfl) d_Table_isImage_81 84 rfl (zc_Bytes_get v1 v3 m hv1 (ok_b h (fun r7 h => ?_)))
    refine ax_aload_n 1 d_Table_isImage_84 rfl rfl 85 rfl ?_
    refine ax_getR fl_Table_15 (sx_Table hv0) rfl (ro_Table_1 hv0 _) d_Table_isImage_85 88 rfl ?_
    refine ax_iconst 0 d_Table_isImage_88 ic_0 89 rfl ?_
    refine ax_iaload (sa_Table_1 hv0) d_Table_isImage_89 90 rfl h (fun i8 h => ?_)
    refine ax_icmp_lt 111 93 d_Table_isImage_90 rfl rfl (fun hc => ?_) (fun hc => ?_)
    · have h := ok_t hc h
      exact ax_sub [1, 2, 3, 4] rfl (c_Table_isImage_J111 v0 v1 v2 v3 m hv0 hv1 (fun p hp => hR p hp) (fun s hs => h0 s hs) h)
    · have h := ok_f hc h
      exact ax_sub [] rfl (c_Table_isImage_J93 m (fun p hp => hR p hp) (ok_z h))
set_option maxRecDepth 4000 in
theorem c_Table_isImage_B53 (v0 : Nat) (v1 : Nat) (v2 : Int32) (v3 : Int32) (m : zM) (hv0 : v0 ∈ li_Table) (hv1 : v1 ∈ li_Bytes) {Q : Option Value → zM → Prop} {K : ((Bool) ⊕ (Int32)) → Prop} (hR : ∀ p : Bool, K (.inl p) → Q (some (.int (b2i p))) m) (h0 : ∀ s : Int32, K (.inr s) → AX gX s_Table_isImage 53 [(0, .ref v0), (1, .ref v1), (2, .int v2), (3, .int s)] [] m Q) (h : ok (f_Table_isImage_B53 v0 v1 v2 v3 m) K) : AX gX s_Table_isImage 53 [(0, .ref v0), (1, .ref v1), (2, .int v2), (3, .int v3)] [] m Q := by
  unfold f_Table_isImage_B53 at h
  refine ax_iload_n 3 d_Table_isImage_53 rfl rfl 54 rfl ?_
  refine ax_iload_n 2 d_Table_isImage_54 rfl rfl 55 rfl ?_
  refine ax_iconst 1 d_Table_isImage_55 ic_1 56 rfl ?_
  refine ax_isub d_Table_isImage_56 57 rfl ?_
  refine ax_icmp_ge 117 60 d_Table_isImage_57 rfl rfl (fun hc => ?_) (fun hc => ?_)
  · have h := ok_t hc h
    refine ax_iconst 1 d_Table_isImage_117 ic_1 118 rfl ?_
    exact ax_zret (b := true) rfl d_Table_isImage_118 (hR true (ok_some h))
  · have h := ok_f hc h
    refine ax_iload_n 3 d_Table_isImage_60 rfl rfl 61 rfl ?_
    refine ax_iconst 4 d_Table_isImage_61 ic_4 62 rfl ?_
    refine ax_irem d_Table_isImage_62 (by decide) 63 rfl ?_
    refine ax_iconst 1 d_Table_isImage_63 ic_1 64 rfl ?_
    refine ax_icmp_ne 71 67 d_Table_isImage_64 rfl rfl (fun hc => ?_) (fun hc => ?_)
    · have h := ok_f hc h
      refine ax_iconst 0 d_Table_isImage_71 ic_0 72 rfl ?_
      exact ax_sub [0, 1, 2, 3] rfl (c_Table_isImage_J72 v0 v1 v2 v3 false m hv0 hv1 (fun p hp => hR p hp) (fun s hs => h0 s hs) h)
    · have h := ok_t hc h
      refine ax_iconst 1 d_Table_isImage_67 ic_1 68 rfl ?_
      refine ax_goto 72 d_Table_isImage_68 rfl ?_
      exact ax_sub [0, 1, 2, 3] rfl (c_Table_isImage_J72 v0 v1 v2 v3 true m hv0 hv1 (fun p hp => hR p hp) (fun s hs => h0 s hs) h)
theorem c_Table_isImage_L53 (v0 : Nat) (v1 : Nat) (v2 : Int32) (v3 : Int32) (m : zM) (hv0 : v0 ∈ li_Table) (hv1 : v1 ∈ li_Bytes) {Q : Option Value → zM → Prop} {K : Bool → Prop} (hR : ∀ p : Bool, K (p) → Q (some (.int (b2i p))) m)  (h : ok (f_Table_isImage_L53 v0 v1 v2 v3 m) K) : AX gX s_Table_isImage 53 [(0, .ref v0), (1, .ref v1), (2, .int v2), (3, .int v3)] [] m Q :=
  ok_lp (K := K) (G := fun s : Int32 => AX gX s_Table_isImage 53 [(0, .ref v0), (1, .ref v1), (2, .int v2), (3, .int s)] [] m Q) (fun s h => c_Table_isImage_B53 v0 v1 v2 s m hv0 hv1 (fun p hp => hR p hp) (fun s hs => hs) h) FU v3 h
set_option maxRecDepth 4000 in
theorem zc_Table_isImage (v0 : Nat) (v1 : Nat) (m : zM) (hv0 : v0 ∈ li_Table) (hv1 : v1 ∈ li_Bytes) {Q : Option Value → zM → Prop} (h : ok (f_Table_isImage v0 v1 m) (fun p => Q (some (.int (b2i p))) m)) : zc gX s_Table_isImage [.ref v0, .ref v1] m Q := by
  refine zc_of rfl (Nat.le_of_ble_eq_true rfl) ?_
  show AX gX s_Table_isImage 0 [(0, .ref v0), (1, .ref v1)] [] m Q
  obtain ⟨K, hK⟩ : ∃ K : Bool → Prop, K = (fun p : Bool => Q (some (.int (b2i p))) m) := ⟨_, rfl⟩
  have hR : ∀ p : Bool, K p → Q (some (.int (b2i p))) m := fun p hp => by rw [hK] at hp; exact hp
  replace h : ok (f_Table_isImage v0 v1 m) (fun p : Bool => Q (some (.int (b2i p))) m) := h
  rw [← hK] at h
  unfold f_Table_isImage at h
  refine ax_iconst 2 d_Table_isImage_0 ic_2 1 rfl ?_
  refine ax_iconst 4 d_Table_isImage_1 ic_4 2 rfl ?_
  refine ax_aload_n 0 d_Table_isImage_2 rfl rfl 3 rfl ?_
  refine ax_getI fl_Table_9 (sx_Table hv0) rfl d_Table_isImage_3 6 rfl ?_
  refine ax_imul d_Table_isImage_6 7 rfl ?_
  refine ax_iadd d_Table_isImage_7 8 rfl ?_
  refine ax_istore_n (ls1 := [(2, .int (2 + (4 * (m.1 v0 0)))), (0, .ref v0), (1, .ref v1)]) d_Table_isImage_8 rfl (Nat.le_of_ble_eq_true rfl) rfl 9 rfl ?_
  refine ax_aload_n 2 d_Table_isImage_9 rfl rfl 10 rfl ?_
  refine ax_callV mv_Table_94 ⟨Nat.le_of_ble_eq_true rfl, Nat.le_of_ble_eq_true rfl⟩ ⟨rfl, rfl⟩ [] [.ref v1] rfl rfl (rc_Bytes hv1 _) (Nat.le_of_ble_eq_true rfl) d_Table_isImage_10 13 rfl (zc_Bytes_size v1 m hv1 ?_)
  refine ax_iload_n 0 d_Table_isImage_13 rfl rfl 14 rfl ?_
  refine ax_icmp_ne 34 17 d_Table_isImage_14 rfl rfl (fun hc => ?_) (fun hc => ?_)
  · have h := ok_f hc h
    refine ax_iconst 0 d_Table_isImage_34 ic_0 35 rfl ?_
    exact ax_zret (b := false) rfl d_Table_isImage_35 (hR false (ok_some h))
  · have h := ok_t hc h
    refine ax_aload_n 2 d_Table_isImage_17 rfl rfl 18 rfl ?_
    refine ax_iload_n 0 d_Table_isImage_18 rfl rfl 19 rfl ?_
    refine ax_iconst 1 d_Table_isImage_19 ic_1 20 rfl ?_
    refine ax_isub d_Table_isImage_20 21 rfl ?_
    refine ax_callV mv_Table_100 ⟨Nat.le_of_ble_eq_true rfl, Nat.le_of_ble_eq_true rfl⟩ ⟨rfl, rfl⟩ [.int ((2 + (4 * (m.1 v0 0))) - 1)] [.int ((2 + (4 * (m.1 v0 0))) - 1), .ref v1] rfl rfl (rc_Bytes hv1 _) (Nat.le_of_ble_eq_true rfl) d_Table_isImage_21 24 rfl (zc_Bytes_get v1 ((2 + (4 * (m.1 v0 0))) - 1) m hv1 (ok_b h (fun r1 h => ?_)))
    refine ax_aload_n 2 d_Table_isImage_24 rfl rfl 25 rfl ?_
    refine ax_iload_n 0 d_Table_isImage_25 rfl rfl 26 rfl ?_
    refine ax_iconst 1 d_Table_isImage_26 ic_1 27 rfl ?_
    refine ax_isub d_Table_isImage_27 28 rfl ?_
    refine ax_callV mv_Table_103 ⟨Nat.le_of_ble_eq_true rfl, Nat.le_of_ble_eq_true rfl⟩ ⟨rfl, rfl⟩ [.int ((2 + (4 * (m.1 v0 0))) - 1)] [.int ((2 + (4 * (m.1 v0 0))) - 1), .ref v1, .int r1] rfl rfl (rc_Bytes hv1 _) (Nat.le_of_ble_eq_true rfl) d_Table_isImage_28 31 rfl (zc_Bytes_check v1 ((2 + (4 * (m.1 v0 0))) - 1) m hv1 (ok_b h (fun r2 h => ?_)))
    refine ax_icmp_eq 36 34 d_Table_isImage_31 rfl rfl (fun hc => ?_) (fun hc => ?_)
    · have h := ok_t hc h
      refine ax_aload_n 1 d_Table_isImage_36 rfl rfl 37 rfl ?_
      refine ax_aload_n 2 d_Table_isImage_37 rfl rfl 38 rfl ?_
      refine ax_iconst 0 d_Table_isImage_38 ic_0 39 rfl ?_
      refine ax_callV mv_Table_100 ⟨Nat.le_of_ble_eq_true rfl, Nat.le_of_ble_eq_true rfl⟩ ⟨rfl, rfl⟩ [.int 0] [.int 0, .ref v1, .ref v0] rfl rfl (rc_Bytes hv1 _) (Nat.le_of_ble_eq_true rfl) d_Table_isImage_39 42 rfl (zc_Bytes_get v1 0 m hv1 (ok_b h (fun r3 h => ?_)))
      refine ax_iconst 1 d_Table_isImage_42 ic_1 43 rfl ?_
      refine ax_callV mv_Table_106 ⟨Nat.le_of_ble_eq_true rfl, Nat.le_of_ble_eq_true rfl⟩ ⟨rfl, rfl⟩ [.int r3, .int 1] [.int 1, .int r3, .ref v0] rfl rfl (rc_Table hv0 _) (Nat.le_of_ble_eq_true rfl) d_Table_isImage_43 46 rfl (zc_Table_isOneOf v0 r3 1 m hv0 (ok_b h (fun r4 h => ?_)))
      refine ax_ifb_ne 51 49 d_Table_isImage_46 rfl rfl (fun hc => ?_) (fun hc => ?_)
      · have h := ok_t hc h
        refine ax_iconst 1 d_Table_isImage_51 ic_1 52 rfl ?_
        refine ax_istore_n (ls1 := [(3, .int 1), (2, .int (2 + (4 * (m.1 v0 0)))), (0, .ref v0), (1, .ref v1)]) d_Table_isImage_52 rfl (Nat.le_of_ble_eq_true rfl) rfl 53 rfl ?_
        exact ax_sub [2, 3, 1, 0] rfl (c_Table_isImage_L53 v0 v1 (2 + (4 * (m.1 v0 0))) 1 m hv0 hv1 (fun p hp => hR p hp) h)
      · have h := ok_f (bf hc) h
        refine ax_iconst 0 d_Table_isImage_49 ic_0 50 rfl ?_
        exact ax_zret (b := false) rfl d_Table_isImage_50 (hR false (ok_some h))
    · have h := ok_f hc h
      refine ax_iconst 0 d_Table_isImage_34 ic_0 35 rfl ?_
      exact ax_zret (b := false) rfl d_Table_isImage_35 (hR false (ok_some h))
set_option maxRecDepth 4000 in
theorem zc_Table_heldBy (v0 : Int32) (m : zM)  {Q : Option Value → zM → Prop} (h : Q (some (.int (f_Table_heldBy v0))) m) : zc gX s_Table_heldBy [.int v0] m Q := by
  refine zc_of rfl (Nat.le_of_ble_eq_true rfl) ?_
  show AX gX s_Table_heldBy 0 [(0, .int v0)] [] m Q
  obtain ⟨K, hK⟩ : ∃ K : Int32 → Prop, K = (fun p : Int32 => Q (some (.int p)) m) := ⟨_, rfl⟩
  have hR : ∀ p : Int32, K p → Q (some (.int p)) m := fun p hp => by rw [hK] at hp; exact hp
  replace h : (fun p : Int32 => Q (some (.int p)) m) (f_Table_heldBy v0) := h
  rw [← hK] at h
  unfold f_Table_heldBy at h
  refine ax_iload_n 0 d_Table_heldBy_0 rfl rfl 1 rfl ?_
  refine ax_sipush 255 d_Table_heldBy_1 sp_255 4 rfl ?_
  refine ax_icmp_ne 11 7 d_Table_heldBy_4 rfl rfl (fun hc => ?_) (fun hc => ?_)
  · have h := kt_f (K := K) hc h
    refine ax_iload_n 0 d_Table_heldBy_11 rfl rfl 12 rfl ?_
    exact ax_iret rfl d_Table_heldBy_12 (hR v0 h)
  · have h := kt_t (K := K) hc h
    refine ax_iconst (-1) d_Table_heldBy_7 ic_m1 8 rfl ?_
    refine ax_goto 12 d_Table_heldBy_8 rfl ?_
    exact ax_iret rfl d_Table_heldBy_12 (hR (-1) h)
set_option maxRecDepth 4000 in
theorem c_Table_develop_B22 (v0 : Nat) (v1 : Nat) (v2 : Nat) (v3 : Int32) (m : zM) (hv0 : v0 ∈ li_Table) (hv1 : v1 ∈ li_Bytes) (hv2 : v2 ∈ li_World) {Q : Option Value → zM → Prop} {K : ((zM) ⊕ (Int32 × zM)) → Prop} (hR : ∀ p : zM, K (.inl p) → Q none p) (h0 : ∀ s : Int32 × zM, K (.inr s) → AX gX s_Table_develop 22 [(0, .ref v0), (1, .ref v1), (2, .ref v2), (3, .int s.1)] [] s.2 Q) (h : ok (f_Table_develop_B22 v0 v1 v2 v3 m) K) : AX gX s_Table_develop 22 [(0, .ref v0), (1, .ref v1), (2, .ref v2), (3, .int v3)] [] m Q := by
  unfold f_Table_develop_B22 at h
  refine ax_iload_n 3 d_Table_develop_22 rfl rfl 23 rfl ?_
  refine ax_aload_n 0 d_Table_develop_23 rfl rfl 24 rfl ?_
  refine ax_getI fl_Table_9 (sx_Table hv0) rfl d_Table_develop_24 27 rfl ?_
  refine ax_icmp_ge 91 30 d_Table_develop_27 rfl rfl (fun hc => ?_) (fun hc => ?_)
  · have h := ok_t hc h
    exact ax_vret rfl d_Table_develop_91 (hR m (ok_some h))
  · have h := ok_f hc h
    refine ax_iconst 1 d_Table_develop_30 ic_1 31 rfl ?_
    refine ax_iconst 4 d_Table_develop_31 ic_4 32 rfl ?_
    refine ax_iload_n 3 d_Table_develop_32 rfl rfl 33 rfl ?_
    refine ax_imul d_Table_develop_33 34 rfl ?_
    refine ax_iadd d_Table_develop_34 35 rfl ?_
    refine ax_istore (ls1 := [(4, .int (1 + (4 * v3))), (0, .ref v0), (1, .ref v1), (2, .ref v2), (3, .int v3)]) d_Table_develop_35 (Nat.le_of_ble_eq_true rfl) rfl 37 rfl ?_
    refine ax_aload_n 3 d_Table_develop_37 rfl rfl 38 rfl ?_
    refine ax_getR fl_Table_117 (sx_World hv2) rfl (ro_World_2 hv2 _) d_Table_develop_38 41 rfl ?_
    refine ax_iload_n 4 d_Table_develop_41 rfl rfl 42 rfl ?_
    refine ax_aload_n 2 d_Table_develop_42 rfl rfl 43 rfl ?_
    refine ax_iload 0 d_Table_develop_43 rfl 45 rfl ?_
    refine ax_callV mv_Table_100 ⟨Nat.le_of_ble_eq_true rfl, Nat.le_of_ble_eq_true rfl⟩ ⟨rfl, rfl⟩ [.int (1 + (4 * v3))] [.int (1 + (4 * v3)), .ref v1, .int v3, .ref (v2 + 1)] rfl rfl (rc_Bytes hv1 _) (Nat.le_of_ble_eq_true rfl) d_Table_develop_45 48 rfl (zc_Bytes_get v1 (1 + (4 * v3)) m hv1 (ok_b h (fun r4 h => ?_)))
    refine ax_aload_n 2 d_Table_develop_48 rfl rfl 49 rfl ?_
    refine ax_iload 0 d_Table_develop_49 rfl 51 rfl ?_
    refine ax_iconst 1 d_Table_develop_51 ic_1 52 rfl ?_
    refine ax_iadd d_Table_develop_52 53 rfl ?_
    refine ax_callV mv_Table_100 ⟨Nat.le_of_ble_eq_true rfl, Nat.le_of_ble_eq_true rfl⟩ ⟨rfl, rfl⟩ [.int ((1 + (4 * v3)) + 1)] [.int ((1 + (4 * v3)) + 1), .ref v1, .int r4, .int v3, .ref (v2 + 1)] rfl rfl (rc_Bytes hv1 _) (Nat.le_of_ble_eq_true rfl) d_Table_develop_53 56 rfl (zc_Bytes_get v1 ((1 + (4 * v3)) + 1) m hv1 (ok_b h (fun r5 h => ?_)))
    refine ax_callS mv_Table_111 ⟨Nat.le_of_ble_eq_true rfl, Nat.le_of_ble_eq_true rfl⟩ ⟨rfl, rfl⟩ [.int r5] [.int r5, .int r4, .int v3, .ref (v2 + 1)] rfl rfl (Nat.le_of_ble_eq_true rfl) d_Table_develop_56 59 rfl (zc_Table_heldBy r5 m ?_)
    refine ax_aload_n 2 d_Table_develop_59 rfl rfl 60 rfl ?_
    refine ax_iload 0 d_Table_develop_60 rfl 62 rfl ?_
    refine ax_iconst 2 d_Table_develop_62 ic_2 63 rfl ?_
    refine ax_iadd d_Table_develop_63 64 rfl ?_
    refine ax_callV mv_Table_100 ⟨Nat.le_of_ble_eq_true rfl, Nat.le_of_ble_eq_true rfl⟩ ⟨rfl, rfl⟩ [.int ((1 + (4 * v3)) + 2)] [.int ((1 + (4 * v3)) + 2), .ref v1, .int (f_Table_heldBy r5), .int r4, .int v3, .ref (v2 + 1)] rfl rfl (rc_Bytes hv1 _) (Nat.le_of_ble_eq_true rfl) d_Table_develop_64 67 rfl (zc_Bytes_get v1 ((1 + (4 * v3)) + 2) m hv1 (ok_b h (fun r6 h => ?_)))
    refine ax_callS mv_Table_111 ⟨Nat.le_of_ble_eq_true rfl, Nat.le_of_ble_eq_true rfl⟩ ⟨rfl, rfl⟩ [.int r6] [.int r6, .int (f_Table_heldBy r5), .int r4, .int v3, .ref (v2 + 1)] rfl rfl (Nat.le_of_ble_eq_true rfl) d_Table_develop_67 70 rfl (zc_Table_heldBy r6 m ?_)
    refine ax_aload_n 2 d_Table_develop_70 rfl rfl 71 rfl ?_
    refine ax_iload 0 d_Table_develop_71 rfl 73 rfl ?_
    refine ax_iconst 3 d_Table_develop_73 ic_3 74 rfl ?_
    refine ax_iadd d_Table_develop_74 75 rfl ?_
    refine ax_callV mv_Table_100 ⟨Nat.le_of_ble_eq_true rfl, Nat.le_of_ble_eq_true rfl⟩ ⟨rfl, rfl⟩ [.int ((1 + (4 * v3)) + 3)] [.int ((1 + (4 * v3)) + 3), .ref v1, .int (f_Table_heldBy r6), .int (f_Table_heldBy r5), .int r4, .int v3, .ref (v2 + 1)] rfl rfl (rc_Bytes hv1 _) (Nat.le_of_ble_eq_true rfl) d_Table_develop_75 78 rfl (zc_Bytes_get v1 ((1 + (4 * v3)) + 3) m hv1 (ok_b h (fun r7 h => ?_)))
    refine ax_callS mv_Table_111 ⟨Nat.le_of_ble_eq_true rfl, Nat.le_of_ble_eq_true rfl⟩ ⟨rfl, rfl⟩ [.int r7] [.int r7, .int (f_Table_heldBy r6), .int (f_Table_heldBy r5), .int r4, .int v3, .ref (v2 + 1)] rfl rfl (Nat.le_of_ble_eq_true rfl) d_Table_develop_78 81 rfl (zc_Table_heldBy r7 m ?_)
    refine ax_callS mv_Table_120 ⟨Nat.le_of_ble_eq_true rfl, Nat.le_of_ble_eq_true rfl⟩ ⟨rfl, rfl⟩ [.int r4, .int (f_Table_heldBy r5), .int (f_Table_heldBy r6), .int (f_Table_heldBy r7)] [.int (f_Table_heldBy r7), .int (f_Table_heldBy r6), .int (f_Table_heldBy r5), .int r4, .int v3, .ref (v2 + 1)] rfl rfl (Nat.le_of_ble_eq_true rfl) d_Table_develop_81 84 rfl (zc_PA_codeOf r4 (f_Table_heldBy r5) (f_Table_heldBy r6) (f_Table_heldBy r7) m ?_)
    refine ax_iastore (sa_World_2 hv2) d_Table_develop_84 85 rfl h (fun i8 m9 h => ?_)
    refine ax_iinc (ls1 := [(3, .int (v3 + 1)), (4, .int (1 + (4 * v3))), (0, .ref v0), (1, .ref v1), (2, .ref v2)]) 4 1 d_Table_develop_85 rfl ic_1 (Nat.le_of_ble_eq_true rfl) rfl 88 rfl ?_
    refine ax_goto 22 d_Table_develop_88 rfl ?_
    exact ax_sub [2, 3, 4, 0] rfl (h0 ((v3 + 1), m9) (ok_some h))
theorem c_Table_develop_L22 (v0 : Nat) (v1 : Nat) (v2 : Nat) (v3 : Int32) (m : zM) (hv0 : v0 ∈ li_Table) (hv1 : v1 ∈ li_Bytes) (hv2 : v2 ∈ li_World) {Q : Option Value → zM → Prop} {K : zM → Prop} (hR : ∀ p : zM, K (p) → Q none p)  (h : ok (f_Table_develop_L22 v0 v1 v2 v3 m) K) : AX gX s_Table_develop 22 [(0, .ref v0), (1, .ref v1), (2, .ref v2), (3, .int v3)] [] m Q :=
  ok_lp (K := K) (G := fun s : Int32 × zM => AX gX s_Table_develop 22 [(0, .ref v0), (1, .ref v1), (2, .ref v2), (3, .int s.1)] [] s.2 Q) (fun s h => c_Table_develop_B22 v0 v1 v2 s.1 s.2 hv0 hv1 hv2 (fun p hp => hR p hp) (fun s hs => hs) h) FU (v3, m) h
set_option maxRecDepth 4000 in
theorem zc_Table_develop (v0 : Nat) (v1 : Nat) (v2 : Nat) (m : zM) (hv0 : v0 ∈ li_Table) (hv1 : v1 ∈ li_Bytes) (hv2 : v2 ∈ li_World) {Q : Option Value → zM → Prop} (h : ok (f_Table_develop v0 v1 v2 m) (fun p => Q none p)) : zc gX s_Table_develop [.ref v0, .ref v1, .ref v2] m Q := by
  refine zc_of rfl (Nat.le_of_ble_eq_true rfl) ?_
  show AX gX s_Table_develop 0 [(0, .ref v0), (1, .ref v1), (2, .ref v2)] [] m Q
  obtain ⟨K, hK⟩ : ∃ K : zM → Prop, K = (fun p : zM => Q none p) := ⟨_, rfl⟩
  have hR : ∀ p : zM, K p → Q none p := fun p hp => by rw [hK] at hp; exact hp
  replace h : ok (f_Table_develop v0 v1 v2 m) (fun p : zM => Q none p) := h
  rw [← hK] at h
  unfold f_Table_develop at h
  refine ax_aload_n 2 d_Table_develop_0 rfl rfl 1 rfl ?_
  refine ax_aload_n 0 d_Table_develop_1 rfl rfl 2 rfl ?_
  refine ax_getI fl_Table_9 (sx_Table hv0) rfl d_Table_develop_2 5 rfl ?_
  refine ax_putI (K := K) fl_Table_110 (sx_World hv2) rfl rfl rfl (Nat.le_of_ble_eq_true rfl) d_Table_develop_5 8 rfl h (fun m1 h => ?_)
  refine ax_aload_n 2 d_Table_develop_8 rfl rfl 9 rfl ?_
  refine ax_aload_n 1 d_Table_develop_9 rfl rfl 10 rfl ?_
  refine ax_iconst 0 d_Table_develop_10 ic_0 11 rfl ?_
  refine ax_callV mv_Table_100 ⟨Nat.le_of_ble_eq_true rfl, Nat.le_of_ble_eq_true rfl⟩ ⟨rfl, rfl⟩ [.int 0] [.int 0, .ref v1, .ref v2] rfl rfl (rc_Bytes hv1 _) (Nat.le_of_ble_eq_true rfl) d_Table_develop_11 14 rfl (zc_Bytes_get v1 0 m1 hv1 (ok_b h (fun r2 h => ?_)))
  refine ax_callS mv_Table_111 ⟨Nat.le_of_ble_eq_true rfl, Nat.le_of_ble_eq_true rfl⟩ ⟨rfl, rfl⟩ [.int r2] [.int r2, .ref v2] rfl rfl (Nat.le_of_ble_eq_true rfl) d_Table_develop_14 17 rfl (zc_Table_heldBy r2 m1 ?_)
  refine ax_putI (K := K) fl_Table_114 (sx_World hv2) rfl rfl rfl (Nat.le_of_ble_eq_true rfl) d_Table_develop_17 20 rfl h (fun m3 h => ?_)
  refine ax_iconst 0 d_Table_develop_20 ic_0 21 rfl ?_
  refine ax_istore_n (ls1 := [(3, .int 0), (0, .ref v0), (1, .ref v1), (2, .ref v2)]) d_Table_develop_21 rfl (Nat.le_of_ble_eq_true rfl) rfl 22 rfl ?_
  exact ax_sub [1, 2, 3, 0] rfl (c_Table_develop_L22 v0 v1 v2 0 m3 hv0 hv1 hv2 (fun p hp => hR p hp) h)
set_option maxRecDepth 4000 in
theorem c_PA_on_J67 (v1 : Bool) (m : zM)  {Q : Option Value → zM → Prop} {K : (Bool × zM) → Prop} (hR : ∀ p : Bool × zM, K (p) → Q (some (.int (b2i p.1))) p.2)  (h : ok (f_PA_on_J67 v1 m) K) : AX gX s_PA_on 67 [(0, .ref 0), (1, .int (b2i v1))] [] m Q := by
  unfold f_PA_on_J67 at h
  refine ax_aload_n 0 d_PA_on_67 rfl rfl 68 rfl ?_
  refine ax_getR fl_PA_12 x_0 rfl (rx_0_0 _) d_PA_on_68 71 rfl ?_
  refine ax_iconst 0 d_PA_on_71 ic_0 72 rfl ?_
  refine ax_callV mv_PA_108 ⟨Nat.le_of_ble_eq_true rfl, Nat.le_of_ble_eq_true rfl⟩ ⟨rfl, rfl⟩ [.int 0] [.int 0, .ref 1] rfl rfl (rc_Bytes in_1 _) (Nat.le_of_ble_eq_true rfl) d_PA_on_72 75 rfl (zc_Bytes_cut 1 0 m in_1 ?_)
  refine ok_l (G := fun p => AX gX s_PA_on 75 [(0, .ref 0), (1, .int (b2i v1))] [] p Q) h (fun p6 h => ?_)
  refine ax_iload_n 1 d_PA_on_75 rfl rfl 76 rfl ?_
  refine ax_ifb_ne 87 79 d_PA_on_76 rfl rfl (fun hc => ?_) (fun hc => ?_)
  · have h := ok_t hc h
    refine ax_aload_n 0 d_PA_on_87 rfl rfl 88 rfl ?_
    refine ax_getR fl_PA_46 x_0 rfl (rx_0_6 _) d_PA_on_88 91 rfl ?_
    refine ax_aload_n 0 d_PA_on_91 rfl rfl 92 rfl ?_
    refine ax_getR fl_PA_50 x_0 rfl (rx_0_7 _) d_PA_on_92 95 rfl ?_
    refine ax_callV mv_PA_288 ⟨Nat.le_of_ble_eq_true rfl, Nat.le_of_ble_eq_true rfl⟩ ⟨rfl, rfl⟩ [.ref 59] [.ref 59, .ref 55] rfl rfl (rc_World in_55 _) (Nat.le_of_ble_eq_true rfl) d_PA_on_95 98 rfl (zc_World_copy 55 59 p6 in_55 in_59 (ok_b h (fun p7 h => ?_)))
    refine ax_aload_n 0 d_PA_on_98 rfl rfl 99 rfl ?_
    refine ax_iconst 0 d_PA_on_99 ic_0 100 rfl ?_
    refine ax_putI (K := K) fl_PA_88 x_0 rfl rfl rfl (Nat.le_of_ble_eq_true rfl) d_PA_on_100 103 rfl h (fun m8 h => ?_)
    refine ax_iconst 1 d_PA_on_103 ic_1 104 rfl ?_
    exact ax_zret (b := true) rfl d_PA_on_104 (hR (true, m8) (ok_some h))
  · have h := ok_f (bf hc) h
    refine ax_aload_n 0 d_PA_on_79 rfl rfl 80 rfl ?_
    refine ax_iconst 5 d_PA_on_80 ic_5 81 rfl ?_
    refine ax_callV mv_PA_100 ⟨Nat.le_of_ble_eq_true rfl, Nat.le_of_ble_eq_true rfl⟩ ⟨rfl, rfl⟩ [.int 5] [.int 5, .ref 0] rfl rfl (rc_x_0 _) (Nat.le_of_ble_eq_true rfl) d_PA_on_81 84 rfl (zc_PA_refuse 5 p6 (ok_b h (fun p9 h => ?_)))
    refine ax_pop d_PA_on_84 rfl 85 rfl ?_
    refine ax_iconst 0 d_PA_on_85 ic_0 86 rfl ?_
    exact ax_zret (b := false) rfl d_PA_on_86 (hR (false, p9.2) (ok_some h))
set_option maxRecDepth 4000 in
theorem c_PA_on_J66 (t0 : Bool) (m : zM)  {Q : Option Value → zM → Prop} {K : (Bool × zM) → Prop} (hR : ∀ p : Bool × zM, K (p) → Q (some (.int (b2i p.1))) p.2)  (h : ok (f_PA_on_J66 t0 m) K) : AX gX s_PA_on 66 [(0, .ref 0)] [.int (b2i t0)] m Q := by
  unfold f_PA_on_J66 at h
  refine ax_istore_n (ls1 := [(1, .int (b2i t0)), (0, .ref 0)]) d_PA_on_66 rfl (Nat.le_of_ble_eq_true rfl) rfl 67 rfl ?_
  exact ax_sub [1, 0] rfl (c_PA_on_J67 t0 m (fun p hp => hR p hp) h)
set_option maxRecDepth 4000 in
theorem c_PA_on_J26 (t0 : Bool) (m : zM)  {Q : Option Value → zM → Prop} {K : (Bool × zM) → Prop} (hR : ∀ p : Bool × zM, K (p) → Q (some (.int (b2i p.1))) p.2)  (h : ok (f_PA_on_J26 t0 m) K) : AX gX s_PA_on 26 [(0, .ref 0)] [.int (b2i t0)] m Q := by
  unfold f_PA_on_J26 at h
  refine ax_istore_n (ls1 := [(1, .int (b2i t0)), (0, .ref 0)]) d_PA_on_26 rfl (Nat.le_of_ble_eq_true rfl) rfl 27 rfl ?_
  refine ax_iload_n 0 d_PA_on_27 rfl rfl 28 rfl ?_
  refine ax_ifb_eq 67 31 d_PA_on_28 rfl rfl (fun hc => ?_) (fun hc => ?_)
  · have h := ok_f (bf hc) h
    exact ax_sub [1, 0] rfl (c_PA_on_J67 t0 m (fun p hp => hR p hp) h)
  · have h := ok_t hc h
    refine ax_aload_n 1 d_PA_on_31 rfl rfl 32 rfl ?_
    refine ok_tb h (fun t3 ht3 et3 h => ?_)
    refine ax_getR fl_PA_71 x_0 rfl (ry_0 et3) d_PA_on_32 35 rfl ?_
    refine ax_aload_n 1 d_PA_on_35 rfl rfl 36 rfl ?_
    refine ax_getR fl_PA_12 x_0 rfl (rx_0_0 _) d_PA_on_36 39 rfl ?_
    refine ax_aload_n 1 d_PA_on_39 rfl rfl 40 rfl ?_
    refine ax_getR fl_PA_50 x_0 rfl (rx_0_7 _) d_PA_on_40 43 rfl ?_
    refine ax_callV mv_PA_358 ⟨Nat.le_of_ble_eq_true rfl, Nat.le_of_ble_eq_true rfl⟩ ⟨rfl, rfl⟩ [.ref 1, .ref 59] [.ref 59, .ref 1, .ref t3] rfl rfl (rc_Table ht3 _) (Nat.le_of_ble_eq_true rfl) d_PA_on_43 46 rfl (zc_Table_develop t3 1 59 m ht3 in_1 in_59 (ok_b h (fun p4 h => ?_)))
    refine ax_aload_n 1 d_PA_on_46 rfl rfl 47 rfl ?_
    refine ax_getR fl_PA_32 x_0 rfl (rx_0_4 _) d_PA_on_47 50 rfl ?_
    refine ax_aload_n 1 d_PA_on_50 rfl rfl 51 rfl ?_
    refine ax_getR fl_PA_50 x_0 rfl (rx_0_7 _) d_PA_on_51 54 rfl ?_
    refine ax_callV mv_PA_272 ⟨Nat.le_of_ble_eq_true rfl, Nat.le_of_ble_eq_true rfl⟩ ⟨rfl, rfl⟩ [.ref 59] [.ref 59, .ref 24] rfl rfl (rc_x_24 _) (Nat.le_of_ble_eq_true rfl) d_PA_on_54 57 rfl (zc_Atlas_number 59 p4 in_59 (ok_b h (fun p5 h => ?_)))
    refine ax_iconst (-1) d_PA_on_57 ic_m1 58 rfl ?_
    refine ax_icmp_eq 65 61 d_PA_on_58 rfl rfl (fun hc => ?_) (fun hc => ?_)
    · have h := ok_t hc h
      refine ax_iconst 0 d_PA_on_65 ic_0 66 rfl ?_
      exact ax_sub [1] rfl (c_PA_on_J66 false p5.2 (fun p hp => hR p hp) h)
    · have h := ok_f hc h
      refine ax_iconst 1 d_PA_on_61 ic_1 62 rfl ?_
      refine ax_goto 66 d_PA_on_62 rfl ?_
      exact ax_sub [1] rfl (c_PA_on_J66 true p5.2 (fun p hp => hR p hp) h)
set_option maxRecDepth 4000 in
theorem c_PA_on_J25  (m : zM)  {Q : Option Value → zM → Prop} {K : (Bool × zM) → Prop} (hR : ∀ p : Bool × zM, K (p) → Q (some (.int (b2i p.1))) p.2)  (h : ok (f_PA_on_J25  m) K) : AX gX s_PA_on 25 [(0, .ref 0)] [] m Q := by
  unfold f_PA_on_J25 at h
  refine ax_iconst 0 d_PA_on_25 ic_0 26 rfl ?_
  exact ax_sub [0] rfl (c_PA_on_J26 false m (fun p hp => hR p hp) h)
set_option maxRecDepth 4000 in
theorem zc_PA_on  (m : zM)  {Q : Option Value → zM → Prop} (h : ok (f_PA_on m) (fun p => Q (some (.int (b2i p.1))) p.2)) : zc gX s_PA_on [.ref 0] m Q := by
  refine zc_of rfl (Nat.le_of_ble_eq_true rfl) ?_
  show AX gX s_PA_on 0 [(0, .ref 0)] [] m Q
  obtain ⟨K, hK⟩ : ∃ K : (Bool × zM) → Prop, K = (fun p : Bool × zM => Q (some (.int (b2i p.1))) p.2) := ⟨_, rfl⟩
  have hR : ∀ p : Bool × zM, K p → Q (some (.int (b2i p.1))) p.2 := fun p hp => by rw [hK] at hp; exact hp
  replace h : ok (f_PA_on m) (fun p : Bool × zM => Q (some (.int (b2i p.1))) p.2) := h
  rw [← hK] at h
  unfold f_PA_on at h
  refine ax_aload_n 0 d_PA_on_0 rfl rfl 1 rfl ?_
  refine ax_getI fl_PA_84 x_0 rfl d_PA_on_1 4 rfl ?_
  refine ax_if_eq 25 7 d_PA_on_4 rfl rfl (fun hc => ?_) (fun hc => ?_)
  · have h := ok_t hc h
    exact ax_sub [0] rfl (c_PA_on_J25 m (fun p hp => hR p hp) h)
  · have h := ok_f hc h
    refine ax_aload_n 0 d_PA_on_7 rfl rfl 8 rfl ?_
    refine ok_tb h (fun t1 ht1 et1 h => ?_)
    refine ax_getR fl_PA_71 x_0 rfl (ry_0 et1) d_PA_on_8 11 rfl ?_
    refine ax_aload_n 0 d_PA_on_11 rfl rfl 12 rfl ?_
    refine ax_getR fl_PA_12 x_0 rfl (rx_0_0 _) d_PA_on_12 15 rfl ?_
    refine ax_callV mv_PA_355 ⟨Nat.le_of_ble_eq_true rfl, Nat.le_of_ble_eq_true rfl⟩ ⟨rfl, rfl⟩ [.ref 1] [.ref 1, .ref t1] rfl rfl (rc_Table ht1 _) (Nat.le_of_ble_eq_true rfl) d_PA_on_15 18 rfl (zc_Table_isImage t1 1 m ht1 in_1 (ok_b h (fun r2 h => ?_)))
    refine ax_ifb_eq 25 21 d_PA_on_18 rfl rfl (fun hc => ?_) (fun hc => ?_)
    · have h := ok_f (bf hc) h
      exact ax_sub [0] rfl (c_PA_on_J25 m (fun p hp => hR p hp) h)
    · have h := ok_t hc h
      refine ax_iconst 1 d_PA_on_21 ic_1 22 rfl ?_
      refine ax_goto 26 d_PA_on_22 rfl ?_
      exact ax_sub [0] rfl (c_PA_on_J26 true m (fun p hp => hR p hp) h)
set_option maxRecDepth 4000 in
theorem zc_PA_status (v1 : Int32) (m : zM)  {Q : Option Value → zM → Prop} (h : ok (f_PA_status v1 m) (fun p => Q (some (.int p)) m)) : zc gX s_PA_status [.ref 0, .int v1] m Q := by
  refine zc_of rfl (Nat.le_of_ble_eq_true rfl) ?_
  show AX gX s_PA_status 0 [(0, .ref 0), (1, .int v1)] [] m Q
  obtain ⟨K, hK⟩ : ∃ K : Int32 → Prop, K = (fun p : Int32 => Q (some (.int p)) m) := ⟨_, rfl⟩
  have hR : ∀ p : Int32, K p → Q (some (.int p)) m := fun p hp => by rw [hK] at hp; exact hp
  replace h : ok (f_PA_status v1 m) (fun p : Int32 => Q (some (.int p)) m) := h
  rw [← hK] at h
  unfold f_PA_status at h
  refine ax_iload_n 1 d_PA_status_0 rfl rfl 1 rfl ?_
  refine ax_if_lt 22 4 d_PA_status_1 rfl rfl (fun hc => ?_) (fun hc => ?_)
  · have h := ok_t hc h
    refine ax_iconst (-1) d_PA_status_22 ic_m1 23 rfl ?_
    exact ax_iret rfl d_PA_status_23 (hR (-1) (ok_some h))
  · have h := ok_f hc h
    refine ax_iload_n 1 d_PA_status_4 rfl rfl 5 rfl ?_
    refine ax_aload_n 0 d_PA_status_5 rfl rfl 6 rfl ?_
    refine ax_getR fl_PA_57 x_0 rfl (rx_0_9 _) d_PA_status_6 9 rfl ?_
    refine ax_alen 6 x_64 (by decide) (by decide) d_PA_status_9 10 rfl ?_
    refine ax_icmp_ge 22 13 d_PA_status_10 rfl rfl (fun hc => ?_) (fun hc => ?_)
    · have h := ok_t hc h
      refine ax_iconst (-1) d_PA_status_22 ic_m1 23 rfl ?_
      exact ax_iret rfl d_PA_status_23 (hR (-1) (ok_some h))
    · have h := ok_f hc h
      refine ax_aload_n 0 d_PA_status_13 rfl rfl 14 rfl ?_
      refine ax_getR fl_PA_57 x_0 rfl (rx_0_9 _) d_PA_status_14 17 rfl ?_
      refine ax_iload_n 1 d_PA_status_17 rfl rfl 18 rfl ?_
      refine ax_iaload x_64 d_PA_status_18 19 rfl h (fun i1 h => ?_)
      refine ax_goto 23 d_PA_status_19 rfl ?_
      exact ax_iret rfl d_PA_status_23 (hR (m.1 64 i1) (ok_some h))
