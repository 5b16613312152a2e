set_option maxRecDepth 4000 in
theorem zc_Row_step (v0 : Nat) (v1 : Nat) (v2 : Int32) (v3 : Int32) (m : zM) (hv0 : v0 ∈ li_Row) (hv1 : v1 ∈ li_World) {Q : Option Value → zM → Prop} (h : ok (f_Row_step v0 v1 v2 v3 m) (fun p => Q (some (.int (b2i p.1))) p.2)) : zc gX s_Row_step [.ref v0, .ref v1, .int v2, .int v3] m Q := by
  refine zc_of rfl (Nat.le_of_ble_eq_true rfl) ?_
  show AX gX s_Row_step 0 [(0, .ref v0), (1, .ref v1), (2, .int v2), (3, .int v3)] [] m Q
  obtain ⟨K, hK⟩ : ∃ K : (Bool × zM) → Prop, K = (fun p : Bool × zM => Q (some (.int (b2i p.1))) p.2) := ⟨_, rfl⟩
  have hR : ∀ p : Bool × zM, K p → Q (some (.int (b2i p.1))) p.2 := fun p hp => by rw [hK] at hp; exact hp
  replace h : ok (f_Row_step v0 v1 v2 v3 m) (fun p : Bool × zM => Q (some (.int (b2i p.1))) p.2) := h
  rw [← hK] at h
  unfold f_Row_step at h
  refine ax_aload_n 1 d_Row_step_0 rfl rfl 1 rfl ?_
  refine ax_getR fl_Row_41 (sx_World hv1) rfl (ro_World_2 hv1 _) d_Row_step_1 4 rfl ?_
  refine ax_iload_n 2 d_Row_step_4 rfl rfl 5 rfl ?_
  refine ax_iaload (sa_World_2 hv1) d_Row_step_5 6 rfl h (fun i1 h => ?_)
  refine ax_istore (ls1 := [(4, .int (m.1 (v1 + 1) i1)), (0, .ref v0), (1, .ref v1), (2, .int v2), (3, .int v3)]) d_Row_step_6 (Nat.le_of_ble_eq_true rfl) rfl 8 rfl ?_
  refine ax_iload 0 d_Row_step_8 rfl 10 rfl ?_
  refine ax_iconst 1 d_Row_step_10 ic_1 11 rfl ?_
  refine ax_callS mv_Row_50 ⟨Nat.le_of_ble_eq_true rfl, Nat.le_of_ble_eq_true rfl⟩ ⟨rfl, rfl⟩ [.int (m.1 (v1 + 1) i1), .int 1] [.int 1, .int (m.1 (v1 + 1) i1)] rfl rfl (Nat.le_of_ble_eq_true rfl) d_Row_step_11 14 rfl (zc_PA_held (m.1 (v1 + 1) i1) 1 m ?_)
  refine ax_istore (ls1 := [(5, .int (f_PA_held (m.1 (v1 + 1) i1) 1)), (4, .int (m.1 (v1 + 1) i1)), (0, .ref v0), (1, .ref v1), (2, .int v2), (3, .int v3)]) d_Row_step_14 (Nat.le_of_ble_eq_true rfl) rfl 16 rfl ?_
  refine ax_iload 1 d_Row_step_16 rfl 18 rfl ?_
  refine ax_iconst 2 d_Row_step_18 ic_2 19 rfl ?_
  refine ax_callS mv_Row_50 ⟨Nat.le_of_ble_eq_true rfl, Nat.le_of_ble_eq_true rfl⟩ ⟨rfl, rfl⟩ [.int (m.1 (v1 + 1) i1), .int 2] [.int 2, .int (m.1 (v1 + 1) i1)] rfl rfl (Nat.le_of_ble_eq_true rfl) d_Row_step_19 22 rfl (zc_PA_held (m.1 (v1 + 1) i1) 2 m ?_)
  refine ax_istore (ls1 := [(6, .int (f_PA_held (m.1 (v1 + 1) i1) 2)), (5, .int (f_PA_held (m.1 (v1 + 1) i1) 1)), (4, .int (m.1 (v1 + 1) i1)), (0, .ref v0), (1, .ref v1), (2, .int v2), (3, .int v3)]) d_Row_step_22 (Nat.le_of_ble_eq_true rfl) rfl 24 rfl ?_
  refine ax_iload 2 d_Row_step_24 rfl 26 rfl ?_
  refine ax_iconst 3 d_Row_step_26 ic_3 27 rfl ?_
  refine ax_callS mv_Row_50 ⟨Nat.le_of_ble_eq_true rfl, Nat.le_of_ble_eq_true rfl⟩ ⟨rfl, rfl⟩ [.int (m.1 (v1 + 1) i1), .int 3] [.int 3, .int (m.1 (v1 + 1) i1)] rfl rfl (Nat.le_of_ble_eq_true rfl) d_Row_step_27 30 rfl (zc_PA_held (m.1 (v1 + 1) i1) 3 m ?_)
  refine ax_istore (ls1 := [(7, .int (f_PA_held (m.1 (v1 + 1) i1) 3)), (6, .int (f_PA_held (m.1 (v1 + 1) i1) 2)), (5, .int (f_PA_held (m.1 (v1 + 1) i1) 1)), (4, .int (m.1 (v1 + 1) i1)), (0, .ref v0), (1, .ref v1), (2, .int v2), (3, .int v3)]) d_Row_step_30 (Nat.le_of_ble_eq_true rfl) rfl 32 rfl ?_
  refine ax_aload_n 4 d_Row_step_32 rfl rfl 33 rfl ?_
  refine ax_getI fl_Row_19 (sx_Row hv0) rfl d_Row_step_33 36 rfl ?_
  refine ax_iconst (-1) d_Row_step_36 ic_m1 37 rfl ?_
  refine ax_icmp_eq 93 40 d_Row_step_37 rfl rfl (fun hc => ?_) (fun hc => ?_)
  · have h := ok_t hc h
    exact ax_sub [4, 5, 6, 2, 1, 0] rfl (c_Row_step_J93 v0 v1 v2 (f_PA_held (m.1 (v1 + 1) i1) 1) (f_PA_held (m.1 (v1 + 1) i1) 2) (f_PA_held (m.1 (v1 + 1) i1) 3) m hv0 hv1 (fun p hp => hR p hp) h)
  · have h := ok_f hc h
    refine ax_iload 2 d_Row_step_40 rfl 42 rfl ?_
    refine ax_aload_n 4 d_Row_step_42 rfl rfl 43 rfl ?_
    refine ax_getI fl_Row_19 (sx_Row hv0) rfl d_Row_step_43 46 rfl ?_
    refine ax_icmp_ne 53 49 d_Row_step_46 rfl rfl (fun hc => ?_) (fun hc => ?_)
    · have h := ok_f hc h
      refine ax_iconst 0 d_Row_step_53 ic_0 54 rfl ?_
      exact ax_sub [4, 5, 6, 7, 2, 1, 0] rfl (c_Row_step_J54 v0 v1 v2 v3 (f_PA_held (m.1 (v1 + 1) i1) 1) (f_PA_held (m.1 (v1 + 1) i1) 2) (f_PA_held (m.1 (v1 + 1) i1) 3) false m hv0 hv1 (fun p hp => hR p hp) h)
    · have h := ok_t hc h
      refine ax_iconst 1 d_Row_step_49 ic_1 50 rfl ?_
      refine ax_goto 54 d_Row_step_50 rfl ?_
      exact ax_sub [4, 5, 6, 7, 2, 1, 0] rfl (c_Row_step_J54 v0 v1 v2 v3 (f_PA_held (m.1 (v1 + 1) i1) 1) (f_PA_held (m.1 (v1 + 1) i1) 2) (f_PA_held (m.1 (v1 + 1) i1) 3) true m hv0 hv1 (fun p hp => hR p hp) h)
set_option maxRecDepth 4000 in
theorem zc_Row_go (v0 : Nat) (v1 : Nat) (v2 : Int32) (v3 : Int32) (m : zM) (hv0 : v0 ∈ li_Row) (hv1 : v1 ∈ li_World) {Q : Option Value → zM → Prop} (h : ok (f_Row_go v0 v1 v2 v3 m) (fun p => Q (some (.int (b2i p.1))) p.2)) : zc gX s_Row_go [.ref v0, .ref v1, .int v2, .int v3] m Q := by
  refine zc_of rfl (Nat.le_of_ble_eq_true rfl) ?_
  show AX gX s_Row_go 0 [(0, .ref v0), (1, .ref v1), (2, .int v2), (3, .int v3)] [] m Q
  obtain ⟨K, hK⟩ : ∃ K : (Bool × zM) → Prop, K = (fun p : Bool × zM => Q (some (.int (b2i p.1))) p.2) := ⟨_, rfl⟩
  have hR : ∀ p : Bool × zM, K p → Q (some (.int (b2i p.1))) p.2 := fun p hp => by rw [hK] at hp; exact hp
  replace h : ok (f_Row_go v0 v1 v2 v3 m) (fun p : Bool × zM => Q (some (.int (b2i p.1))) p.2) := h
  rw [← hK] at h
  unfold f_Row_go at h
  refine ax_aload_n 0 d_Row_go_0 rfl rfl 1 rfl ?_
  refine ax_getI fl_Row_9 (sx_Row hv0) rfl d_Row_go_1 4 rfl ?_
  refine ax_if_eq 17 7 d_Row_go_4 rfl rfl (fun hc => ?_) (fun hc => ?_)
  · have h := ok_t hc h
    refine ax_aload_n 0 d_Row_go_17 rfl rfl 18 rfl ?_
    refine ax_aload_n 1 d_Row_go_18 rfl rfl 19 rfl ?_
    refine ax_iload_n 2 d_Row_go_19 rfl rfl 20 rfl ?_
    refine ax_iload_n 3 d_Row_go_20 rfl rfl 21 rfl ?_
    refine ax_callV mv_Row_58 ⟨Nat.le_of_ble_eq_true rfl, Nat.le_of_ble_eq_true rfl⟩ ⟨rfl, rfl⟩ [.ref v1, .int v2, .int v3] [.int v3, .int v2, .ref v1, .ref v0] rfl rfl (rc_Row hv0 _) (Nat.le_of_ble_eq_true rfl) d_Row_go_21 24 rfl (zc_Row_step v0 v1 v2 v3 m hv0 hv1 (ok_b h (fun p1 h => ?_)))
    exact ax_zret (b := p1.1) rfl d_Row_go_24 (hR (p1.1, p1.2) (ok_some h))
  · have h := ok_f hc h
    refine ax_aload_n 0 d_Row_go_7 rfl rfl 8 rfl ?_
    refine ax_aload_n 1 d_Row_go_8 rfl rfl 9 rfl ?_
    refine ax_iload_n 2 d_Row_go_9 rfl rfl 10 rfl ?_
    refine ax_iload_n 3 d_Row_go_10 rfl rfl 11 rfl ?_
    refine ax_callV mv_Row_54 ⟨Nat.le_of_ble_eq_true rfl, Nat.le_of_ble_eq_true rfl⟩ ⟨rfl, rfl⟩ [.ref v1, .int v2, .int v3] [.int v3, .int v2, .ref v1, .ref v0] rfl rfl (rc_Row hv0 _) (Nat.le_of_ble_eq_true rfl) d_Row_go_11 14 rfl (zc_Row_serve v0 v1 v2 v3 m hv0 hv1 (ok_b h (fun p2 h => ?_)))
    refine ax_goto 24 d_Row_go_14 rfl ?_
    exact ax_zret (b := p2.1) rfl d_Row_go_24 (hR (p2.1, p2.2) (ok_some h))
set_option maxRecDepth 4000 in
theorem zc_Table_go (v0 : Nat) (v1 : Nat) (v2 : Int32) (v3 : Int32) (v4 : Nat) (m : zM) (hv0 : v0 ∈ li_Table) (hv1 : v1 ∈ li_World) (hv4 : v4 ∈ li_World) {Q : Option Value → zM → Prop} (h : ok (f_Table_go v0 v1 v2 v3 v4 m) (fun p => Q (some (.int (b2i p.1))) p.2)) : zc gX s_Table_go [.ref v0, .ref v1, .int v2, .int v3, .ref v4] m Q := by
  refine zc_of rfl (Nat.le_of_ble_eq_true rfl) ?_
  show AX gX s_Table_go 0 [(0, .ref v0), (1, .ref v1), (2, .int v2), (3, .int v3), (4, .ref v4)] [] m Q
  obtain ⟨K, hK⟩ : ∃ K : (Bool × zM) → Prop, K = (fun p : Bool × zM => Q (some (.int (b2i p.1))) p.2) := ⟨_, rfl⟩
  have hR : ∀ p : Bool × zM, K p → Q (some (.int (b2i p.1))) p.2 := fun p hp => by rw [hK] at hp; exact hp
  replace h : ok (f_Table_go v0 v1 v2 v3 v4 m) (fun p : Bool × zM => Q (some (.int (b2i p.1))) p.2) := h
  rw [← hK] at h
  unfold f_Table_go at h
  refine ax_aload_n 0 d_Table_go_0 rfl rfl 1 rfl ?_
  refine ax_getR fl_Table_31 (sx_Table hv0) rfl (ro_Table_5 hv0 _) d_Table_go_1 4 rfl ?_
  refine ax_iload_n 2 d_Table_go_4 rfl rfl 5 rfl ?_
  refine ax_aaload (fun i => v0 + 7 + i) (sa_Table_5 hv0) (ra_row hv0 _) d_Table_go_5 6 rfl h (fun i1 hli1 h => ?_)
  refine ax_aload_n 1 d_Table_go_6 rfl rfl 7 rfl ?_
  refine ax_iload_n 3 d_Table_go_7 rfl rfl 8 rfl ?_
  refine ax_callV mv_Table_79 ⟨Nat.le_of_ble_eq_true rfl, Nat.le_of_ble_eq_true rfl⟩ ⟨rfl, rfl⟩ [.ref v1, .int v3] [.int v3, .ref v1, .ref (v0 + 7 + i1)] rfl rfl (rc_Row (in_row hv0 hli1) _) (Nat.le_of_ble_eq_true rfl) d_Table_go_8 11 rfl (zc_Row_isFor (v0 + 7 + i1) v1 v3 m (in_row hv0 hli1) hv1 (ok_b h (fun r2 h => ?_)))
  refine ax_ifb_ne 16 14 d_Table_go_11 rfl rfl (fun hc => ?_) (fun hc => ?_)
  · have h := ok_t hc h
    refine ax_aload 4 d_Table_go_16 rfl 18 rfl ?_
    refine ax_aload_n 1 d_Table_go_18 rfl rfl 19 rfl ?_
    refine ax_callV mv_Table_83 ⟨Nat.le_of_ble_eq_true rfl, Nat.le_of_ble_eq_true rfl⟩ ⟨rfl, rfl⟩ [.ref v1] [.ref v1, .ref v4] rfl rfl (rc_World hv4 _) (Nat.le_of_ble_eq_true rfl) d_Table_go_19 22 rfl (zc_World_copy v4 v1 m hv4 hv1 (ok_b h (fun p3 h => ?_)))
    refine ax_aload_n 0 d_Table_go_22 rfl rfl 23 rfl ?_
    refine ax_getR fl_Table_31 (sx_Table hv0) rfl (ro_Table_5 hv0 _) d_Table_go_23 26 rfl ?_
    refine ax_iload_n 2 d_Table_go_26 rfl rfl 27 rfl ?_
    refine ax_aaload (fun i => v0 + 7 + i) (sa_Table_5 hv0) (ra_row hv0 _) d_Table_go_27 28 rfl h (fun i4 hli4 h => ?_)
    refine ax_aload 4 d_Table_go_28 rfl 30 rfl ?_
    refine ax_iload_n 3 d_Table_go_30 rfl rfl 31 rfl ?_
    refine ax_aload_n 0 d_Table_go_31 rfl rfl 32 rfl ?_
    refine ax_getI fl_Table_22 (sx_Table hv0) rfl d_Table_go_32 35 rfl ?_
    refine ax_callV mv_Table_87 ⟨Nat.le_of_ble_eq_true rfl, Nat.le_of_ble_eq_true rfl⟩ ⟨rfl, rfl⟩ [.ref v4, .int v3, .int (p3.1 v0 3)] [.int (p3.1 v0 3), .int v3, .ref v4, .ref (v0 + 7 + i4)] rfl rfl (rc_Row (in_row hv0 hli4) _) (Nat.le_of_ble_eq_true rfl) d_Table_go_35 38 rfl (zc_Row_go (v0 + 7 + i4) v4 v3 (p3.1 v0 3) p3 (in_row hv0 hli4) hv4 (ok_b h (fun p5 h => ?_)))
    exact ax_zret (b := p5.1) rfl d_Table_go_38 (hR (p5.1, p5.2) (ok_some h))
  · have h := ok_f (bf hc) h
    refine ax_iconst 0 d_Table_go_14 ic_0 15 rfl ?_
    exact ax_zret (b := false) rfl d_Table_go_15 (hR (false, m) (ok_some h))
set_option maxRecDepth 4000 in
theorem c_Search_expand_J62 (v1 : Int32) (v2 : Nat) (v3 : Int32) (m : zM) (hv2 : v2 ∈ li_Table) {Q : Option Value → zM → Prop} {K : ((Bool × zM) ⊕ (Int32 × zM)) → Prop} (hR : ∀ p : Bool × zM, K (.inl p) → Q (some (.int (b2i p.1))) p.2) (h0 : ∀ s : Int32 × zM, K (.inr s) → AX gX s_Search_expand 2 [(0, .ref 7), (1, .int v1), (2, .ref v2), (3, .int s.1)] [] s.2 Q) (h : ok (f_Search_expand_J62 v1 v2 v3 m) K) : AX gX s_Search_expand 62 [(0, .ref 7), (1, .int v1), (2, .ref v2), (3, .int v3)] [] m Q := by
  unfold f_Search_expand_J62 at h
  refine ax_iinc (ls1 := [(3, .int (v3 + 1)), (0, .ref 7), (1, .int v1), (2, .ref v2)]) 3 1 d_Search_expand_62 rfl ic_1 (Nat.le_of_ble_eq_true rfl) rfl 65 rfl ?_
  refine ax_goto 2 d_Search_expand_65 rfl ?_
  exact ax_sub [1, 2, 3, 0] rfl (h0 ((v3 + 1), m) (ok_some h))
set_option maxRecDepth 4000 in
theorem c_Search_expand_J56 (v1 : Int32) (v2 : Nat) (v3 : Int32) (v4 : Int32) (m : zM) (hv2 : v2 ∈ li_Table) {Q : Option Value → zM → Prop} {K : (((Bool × zM) ⊕ (Int32 × zM)) ⊕ (Int32 × zM)) → Prop} (hR : ∀ p : Bool × zM, K (.inl (.inl p)) → Q (some (.int (b2i p.1))) p.2) (h0 : ∀ s : Int32 × zM, K (.inl (.inr s)) → AX gX s_Search_expand 2 [(0, .ref 7), (1, .int v1), (2, .ref v2), (3, .int s.1)] [] s.2 Q) (h1 : ∀ s : Int32 × zM, K (.inr s) → AX gX s_Search_expand 13 [(0, .ref 7), (1, .int v1), (2, .ref v2), (3, .int v3), (4, .int s.1)] [] s.2 Q) (h : ok (f_Search_expand_J56 v1 v2 v3 v4 m) K) : AX gX s_Search_expand 56 [(0, .ref 7), (1, .int v1), (2, .ref v2), (3, .int v3), (4, .int v4)] [] m Q := by
  unfold f_Search_expand_J56 at h
  refine ax_iinc (ls1 := [(4, .int (v4 + 1)), (0, .ref 7), (1, .int v1), (2, .ref v2), (3, .int v3)]) 4 1 d_Search_expand_56 rfl ic_1 (Nat.le_of_ble_eq_true rfl) rfl 59 rfl ?_
  refine ax_goto 13 d_Search_expand_59 rfl ?_
  exact ax_sub [1, 2, 3, 4, 0] rfl (h1 ((v4 + 1), m) (ok_some h))
set_option maxRecDepth 4000 in
theorem c_Search_expand_B13 (v1 : Int32) (v2 : Nat) (v3 : Int32) (v4 : Int32) (m : zM) (hv2 : v2 ∈ li_Table) {Q : Option Value → zM → Prop} {K : (((Bool × zM) ⊕ (Int32 × zM)) ⊕ (Int32 × zM)) → Prop} (hR : ∀ p : Bool × zM, K (.inl (.inl p)) → Q (some (.int (b2i p.1))) p.2) (h0 : ∀ s : Int32 × zM, K (.inl (.inr s)) → AX gX s_Search_expand 2 [(0, .ref 7), (1, .int v1), (2, .ref v2), (3, .int s.1)] [] s.2 Q) (h1 : ∀ s : Int32 × zM, K (.inr s) → AX gX s_Search_expand 13 [(0, .ref 7), (1, .int v1), (2, .ref v2), (3, .int v3), (4, .int s.1)] [] s.2 Q) (h : ok (f_Search_expand_B13 v1 v2 v3 v4 m) K) : AX gX s_Search_expand 13 [(0, .ref 7), (1, .int v1), (2, .ref v2), (3, .int v3), (4, .int v4)] [] m Q := by
  unfold f_Search_expand_B13 at h
  refine ax_iload 4 d_Search_expand_13 rfl 15 rfl ?_
  refine ax_aload_n 2 d_Search_expand_15 rfl rfl 16 rfl ?_
  refine ax_getI fl_Search_60 (sx_Table hv2) rfl d_Search_expand_16 19 rfl ?_
  refine ax_icmp_ge 62 22 d_Search_expand_19 rfl rfl (fun hc => ?_) (fun hc => ?_)
  · have h := ok_t hc h
    exact ax_sub [0, 1, 2, 3] rfl (c_Search_expand_J62 v1 v2 v3 m hv2 (fun p hp => hR p hp) (fun s hs => h0 s hs) (ok_z h))
  · have h := ok_f hc h
    refine ax_aload_n 2 d_Search_expand_22 rfl rfl 23 rfl ?_
    refine ax_aload_n 0 d_Search_expand_23 rfl rfl 24 rfl ?_
    refine ax_getR fl_Search_38 x_7 rfl (rx_7_6 _) d_Search_expand_24 27 rfl ?_
    refine ax_iload_n 3 d_Search_expand_27 rfl rfl 28 rfl ?_
    refine ax_iload 4 d_Search_expand_28 rfl 30 rfl ?_
    refine ax_aload_n 0 d_Search_expand_30 rfl rfl 31 rfl ?_
    refine ax_getR fl_Search_42 x_7 rfl (rx_7_7 _) d_Search_expand_31 34 rfl ?_
    refine ax_callV mv_Search_76 ⟨Nat.le_of_ble_eq_true rfl, Nat.le_of_ble_eq_true rfl⟩ ⟨rfl, rfl⟩ [.ref 16, .int v3, .int v4, .ref 20] [.ref 20, .int v4, .int v3, .ref 16, .ref v2] rfl rfl (rc_Table hv2 _) (Nat.le_of_ble_eq_true rfl) d_Search_expand_34 37 rfl (zc_Table_go v2 16 v3 v4 20 m hv2 in_16 in_20 (ok_b h (fun p1 h => ?_)))
    refine ax_ifb_eq 56 40 d_Search_expand_37 rfl rfl (fun hc => ?_) (fun hc => ?_)
    · have h := ok_f (bf hc) h
      exact ax_sub [0, 1, 2, 3, 4] rfl (c_Search_expand_J56 v1 v2 v3 v4 p1.2 hv2 (fun p hp => hR p hp) (fun s hs => h0 s hs) (fun s hs => h1 s hs) h)
    · have h := ok_t hc h
      refine ax_aload_n 0 d_Search_expand_40 rfl rfl 41 rfl ?_
      refine ax_iload_n 1 d_Search_expand_41 rfl rfl 42 rfl ?_
      refine ax_iload_n 3 d_Search_expand_42 rfl rfl 43 rfl ?_
      refine ax_iconst 4 d_Search_expand_43 ic_4 44 rfl ?_
      refine ax_imul d_Search_expand_44 45 rfl ?_
      refine ax_iload 4 d_Search_expand_45 rfl 47 rfl ?_
      refine ax_iadd d_Search_expand_47 48 rfl ?_
      refine ax_callV mv_Search_56 ⟨Nat.le_of_ble_eq_true rfl, Nat.le_of_ble_eq_true rfl⟩ ⟨rfl, rfl⟩ [.int v1, .int ((v3 * 4) + v4)] [.int ((v3 * 4) + v4), .int v1, .ref 7] rfl rfl (rc_x_7 _) (Nat.le_of_ble_eq_true rfl) d_Search_expand_48 51 rfl (zc_Search_meet v1 ((v3 * 4) + v4) p1.2 (ok_b h (fun p2 h => ?_)))
      refine ax_ifb_ne 56 54 d_Search_expand_51 rfl rfl (fun hc => ?_) (fun hc => ?_)
      · have h := ok_t hc h
        exact ax_sub [0, 1, 2, 3, 4] rfl (c_Search_expand_J56 v1 v2 v3 v4 p2.2 hv2 (fun p hp => hR p hp) (fun s hs => h0 s hs) (fun s hs => h1 s hs) h)
      · have h := ok_f (bf hc) h
        refine ax_iconst 0 d_Search_expand_54 ic_0 55 rfl ?_
        exact ax_zret (b := false) rfl d_Search_expand_55 (hR (false, p2.2) (ok_some h))
theorem c_Search_expand_L13 (v1 : Int32) (v2 : Nat) (v3 : Int32) (v4 : Int32) (m : zM) (hv2 : v2 ∈ li_Table) {Q : Option Value → zM → Prop} {K : ((Bool × zM) ⊕ (Int32 × zM)) → Prop} (hR : ∀ p : Bool × zM, K (.inl p) → Q (some (.int (b2i p.1))) p.2) (h0 : ∀ s : Int32 × zM, K (.inr s) → AX gX s_Search_expand 2 [(0, .ref 7), (1, .int v1), (2, .ref v2), (3, .int s.1)] [] s.2 Q) (h : ok (f_Search_expand_L13 v1 v2 v3 v4 m) K) : AX gX s_Search_expand 13 [(0, .ref 7), (1, .int v1), (2, .ref v2), (3, .int v3), (4, .int v4)] [] m Q :=
  ok_lp (K := K) (G := fun s : Int32 × zM => AX gX s_Search_expand 13 [(0, .ref 7), (1, .int v1), (2, .ref v2), (3, .int v3), (4, .int s.1)] [] s.2 Q) (fun s h => c_Search_expand_B13 v1 v2 v3 s.1 s.2 hv2 (fun p hp => hR p hp) (fun s hs => h0 s hs) (fun s hs => hs) h) FU (v4, m) h
set_option maxRecDepth 4000 in
theorem c_Search_expand_B2 (v1 : Int32) (v2 : Nat) (v3 : Int32) (m : zM) (hv2 : v2 ∈ li_Table) {Q : Option Value → zM → Prop} {K : ((Bool × zM) ⊕ (Int32 × zM)) → Prop} (hR : ∀ p : Bool × zM, K (.inl p) → Q (some (.int (b2i p.1))) p.2) (h0 : ∀ s : Int32 × zM, K (.inr s) → AX gX s_Search_expand 2 [(0, .ref 7), (1, .int v1), (2, .ref v2), (3, .int s.1)] [] s.2 Q) (h : ok (f_Search_expand_B2 v1 v2 v3 m) K) : AX gX s_Search_expand 2 [(0, .ref 7), (1, .int v1), (2, .ref v2), (3, .int v3)] [] m Q := by
  unfold f_Search_expand_B2 at h
  refine ax_iload_n 3 d_Search_expand_2 rfl rfl 3 rfl ?_
  refine ax_aload_n 2 d_Search_expand_3 rfl rfl 4 rfl ?_
  refine ax_getI fl_Search_73 (sx_Table hv2) rfl d_Search_expand_4 7 rfl ?_
  refine ax_icmp_ge 68 10 d_Search_expand_7 rfl rfl (fun hc => ?_) (fun hc => ?_)
  · have h := ok_t hc h
    refine ax_iconst 1 d_Search_expand_68 ic_1 69 rfl ?_
    exact ax_zret (b := true) rfl d_Search_expand_69 (hR (true, m) (ok_some h))
  · have h := ok_f hc h
    refine ax_iconst 0 d_Search_expand_10 ic_0 11 rfl ?_
    refine ax_istore (ls1 := [(4, .int 0), (0, .ref 7), (1, .int v1), (2, .ref v2), (3, .int v3)]) d_Search_expand_11 (Nat.le_of_ble_eq_true rfl) rfl 13 rfl ?_
    exact ax_sub [1, 2, 3, 4, 0] rfl (c_Search_expand_L13 v1 v2 v3 0 m hv2 (fun p hp => hR p hp) (fun s hs => h0 s hs) h)
theorem c_Search_expand_L2 (v1 : Int32) (v2 : Nat) (v3 : Int32) (m : zM) (hv2 : v2 ∈ li_Table) {Q : Option Value → zM → Prop} {K : (Bool × zM) → Prop} (hR : ∀ p : Bool × zM, K (p) → Q (some (.int (b2i p.1))) p.2)  (h : ok (f_Search_expand_L2 v1 v2 v3 m) K) : AX gX s_Search_expand 2 [(0, .ref 7), (1, .int v1), (2, .ref v2), (3, .int v3)] [] m Q :=
  ok_lp (K := K) (G := fun s : Int32 × zM => AX gX s_Search_expand 2 [(0, .ref 7), (1, .int v1), (2, .ref v2), (3, .int s.1)] [] s.2 Q) (fun s h => c_Search_expand_B2 v1 v2 s.1 s.2 hv2 (fun p hp => hR p hp) (fun s hs => hs) h) FU (v3, m) h
set_option maxRecDepth 4000 in
theorem zc_Search_expand (v1 : Int32) (v2 : Nat) (m : zM) (hv2 : v2 ∈ li_Table) {Q : Option Value → zM → Prop} (h : ok (f_Search_expand v1 v2 m) (fun p => Q (some (.int (b2i p.1))) p.2)) : zc gX s_Search_expand [.ref 7, .int v1, .ref v2] m Q := by
  refine zc_of rfl (Nat.le_of_ble_eq_true rfl) ?_
  show AX gX s_Search_expand 0 [(0, .ref 7), (1, .int v1), (2, .ref v2)] [] m Q
  obtain ⟨K, hK⟩ : ∃ K : (Bool × zM) → Prop, K = (fun p : Bool × zM => Q (some (.int (b2i p.1))) p.2) := ⟨_, rfl⟩
  have hR : ∀ p : Bool × zM, K p → Q (some (.int (b2i p.1))) p.2 := fun p hp => by rw [hK] at hp; exact hp
  replace h : ok (f_Search_expand v1 v2 m) (fun p : Bool × zM => Q (some (.int (b2i p.1))) p.2) := h
  rw [← hK] at h
  unfold f_Search_expand at h
  refine ax_iconst 0 d_Search_expand_0 ic_0 1 rfl ?_
  refine ax_istore_n (ls1 := [(3, .int 0), (0, .ref 7), (1, .int v1), (2, .ref v2)]) d_Search_expand_1 rfl (Nat.le_of_ble_eq_true rfl) rfl 2 rfl ?_
  exact ax_sub [1, 2, 3, 0] rfl (c_Search_expand_L2 v1 v2 0 m hv2 (fun p hp => hR p hp) h)
set_option maxRecDepth 4000 in
theorem c_Search_explore_B29 (v1 : Nat) (v2 : Int32) (m : zM) (hv1 : v1 ∈ li_Table) {Q : Option Value → zM → Prop} {K : ((Bool × zM) ⊕ (Int32 × zM)) → Prop} (hR : ∀ p : Bool × zM, K (.inl p) → Q (some (.int (b2i p.1))) p.2) (h0 : ∀ s : Int32 × zM, K (.inr s) → AX gX s_Search_explore 29 [(0, .ref 7), (1, .ref v1), (2, .int s.1)] [] s.2 Q) (h : ok (f_Search_explore_B29 v1 v2 m) K) : AX gX s_Search_explore 29 [(0, .ref 7), (1, .ref v1), (2, .int v2)] [] m Q := by
  unfold f_Search_explore_B29 at h
  refine ax_iload_n 2 d_Search_explore_29 rfl rfl 30 rfl ?_
  refine ax_sipush 600 d_Search_explore_30 sp_600 33 rfl ?_
  refine ax_icmp_ge 78 36 d_Search_explore_33 rfl rfl (fun hc => ?_) (fun hc => ?_)
  · have h := ok_t hc h
    refine ax_iconst 1 d_Search_explore_78 ic_1 79 rfl ?_
    exact ax_zret (b := true) rfl d_Search_explore_79 (hR (true, m) (ok_some h))
  · have h := ok_f hc h
    refine ax_iload_n 2 d_Search_explore_36 rfl rfl 37 rfl ?_
    refine ax_aload_n 0 d_Search_explore_37 rfl rfl 38 rfl ?_
    refine ax_getI fl_Search_45 x_7 rfl d_Search_explore_38 41 rfl ?_
    refine ax_icmp_ge 78 44 d_Search_explore_41 rfl rfl (fun hc => ?_) (fun hc => ?_)
    · have h := ok_t hc h
      refine ax_iconst 1 d_Search_explore_78 ic_1 79 rfl ?_
      exact ax_zret (b := true) rfl d_Search_explore_79 (hR (true, m) (ok_some h))
    · have h := ok_f hc h
      refine ax_aload_n 0 d_Search_explore_44 rfl rfl 45 rfl ?_
      refine ax_getR fl_Search_38 x_7 rfl (rx_7_6 _) d_Search_explore_45 48 rfl ?_
      refine ax_aload_n 0 d_Search_explore_48 rfl rfl 49 rfl ?_
      refine ax_getR fl_Search_18 x_7 rfl (rx_7_1 _) d_Search_explore_49 52 rfl ?_
      refine ax_iload_n 2 d_Search_explore_52 rfl rfl 53 rfl ?_
      refine ax_laload x_11 d_Search_explore_53 54 rfl h (fun i5 h => ?_)
      refine ax_aload_n 1 d_Search_explore_54 rfl rfl 55 rfl ?_
      refine ax_getI fl_Search_60 (sx_Table hv1) rfl d_Search_explore_55 58 rfl ?_
      refine ax_callV mv_Search_65 ⟨Nat.le_of_ble_eq_true rfl, Nat.le_of_ble_eq_true rfl⟩ ⟨rfl, rfl⟩ [.long (m.2.1 11 i5), .int (m.1 v1 0)] [.int (m.1 v1 0), .long (m.2.1 11 i5), .ref 16] rfl rfl (rc_World in_16 _) (Nat.le_of_ble_eq_true rfl) d_Search_explore_58 61 rfl (zc_World_load 16 (m.2.1 11 i5) (m.1 v1 0) m in_16 (ok_b h (fun p6 h => ?_)))
      refine ax_aload_n 0 d_Search_explore_61 rfl rfl 62 rfl ?_
      refine ax_iload_n 2 d_Search_explore_62 rfl rfl 63 rfl ?_
      refine ax_aload_n 1 d_Search_explore_63 rfl rfl 64 rfl ?_
      refine ax_callV mv_Search_69 ⟨Nat.le_of_ble_eq_true rfl, Nat.le_of_ble_eq_true rfl⟩ ⟨rfl, rfl⟩ [.int v2, .ref v1] [.ref v1, .int v2, .ref 7] rfl rfl (rc_x_7 _) (Nat.le_of_ble_eq_true rfl) d_Search_explore_64 67 rfl (zc_Search_expand v2 v1 p6 hv1 (ok_b h (fun p7 h => ?_)))
      refine ax_ifb_ne 72 70 d_Search_explore_67 rfl rfl (fun hc => ?_) (fun hc => ?_)
      · have h := ok_t hc h
        refine ax_iinc (ls1 := [(2, .int (v2 + 1)), (0, .ref 7), (1, .ref v1)]) 2 1 d_Search_explore_72 rfl ic_1 (Nat.le_of_ble_eq_true rfl) rfl 75 rfl ?_
        refine ax_goto 29 d_Search_explore_75 rfl ?_
        exact ax_sub [1, 2, 0] rfl (h0 ((v2 + 1), p7.2) (ok_some h))
      · have h := ok_f (bf hc) h
        refine ax_iconst 0 d_Search_explore_70 ic_0 71 rfl ?_
        exact ax_zret (b := false) rfl d_Search_explore_71 (hR (false, p7.2) (ok_some h))
theorem c_Search_explore_L29 (v1 : Nat) (v2 : Int32) (m : zM) (hv1 : v1 ∈ li_Table) {Q : Option Value → zM → Prop} {K : (Bool × zM) → Prop} (hR : ∀ p : Bool × zM, K (p) → Q (some (.int (b2i p.1))) p.2)  (h : ok (f_Search_explore_L29 v1 v2 m) K) : AX gX s_Search_explore 29 [(0, .ref 7), (1, .ref v1), (2, .int v2)] [] m Q :=
  ok_lp (K := K) (G := fun s : Int32 × zM => AX gX s_Search_explore 29 [(0, .ref 7), (1, .ref v1), (2, .int s.1)] [] s.2 Q) (fun s h => c_Search_explore_B29 v1 s.1 s.2 hv1 (fun p hp => hR p hp) (fun s hs => hs) h) FU (v2, m) h
set_option maxRecDepth 4000 in
theorem zc_Search_explore (v1 : Nat) (m : zM) (hv1 : v1 ∈ li_Table) {Q : Option Value → zM → Prop} (h : ok (f_Search_explore v1 m) (fun p => Q (some (.int (b2i p.1))) p.2)) : zc gX s_Search_explore [.ref 7, .ref v1] m Q := by
  refine zc_of rfl (Nat.le_of_ble_eq_true rfl) ?_
  show AX gX s_Search_explore 0 [(0, .ref 7), (1, .ref v1)] [] m Q
  obtain ⟨K, hK⟩ : ∃ K : (Bool × zM) → Prop, K = (fun p : Bool × zM => Q (some (.int (b2i p.1))) p.2) := ⟨_, rfl⟩
  have hR : ∀ p : Bool × zM, K p → Q (some (.int (b2i p.1))) p.2 := fun p hp => by rw [hK] at hp; exact hp
  replace h : ok (f_Search_explore v1 m) (fun p : Bool × zM => Q (some (.int (b2i p.1))) p.2) := h
  rw [← hK] at h
  unfold f_Search_explore at h
  refine ax_aload_n 0 d_Search_explore_0 rfl rfl 1 rfl ?_
  refine ax_getR fl_Search_12 x_7 rfl (rx_7_0 _) d_Search_explore_1 4 rfl ?_
  refine ax_callV mv_Search_49 ⟨Nat.le_of_ble_eq_true rfl, Nat.le_of_ble_eq_true rfl⟩ ⟨rfl, rfl⟩ [] [.ref 8] rfl rfl (rc_Index in_8 _) (Nat.le_of_ble_eq_true rfl) d_Search_explore_4 7 rfl (zc_Index_clear 8 m in_8 (ok_b h (fun p1 h => ?_)))
  refine ax_aload_n 0 d_Search_explore_7 rfl rfl 8 rfl ?_
  refine ax_iconst 0 d_Search_explore_8 ic_0 9 rfl ?_
  refine ax_putI (K := K) fl_Search_45 x_7 rfl rfl rfl (Nat.le_of_ble_eq_true rfl) d_Search_explore_9 12 rfl h (fun m2 h => ?_)
  refine ax_aload_n 0 d_Search_explore_12 rfl rfl 13 rfl ?_
  refine ax_getR fl_Search_42 x_7 rfl (rx_7_7 _) d_Search_explore_13 16 rfl ?_
  refine ax_aload_n 1 d_Search_explore_16 rfl rfl 17 rfl ?_
  refine ax_callV mv_Search_52 ⟨Nat.le_of_ble_eq_true rfl, Nat.le_of_ble_eq_true rfl⟩ ⟨rfl, rfl⟩ [.ref v1] [.ref v1, .ref 20] rfl rfl (rc_World in_20 _) (Nat.le_of_ble_eq_true rfl) d_Search_explore_17 20 rfl (zc_World_begin 20 v1 m2 in_20 hv1 (ok_b h (fun p3 h => ?_)))
  refine ax_aload_n 0 d_Search_explore_20 rfl rfl 21 rfl ?_
  refine ax_iconst (-1) d_Search_explore_21 ic_m1 22 rfl ?_
  refine ax_iconst 0 d_Search_explore_22 ic_0 23 rfl ?_
  refine ax_callV mv_Search_56 ⟨Nat.le_of_ble_eq_true rfl, Nat.le_of_ble_eq_true rfl⟩ ⟨rfl, rfl⟩ [.int (-1), .int 0] [.int 0, .int (-1), .ref 7] rfl rfl (rc_x_7 _) (Nat.le_of_ble_eq_true rfl) d_Search_explore_23 26 rfl (zc_Search_meet (-1) 0 p3 (ok_b h (fun p4 h => ?_)))
  refine ax_pop d_Search_explore_26 rfl 27 rfl ?_
  refine ax_iconst 0 d_Search_explore_27 ic_0 28 rfl ?_
  refine ax_istore_n (ls1 := [(2, .int 0), (0, .ref 7), (1, .ref v1)]) d_Search_explore_28 rfl (Nat.le_of_ble_eq_true rfl) rfl 29 rfl ?_
  exact ax_sub [1, 2, 0] rfl (c_Search_explore_L29 v1 0 p4.2 hv1 (fun p hp => hR p hp) h)
set_option maxRecDepth 4000 in
theorem zc_Atlas_isAfter (v1 : Int32) (v2 : Int32) (m : zM)  {Q : Option Value → zM → Prop} (h : ok (f_Atlas_isAfter v1 v2 m) (fun p => Q (some (.int (b2i p))) m)) : zc gX s_Atlas_isAfter [.ref 7, .int v1, .int v2] m Q := by
  refine zc_of rfl (Nat.le_of_ble_eq_true rfl) ?_
  show AX gX s_Atlas_isAfter 0 [(0, .ref 7), (1, .int v1), (2, .int v2)] [] m Q
  obtain ⟨K, hK⟩ : ∃ K : Bool → Prop, K = (fun p : Bool => Q (some (.int (b2i p))) m) := ⟨_, rfl⟩
  have hR : ∀ p : Bool, K p → Q (some (.int (b2i p))) m := fun p hp => by rw [hK] at hp; exact hp
  replace h : ok (f_Atlas_isAfter v1 v2 m) (fun p : Bool => Q (some (.int (b2i p))) m) := h
  rw [← hK] at h
  unfold f_Atlas_isAfter at h
  refine ax_aload_n 0 d_Atlas_isAfter_0 rfl rfl 1 rfl ?_
  refine ax_getR fl_Atlas_91 x_7 rfl (rx_7_3 _) d_Atlas_isAfter_1 4 rfl ?_
  refine ax_iload_n 1 d_Atlas_isAfter_4 rfl rfl 5 rfl ?_
  refine ax_iaload x_13 d_Atlas_isAfter_5 6 rfl h (fun i1 h => ?_)
  refine ax_aload_n 0 d_Atlas_isAfter_6 rfl rfl 7 rfl ?_
  refine ax_getR fl_Atlas_91 x_7 rfl (rx_7_3 _) d_Atlas_isAfter_7 10 rfl ?_
  refine ax_iload_n 2 d_Atlas_isAfter_10 rfl rfl 11 rfl ?_
  refine ax_iaload x_13 d_Atlas_isAfter_11 12 rfl h (fun i2 h => ?_)
  refine ax_icmp_eq 36 15 d_Atlas_isAfter_12 rfl rfl (fun hc => ?_) (fun hc => ?_)
  · have h := ok_t hc h
    refine ax_aload_n 0 d_Atlas_isAfter_36 rfl rfl 37 rfl ?_
    refine ax_getR fl_Atlas_88 x_7 rfl (rx_7_2 _) d_Atlas_isAfter_37 40 rfl ?_
    refine ax_iload_n 1 d_Atlas_isAfter_40 rfl rfl 41 rfl ?_
    refine ax_laload x_12 d_Atlas_isAfter_41 42 rfl h (fun i3 h => ?_)
    refine ax_aload_n 0 d_Atlas_isAfter_42 rfl rfl 43 rfl ?_
    refine ax_getR fl_Atlas_88 x_7 rfl (rx_7_2 _) d_Atlas_isAfter_43 46 rfl ?_
    refine ax_iload_n 2 d_Atlas_isAfter_46 rfl rfl 47 rfl ?_
    refine ax_laload x_12 d_Atlas_isAfter_47 48 rfl h (fun i4 h => ?_)
    refine ax_lcmp d_Atlas_isAfter_48 49 rfl ?_
    refine ax_if_le 56 52 d_Atlas_isAfter_49 rfl rfl (fun hc => ?_) (fun hc => ?_)
    · have h := ok_t hc h
      refine ax_iconst 0 d_Atlas_isAfter_56 ic_0 57 rfl ?_
      exact ax_zret (b := false) rfl d_Atlas_isAfter_57 (hR false (ok_some h))
    · have h := ok_f hc h
      refine ax_iconst 1 d_Atlas_isAfter_52 ic_1 53 rfl ?_
      refine ax_goto 57 d_Atlas_isAfter_53 rfl ?_
      exact ax_zret (b := true) rfl d_Atlas_isAfter_57 (hR true (ok_some h))
  · have h := ok_f hc h
    refine ax_aload_n 0 d_Atlas_isAfter_15 rfl rfl 16 rfl ?_
    refine ax_getR fl_Atlas_91 x_7 rfl (rx_7_3 _) d_Atlas_isAfter_16 19 rfl ?_
    refine ax_iload_n 1 d_Atlas_isAfter_19 rfl rfl 20 rfl ?_
    refine ax_iaload x_13 d_Atlas_isAfter_20 21 rfl h (fun i5 h => ?_)
    refine ax_aload_n 0 d_Atlas_isAfter_21 rfl rfl 22 rfl ?_
    refine ax_getR fl_Atlas_91 x_7 rfl (rx_7_3 _) d_Atlas_isAfter_22 25 rfl ?_
    refine ax_iload_n 2 d_Atlas_isAfter_25 rfl rfl 26 rfl ?_
    refine ax_iaload x_13 d_Atlas_isAfter_26 27 rfl h (fun i6 h => ?_)
    refine ax_icmp_le 34 30 d_Atlas_isAfter_27 rfl rfl (fun hc => ?_) (fun hc => ?_)
    · have h := ok_t hc h
      refine ax_iconst 0 d_Atlas_isAfter_34 ic_0 35 rfl ?_
      exact ax_zret (b := false) rfl d_Atlas_isAfter_35 (hR false (ok_some h))
    · have h := ok_f hc h
      refine ax_iconst 1 d_Atlas_isAfter_30 ic_1 31 rfl ?_
      refine ax_goto 35 d_Atlas_isAfter_31 rfl ?_
      exact ax_zret (b := true) rfl d_Atlas_isAfter_35 (hR true (ok_some h))
set_option maxRecDepth 4000 in
theorem c_Atlas_sort_B67 (v2 : Int32) (m : zM)  {Q : Option Value → zM → Prop} {K : ((zM) ⊕ (Int32 × zM)) → Prop} (hR : ∀ p : zM, K (.inl p) → Q none p) (h0 : ∀ s : Int32 × zM, K (.inr s) → AX gX s_Atlas_sort 67 [(0, .ref 24), (2, .int s.1)] [] s.2 Q) (h : ok (f_Atlas_sort_B67 v2 m) K) : AX gX s_Atlas_sort 67 [(0, .ref 24), (2, .int v2)] [] m Q := by
  unfold f_Atlas_sort_B67 at h
  refine ax_iload_n 1 d_Atlas_sort_67 rfl rfl 68 rfl ?_
  refine ax_aload_n 0 d_Atlas_sort_68 rfl rfl 69 rfl ?_
  refine ax_getI fl_Atlas_9 x_24 rfl d_Atlas_sort_69 72 rfl ?_
  refine ax_icmp_ge 93 75 d_Atlas_sort_72 rfl rfl (fun hc => ?_) (fun hc => ?_)
  · have h := ok_t hc h
    exact ax_vret rfl d_Atlas_sort_93 (hR m (ok_some h))
  · have h := ok_f hc h
    refine ax_aload_n 0 d_Atlas_sort_75 rfl rfl 76 rfl ?_
    refine ax_getR fl_Atlas_62 x_24 rfl (rx_24_14 _) d_Atlas_sort_76 79 rfl ?_
    refine ax_aload_n 0 d_Atlas_sort_79 rfl rfl 80 rfl ?_
    refine ax_getR fl_Atlas_59 x_24 rfl (rx_24_13 _) d_Atlas_sort_80 83 rfl ?_
    refine ax_iload_n 1 d_Atlas_sort_83 rfl rfl 84 rfl ?_
    refine ax_iaload x_38 d_Atlas_sort_84 85 rfl h (fun i1 h => ?_)
    refine ax_iload_n 1 d_Atlas_sort_85 rfl rfl 86 rfl ?_
    refine ax_iastore x_39 d_Atlas_sort_86 87 rfl h (fun i2 m3 h => ?_)
    refine ax_iinc (ls1 := [(2, .int (v2 + 1)), (0, .ref 24)]) 1 1 d_Atlas_sort_87 rfl ic_1 (Nat.le_of_ble_eq_true rfl) rfl 90 rfl ?_
    refine ax_goto 67 d_Atlas_sort_90 rfl ?_
    exact ax_sub [1, 0] rfl (h0 ((v2 + 1), m3) (ok_some h))
theorem c_Atlas_sort_L67 (v2 : Int32) (m : zM)  {Q : Option Value → zM → Prop} {K : zM → Prop} (hR : ∀ p : zM, K (p) → Q none p)  (h : ok (f_Atlas_sort_L67 v2 m) K) : AX gX s_Atlas_sort 67 [(0, .ref 24), (2, .int v2)] [] m Q :=
  ok_lp (K := K) (G := fun s : Int32 × zM => AX gX s_Atlas_sort 67 [(0, .ref 24), (2, .int s.1)] [] s.2 Q) (fun s h => c_Atlas_sort_B67 s.1 s.2  (fun p hp => hR p hp) (fun s hs => hs) h) FU (v2, m) h
set_option maxRecDepth 4000 in
theorem c_Atlas_sort_J65  (m : zM)  {Q : Option Value → zM → Prop} {K : zM → Prop} (hR : ∀ p : zM, K (p) → Q none p)  (h : ok (f_Atlas_sort_J65  m) K) : AX gX s_Atlas_sort 65 [(0, .ref 24)] [] m Q := by
  unfold f_Atlas_sort_J65 at h
  refine ax_iconst 0 d_Atlas_sort_65 ic_0 66 rfl ?_
  refine ax_istore_n (ls1 := [(2, .int 0), (0, .ref 24)]) d_Atlas_sort_66 rfl (Nat.le_of_ble_eq_true rfl) rfl 67 rfl ?_
  exact ax_sub [1, 0] rfl (c_Atlas_sort_L67 0 m (fun p hp => hR p hp) h)
set_option maxRecDepth 4000 in
theorem c_Atlas_sort_J52 (v2 : Int32) (v3 : Int32) (m : zM)  {Q : Option Value → zM → Prop} {K : ((zM) ⊕ (Int32 × zM)) → Prop} (hR : ∀ p : zM, K (.inl p) → Q none p) (h0 : ∀ s : Int32 × zM, K (.inr s) → AX gX s_Atlas_sort 2 [(0, .ref 24), (1, .ref 7), (2, .int s.1)] [] s.2 Q) (h : ok (f_Atlas_sort_J52 v2 v3 m) K) : AX gX s_Atlas_sort 52 [(0, .ref 24), (1, .ref 7), (2, .int v2), (3, .int v3)] [] m Q := by
  unfold f_Atlas_sort_J52 at h
  refine ax_aload_n 0 d_Atlas_sort_52 rfl rfl 53 rfl ?_
  refine ax_getR fl_Atlas_59 x_24 rfl (rx_24_13 _) d_Atlas_sort_53 56 rfl ?_
  refine ax_iload_n 3 d_Atlas_sort_56 rfl rfl 57 rfl ?_
  refine ax_iload_n 2 d_Atlas_sort_57 rfl rfl 58 rfl ?_
  refine ax_iastore x_38 d_Atlas_sort_58 59 rfl h (fun i9 m10 h => ?_)
  refine ax_iinc (ls1 := [(2, .int (v2 + 1)), (0, .ref 24), (1, .ref 7), (3, .int v3)]) 2 1 d_Atlas_sort_59 rfl ic_1 (Nat.le_of_ble_eq_true rfl) rfl 62 rfl ?_
  refine ax_goto 2 d_Atlas_sort_62 rfl ?_
  exact ax_sub [1, 2, 0] rfl (h0 ((v2 + 1), m10) (ok_some h))
set_option maxRecDepth 4000 in
theorem c_Atlas_sort_B12 (v2 : Int32) (v3 : Int32) (m : zM)  {Q : Option Value → zM → Prop} {K : (((zM) ⊕ (Int32 × zM)) ⊕ (Int32 × zM)) → Prop} (hR : ∀ p : zM, K (.inl (.inl p)) → Q none p) (h0 : ∀ s : Int32 × zM, K (.inl (.inr s)) → AX gX s_Atlas_sort 2 [(0, .ref 24), (1, .ref 7), (2, .int s.1)] [] s.2 Q) (h1 : ∀ s : Int32 × zM, K (.inr s) → AX gX s_Atlas_sort 12 [(0, .ref 24), (1, .ref 7), (2, .int v2), (3, .int s.1)] [] s.2 Q) (h : ok (f_Atlas_sort_B12 v2 v3 m) K) : AX gX s_Atlas_sort 12 [(0, .ref 24), (1, .ref 7), (2, .int v2), (3, .int v3)] [] m Q := by
  unfold f_Atlas_sort_B12 at h
  refine ax_iload_n 3 d_Atlas_sort_12 rfl rfl 13 rfl ?_
  refine ax_if_le 52 16 d_Atlas_sort_13 rfl rfl (fun hc => ?_) (fun hc => ?_)
  · have h := ok_t hc h
    exact ax_sub [0, 1, 2, 3] rfl (c_Atlas_sort_J52 v2 v3 m (fun p hp => hR p hp) (fun s hs => h0 s hs) (ok_z h))
  · have h := ok_f hc h
    refine ax_aload_n 1 d_Atlas_sort_16 rfl rfl 17 rfl ?_
    refine ax_aload_n 0 d_Atlas_sort_17 rfl rfl 18 rfl ?_
    refine ax_getR fl_Atlas_59 x_24 rfl (rx_24_13 _) d_Atlas_sort_18 21 rfl ?_
    refine ax_iload_n 3 d_Atlas_sort_21 rfl rfl 22 rfl ?_
    refine ax_iconst 1 d_Atlas_sort_22 ic_1 23 rfl ?_
    refine ax_isub d_Atlas_sort_23 24 rfl ?_
    refine ax_iaload x_38 d_Atlas_sort_24 25 rfl h (fun i4 h => ?_)
    refine ax_iload_n 2 d_Atlas_sort_25 rfl rfl 26 rfl ?_
    refine ax_callS mv_Atlas_109 ⟨Nat.le_of_ble_eq_true rfl, Nat.le_of_ble_eq_true rfl⟩ ⟨rfl, rfl⟩ [.ref 7, .int (m.1 38 i4), .int v2] [.int v2, .int (m.1 38 i4), .ref 7] rfl rfl (Nat.le_of_ble_eq_true rfl) d_Atlas_sort_26 29 rfl (zc_Atlas_isAfter (m.1 38 i4) v2 m (ok_b h (fun r5 h => ?_)))
    refine ax_ifb_eq 52 32 d_Atlas_sort_29 rfl rfl (fun hc => ?_) (fun hc => ?_)
    · have h := ok_f (bf hc) h
      exact ax_sub [0, 1, 2, 3] rfl (c_Atlas_sort_J52 v2 v3 m (fun p hp => hR p hp) (fun s hs => h0 s hs) (ok_z h))
    · have h := ok_t hc h
      refine ax_aload_n 0 d_Atlas_sort_32 rfl rfl 33 rfl ?_
      refine ax_getR fl_Atlas_59 x_24 rfl (rx_24_13 _) d_Atlas_sort_33 36 rfl ?_
      refine ax_iload_n 3 d_Atlas_sort_36 rfl rfl 37 rfl ?_
      refine ax_aload_n 0 d_Atlas_sort_37 rfl rfl 38 rfl ?_
      refine ax_getR fl_Atlas_59 x_24 rfl (rx_24_13 _) d_Atlas_sort_38 41 rfl ?_
      refine ax_iload_n 3 d_Atlas_sort_41 rfl rfl 42 rfl ?_
      refine ax_iconst 1 d_Atlas_sort_42 ic_1 43 rfl ?_
      refine ax_isub d_Atlas_sort_43 44 rfl ?_
      refine ax_iaload x_38 d_Atlas_sort_44 45 rfl h (fun i6 h => ?_)
      refine ax_iastore x_38 d_Atlas_sort_45 46 rfl h (fun i7 m8 h => ?_)
      refine ax_iinc (ls1 := [(3, .int (v3 + (-1))), (0, .ref 24), (1, .ref 7), (2, .int v2)]) 3 (-1) d_Atlas_sort_46 rfl ic_m1 (Nat.le_of_ble_eq_true rfl) rfl 49 rfl ?_
      refine ax_goto 12 d_Atlas_sort_49 rfl ?_
      exact ax_sub [1, 2, 3, 0] rfl (h1 ((v3 + (-1)), m8) (ok_some h))
theorem c_Atlas_sort_L12 (v2 : Int32) (v3 : Int32) (m : zM)  {Q : Option Value → zM → Prop} {K : ((zM) ⊕ (Int32 × zM)) → Prop} (hR : ∀ p : zM, K (.inl p) → Q none p) (h0 : ∀ s : Int32 × zM, K (.inr s) → AX gX s_Atlas_sort 2 [(0, .ref 24), (1, .ref 7), (2, .int s.1)] [] s.2 Q) (h : ok (f_Atlas_sort_L12 v2 v3 m) K) : AX gX s_Atlas_sort 12 [(0, .ref 24), (1, .ref 7), (2, .int v2), (3, .int v3)] [] m Q :=
  ok_lp (K := K) (G := fun s : Int32 × zM => AX gX s_Atlas_sort 12 [(0, .ref 24), (1, .ref 7), (2, .int v2), (3, .int s.1)] [] s.2 Q) (fun s h => c_Atlas_sort_B12 v2 s.1 s.2  (fun p hp => hR p hp) (fun s hs => h0 s hs) (fun s hs => hs) h) FU (v3, m) h
set_option maxRecDepth 4000 in
theorem c_Atlas_sort_B2 (v2 : Int32) (m : zM)  {Q : Option Value → zM → Prop} {K : ((zM) ⊕ (Int32 × zM)) → Prop} (hR : ∀ p : zM, K (.inl p) → Q none p) (h0 : ∀ s : Int32 × zM, K (.inr s) → AX gX s_Atlas_sort 2 [(0, .ref 24), (1, .ref 7), (2, .int s.1)] [] s.2 Q) (h : ok (f_Atlas_sort_B2 v2 m) K) : AX gX s_Atlas_sort 2 [(0, .ref 24), (1, .ref 7), (2, .int v2)] [] m Q := by
  unfold f_Atlas_sort_B2 at h
  refine ax_iload_n 2 d_Atlas_sort_2 rfl rfl 3 rfl ?_
  refine ax_aload_n 0 d_Atlas_sort_3 rfl rfl 4 rfl ?_
  refine ax_getI fl_Atlas_9 x_24 rfl d_Atlas_sort_4 7 rfl ?_
  refine ax_icmp_ge 65 10 d_Atlas_sort_7 rfl rfl (fun hc => ?_) (fun hc => ?_)
  · have h := ok_t hc h
    exact ax_sub [0] rfl (c_Atlas_sort_J65 m (fun p hp => hR p hp) (ok_z h))
  · have h := ok_f hc h
    refine ax_iload_n 2 d_Atlas_sort_10 rfl rfl 11 rfl ?_
    refine ax_istore_n (ls1 := [(3, .int v2), (0, .ref 24), (1, .ref 7), (2, .int v2)]) d_Atlas_sort_11 rfl (Nat.le_of_ble_eq_true rfl) rfl 12 rfl ?_
    exact ax_sub [1, 2, 3, 0] rfl (c_Atlas_sort_L12 v2 v2 m (fun p hp => hR p hp) (fun s hs => h0 s hs) h)
theorem c_Atlas_sort_L2 (v2 : Int32) (m : zM)  {Q : Option Value → zM → Prop} {K : zM → Prop} (hR : ∀ p : zM, K (p) → Q none p)  (h : ok (f_Atlas_sort_L2 v2 m) K) : AX gX s_Atlas_sort 2 [(0, .ref 24), (1, .ref 7), (2, .int v2)] [] m Q :=
  ok_lp (K := K) (G := fun s : Int32 × zM => AX gX s_Atlas_sort 2 [(0, .ref 24), (1, .ref 7), (2, .int s.1)] [] s.2 Q) (fun s h => c_Atlas_sort_B2 s.1 s.2  (fun p hp => hR p hp) (fun s hs => hs) h) FU (v2, m) h
set_option maxRecDepth 4000 in
theorem zc_Atlas_sort  (m : zM)  {Q : Option Value → zM → Prop} (h : ok (f_Atlas_sort m) (fun p => Q none p)) : zc gX s_Atlas_sort [.ref 24, .ref 7] m Q := by
  refine zc_of rfl (Nat.le_of_ble_eq_true rfl) ?_
  show AX gX s_Atlas_sort 0 [(0, .ref 24), (1, .ref 7)] [] m Q
  obtain ⟨K, hK⟩ : ∃ K : zM → Prop, K = (fun p : zM => Q none p) := ⟨_, rfl⟩
  have hR : ∀ p : zM, K p → Q none p := fun p hp => by rw [hK] at hp; exact hp
  replace h : ok (f_Atlas_sort m) (fun p : zM => Q none p) := h
  rw [← hK] at h
  unfold f_Atlas_sort at h
  refine ax_iconst 0 d_Atlas_sort_0 ic_0 1 rfl ?_
  refine ax_istore_n (ls1 := [(2, .int 0), (0, .ref 24), (1, .ref 7)]) d_Atlas_sort_1 rfl (Nat.le_of_ble_eq_true rfl) rfl 2 rfl ?_
  exact ax_sub [1, 2, 0] rfl (c_Atlas_sort_L2 0 m (fun p hp => hR p hp) h)
set_option maxRecDepth 4000 in
theorem c_World_inState_J32 (v0 : Nat) (v1 : Int32) (v3 : Int32) (t0 : Int32) (t1 : Bool) (m : zM) (hv0 : v0 ∈ li_World) {Q : Option Value → zM → Prop} {K : ((Int32) ⊕ (Int32 × Int32)) → Prop} (hR : ∀ p : Int32, K (.inl p) → Q (some (.int p)) m) (h0 : ∀ s : Int32 × Int32, K (.inr s) → AX gX s_World_inState 4 [(0, .ref v0), (1, .int v1), (2, .int s.1), (3, .int s.2)] [] m Q) (h : ok (f_World_inState_J32 v0 v1 v3 t0 t1 m) K) : AX gX s_World_inState 32 [(0, .ref v0), (1, .int v1), (3, .int v3)] [.int (b2i t1), .int t0] m Q := by
  unfold f_World_inState_J32 at h
  refine ax_iadd d_World_inState_32 33 rfl ?_
  refine ax_istore_n (ls1 := [(2, .int (t0 + (b2i t1))), (0, .ref v0), (1, .int v1), (3, .int v3)]) d_World_inState_33 rfl (Nat.le_of_ble_eq_true rfl) rfl 34 rfl ?_
  refine ax_iinc (ls1 := [(3, .int (v3 + 1)), (2, .int (t0 + (b2i t1))), (0, .ref v0), (1, .int v1)]) 3 1 d_World_inState_34 rfl ic_1 (Nat.le_of_ble_eq_true rfl) rfl 37 rfl ?_
  refine ax_goto 4 d_World_inState_37 rfl ?_
  exact ax_sub [2, 3, 1, 0] rfl (h0 ((t0 + (b2i t1)), (v3 + 1)) (ok_some h))
set_option maxRecDepth 4000 in
theorem c_World_inState_B4 (v0 : Nat) (v1 : Int32) (v2 : Int32) (v3 : Int32) (m : zM) (hv0 : v0 ∈ li_World) {Q : Option Value → zM → Prop} {K : ((Int32) ⊕ (Int32 × Int32)) → Prop} (hR : ∀ p : Int32, K (.inl p) → Q (some (.int p)) m) (h0 : ∀ s : Int32 × Int32, K (.inr s) → AX gX s_World_inState 4 [(0, .ref v0), (1, .int v1), (2, .int s.1), (3, .int s.2)] [] m Q) (h : ok (f_World_inState_B4 v0 v1 v2 v3 m) K) : AX gX s_World_inState 4 [(0, .ref v0), (1, .int v1), (2, .int v2), (3, .int v3)] [] m Q := by
  unfold f_World_inState_B4 at h
  refine ax_iload_n 3 d_World_inState_4 rfl rfl 5 rfl ?_
  refine ax_aload_n 0 d_World_inState_5 rfl rfl 6 rfl ?_
  refine ax_getI fl_World_15 (sx_World hv0) rfl d_World_inState_6 9 rfl ?_
  refine ax_icmp_ge 40 12 d_World_inState_9 rfl rfl (fun hc => ?_) (fun hc => ?_)
  · have h := ok_t hc h
    refine ax_iload_n 2 d_World_inState_40 rfl rfl 41 rfl ?_
    exact ax_iret rfl d_World_inState_41 (hR v2 (ok_some h))
  · have h := ok_f hc h
    refine ax_iload_n 2 d_World_inState_12 rfl rfl 13 rfl ?_
    refine ax_aload_n 0 d_World_inState_13 rfl rfl 14 rfl ?_
    refine ax_getR fl_World_18 (sx_World hv0) rfl (ro_World_2 hv0 _) d_World_inState_14 17 rfl ?_
    refine ax_iload_n 3 d_World_inState_17 rfl rfl 18 rfl ?_
    refine ax_iaload (sa_World_2 hv0) d_World_inState_18 19 rfl h (fun i1 h => ?_)
    refine ax_iconst 0 d_World_inState_19 ic_0 20 rfl ?_
    refine ax_callS mv_World_56 ⟨Nat.le_of_ble_eq_true rfl, Nat.le_of_ble_eq_true rfl⟩ ⟨rfl, rfl⟩ [.int (m.1 (v0 + 1) i1), .int 0] [.int 0, .int (m.1 (v0 + 1) i1), .int v2] rfl rfl (Nat.le_of_ble_eq_true rfl) d_World_inState_20 23 rfl (zc_PA_held (m.1 (v0 + 1) i1) 0 m ?_)
    refine ax_iload_n 1 d_World_inState_23 rfl rfl 24 rfl ?_
    refine ax_icmp_ne 31 27 d_World_inState_24 rfl rfl (fun hc => ?_) (fun hc => ?_)
    · have h := ok_f hc h
      refine ax_iconst 0 d_World_inState_31 ic_0 32 rfl ?_
      exact ax_sub [0, 1, 3] rfl (c_World_inState_J32 v0 v1 v3 v2 false m hv0 (fun p hp => hR p hp) (fun s hs => h0 s hs) h)
    · have h := ok_t hc h
      refine ax_iconst 1 d_World_inState_27 ic_1 28 rfl ?_
      refine ax_goto 32 d_World_inState_28 rfl ?_
      exact ax_sub [0, 1, 3] rfl (c_World_inState_J32 v0 v1 v3 v2 true m hv0 (fun p hp => hR p hp) (fun s hs => h0 s hs) h)
theorem c_World_inState_L4 (v0 : Nat) (v1 : Int32) (v2 : Int32) (v3 : Int32) (m : zM) (hv0 : v0 ∈ li_World) {Q : Option Value → zM → Prop} {K : Int32 → Prop} (hR : ∀ p : Int32, K (p) → Q (some (.int p)) m)  (h : ok (f_World_inState_L4 v0 v1 v2 v3 m) K) : AX gX s_World_inState 4 [(0, .ref v0), (1, .int v1), (2, .int v2), (3, .int v3)] [] m Q :=
  ok_lp (K := K) (G := fun s : Int32 × Int32 => AX gX s_World_inState 4 [(0, .ref v0), (1, .int v1), (2, .int s.1), (3, .int s.2)] [] m Q) (fun s h => c_World_inState_B4 v0 v1 s.1 s.2 m hv0 (fun p hp => hR p hp) (fun s hs => hs) h) FU (v2, v3) h
set_option maxRecDepth 4000 in
theorem zc_World_inState (v0 : Nat) (v1 : Int32) (m : zM) (hv0 : v0 ∈ li_World) {Q : Option Value → zM → Prop} (h : ok (f_World_inState v0 v1 m) (fun p => Q (some (.int p)) m)) : zc gX s_World_inState [.ref v0, .int v1] m Q := by
  refine zc_of rfl (Nat.le_of_ble_eq_true rfl) ?_
  show AX gX s_World_inState 0 [(0, .ref v0), (1, .int v1)] [] m Q
  obtain ⟨K, hK⟩ : ∃ K : Int32 → Prop, K = (fun p : Int32 => Q (some (.int p)) m) := ⟨_, rfl⟩
  have hR : ∀ p : Int32, K p → Q (some (.int p)) m := fun p hp => by rw [hK] at hp; exact hp
  replace h : ok (f_World_inState v0 v1 m) (fun p : Int32 => Q (some (.int p)) m) := h
  rw [← hK] at h
  unfold f_World_inState at h
  refine ax_iconst 0 d_World_inState_0 ic_0 1 rfl ?_
  refine ax_istore_n (ls1 := [(2, .int 0), (0, .ref v0), (1, .int v1)]) d_World_inState_1 rfl (Nat.le_of_ble_eq_true rfl) rfl 2 rfl ?_
  refine ax_iconst 0 d_World_inState_2 ic_0 3 rfl ?_
  refine ax_istore_n (ls1 := [(3, .int 0), (2, .int 0), (0, .ref v0), (1, .int v1)]) d_World_inState_3 rfl (Nat.le_of_ble_eq_true rfl) rfl 4 rfl ?_
  exact ax_sub [2, 3, 1, 0] rfl (c_World_inState_L4 v0 v1 0 0 m hv0 (fun p hp => hR p hp) h)
set_option maxRecDepth 4000 in
theorem c_Table_isBad_J69 (v0 : Nat) (v1 : Nat) (v2 : Int32) (v3 : Int32) (m : zM) (hv0 : v0 ∈ li_Table) (hv1 : v1 ∈ li_World) {Q : Option Value → zM → Prop} {K : ((Bool) ⊕ (Int32)) → Prop} (hR : ∀ p : Bool, K (.inl p) → Q (some (.int (b2i p))) m) (h0 : ∀ s : Int32, K (.inr s) → AX gX s_Table_isBad 2 [(0, .ref v0), (1, .ref v1), (2, .int s)] [] m Q) (h : ok (f_Table_isBad_J69 v0 v1 v2 v3 m) K) : AX gX s_Table_isBad 69 [(0, .ref v0), (1, .ref v1), (2, .int v2), (3, .int v3)] [] m Q := by
  unfold f_Table_isBad_J69 at h
  refine ax_iload_n 3 d_Table_isBad_69 rfl rfl 70 rfl ?_
  refine ax_if_eq 75 73 d_Table_isBad_70 rfl rfl (fun hc => ?_) (fun hc => ?_)
  · have h := ok_t hc h
    refine ax_iinc (ls1 := [(2, .int (v2 + 1)), (0, .ref v0), (1, .ref v1), (3, .int v3)]) 2 1 d_Table_isBad_75 rfl ic_1 (Nat.le_of_ble_eq_true rfl) rfl 78 rfl ?_
    refine ax_goto 2 d_Table_isBad_78 rfl ?_
    exact ax_sub [1, 2, 0] rfl (h0 (v2 + 1) (ok_some h))
  · have h := ok_f hc h
    refine ax_iconst 1 d_Table_isBad_73 ic_1 74 rfl ?_
    exact ax_zret (b := true) rfl d_Table_isBad_74 (hR true (ok_some h))
set_option maxRecDepth 4000 in
theorem c_Table_isBad_J61 (v0 : Nat) (v1 : Nat) (v2 : Int32) (v4 : Int32) (t0 : Int32) (t1 : Bool) (m : zM) (hv0 : v0 ∈ li_Table) (hv1 : v1 ∈ li_World) {Q : Option Value → zM → Prop} {K : (((Bool) ⊕ (Int32)) ⊕ (Int32 × Int32)) → Prop} (hR : ∀ p : Bool, K (.inl (.inl p)) → Q (some (.int (b2i p))) m) (h0 : ∀ s : Int32, K (.inl (.inr s)) → AX gX s_Table_isBad 2 [(0, .ref v0), (1, .ref v1), (2, .int s)] [] m Q) (h1 : ∀ s : Int32 × Int32, K (.inr s) → AX gX s_Table_isBad 15 [(0, .ref v0), (1, .ref v1), (2, .int v2), (3, .int s.1), (4, .int s.2)] [] m Q) (h : ok (f_Table_isBad_J61 v0 v1 v2 v4 t0 t1 m) K) : AX gX s_Table_isBad 61 [(0, .ref v0), (1, .ref v1), (2, .int v2), (4, .int v4)] [.int (b2i t1), .int t0] m Q := by
  unfold f_Table_isBad_J61 at h
  refine ax_iand d_Table_isBad_61 62 rfl ?_
  refine ax_istore_n (ls1 := [(3, .int (t0 &&& (b2i t1))), (0, .ref v0), (1, .ref v1), (2, .int v2), (4, .int v4)]) d_Table_isBad_62 rfl (Nat.le_of_ble_eq_true rfl) rfl 63 rfl ?_
  refine ax_iinc (ls1 := [(4, .int (v4 + 1)), (3, .int (t0 &&& (b2i t1))), (0, .ref v0), (1, .ref v1), (2, .int v2)]) 4 1 d_Table_isBad_63 rfl ic_1 (Nat.le_of_ble_eq_true rfl) rfl 66 rfl ?_
  refine ax_goto 15 d_Table_isBad_66 rfl ?_
  exact ax_sub [2, 3, 4, 1, 0] rfl (h1 ((t0 &&& (b2i t1)), (v4 + 1)) (ok_some h))
set_option maxRecDepth 4000 in
theorem c_Table_isBad_B15 (v0 : Nat) (v1 : Nat) (v2 : Int32) (v3 : Int32) (v4 : Int32) (m : zM) (hv0 : v0 ∈ li_Table) (hv1 : v1 ∈ li_World) {Q : Option Value → zM → Prop} {K : (((Bool) ⊕ (Int32)) ⊕ (Int32 × Int32)) → Prop} (hR : ∀ p : Bool, K (.inl (.inl p)) → Q (some (.int (b2i p))) m) (h0 : ∀ s : Int32, K (.inl (.inr s)) → AX gX s_Table_isBad 2 [(0, .ref v0), (1, .ref v1), (2, .int s)] [] m Q) (h1 : ∀ s : Int32 × Int32, K (.inr s) → AX gX s_Table_isBad 15 [(0, .ref v0), (1, .ref v1), (2, .int v2), (3, .int s.1), (4, .int s.2)] [] m Q) (h : ok (f_Table_isBad_B15 v0 v1 v2 v3 v4 m) K) : AX gX s_Table_isBad 15 [(0, .ref v0), (1, .ref v1), (2, .int v2), (3, .int v3), (4, .int v4)] [] m Q := by
  unfold f_Table_isBad_B15 at h
  refine ax_iload 4 d_Table_isBad_15 rfl 17 rfl ?_
  refine ax_aload_n 0 d_Table_isBad_17 rfl rfl 18 rfl ?_
  refine ax_getR fl_Table_38 (sx_Table hv0) rfl (ro_Table_7 hv0 _) d_Table_isBad_18 21 rfl ?_
  refine ax_iload_n 2 d_Table_isBad_21 rfl rfl 22 rfl ?_
  refine ax_iaload (sa_Table_7 hv0) d_Table_isBad_22 23 rfl h (fun i1 h => ?_)
  refine ax_icmp_ge 69 26 d_Table_isBad_23 rfl rfl (fun hc => ?_) (fun hc => ?_)
  · have h := ok_t hc h
    exact ax_sub [0, 1, 2, 3] rfl (c_Table_isBad_J69 v0 v1 v2 v3 m hv0 hv1 (fun p hp => hR p hp) (fun s hs => h0 s hs) (ok_z h))
  · have h := ok_f hc h
    refine ax_iload_n 2 d_Table_isBad_26 rfl rfl 27 rfl ?_
    refine ax_iconst 3 d_Table_isBad_27 ic_3 28 rfl ?_
    refine ax_imul d_Table_isBad_28 29 rfl ?_
    refine ax_iload 4 d_Table_isBad_29 rfl 31 rfl ?_
    refine ax_iadd d_Table_isBad_31 32 rfl ?_
    refine ax_istore (ls1 := [(5, .int ((v2 * 3) + v4)), (0, .ref v0), (1, .ref v1), (2, .int v2), (3, .int v3), (4, .int v4)]) d_Table_isBad_32 (Nat.le_of_ble_eq_true rfl) rfl 34 rfl ?_
    refine ax_iload_n 4 d_Table_isBad_34 rfl rfl 35 rfl ?_
    refine ax_aload_n 2 d_Table_isBad_35 rfl rfl 36 rfl ?_
    refine ax_aload_n 1 d_Table_isBad_36 rfl rfl 37 rfl ?_
    refine ax_getR fl_Table_44 (sx_Table hv0) rfl (ro_Table_9 hv0 _) d_Table_isBad_37 40 rfl ?_
    refine ax_iload 0 d_Table_isBad_40 rfl 42 rfl ?_
    refine ax_iaload (sa_Table_9 hv0) d_Table_isBad_42 43 rfl h (fun i2 h => ?_)
    refine ax_callV mv_Table_73 ⟨Nat.le_of_ble_eq_true rfl, Nat.le_of_ble_eq_true rfl⟩ ⟨rfl, rfl⟩ [.int (m.1 (v0 + 6) i2)] [.int (m.1 (v0 + 6) i2), .ref v1, .int v3] rfl rfl (rc_World hv1 _) (Nat.le_of_ble_eq_true rfl) d_Table_isBad_43 46 rfl (zc_World_inState v1 (m.1 (v0 + 6) i2) m hv1 (ok_b h (fun r3 h => ?_)))
    refine ax_aload_n 1 d_Table_isBad_46 rfl rfl 47 rfl ?_
    refine ax_getR fl_Table_41 (sx_Table hv0) rfl (ro_Table_8 hv0 _) d_Table_isBad_47 50 rfl ?_
    refine ax_iload 0 d_Table_isBad_50 rfl 52 rfl ?_
    refine ax_iaload (sa_Table_8 hv0) d_Table_isBad_52 53 rfl h (fun i4 h => ?_)
    refine ax_icmp_lt 60 56 d_Table_isBad_53 rfl rfl (fun hc => ?_) (fun hc => ?_)
    · have h := ok_t hc h
      refine ax_iconst 0 d_Table_isBad_60 ic_0 61 rfl ?_
      exact ax_sub [1, 2, 3, 5] rfl (c_Table_isBad_J61 v0 v1 v2 v4 v3 false m hv0 hv1 (fun p hp => hR p hp) (fun s hs => h0 s hs) (fun s hs => h1 s hs) h)
    · have h := ok_f hc h
      refine ax_iconst 1 d_Table_isBad_56 ic_1 57 rfl ?_
      refine ax_goto 61 d_Table_isBad_57 rfl ?_
      exact ax_sub [1, 2, 3, 5] rfl (c_Table_isBad_J61 v0 v1 v2 v4 v3 true m hv0 hv1 (fun p hp => hR p hp) (fun s hs => h0 s hs) (fun s hs => h1 s hs) h)
theorem c_Table_isBad_L15 (v0 : Nat) (v1 : Nat) (v2 : Int32) (v3 : Int32) (v4 : Int32) (m : zM) (hv0 : v0 ∈ li_Table) (hv1 : v1 ∈ li_World) {Q : Option Value → zM → Prop} {K : ((Bool) ⊕ (Int32)) → Prop} (hR : ∀ p : Bool, K (.inl p) → Q (some (.int (b2i p))) m) (h0 : ∀ s : Int32, K (.inr s) → AX gX s_Table_isBad 2 [(0, .ref v0), (1, .ref v1), (2, .int s)] [] m Q) (h : ok (f_Table_isBad_L15 v0 v1 v2 v3 v4 m) K) : AX gX s_Table_isBad 15 [(0, .ref v0), (1, .ref v1), (2, .int v2), (3, .int v3), (4, .int v4)] [] m Q :=
  ok_lp (K := K) (G := fun s : Int32 × Int32 => AX gX s_Table_isBad 15 [(0, .ref v0), (1, .ref v1), (2, .int v2), (3, .int s.1), (4, .int s.2)] [] m Q) (fun s h => c_Table_isBad_B15 v0 v1 v2 s.1 s.2 m hv0 hv1 (fun p hp => hR p hp) (fun s hs => h0 s hs) (fun s hs => hs) h) FU (v3, v4) h
set_option maxRecDepth 4000 in
theorem c_Table_isBad_B2 (v0 : Nat) (v1 : Nat) (v2 : Int32) (m : zM) (hv0 : v0 ∈ li_Table) (hv1 : v1 ∈ li_World) {Q : Option Value → zM → Prop} {K : ((Bool) ⊕ (Int32)) → Prop} (hR : ∀ p : Bool, K (.inl p) → Q (some (.int (b2i p))) m) (h0 : ∀ s : Int32, K (.inr s) → AX gX s_Table_isBad 2 [(0, .ref v0), (1, .ref v1), (2, .int s)] [] m Q) (h : ok (f_Table_isBad_B2 v0 v1 v2 m) K) : AX gX s_Table_isBad 2 [(0, .ref v0), (1, .ref v1), (2, .int v2)] [] m Q := by
  unfold f_Table_isBad_B2 at h
  refine ax_iload_n 2 d_Table_isBad_2 rfl rfl 3 rfl ?_
  refine ax_aload_n 0 d_Table_isBad_3 rfl rfl 4 rfl ?_
  refine ax_getI fl_Table_35 (sx_Table hv0) rfl d_Table_isBad_4 7 rfl ?_
  refine ax_icmp_ge 81 10 d_Table_isBad_7 rfl rfl (fun hc => ?_) (fun hc => ?_)
  · have h := ok_t hc h
    refine ax_iconst 0 d_Table_isBad_81 ic_0 82 rfl ?_
    exact ax_zret (b := false) rfl d_Table_isBad_82 (hR false (ok_some h))
  · have h := ok_f hc h
    refine ax_iconst 1 d_Table_isBad_10 ic_1 11 rfl ?_
    refine ax_istore_n (ls1 := [(3, .int 1), (0, .ref v0), (1, .ref v1), (2, .int v2)]) d_Table_isBad_11 rfl (Nat.le_of_ble_eq_true rfl) rfl 12 rfl ?_
    refine ax_iconst 0 d_Table_isBad_12 ic_0 13 rfl ?_
    refine ax_istore (ls1 := [(4, .int 0), (3, .int 1), (0, .ref v0), (1, .ref v1), (2, .int v2)]) d_Table_isBad_13 (Nat.le_of_ble_eq_true rfl) rfl 15 rfl ?_
    exact ax_sub [2, 3, 4, 1, 0] rfl (c_Table_isBad_L15 v0 v1 v2 1 0 m hv0 hv1 (fun p hp => hR p hp) (fun s hs => h0 s hs) h)
theorem c_Table_isBad_L2 (v0 : Nat) (v1 : Nat) (v2 : Int32) (m : zM) (hv0 : v0 ∈ li_Table) (hv1 : v1 ∈ li_World) {Q : Option Value → zM → Prop} {K : Bool → Prop} (hR : ∀ p : Bool, K (p) → Q (some (.int (b2i p))) m)  (h : ok (f_Table_isBad_L2 v0 v1 v2 m) K) : AX gX s_Table_isBad 2 [(0, .ref v0), (1, .ref v1), (2, .int v2)] [] m Q :=
  ok_lp (K := K) (G := fun s : Int32 => AX gX s_Table_isBad 2 [(0, .ref v0), (1, .ref v1), (2, .int s)] [] m Q) (fun s h => c_Table_isBad_B2 v0 v1 s m hv0 hv1 (fun p hp => hR p hp) (fun s hs => hs) h) FU v2 h
set_option maxRecDepth 4000 in
theorem zc_Table_isBad (v0 : Nat) (v1 : Nat) (m : zM) (hv0 : v0 ∈ li_Table) (hv1 : v1 ∈ li_World) {Q : Option Value → zM → Prop} (h : ok (f_Table_isBad v0 v1 m) (fun p => Q (some (.int (b2i p))) m)) : zc gX s_Table_isBad [.ref v0, .ref v1] m Q := by
  refine zc_of rfl (Nat.le_of_ble_eq_true rfl) ?_
  show AX gX s_Table_isBad 0 [(0, .ref v0), (1, .ref v1)] [] m Q
  obtain ⟨K, hK⟩ : ∃ K : Bool → Prop, K = (fun p : Bool => Q (some (.int (b2i p))) m) := ⟨_, rfl⟩
  have hR : ∀ p : Bool, K p → Q (some (.int (b2i p))) m := fun p hp => by rw [hK] at hp; exact hp
  replace h : ok (f_Table_isBad v0 v1 m) (fun p : Bool => Q (some (.int (b2i p))) m) := h
  rw [← hK] at h
  unfold f_Table_isBad at h
  refine ax_iconst 0 d_Table_isBad_0 ic_0 1 rfl ?_
  refine ax_istore_n (ls1 := [(2, .int 0), (0, .ref v0), (1, .ref v1)]) d_Table_isBad_1 rfl (Nat.le_of_ble_eq_true rfl) rfl 2 rfl ?_
  exact ax_sub [1, 2, 0] rfl (c_Table_isBad_L2 v0 v1 0 m hv0 hv1 (fun p hp => hR p hp) h)
set_option maxRecDepth 4000 in
theorem c_Atlas_describe_J150 (v1 : Int32) (v3 : Int32) (m : zM)  {Q : Option Value → zM → Prop} {K : zM → Prop} (hR : ∀ p : zM, K (p) → Q none p)  (h : ok (f_Atlas_describe_J150 v1 v3 m) K) : AX gX s_Atlas_describe 150 [(0, .ref 24), (1, .int v1), (3, .int v3)] [] m Q := by
  unfold f_Atlas_describe_J150 at h
  refine ax_aload_n 0 d_Atlas_describe_150 rfl rfl 151 rfl ?_
  refine ax_getR fl_Atlas_39 x_24 rfl (rx_24_7 _) d_Atlas_describe_151 154 rfl ?_
  refine ax_iload_n 1 d_Atlas_describe_154 rfl rfl 155 rfl ?_
  refine ax_iload_n 2 d_Atlas_describe_155 rfl rfl 156 rfl ?_
  refine ax_iastore x_32 d_Atlas_describe_156 157 rfl h (fun i9 m10 h => ?_)
  exact ax_vret rfl d_Atlas_describe_157 (hR m10 (ok_some h))
set_option maxRecDepth 4000 in
theorem c_Atlas_describe_J132 (v1 : Int32) (v3 : Int32) (v5 : Int32) (t0 : Int32) (m : zM)  {Q : Option Value → zM → Prop} {K : ((zM) ⊕ (Int32 × Int32 × Int32 × zM)) → Prop} (hR : ∀ p : zM, K (.inl p) → Q none p) (h0 : ∀ s : Int32 × Int32 × Int32 × zM, K (.inr s) → AX gX s_Atlas_describe 22 [(0, .ref 24), (1, .int v1), (3, .int s.1), (4, .int s.2.1), (5, .int s.2.2.1)] [] s.2.2.2 Q) (h : ok (f_Atlas_describe_J132 v1 v3 v5 t0 m) K) : AX gX s_Atlas_describe 132 [(0, .ref 24), (1, .int v1), (3, .int v3), (5, .int v5)] [.int t0] m Q := by
  unfold f_Atlas_describe_J132 at h
  refine ax_istore (ls1 := [(4, .int t0), (0, .ref 24), (1, .int v1), (3, .int v3), (5, .int v5)]) d_Atlas_describe_132 (Nat.le_of_ble_eq_true rfl) rfl 134 rfl ?_
  refine ax_iload_n 3 d_Atlas_describe_134 rfl rfl 135 rfl ?_
  refine ax_iload 4 d_Atlas_describe_135 rfl 137 rfl ?_
  refine ax_iconst 1 d_Atlas_describe_137 ic_1 138 rfl ?_
  refine ax_iadd d_Atlas_describe_138 139 rfl ?_
  refine ax_imul d_Atlas_describe_139 140 rfl ?_
  refine ax_iload 0 d_Atlas_describe_140 rfl 142 rfl ?_
  refine ok_nz h (fun hn h => ?_)
  refine ax_idiv d_Atlas_describe_142 hn 143 rfl ?_
  refine ax_istore_n (ls1 := [(3, .int ((v3 * (v5 + 1)) / t0)), (4, .int t0), (0, .ref 24), (1, .int v1), (5, .int v5)]) d_Atlas_describe_143 rfl (Nat.le_of_ble_eq_true rfl) rfl 144 rfl ?_
  refine ax_iinc (ls1 := [(5, .int (v5 + 1)), (3, .int ((v3 * (v5 + 1)) / t0)), (4, .int t0), (0, .ref 24), (1, .int v1)]) 4 1 d_Atlas_describe_144 rfl ic_1 (Nat.le_of_ble_eq_true rfl) rfl 147 rfl ?_
  refine ax_goto 22 d_Atlas_describe_147 rfl ?_
  exact ax_sub [3, 4, 1, 2, 0] rfl (h0 (((v3 * (v5 + 1)) / t0), t0, (v5 + 1), m) (ok_some h))
set_option maxRecDepth 4000 in
theorem c_Atlas_describe_J118 (v1 : Int32) (v3 : Int32) (v4 : Int32) (v5 : Int32) (v7 : Bool) (t0 : Nat) (t1 : Int32) (t2 : Int32) (m : zM) (ht0 : gX.1[t0]? = some (.inr (0, zlen gX t0))) {Q : Option Value → zM → Prop} {K : ((zM) ⊕ (Int32 × Int32 × Int32 × zM)) → Prop} (hR : ∀ p : zM, K (.inl p) → Q none p) (h0 : ∀ s : Int32 × Int32 × Int32 × zM, K (.inr s) → AX gX s_Atlas_describe 22 [(0, .ref 24), (1, .int v1), (3, .int s.1), (4, .int s.2.1), (5, .int s.2.2.1)] [] s.2.2.2 Q) (h : ok (f_Atlas_describe_J118 v1 v3 v4 v5 v7 t0 t1 t2 m) K) : AX gX s_Atlas_describe 118 [(0, .ref 24), (1, .int v1), (3, .int v3), (4, .int v4), (5, .int v5), (7, .int (b2i v7))] [.int t2, .int t1, .ref t0] m Q := by
  unfold f_Atlas_describe_J118 at h
  refine ax_iastore ht0 d_Atlas_describe_118 119 rfl h (fun i12 m13 h => ?_)
  refine ax_iload 5 d_Atlas_describe_119 rfl 121 rfl ?_
  refine ax_ifb_eq 131 124 d_Atlas_describe_121 rfl rfl (fun hc => ?_) (fun hc => ?_)
  · have h := ok_f (bf hc) h
    refine ax_iconst 1 d_Atlas_describe_131 ic_1 132 rfl ?_
    exact ax_sub [0, 1, 2, 4] rfl (c_Atlas_describe_J132 v1 v3 v5 1 m13 (fun p hp => hR p hp) (fun s hs => h0 s hs) h)
  · have h := ok_t hc h
    refine ax_iload 3 d_Atlas_describe_124 rfl 126 rfl ?_
    refine ax_iconst 1 d_Atlas_describe_126 ic_1 127 rfl ?_
    refine ax_iadd d_Atlas_describe_127 128 rfl ?_
    refine ax_goto 132 d_Atlas_describe_128 rfl ?_
    exact ax_sub [0, 1, 2, 4] rfl (c_Atlas_describe_J132 v1 v3 v5 (v4 + 1) m13 (fun p hp => hR p hp) (fun s hs => h0 s hs) h)
set_option maxRecDepth 4000 in
theorem c_Atlas_describe_J91 (v1 : Int32) (v3 : Int32) (v4 : Int32) (v5 : Int32) (v6 : Int32) (t0 : Bool) (m : zM)  {Q : Option Value → zM → Prop} {K : ((zM) ⊕ (Int32 × Int32 × Int32 × zM)) → Prop} (hR : ∀ p : zM, K (.inl p) → Q none p) (h0 : ∀ s : Int32 × Int32 × Int32 × zM, K (.inr s) → AX gX s_Atlas_describe 22 [(0, .ref 24), (1, .int v1), (3, .int s.1), (4, .int s.2.1), (5, .int s.2.2.1)] [] s.2.2.2 Q) (h : ok (f_Atlas_describe_J91 v1 v3 v4 v5 v6 t0 m) K) : AX gX s_Atlas_describe 91 [(0, .ref 24), (1, .int v1), (3, .int v3), (4, .int v4), (5, .int v5), (6, .int v6)] [.int (b2i t0)] m Q := by
  unfold f_Atlas_describe_J91 at h
  refine ax_istore (ls1 := [(7, .int (b2i t0)), (0, .ref 24), (1, .int v1), (3, .int v3), (4, .int v4), (5, .int v5), (6, .int v6)]) d_Atlas_describe_91 (Nat.le_of_ble_eq_true rfl) rfl 93 rfl ?_
  refine ax_aload_n 1 d_Atlas_describe_93 rfl rfl 94 rfl ?_
  refine ax_getR fl_Atlas_49 x_24 rfl (rx_24_10 _) d_Atlas_describe_94 97 rfl ?_
  refine ax_iload 6 d_Atlas_describe_97 rfl 99 rfl ?_
  refine ax_iload 0 d_Atlas_describe_99 rfl 101 rfl ?_
  refine ax_ifb_eq 116 104 d_Atlas_describe_101 rfl rfl (fun hc => ?_) (fun hc => ?_)
  · have h := ok_f (bf hc) h
    refine ax_iload 5 d_Atlas_describe_116 rfl 118 rfl ?_
    exact ax_sub [1, 2, 3, 4, 5, 0] rfl (c_Atlas_describe_J118 v1 v3 v4 v5 t0 35 v6 v5 m x_35z (fun p hp => hR p hp) (fun s hs => h0 s hs) h)
  · have h := ok_t hc h
    refine ax_aload_n 1 d_Atlas_describe_104 rfl rfl 105 rfl ?_
    refine ax_getR fl_Atlas_49 x_24 rfl (rx_24_10 _) d_Atlas_describe_105 108 rfl ?_
    refine ax_iload 6 d_Atlas_describe_108 rfl 110 rfl ?_
    refine ax_iconst 1 d_Atlas_describe_110 ic_1 111 rfl ?_
    refine ax_isub d_Atlas_describe_111 112 rfl ?_
    refine ax_iaload x_35 d_Atlas_describe_112 113 rfl h (fun i11 h => ?_)
    refine ax_goto 118 d_Atlas_describe_113 rfl ?_
    exact ax_sub [1, 2, 3, 4, 5, 0] rfl (c_Atlas_describe_J118 v1 v3 v4 v5 t0 35 v6 (m.1 35 i11) m x_35z (fun p hp => hR p hp) (fun s hs => h0 s hs) h)
set_option maxRecDepth 4000 in
theorem c_Atlas_describe_J90 (v1 : Int32) (v3 : Int32) (v4 : Int32) (v5 : Int32) (v6 : Int32) (m : zM)  {Q : Option Value → zM → Prop} {K : ((zM) ⊕ (Int32 × Int32 × Int32 × zM)) → Prop} (hR : ∀ p : zM, K (.inl p) → Q none p) (h0 : ∀ s : Int32 × Int32 × Int32 × zM, K (.inr s) → AX gX s_Atlas_describe 22 [(0, .ref 24), (1, .int v1), (3, .int s.1), (4, .int s.2.1), (5, .int s.2.2.1)] [] s.2.2.2 Q) (h : ok (f_Atlas_describe_J90 v1 v3 v4 v5 v6 m) K) : AX gX s_Atlas_describe 90 [(0, .ref 24), (1, .int v1), (3, .int v3), (4, .int v4), (5, .int v5), (6, .int v6)] [] m Q := by
  unfold f_Atlas_describe_J90 at h
  refine ax_iconst 0 d_Atlas_describe_90 ic_0 91 rfl ?_
  exact ax_sub [0, 1, 2, 3, 4, 5] rfl (c_Atlas_describe_J91 v1 v3 v4 v5 v6 false m (fun p hp => hR p hp) (fun s hs => h0 s hs) h)
set_option maxRecDepth 4000 in
theorem c_Atlas_describe_B22 (v1 : Int32) (v3 : Int32) (v4 : Int32) (v5 : Int32) (m : zM)  {Q : Option Value → zM → Prop} {K : ((zM) ⊕ (Int32 × Int32 × Int32 × zM)) → Prop} (hR : ∀ p : zM, K (.inl p) → Q none p) (h0 : ∀ s : Int32 × Int32 × Int32 × zM, K (.inr s) → AX gX s_Atlas_describe 22 [(0, .ref 24), (1, .int v1), (3, .int s.1), (4, .int s.2.1), (5, .int s.2.2.1)] [] s.2.2.2 Q) (h : ok (f_Atlas_describe_B22 v1 v3 v4 v5 m) K) : AX gX s_Atlas_describe 22 [(0, .ref 24), (1, .int v1), (3, .int v3), (4, .int v4), (5, .int v5)] [] m Q := by
  unfold f_Atlas_describe_B22 at h
  refine ax_iload 4 d_Atlas_describe_22 rfl 24 rfl ?_
  refine ax_aload_n 0 d_Atlas_describe_24 rfl rfl 25 rfl ?_
  refine ax_getI fl_Atlas_15 x_24 rfl d_Atlas_describe_25 28 rfl ?_
  refine ax_icmp_ge 150 31 d_Atlas_describe_28 rfl rfl (fun hc => ?_) (fun hc => ?_)
  · have h := ok_t hc h
    exact ax_sub [0, 1, 2] rfl (c_Atlas_describe_J150 v1 v3 m (fun p hp => hR p hp) (ok_z h))
  · have h := ok_f hc h
    refine ax_iload_n 1 d_Atlas_describe_31 rfl rfl 32 rfl ?_
    refine ax_iconst 4 d_Atlas_describe_32 ic_4 33 rfl ?_
    refine ax_imul d_Atlas_describe_33 34 rfl ?_
    refine ax_iload 4 d_Atlas_describe_34 rfl 36 rfl ?_
    refine ax_iadd d_Atlas_describe_36 37 rfl ?_
    refine ax_istore (ls1 := [(6, .int ((v1 * 4) + v5)), (0, .ref 24), (1, .int v1), (3, .int v3), (4, .int v4), (5, .int v5)]) d_Atlas_describe_37 (Nat.le_of_ble_eq_true rfl) rfl 39 rfl ?_
    refine ax_aload_n 1 d_Atlas_describe_39 rfl rfl 40 rfl ?_
    refine ax_getR fl_Atlas_46 x_24 rfl (rx_24_9 _) d_Atlas_describe_40 43 rfl ?_
    refine ax_iload 0 d_Atlas_describe_43 rfl 45 rfl ?_
    refine ax_aload_n 1 d_Atlas_describe_45 rfl rfl 46 rfl ?_
    refine ax_getR fl_Atlas_68 x_24 rfl (rx_24_15 _) d_Atlas_describe_46 49 rfl ?_
    refine ax_getR fl_Atlas_117 (sx_World in_40) rfl (ro_World_2 in_40 _) d_Atlas_describe_49 52 rfl ?_
    refine ax_iload 5 d_Atlas_describe_52 rfl 54 rfl ?_
    refine ax_iaload (sa_World_2 in_40) d_Atlas_describe_54 55 rfl h (fun i4 h => ?_)
    refine ax_iastore x_34 d_Atlas_describe_55 56 rfl h (fun i5 m6 h => ?_)
    refine ax_iload 5 d_Atlas_describe_56 rfl 58 rfl ?_
    refine ax_if_le 90 61 d_Atlas_describe_58 rfl rfl (fun hc => ?_) (fun hc => ?_)
    · have h := ok_t hc h
      exact ax_sub [1, 2, 3, 4, 5, 0] rfl (c_Atlas_describe_J90 v1 v3 v4 v5 ((v1 * 4) + v5) m6 (fun p hp => hR p hp) (fun s hs => h0 s hs) h)
    · have h := ok_f hc h
      refine ax_aload_n 1 d_Atlas_describe_61 rfl rfl 62 rfl ?_
      refine ax_getR fl_Atlas_68 x_24 rfl (rx_24_15 _) d_Atlas_describe_62 65 rfl ?_
      refine ax_getR fl_Atlas_117 (sx_World in_40) rfl (ro_World_2 in_40 _) d_Atlas_describe_65 68 rfl ?_
      refine ax_iload 5 d_Atlas_describe_68 rfl 70 rfl ?_
      refine ax_iaload (sa_World_2 in_40) d_Atlas_describe_70 71 rfl h (fun i7 h => ?_)
      refine ax_aload_n 1 d_Atlas_describe_71 rfl rfl 72 rfl ?_
      refine ax_getR fl_Atlas_68 x_24 rfl (rx_24_15 _) d_Atlas_describe_72 75 rfl ?_
      refine ax_getR fl_Atlas_117 (sx_World in_40) rfl (ro_World_2 in_40 _) d_Atlas_describe_75 78 rfl ?_
      refine ax_iload 5 d_Atlas_describe_78 rfl 80 rfl ?_
      refine ax_iconst 1 d_Atlas_describe_80 ic_1 81 rfl ?_
      refine ax_isub d_Atlas_describe_81 82 rfl ?_
      refine ax_iaload (sa_World_2 in_40) d_Atlas_describe_82 83 rfl h (fun i8 h => ?_)
      refine ax_icmp_ne 90 86 d_Atlas_describe_83 rfl rfl (fun hc => ?_) (fun hc => ?_)
      · have h := ok_f hc h
        exact ax_sub [1, 2, 3, 4, 5, 0] rfl (c_Atlas_describe_J90 v1 v3 v4 v5 ((v1 * 4) + v5) m6 (fun p hp => hR p hp) (fun s hs => h0 s hs) h)
      · have h := ok_t hc h
        refine ax_iconst 1 d_Atlas_describe_86 ic_1 87 rfl ?_
        refine ax_goto 91 d_Atlas_describe_87 rfl ?_
        exact ax_sub [1, 2, 3, 4, 5, 0] rfl (c_Atlas_describe_J91 v1 v3 v4 v5 ((v1 * 4) + v5) true m6 (fun p hp => hR p hp) (fun s hs => h0 s hs) h)
theorem c_Atlas_describe_L22 (v1 : Int32) (v3 : Int32) (v4 : Int32) (v5 : Int32) (m : zM)  {Q : Option Value → zM → Prop} {K : zM → Prop} (hR : ∀ p : zM, K (p) → Q none p)  (h : ok (f_Atlas_describe_L22 v1 v3 v4 v5 m) K) : AX gX s_Atlas_describe 22 [(0, .ref 24), (1, .int v1), (3, .int v3), (4, .int v4), (5, .int v5)] [] m Q :=
  ok_lp (K := K) (G := fun s : Int32 × Int32 × Int32 × zM => AX gX s_Atlas_describe 22 [(0, .ref 24), (1, .int v1), (3, .int s.1), (4, .int s.2.1), (5, .int s.2.2.1)] [] s.2.2.2 Q) (fun s h => c_Atlas_describe_B22 v1 s.1 s.2.1 s.2.2.1 s.2.2.2  (fun p hp => hR p hp) (fun s hs => hs) h) FU (v3, v4, v5, m) h
set_option maxRecDepth 4000 in
theorem zc_Atlas_describe (v1 : Int32) (v2 : Nat) (m : zM) (hv2 : v2 ∈ li_Table) {Q : Option Value → zM → Prop} (h : ok (f_Atlas_describe v1 v2 m) (fun p => Q none p)) : zc gX s_Atlas_describe [.ref 24, .int v1, .ref v2] m Q := by
  refine zc_of rfl (Nat.le_of_ble_eq_true rfl) ?_
  show AX gX s_Atlas_describe 0 [(0, .ref 24), (1, .int v1), (2, .ref v2)] [] m Q
  obtain ⟨K, hK⟩ : ∃ K : zM → Prop, K = (fun p : zM => Q none p) := ⟨_, rfl⟩
  have hR : ∀ p : zM, K p → Q none p := fun p hp => by rw [hK] at hp; exact hp
  replace h : ok (f_Atlas_describe v1 v2 m) (fun p : zM => Q none p) := h
  rw [← hK] at h
  unfold f_Atlas_describe at h
  refine ax_aload_n 0 d_Atlas_describe_0 rfl rfl 1 rfl ?_
  refine ax_getR fl_Atlas_42 x_24 rfl (rx_24_8 _) d_Atlas_describe_1 4 rfl ?_
  refine ax_iload_n 1 d_Atlas_describe_4 rfl rfl 5 rfl ?_
  refine ax_aload_n 2 d_Atlas_describe_5 rfl rfl 6 rfl ?_
  refine ax_aload_n 0 d_Atlas_describe_6 rfl rfl 7 rfl ?_
  refine ax_getR fl_Atlas_68 x_24 rfl (rx_24_15 _) d_Atlas_describe_7 10 rfl ?_
  refine ax_callV mv_Atlas_113 ⟨Nat.le_of_ble_eq_true rfl, Nat.le_of_ble_eq_true rfl⟩ ⟨rfl, rfl⟩ [.ref 40] [.ref 40, .ref v2, .int v1, .ref 33] rfl rfl (rc_Table hv2 _) (Nat.le_of_ble_eq_true rfl) d_Atlas_describe_10 13 rfl (zc_Table_isBad v2 40 m hv2 in_40 (ok_b h (fun r1 h => ?_)))
  refine ax_zastore (y := r1) x_33 d_Atlas_describe_13 14 rfl h (fun i2 m3 h => ?_)
  refine ax_iconst 1 d_Atlas_describe_14 ic_1 15 rfl ?_
  refine ax_istore_n (ls1 := [(3, .int 1), (0, .ref 24), (1, .int v1), (2, .ref v2)]) d_Atlas_describe_15 rfl (Nat.le_of_ble_eq_true rfl) rfl 16 rfl ?_
  refine ax_iconst 0 d_Atlas_describe_16 ic_0 17 rfl ?_
  refine ax_istore (ls1 := [(4, .int 0), (3, .int 1), (0, .ref 24), (1, .int v1), (2, .ref v2)]) d_Atlas_describe_17 (Nat.le_of_ble_eq_true rfl) rfl 19 rfl ?_
  refine ax_iconst 0 d_Atlas_describe_19 ic_0 20 rfl ?_
  refine ax_istore (ls1 := [(5, .int 0), (4, .int 0), (3, .int 1), (0, .ref 24), (1, .int v1), (2, .ref v2)]) d_Atlas_describe_20 (Nat.le_of_ble_eq_true rfl) rfl 22 rfl ?_
  exact ax_sub [3, 4, 2, 1, 0] rfl (c_Atlas_describe_L22 v1 1 0 0 m3 (fun p hp => hR p hp) h)
set_option maxRecDepth 4000 in
theorem zc_Atlas_number (v1 : Nat) (m : zM) (hv1 : v1 ∈ li_World) {Q : Option Value → zM → Prop} (h : ok (f_Atlas_number v1 m) (fun p => Q (some (.int p.1)) p.2)) : zc gX s_Atlas_number [.ref 24, .ref v1] m Q := by
  refine zc_of rfl (Nat.le_of_ble_eq_true rfl) ?_
  show AX gX s_Atlas_number 0 [(0, .ref 24), (1, .ref v1)] [] m Q
  obtain ⟨K, hK⟩ : ∃ K : (Int32 × zM) → Prop, K = (fun p : Int32 × zM => Q (some (.int p.1)) p.2) := ⟨_, rfl⟩
  have hR : ∀ p : Int32 × zM, K p → Q (some (.int p.1)) p.2 := fun p hp => by rw [hK] at hp; exact hp
  replace h : ok (f_Atlas_number v1 m) (fun p : Int32 × zM => Q (some (.int p.1)) p.2) := h
  rw [← hK] at h
  unfold f_Atlas_number at h
  refine ax_aload_n 0 d_Atlas_number_0 rfl rfl 1 rfl ?_
  refine ax_getR fl_Atlas_21 x_24 rfl (rx_24_2 _) d_Atlas_number_1 4 rfl ?_
  refine ax_aload_n 1 d_Atlas_number_4 rfl rfl 5 rfl ?_
  refine ax_callV mv_Atlas_136 ⟨Nat.le_of_ble_eq_true rfl, Nat.le_of_ble_eq_true rfl⟩ ⟨rfl, rfl⟩ [] [.ref v1, .ref 25] rfl rfl (rc_World hv1 _) (Nat.le_of_ble_eq_true rfl) d_Atlas_number_5 8 rfl (zc_World_foldedKey v1 m hv1 (ok_b h (fun p1 h => ?_)))
  refine ax_callV mv_Atlas_140 ⟨Nat.le_of_ble_eq_true rfl, Nat.le_of_ble_eq_true rfl⟩ ⟨rfl, rfl⟩ [.long p1.1] [.long p1.1, .ref 25] rfl rfl (rc_Index in_25 _) (Nat.le_of_ble_eq_true rfl) d_Atlas_number_8 11 rfl (zc_Index_find 25 p1.1 p1.2 in_25 (ok_b h (fun r2 h => ?_)))
  exact ax_iret rfl d_Atlas_number_11 (hR (r2, p1.2) (ok_some h))
set_option maxRecDepth 4000 in
theorem c_Atlas_pack_J41 (v1 : Int32) (v2 : Int32) (v3 : Int32) (v4 : Int32) (m : zM)  {Q : Option Value → zM → Prop} {K : Int32 → Prop} (hR : ∀ p : Int32, K (p) → Q (some (.int p)) m)  (h : ok (f_Atlas_pack_J41 v1 v2 v3 v4 m) K) : AX gX s_Atlas_pack 41 [(1, .int v1), (2, .int v2), (3, .int v3), (4, .int v4)] [] m Q := by
  unfold f_Atlas_pack_J41 at h
  refine ax_iload_n 0 d_Atlas_pack_41 rfl rfl 42 rfl ?_
  refine ax_bipush 16 d_Atlas_pack_42 bp_16 44 rfl ?_
  refine ax_imul d_Atlas_pack_44 45 rfl ?_
  refine ax_iload_n 1 d_Atlas_pack_45 rfl rfl 46 rfl ?_
  refine ax_iadd d_Atlas_pack_46 47 rfl ?_
  refine ax_iconst 4 d_Atlas_pack_47 ic_4 48 rfl ?_
  refine ax_imul d_Atlas_pack_48 49 rfl ?_
  refine ax_iload_n 2 d_Atlas_pack_49 rfl rfl 50 rfl ?_
  refine ax_iadd d_Atlas_pack_50 51 rfl ?_
  refine ax_bipush 8 d_Atlas_pack_51 bp_8 53 rfl ?_
  refine ax_ishl d_Atlas_pack_53 54 rfl ?_
  refine ax_iload 3 d_Atlas_pack_54 rfl 56 rfl ?_
  refine ax_ior d_Atlas_pack_56 57 rfl ?_
  exact ax_iret rfl d_Atlas_pack_57 (hR ((shl ((((v1 * 16) + v2) * 4) + v3) 8) ||| v4) (ok_some h))
set_option maxRecDepth 4000 in
theorem c_Atlas_pack_B6 (v1 : Int32) (v2 : Int32) (v3 : Int32) (v4 : Int32) (v5 : Int32) (m : zM)  {Q : Option Value → zM → Prop} {K : ((Int32) ⊕ (Int32 × Int32)) → Prop} (hR : ∀ p : Int32, K (.inl p) → Q (some (.int p)) m) (h0 : ∀ s : Int32 × Int32, K (.inr s) → AX gX s_Atlas_pack 6 [(0, .ref 24), (1, .int v1), (2, .int v2), (3, .int v3), (4, .int s.1), (5, .int s.2)] [] m Q) (h : ok (f_Atlas_pack_B6 v1 v2 v3 v4 v5 m) K) : AX gX s_Atlas_pack 6 [(0, .ref 24), (1, .int v1), (2, .int v2), (3, .int v3), (4, .int v4), (5, .int v5)] [] m Q := by
  unfold f_Atlas_pack_B6 at h
  refine ax_iload 5 d_Atlas_pack_6 rfl 8 rfl ?_
  refine ax_aload_n 0 d_Atlas_pack_8 rfl rfl 9 rfl ?_
  refine ax_getI fl_Atlas_15 x_24 rfl d_Atlas_pack_9 12 rfl ?_
  refine ax_icmp_ge 41 15 d_Atlas_pack_12 rfl rfl (fun hc => ?_) (fun hc => ?_)
  · have h := ok_t hc h
    exact ax_sub [1, 2, 3, 4] rfl (c_Atlas_pack_J41 v1 v2 v3 v4 m (fun p hp => hR p hp) (ok_z h))
  · have h := ok_f hc h
    refine ax_iload 4 d_Atlas_pack_15 rfl 17 rfl ?_
    refine ax_aload_n 0 d_Atlas_pack_17 rfl rfl 18 rfl ?_
    refine ax_getR fl_Atlas_72 x_24 rfl (rx_24_16 _) d_Atlas_pack_18 21 rfl ?_
    refine ax_getR fl_Atlas_133 (sx_World in_44) rfl (ro_World_3 in_44 _) d_Atlas_pack_21 24 rfl ?_
    refine ax_iload 5 d_Atlas_pack_24 rfl 26 rfl ?_
    refine ax_iaload (sa_World_3 in_44) d_Atlas_pack_26 27 rfl h (fun i1 h => ?_)
    refine ax_iconst 2 d_Atlas_pack_27 ic_2 28 rfl ?_
    refine ax_iload 5 d_Atlas_pack_28 rfl 30 rfl ?_
    refine ax_imul d_Atlas_pack_30 31 rfl ?_
    refine ax_ishl d_Atlas_pack_31 32 rfl ?_
    refine ax_ior d_Atlas_pack_32 33 rfl ?_
    refine ax_istore (ls1 := [(4, .int (v4 ||| (shl (m.1 (44 + 2) i1) (2 * v5)))), (0, .ref 24), (1, .int v1), (2, .int v2), (3, .int v3), (5, .int v5)]) d_Atlas_pack_33 (Nat.le_of_ble_eq_true rfl) rfl 35 rfl ?_
    refine ax_iinc (ls1 := [(5, .int (v5 + 1)), (4, .int (v4 ||| (shl (m.1 (44 + 2) i1) (2 * v5)))), (0, .ref 24), (1, .int v1), (2, .int v2), (3, .int v3)]) 5 1 d_Atlas_pack_35 rfl ic_1 (Nat.le_of_ble_eq_true rfl) rfl 38 rfl ?_
    refine ax_goto 6 d_Atlas_pack_38 rfl ?_
    exact ax_sub [2, 3, 4, 5, 1, 0] rfl (h0 ((v4 ||| (shl (m.1 (44 + 2) i1) (2 * v5))), (v5 + 1)) (ok_some h))
theorem c_Atlas_pack_L6 (v1 : Int32) (v2 : Int32) (v3 : Int32) (v4 : Int32) (v5 : Int32) (m : zM)  {Q : Option Value → zM → Prop} {K : Int32 → Prop} (hR : ∀ p : Int32, K (p) → Q (some (.int p)) m)  (h : ok (f_Atlas_pack_L6 v1 v2 v3 v4 v5 m) K) : AX gX s_Atlas_pack 6 [(0, .ref 24), (1, .int v1), (2, .int v2), (3, .int v3), (4, .int v4), (5, .int v5)] [] m Q :=
  ok_lp (K := K) (G := fun s : Int32 × Int32 => AX gX s_Atlas_pack 6 [(0, .ref 24), (1, .int v1), (2, .int v2), (3, .int v3), (4, .int s.1), (5, .int s.2)] [] m Q) (fun s h => c_Atlas_pack_B6 v1 v2 v3 s.1 s.2 m  (fun p hp => hR p hp) (fun s hs => hs) h) FU (v4, v5) h
set_option maxRecDepth 4000 in
theorem zc_Atlas_pack (v1 : Int32) (v2 : Int32) (v3 : Int32) (m : zM)  {Q : Option Value → zM → Prop} (h : ok (f_Atlas_pack v1 v2 v3 m) (fun p => Q (some (.int p)) m)) : zc gX s_Atlas_pack [.ref 24, .int v1, .int v2, .int v3] m Q := by
  refine zc_of rfl (Nat.le_of_ble_eq_true rfl) ?_
  show AX gX s_Atlas_pack 0 [(0, .ref 24), (1, .int v1), (2, .int v2), (3, .int v3)] [] m Q
  obtain ⟨K, hK⟩ : ∃ K : Int32 → Prop, K = (fun p : Int32 => Q (some (.int p)) m) := ⟨_, rfl⟩
  have hR : ∀ p : Int32, K p → Q (some (.int p)) m := fun p hp => by rw [hK] at hp; exact hp
  replace h : ok (f_Atlas_pack v1 v2 v3 m) (fun p : Int32 => Q (some (.int p)) m) := h
  rw [← hK] at h
  unfold f_Atlas_pack at h
  refine ax_iconst 0 d_Atlas_pack_0 ic_0 1 rfl ?_
  refine ax_istore (ls1 := [(4, .int 0), (0, .ref 24), (1, .int v1), (2, .int v2), (3, .int v3)]) d_Atlas_pack_1 (Nat.le_of_ble_eq_true rfl) rfl 3 rfl ?_
  refine ax_iconst 0 d_Atlas_pack_3 ic_0 4 rfl ?_
  refine ax_istore (ls1 := [(5, .int 0), (4, .int 0), (0, .ref 24), (1, .int v1), (2, .int v2), (3, .int v3)]) d_Atlas_pack_4 (Nat.le_of_ble_eq_true rfl) rfl 6 rfl ?_
  exact ax_sub [2, 3, 4, 5, 1, 0] rfl (c_Atlas_pack_L6 v1 v2 v3 0 0 m (fun p hp => hR p hp) h)
set_option maxRecDepth 4000 in
theorem c_Atlas_addMoves_J82 (v2 : Nat) (v3 : Int32) (v4 : Int32) (m : zM) (hv2 : v2 ∈ li_Table) {Q : Option Value → zM → Prop} {K : ((Int32 × zM) ⊕ (Int32 × Int32 × zM)) → Prop} (hR : ∀ p : Int32 × zM, K (.inl p) → Q (some (.int p.1)) p.2) (h0 : ∀ s : Int32 × Int32 × zM, K (.inr s) → AX gX s_Atlas_addMoves 5 [(0, .ref 24), (2, .ref v2), (3, .int s.1), (4, .int s.2.1)] [] s.2.2 Q) (h : ok (f_Atlas_addMoves_J82 v2 v3 v4 m) K) : AX gX s_Atlas_addMoves 82 [(0, .ref 24), (2, .ref v2), (3, .int v3), (4, .int v4)] [] m Q := by
  unfold f_Atlas_addMoves_J82 at h
  refine ax_iinc (ls1 := [(4, .int (v4 + 1)), (0, .ref 24), (2, .ref v2), (3, .int v3)]) 3 1 d_Atlas_addMoves_82 rfl ic_1 (Nat.le_of_ble_eq_true rfl) rfl 85 rfl ?_
  refine ax_goto 5 d_Atlas_addMoves_85 rfl ?_
  exact ax_sub [1, 2, 3, 0] rfl (h0 (v3, (v4 + 1), m) (ok_some h))
set_option maxRecDepth 4000 in
theorem c_Atlas_addMoves_J76 (v2 : Nat) (v3 : Int32) (v4 : Int32) (v5 : Int32) (m : zM) (hv2 : v2 ∈ li_Table) {Q : Option Value → zM → Prop} {K : (((Int32 × zM) ⊕ (Int32 × Int32 × zM)) ⊕ (Int32 × Int32 × zM)) → Prop} (hR : ∀ p : Int32 × zM, K (.inl (.inl p)) → Q (some (.int p.1)) p.2) (h0 : ∀ s : Int32 × Int32 × zM, K (.inl (.inr s)) → AX gX s_Atlas_addMoves 5 [(0, .ref 24), (2, .ref v2), (3, .int s.1), (4, .int s.2.1)] [] s.2.2 Q) (h1 : ∀ s : Int32 × Int32 × zM, K (.inr s) → AX gX s_Atlas_addMoves 17 [(0, .ref 24), (2, .ref v2), (3, .int s.1), (4, .int v4), (5, .int s.2.1)] [] s.2.2 Q) (h : ok (f_Atlas_addMoves_J76 v2 v3 v4 v5 m) K) : AX gX s_Atlas_addMoves 76 [(0, .ref 24), (2, .ref v2), (3, .int v3), (4, .int v4), (5, .int v5)] [] m Q := by
  unfold f_Atlas_addMoves_J76 at h
  refine ax_iinc (ls1 := [(5, .int (v5 + 1)), (0, .ref 24), (2, .ref v2), (3, .int v3), (4, .int v4)]) 4 1 d_Atlas_addMoves_76 rfl ic_1 (Nat.le_of_ble_eq_true rfl) rfl 79 rfl ?_
  refine ax_goto 17 d_Atlas_addMoves_79 rfl ?_
  exact ax_sub [1, 2, 3, 4, 0] rfl (h1 (v3, (v5 + 1), m) (ok_some h))
set_option maxRecDepth 4000 in
theorem c_Atlas_addMoves_B17 (v2 : Nat) (v3 : Int32) (v4 : Int32) (v5 : Int32) (m : zM) (hv2 : v2 ∈ li_Table) {Q : Option Value → zM → Prop} {K : (((Int32 × zM) ⊕ (Int32 × Int32 × zM)) ⊕ (Int32 × Int32 × zM)) → Prop} (hR : ∀ p : Int32 × zM, K (.inl (.inl p)) → Q (some (.int p.1)) p.2) (h0 : ∀ s : Int32 × Int32 × zM, K (.inl (.inr s)) → AX gX s_Atlas_addMoves 5 [(0, .ref 24), (2, .ref v2), (3, .int s.1), (4, .int s.2.1)] [] s.2.2 Q) (h1 : ∀ s : Int32 × Int32 × zM, K (.inr s) → AX gX s_Atlas_addMoves 17 [(0, .ref 24), (2, .ref v2), (3, .int s.1), (4, .int v4), (5, .int s.2.1)] [] s.2.2 Q) (h : ok (f_Atlas_addMoves_B17 v2 v3 v4 v5 m) K) : AX gX s_Atlas_addMoves 17 [(0, .ref 24), (2, .ref v2), (3, .int v3), (4, .int v4), (5, .int v5)] [] m Q := by
  unfold f_Atlas_addMoves_B17 at h
  refine ax_iload 4 d_Atlas_addMoves_17 rfl 19 rfl ?_
  refine ax_aload_n 0 d_Atlas_addMoves_19 rfl rfl 20 rfl ?_
  refine ax_getI fl_Atlas_15 x_24 rfl d_Atlas_addMoves_20 23 rfl ?_
  refine ax_icmp_ge 82 26 d_Atlas_addMoves_23 rfl rfl (fun hc => ?_) (fun hc => ?_)
  · have h := ok_t hc h
    exact ax_sub [0, 1, 2, 3] rfl (c_Atlas_addMoves_J82 v2 v3 v4 m hv2 (fun p hp => hR p hp) (fun s hs => h0 s hs) (ok_z h))
  · have h := ok_f hc h
    refine ax_iload_n 2 d_Atlas_addMoves_26 rfl rfl 27 rfl ?_
    refine ax_ldc 38400 wk_Atlas_55 d_Atlas_addMoves_27 29 rfl ?_
    refine ax_icmp_ge 76 32 d_Atlas_addMoves_29 rfl rfl (fun hc => ?_) (fun hc => ?_)
    · have h := ok_t hc h
      exact ax_sub [0, 1, 2, 3, 4] rfl (c_Atlas_addMoves_J76 v2 v3 v4 v5 m hv2 (fun p hp => hR p hp) (fun s hs => h0 s hs) (fun s hs => h1 s hs) h)
    · have h := ok_f hc h
      refine ax_aload_n 1 d_Atlas_addMoves_32 rfl rfl 33 rfl ?_
      refine ax_aload_n 0 d_Atlas_addMoves_33 rfl rfl 34 rfl ?_
      refine ax_getR fl_Atlas_68 x_24 rfl (rx_24_15 _) d_Atlas_addMoves_34 37 rfl ?_
      refine ax_iload 3 d_Atlas_addMoves_37 rfl 39 rfl ?_
      refine ax_iload 4 d_Atlas_addMoves_39 rfl 41 rfl ?_
      refine ax_aload_n 0 d_Atlas_addMoves_41 rfl rfl 42 rfl ?_
      refine ax_getR fl_Atlas_72 x_24 rfl (rx_24_16 _) d_Atlas_addMoves_42 45 rfl ?_
      refine ax_callV mv_Atlas_121 ⟨Nat.le_of_ble_eq_true rfl, Nat.le_of_ble_eq_true rfl⟩ ⟨rfl, rfl⟩ [.ref 40, .int v4, .int v5, .ref 44] [.ref 44, .int v5, .int v4, .ref 40, .ref v2] rfl rfl (rc_Table hv2 _) (Nat.le_of_ble_eq_true rfl) d_Atlas_addMoves_45 48 rfl (zc_Table_go v2 40 v4 v5 44 m hv2 in_40 in_44 (ok_b h (fun p1 h => ?_)))
      refine ax_ifb_eq 76 51 d_Atlas_addMoves_48 rfl rfl (fun hc => ?_) (fun hc => ?_)
      · have h := ok_f (bf hc) h
        exact ax_sub [0, 1, 2, 3, 4] rfl (c_Atlas_addMoves_J76 v2 v3 v4 v5 p1.2 hv2 (fun p hp => hR p hp) (fun s hs => h0 s hs) (fun s hs => h1 s hs) h)
      · have h := ok_t hc h
        refine ax_aload_n 0 d_Atlas_addMoves_51 rfl rfl 52 rfl ?_
        refine ax_getR fl_Atlas_56 x_24 rfl (rx_24_12 _) d_Atlas_addMoves_52 55 rfl ?_
        refine ax_iload_n 2 d_Atlas_addMoves_55 rfl rfl 56 rfl ?_
        refine ax_aload_n 0 d_Atlas_addMoves_56 rfl rfl 57 rfl ?_
        refine ax_aload_n 0 d_Atlas_addMoves_57 rfl rfl 58 rfl ?_
        refine ax_aload_n 0 d_Atlas_addMoves_58 rfl rfl 59 rfl ?_
        refine ax_getR fl_Atlas_72 x_24 rfl (rx_24_16 _) d_Atlas_addMoves_59 62 rfl ?_
        refine ax_callV mv_Atlas_125 ⟨Nat.le_of_ble_eq_true rfl, Nat.le_of_ble_eq_true rfl⟩ ⟨rfl, rfl⟩ [.ref 44] [.ref 44, .ref 24, .ref 24, .int v3, .ref 37] rfl rfl (rc_x_24 _) (Nat.le_of_ble_eq_true rfl) d_Atlas_addMoves_62 65 rfl (zc_Atlas_number 44 p1.2 in_44 (ok_b h (fun p2 h => ?_)))
        refine ax_iload 3 d_Atlas_addMoves_65 rfl 67 rfl ?_
        refine ax_iload 4 d_Atlas_addMoves_67 rfl 69 rfl ?_
        refine ax_callV mv_Atlas_129 ⟨Nat.le_of_ble_eq_true rfl, Nat.le_of_ble_eq_true rfl⟩ ⟨rfl, rfl⟩ [.int p2.1, .int v4, .int v5] [.int v5, .int v4, .int p2.1, .ref 24, .int v3, .ref 37] rfl rfl (rc_x_24 _) (Nat.le_of_ble_eq_true rfl) d_Atlas_addMoves_69 72 rfl (zc_Atlas_pack p2.1 v4 v5 p2.2 (ok_b h (fun r3 h => ?_)))
        refine ax_iastore x_37 d_Atlas_addMoves_72 73 rfl h (fun i4 m5 h => ?_)
        refine ax_iinc (ls1 := [(3, .int (v3 + 1)), (0, .ref 24), (2, .ref v2), (4, .int v4), (5, .int v5)]) 2 1 d_Atlas_addMoves_73 rfl ic_1 (Nat.le_of_ble_eq_true rfl) rfl 76 rfl ?_
        exact ax_sub [1, 2, 0, 3, 4] rfl (c_Atlas_addMoves_J76 v2 (v3 + 1) v4 v5 m5 hv2 (fun p hp => hR p hp) (fun s hs => h0 s hs) (fun s hs => h1 s hs) h)
theorem c_Atlas_addMoves_L17 (v2 : Nat) (v3 : Int32) (v4 : Int32) (v5 : Int32) (m : zM) (hv2 : v2 ∈ li_Table) {Q : Option Value → zM → Prop} {K : ((Int32 × zM) ⊕ (Int32 × Int32 × zM)) → Prop} (hR : ∀ p : Int32 × zM, K (.inl p) → Q (some (.int p.1)) p.2) (h0 : ∀ s : Int32 × Int32 × zM, K (.inr s) → AX gX s_Atlas_addMoves 5 [(0, .ref 24), (2, .ref v2), (3, .int s.1), (4, .int s.2.1)] [] s.2.2 Q) (h : ok (f_Atlas_addMoves_L17 v2 v3 v4 v5 m) K) : AX gX s_Atlas_addMoves 17 [(0, .ref 24), (2, .ref v2), (3, .int v3), (4, .int v4), (5, .int v5)] [] m Q :=
  ok_lp (K := K) (G := fun s : Int32 × Int32 × zM => AX gX s_Atlas_addMoves 17 [(0, .ref 24), (2, .ref v2), (3, .int s.1), (4, .int v4), (5, .int s.2.1)] [] s.2.2 Q) (fun s h => c_Atlas_addMoves_B17 v2 s.1 v4 s.2.1 s.2.2 hv2 (fun p hp => hR p hp) (fun s hs => h0 s hs) (fun s hs => hs) h) FU (v3, v5, m) h
set_option maxRecDepth 4000 in
theorem c_Atlas_addMoves_B5 (v2 : Nat) (v3 : Int32) (v4 : Int32) (m : zM) (hv2 : v2 ∈ li_Table) {Q : Option Value → zM → Prop} {K : ((Int32 × zM) ⊕ (Int32 × Int32 × zM)) → Prop} (hR : ∀ p : Int32 × zM, K (.inl p) → Q (some (.int p.1)) p.2) (h0 : ∀ s : Int32 × Int32 × zM, K (.inr s) → AX gX s_Atlas_addMoves 5 [(0, .ref 24), (2, .ref v2), (3, .int s.1), (4, .int s.2.1)] [] s.2.2 Q) (h : ok (f_Atlas_addMoves_B5 v2 v3 v4 m) K) : AX gX s_Atlas_addMoves 5 [(0, .ref 24), (2, .ref v2), (3, .int v3), (4, .int v4)] [] m Q := by
  unfold f_Atlas_addMoves_B5 at h
  refine ax_iload 3 d_Atlas_addMoves_5 rfl 7 rfl ?_
  refine ax_aload_n 1 d_Atlas_addMoves_7 rfl rfl 8 rfl ?_
  refine ax_getI fl_Atlas_118 (sx_Table hv2) rfl d_Atlas_addMoves_8 11 rfl ?_
  refine ax_icmp_ge 88 14 d_Atlas_addMoves_11 rfl rfl (fun hc => ?_) (fun hc => ?_)
  · have h := ok_t hc h
    refine ax_iload_n 2 d_Atlas_addMoves_88 rfl rfl 89 rfl ?_
    exact ax_iret rfl d_Atlas_addMoves_89 (hR (v3, m) (ok_some h))
  · have h := ok_f hc h
    refine ax_iconst 0 d_Atlas_addMoves_14 ic_0 15 rfl ?_
    refine ax_istore (ls1 := [(5, .int 0), (0, .ref 24), (2, .ref v2), (3, .int v3), (4, .int v4)]) d_Atlas_addMoves_15 (Nat.le_of_ble_eq_true rfl) rfl 17 rfl ?_
    exact ax_sub [1, 2, 3, 4, 0] rfl (c_Atlas_addMoves_L17 v2 v3 v4 0 m hv2 (fun p hp => hR p hp) (fun s hs => h0 s hs) h)
theorem c_Atlas_addMoves_L5 (v2 : Nat) (v3 : Int32) (v4 : Int32) (m : zM) (hv2 : v2 ∈ li_Table) {Q : Option Value → zM → Prop} {K : (Int32 × zM) → Prop} (hR : ∀ p : Int32 × zM, K (p) → Q (some (.int p.1)) p.2)  (h : ok (f_Atlas_addMoves_L5 v2 v3 v4 m) K) : AX gX s_Atlas_addMoves 5 [(0, .ref 24), (2, .ref v2), (3, .int v3), (4, .int v4)] [] m Q :=
  ok_lp (K := K) (G := fun s : Int32 × Int32 × zM => AX gX s_Atlas_addMoves 5 [(0, .ref 24), (2, .ref v2), (3, .int s.1), (4, .int s.2.1)] [] s.2.2 Q) (fun s h => c_Atlas_addMoves_B5 v2 s.1 s.2.1 s.2.2 hv2 (fun p hp => hR p hp) (fun s hs => hs) h) FU (v3, v4, m) h
set_option maxRecDepth 4000 in
theorem zc_Atlas_addMoves (v1 : Int32) (v2 : Nat) (m : zM) (hv2 : v2 ∈ li_Table) {Q : Option Value → zM → Prop} (h : ok (f_Atlas_addMoves v1 v2 m) (fun p => Q (some (.int p.1)) p.2)) : zc gX s_Atlas_addMoves [.ref 24, .int v1, .ref v2] m Q := by
  refine zc_of rfl (Nat.le_of_ble_eq_true rfl) ?_
  show AX gX s_Atlas_addMoves 0 [(0, .ref 24), (1, .int v1), (2, .ref v2)] [] m Q
  obtain ⟨K, hK⟩ : ∃ K : (Int32 × zM) → Prop, K = (fun p : Int32 × zM => Q (some (.int p.1)) p.2) := ⟨_, rfl⟩
  have hR : ∀ p : Int32 × zM, K p → Q (some (.int p.1)) p.2 := fun p hp => by rw [hK] at hp; exact hp
  replace h : ok (f_Atlas_addMoves v1 v2 m) (fun p : Int32 × zM => Q (some (.int p.1)) p.2) := h
  rw [← hK] at h
  unfold f_Atlas_addMoves at h
  refine ax_iload_n 1 d_Atlas_addMoves_0 rfl rfl 1 rfl ?_
  refine ax_istore_n (ls1 := [(3, .int v1), (0, .ref 24), (1, .int v1), (2, .ref v2)]) d_Atlas_addMoves_1 rfl (Nat.le_of_ble_eq_true rfl) rfl 2 rfl ?_
  refine ax_iconst 0 d_Atlas_addMoves_2 ic_0 3 rfl ?_
  refine ax_istore (ls1 := [(4, .int 0), (3, .int v1), (0, .ref 24), (1, .int v1), (2, .ref v2)]) d_Atlas_addMoves_3 (Nat.le_of_ble_eq_true rfl) rfl 5 rfl ?_
  exact ax_sub [2, 4, 1, 0] rfl (c_Atlas_addMoves_L5 v2 v1 0 m hv2 (fun p hp => hR p hp) h)
set_option maxRecDepth 4000 in
theorem c_Atlas_fill_J198 (v3 : Int32) (m : zM)  {Q : Option Value → zM → Prop} {K : zM → Prop} (hR : ∀ p : zM, K (p) → Q none p)  (h : ok (f_Atlas_fill_J198 v3 m) K) : AX gX s_Atlas_fill 198 [(0, .ref 24), (3, .int v3)] [] m Q := by
  unfold f_Atlas_fill_J198 at h
  refine ax_aload_n 0 d_Atlas_fill_198 rfl rfl 199 rfl ?_
  refine ax_getR fl_Atlas_52 x_24 rfl (rx_24_11 _) d_Atlas_fill_199 202 rfl ?_
  refine ax_aload_n 0 d_Atlas_fill_202 rfl rfl 203 rfl ?_
  refine ax_getI fl_Atlas_9 x_24 rfl d_Atlas_fill_203 206 rfl ?_
  refine ax_iload_n 1 d_Atlas_fill_206 rfl rfl 207 rfl ?_
  refine ax_iastore x_36 d_Atlas_fill_207 208 rfl h (fun i21 m22 h => ?_)
  exact ax_vret rfl d_Atlas_fill_208 (hR m22 (ok_some h))
set_option maxRecDepth 4000 in
theorem c_Atlas_fill_B143 (v2 : Nat) (v3 : Int32) (v4 : Int32) (m : zM) (hv2 : v2 ∈ li_Table) {Q : Option Value → zM → Prop} {K : ((zM) ⊕ (Int32 × Int32 × zM)) → Prop} (hR : ∀ p : zM, K (.inl p) → Q none p) (h0 : ∀ s : Int32 × Int32 × zM, K (.inr s) → AX gX s_Atlas_fill 143 [(0, .ref 24), (2, .ref v2), (3, .int s.1), (4, .int s.2.1)] [] s.2.2 Q) (h : ok (f_Atlas_fill_B143 v2 v3 v4 m) K) : AX gX s_Atlas_fill 143 [(0, .ref 24), (2, .ref v2), (3, .int v3), (4, .int v4)] [] m Q := by
  unfold f_Atlas_fill_B143 at h
  refine ax_iload 3 d_Atlas_fill_143 rfl 145 rfl ?_
  refine ax_aload_n 0 d_Atlas_fill_145 rfl rfl 146 rfl ?_
  refine ax_getI fl_Atlas_9 x_24 rfl d_Atlas_fill_146 149 rfl ?_
  refine ax_icmp_ge 198 152 d_Atlas_fill_149 rfl rfl (fun hc => ?_) (fun hc => ?_)
  · have h := ok_t hc h
    exact ax_sub [0, 2] rfl (c_Atlas_fill_J198 v3 m (fun p hp => hR p hp) (ok_z h))
  · have h := ok_f hc h
    refine ax_aload_n 0 d_Atlas_fill_152 rfl rfl 153 rfl ?_
    refine ax_getR fl_Atlas_52 x_24 rfl (rx_24_11 _) d_Atlas_fill_153 156 rfl ?_
    refine ax_iload 3 d_Atlas_fill_156 rfl 158 rfl ?_
    refine ax_iload_n 2 d_Atlas_fill_158 rfl rfl 159 rfl ?_
    refine ax_iastore x_36 d_Atlas_fill_159 160 rfl h (fun i15 m16 h => ?_)
    refine ax_aload_n 0 d_Atlas_fill_160 rfl rfl 161 rfl ?_
    refine ax_getR fl_Atlas_68 x_24 rfl (rx_24_15 _) d_Atlas_fill_161 164 rfl ?_
    refine ax_aload_n 0 d_Atlas_fill_164 rfl rfl 165 rfl ?_
    refine ax_getR fl_Atlas_25 x_24 rfl (rx_24_3 _) d_Atlas_fill_165 168 rfl ?_
    refine ax_iload 3 d_Atlas_fill_168 rfl 170 rfl ?_
    refine ax_laload x_28 d_Atlas_fill_170 171 rfl h (fun i17 h => ?_)
    refine ax_aload_n 0 d_Atlas_fill_171 rfl rfl 172 rfl ?_
    refine ax_getI fl_Atlas_15 x_24 rfl d_Atlas_fill_172 175 rfl ?_
    refine ax_callV mv_Atlas_98 ⟨Nat.le_of_ble_eq_true rfl, Nat.le_of_ble_eq_true rfl⟩ ⟨rfl, rfl⟩ [.long (m16.2.1 28 i17), .int (m16.1 24 1)] [.int (m16.1 24 1), .long (m16.2.1 28 i17), .ref 40] rfl rfl (rc_World in_40 _) (Nat.le_of_ble_eq_true rfl) d_Atlas_fill_175 178 rfl (zc_World_load 40 (m16.2.1 28 i17) (m16.1 24 1) m16 in_40 (ok_b h (fun p18 h => ?_)))
    refine ax_aload_n 0 d_Atlas_fill_178 rfl rfl 179 rfl ?_
    refine ax_iload 3 d_Atlas_fill_179 rfl 181 rfl ?_
    refine ax_aload_n 1 d_Atlas_fill_181 rfl rfl 182 rfl ?_
    refine ax_callV mv_Atlas_101 ⟨Nat.le_of_ble_eq_true rfl, Nat.le_of_ble_eq_true rfl⟩ ⟨rfl, rfl⟩ [.int v4, .ref v2] [.ref v2, .int v4, .ref 24] rfl rfl (rc_x_24 _) (Nat.le_of_ble_eq_true rfl) d_Atlas_fill_182 185 rfl (zc_Atlas_describe v4 v2 p18 hv2 (ok_b h (fun p19 h => ?_)))
    refine ax_aload_n 0 d_Atlas_fill_185 rfl rfl 186 rfl ?_
    refine ax_iload_n 2 d_Atlas_fill_186 rfl rfl 187 rfl ?_
    refine ax_aload_n 1 d_Atlas_fill_187 rfl rfl 188 rfl ?_
    refine ax_callV mv_Atlas_105 ⟨Nat.le_of_ble_eq_true rfl, Nat.le_of_ble_eq_true rfl⟩ ⟨rfl, rfl⟩ [.int v3, .ref v2] [.ref v2, .int v3, .ref 24] rfl rfl (rc_x_24 _) (Nat.le_of_ble_eq_true rfl) d_Atlas_fill_188 191 rfl (zc_Atlas_addMoves v3 v2 p19 hv2 (ok_b h (fun p20 h => ?_)))
    refine ax_istore_n (ls1 := [(3, .int p20.1), (0, .ref 24), (2, .ref v2), (4, .int v4)]) d_Atlas_fill_191 rfl (Nat.le_of_ble_eq_true rfl) rfl 192 rfl ?_
    refine ax_iinc (ls1 := [(4, .int (v4 + 1)), (3, .int p20.1), (0, .ref 24), (2, .ref v2)]) 3 1 d_Atlas_fill_192 rfl ic_1 (Nat.le_of_ble_eq_true rfl) rfl 195 rfl ?_
    refine ax_goto 143 d_Atlas_fill_195 rfl ?_
    exact ax_sub [2, 3, 1, 0] rfl (h0 (p20.1, (v4 + 1), p20.2) (ok_some h))
theorem c_Atlas_fill_L143 (v2 : Nat) (v3 : Int32) (v4 : Int32) (m : zM) (hv2 : v2 ∈ li_Table) {Q : Option Value → zM → Prop} {K : zM → Prop} (hR : ∀ p : zM, K (p) → Q none p)  (h : ok (f_Atlas_fill_L143 v2 v3 v4 m) K) : AX gX s_Atlas_fill 143 [(0, .ref 24), (2, .ref v2), (3, .int v3), (4, .int v4)] [] m Q :=
  ok_lp (K := K) (G := fun s : Int32 × Int32 × zM => AX gX s_Atlas_fill 143 [(0, .ref 24), (2, .ref v2), (3, .int s.1), (4, .int s.2.1)] [] s.2.2 Q) (fun s h => c_Atlas_fill_B143 v2 s.1 s.2.1 s.2.2 hv2 (fun p hp => hR p hp) (fun s hs => hs) h) FU (v3, v4, m) h
set_option maxRecDepth 4000 in
theorem c_Atlas_fill_J138 (v2 : Nat) (m : zM) (hv2 : v2 ∈ li_Table) {Q : Option Value → zM → Prop} {K : zM → Prop} (hR : ∀ p : zM, K (p) → Q none p)  (h : ok (f_Atlas_fill_J138 v2 m) K) : AX gX s_Atlas_fill 138 [(0, .ref 24), (2, .ref v2)] [] m Q := by
  unfold f_Atlas_fill_J138 at h
  refine ax_iconst 0 d_Atlas_fill_138 ic_0 139 rfl ?_
  refine ax_istore_n (ls1 := [(3, .int 0), (0, .ref 24), (2, .ref v2)]) d_Atlas_fill_139 rfl (Nat.le_of_ble_eq_true rfl) rfl 140 rfl ?_
  refine ax_iconst 0 d_Atlas_fill_140 ic_0 141 rfl ?_
  refine ax_istore (ls1 := [(4, .int 0), (3, .int 0), (0, .ref 24), (2, .ref v2)]) d_Atlas_fill_141 (Nat.le_of_ble_eq_true rfl) rfl 143 rfl ?_
  exact ax_sub [2, 3, 1, 0] rfl (c_Atlas_fill_L143 v2 0 0 m hv2 (fun p hp => hR p hp) h)
set_option maxRecDepth 4000 in
theorem c_Atlas_fill_J104 (v2 : Nat) (v3 : Int32) (v4 : Int32) (t0 : Nat) (t1 : Int32) (t2 : Int32) (m : zM) (hv2 : v2 ∈ li_Table) (ht0 : gX.1[t0]? = some (.inr (0, zlen gX t0))) {Q : Option Value → zM → Prop} {K : ((zM) ⊕ (Int32 × zM)) → Prop} (hR : ∀ p : zM, K (.inl p) → Q none p) (h0 : ∀ s : Int32 × zM, K (.inr s) → AX gX s_Atlas_fill 30 [(0, .ref 24), (1, .ref 7), (2, .ref v2), (3, .int s.1)] [] s.2 Q) (h : ok (f_Atlas_fill_J104 v2 v3 v4 t0 t1 t2 m) K) : AX gX s_Atlas_fill 104 [(0, .ref 24), (1, .ref 7), (2, .ref v2), (3, .int v3), (4, .int v4)] [.int t2, .int t1, .ref t0] m Q := by
  unfold f_Atlas_fill_J104 at h
  refine ax_iastore ht0 d_Atlas_fill_104 105 rfl h (fun i23 m24 h => ?_)
  refine ax_aload_n 0 d_Atlas_fill_105 rfl rfl 106 rfl ?_
  refine ax_getR fl_Atlas_36 x_24 rfl (rx_24_6 _) d_Atlas_fill_106 109 rfl ?_
  refine ax_iload_n 3 d_Atlas_fill_109 rfl rfl 110 rfl ?_
  refine ax_aload_n 1 d_Atlas_fill_110 rfl rfl 111 rfl ?_
  refine ax_getR fl_Atlas_93 x_7 rfl (rx_7_5 _) d_Atlas_fill_111 114 rfl ?_
  refine ax_iload 4 d_Atlas_fill_114 rfl 116 rfl ?_
  refine ax_iaload x_15 d_Atlas_fill_116 117 rfl h (fun i25 h => ?_)
  refine ax_iastore x_31 d_Atlas_fill_117 118 rfl h (fun i26 m27 h => ?_)
  refine ax_aload_n 0 d_Atlas_fill_118 rfl rfl 119 rfl ?_
  refine ax_getR fl_Atlas_21 x_24 rfl (rx_24_2 _) d_Atlas_fill_119 122 rfl ?_
  refine ax_aload_n 0 d_Atlas_fill_122 rfl rfl 123 rfl ?_
  refine ax_getR fl_Atlas_25 x_24 rfl (rx_24_3 _) d_Atlas_fill_123 126 rfl ?_
  refine ax_iload_n 3 d_Atlas_fill_126 rfl rfl 127 rfl ?_
  refine ax_laload x_28 d_Atlas_fill_127 128 rfl h (fun i28 h => ?_)
  refine ax_iload_n 3 d_Atlas_fill_128 rfl rfl 129 rfl ?_
  refine ax_callV mv_Atlas_94 ⟨Nat.le_of_ble_eq_true rfl, Nat.le_of_ble_eq_true rfl⟩ ⟨rfl, rfl⟩ [.long (m27.2.1 28 i28), .int v3] [.int v3, .long (m27.2.1 28 i28), .ref 25] rfl rfl (rc_Index in_25 _) (Nat.le_of_ble_eq_true rfl) d_Atlas_fill_129 132 rfl (zc_Index_put 25 (m27.2.1 28 i28) v3 m27 in_25 (ok_b h (fun p29 h => ?_)))
  refine ax_iinc (ls1 := [(3, .int (v3 + 1)), (0, .ref 24), (1, .ref 7), (2, .ref v2), (4, .int v4)]) 3 1 d_Atlas_fill_132 rfl ic_1 (Nat.le_of_ble_eq_true rfl) rfl 135 rfl ?_
  refine ax_goto 30 d_Atlas_fill_135 rfl ?_
  exact ax_sub [1, 2, 3, 0] rfl (h0 ((v3 + 1), p29) (ok_some h))
set_option maxRecDepth 4000 in
theorem c_Atlas_fill_B30 (v2 : Nat) (v3 : Int32) (m : zM) (hv2 : v2 ∈ li_Table) {Q : Option Value → zM → Prop} {K : ((zM) ⊕ (Int32 × zM)) → Prop} (hR : ∀ p : zM, K (.inl p) → Q none p) (h0 : ∀ s : Int32 × zM, K (.inr s) → AX gX s_Atlas_fill 30 [(0, .ref 24), (1, .ref 7), (2, .ref v2), (3, .int s.1)] [] s.2 Q) (h : ok (f_Atlas_fill_B30 v2 v3 m) K) : AX gX s_Atlas_fill 30 [(0, .ref 24), (1, .ref 7), (2, .ref v2), (3, .int v3)] [] m Q := by
  unfold f_Atlas_fill_B30 at h
  refine ax_iload_n 3 d_Atlas_fill_30 rfl rfl 31 rfl ?_
  refine ax_aload_n 0 d_Atlas_fill_31 rfl rfl 32 rfl ?_
  refine ax_getI fl_Atlas_9 x_24 rfl d_Atlas_fill_32 35 rfl ?_
  refine ax_icmp_ge 138 38 d_Atlas_fill_35 rfl rfl (fun hc => ?_) (fun hc => ?_)
  · have h := ok_t hc h
    exact ax_sub [0, 2] rfl (c_Atlas_fill_J138 v2 m hv2 (fun p hp => hR p hp) (ok_z h))
  · have h := ok_f hc h
    refine ax_aload_n 0 d_Atlas_fill_38 rfl rfl 39 rfl ?_
    refine ax_getR fl_Atlas_59 x_24 rfl (rx_24_13 _) d_Atlas_fill_39 42 rfl ?_
    refine ax_iload_n 3 d_Atlas_fill_42 rfl rfl 43 rfl ?_
    refine ax_iaload x_38 d_Atlas_fill_43 44 rfl h (fun i5 h => ?_)
    refine ax_istore (ls1 := [(4, .int (m.1 38 i5)), (0, .ref 24), (1, .ref 7), (2, .ref v2), (3, .int v3)]) d_Atlas_fill_44 (Nat.le_of_ble_eq_true rfl) rfl 46 rfl ?_
    refine ax_aload_n 1 d_Atlas_fill_46 rfl rfl 47 rfl ?_
    refine ax_getR fl_Atlas_25 x_24 rfl (rx_24_3 _) d_Atlas_fill_47 50 rfl ?_
    refine ax_iload_n 4 d_Atlas_fill_50 rfl rfl 51 rfl ?_
    refine ax_aload_n 2 d_Atlas_fill_51 rfl rfl 52 rfl ?_
    refine ax_getR fl_Atlas_88 x_7 rfl (rx_7_2 _) d_Atlas_fill_52 55 rfl ?_
    refine ax_iload 0 d_Atlas_fill_55 rfl 57 rfl ?_
    refine ax_laload x_12 d_Atlas_fill_57 58 rfl h (fun i6 h => ?_)
    refine ax_lastore x_28 d_Atlas_fill_58 59 rfl h (fun i7 m8 h => ?_)
    refine ax_aload_n 1 d_Atlas_fill_59 rfl rfl 60 rfl ?_
    refine ax_getR fl_Atlas_29 x_24 rfl (rx_24_4 _) d_Atlas_fill_60 63 rfl ?_
    refine ax_iload_n 4 d_Atlas_fill_63 rfl rfl 64 rfl ?_
    refine ax_aload_n 2 d_Atlas_fill_64 rfl rfl 65 rfl ?_
    refine ax_getR fl_Atlas_91 x_7 rfl (rx_7_3 _) d_Atlas_fill_65 68 rfl ?_
    refine ax_iload 0 d_Atlas_fill_68 rfl 70 rfl ?_
    refine ax_iaload x_13 d_Atlas_fill_70 71 rfl h (fun i9 h => ?_)
    refine ax_iastore x_29 d_Atlas_fill_71 72 rfl h (fun i10 m11 h => ?_)
    refine ax_aload_n 1 d_Atlas_fill_72 rfl rfl 73 rfl ?_
    refine ax_getR fl_Atlas_33 x_24 rfl (rx_24_5 _) d_Atlas_fill_73 76 rfl ?_
    refine ax_iload_n 4 d_Atlas_fill_76 rfl rfl 77 rfl ?_
    refine ax_aload_n 2 d_Atlas_fill_77 rfl rfl 78 rfl ?_
    refine ax_getR fl_Atlas_92 x_7 rfl (rx_7_4 _) d_Atlas_fill_78 81 rfl ?_
    refine ax_iload 0 d_Atlas_fill_81 rfl 83 rfl ?_
    refine ax_iaload x_14 d_Atlas_fill_83 84 rfl h (fun i12 h => ?_)
    refine ax_iconst (-1) d_Atlas_fill_84 ic_m1 85 rfl ?_
    refine ax_icmp_ne 92 88 d_Atlas_fill_85 rfl rfl (fun hc => ?_) (fun hc => ?_)
    · have h := ok_f hc h
      refine ax_aload_n 1 d_Atlas_fill_92 rfl rfl 93 rfl ?_
      refine ax_getR fl_Atlas_62 x_24 rfl (rx_24_14 _) d_Atlas_fill_93 96 rfl ?_
      refine ax_aload_n 2 d_Atlas_fill_96 rfl rfl 97 rfl ?_
      refine ax_getR fl_Atlas_92 x_7 rfl (rx_7_4 _) d_Atlas_fill_97 100 rfl ?_
      refine ax_iload 0 d_Atlas_fill_100 rfl 102 rfl ?_
      refine ax_iaload x_14 d_Atlas_fill_102 103 rfl h (fun i13 h => ?_)
      refine ax_iaload x_39 d_Atlas_fill_103 104 rfl h (fun i14 h => ?_)
      exact ax_sub [1, 2, 3, 4, 0] rfl (c_Atlas_fill_J104 v2 v3 (m.1 38 i5) 30 v3 (m11.1 39 i14) m11 hv2 x_30z (fun p hp => hR p hp) (fun s hs => h0 s hs) h)
    · have h := ok_t hc h
      refine ax_iconst (-1) d_Atlas_fill_88 ic_m1 89 rfl ?_
      refine ax_goto 104 d_Atlas_fill_89 rfl ?_
      exact ax_sub [1, 2, 3, 4, 0] rfl (c_Atlas_fill_J104 v2 v3 (m.1 38 i5) 30 v3 (-1) m11 hv2 x_30z (fun p hp => hR p hp) (fun s hs => h0 s hs) h)
theorem c_Atlas_fill_L30 (v2 : Nat) (v3 : Int32) (m : zM) (hv2 : v2 ∈ li_Table) {Q : Option Value → zM → Prop} {K : zM → Prop} (hR : ∀ p : zM, K (p) → Q none p)  (h : ok (f_Atlas_fill_L30 v2 v3 m) K) : AX gX s_Atlas_fill 30 [(0, .ref 24), (1, .ref 7), (2, .ref v2), (3, .int v3)] [] m Q :=
  ok_lp (K := K) (G := fun s : Int32 × zM => AX gX s_Atlas_fill 30 [(0, .ref 24), (1, .ref 7), (2, .ref v2), (3, .int s.1)] [] s.2 Q) (fun s h => c_Atlas_fill_B30 v2 s.1 s.2 hv2 (fun p hp => hR p hp) (fun s hs => hs) h) FU (v3, m) h
set_option maxRecDepth 4000 in
theorem zc_Atlas_fill (v2 : Nat) (m : zM) (hv2 : v2 ∈ li_Table) {Q : Option Value → zM → Prop} (h : ok (f_Atlas_fill v2 m) (fun p => Q none p)) : zc gX s_Atlas_fill [.ref 24, .ref 7, .ref v2] m Q := by
  refine zc_of rfl (Nat.le_of_ble_eq_true rfl) ?_
  show AX gX s_Atlas_fill 0 [(0, .ref 24), (1, .ref 7), (2, .ref v2)] [] m Q
  obtain ⟨K, hK⟩ : ∃ K : zM → Prop, K = (fun p : zM => Q none p) := ⟨_, rfl⟩
  have hR : ∀ p : zM, K p → Q none p := fun p hp => by rw [hK] at hp; exact hp
  replace h : ok (f_Atlas_fill v2 m) (fun p : zM => Q none p) := h
  rw [← hK] at h
  unfold f_Atlas_fill at h
  refine ax_aload_n 0 d_Atlas_fill_0 rfl rfl 1 rfl ?_
  refine ax_aload_n 1 d_Atlas_fill_1 rfl rfl 2 rfl ?_
  refine ax_getI fl_Atlas_75 x_7 rfl d_Atlas_fill_2 5 rfl ?_
  refine ax_putI (K := K) fl_Atlas_9 x_24 rfl rfl rfl (Nat.le_of_ble_eq_true rfl) d_Atlas_fill_5 8 rfl h (fun m1 h => ?_)
  refine ax_aload_n 0 d_Atlas_fill_8 rfl rfl 9 rfl ?_
  refine ax_aload_n 2 d_Atlas_fill_9 rfl rfl 10 rfl ?_
  refine ax_getI fl_Atlas_78 (sx_Table hv2) rfl d_Atlas_fill_10 13 rfl ?_
  refine ax_putI (K := K) fl_Atlas_15 x_24 rfl rfl rfl (Nat.le_of_ble_eq_true rfl) d_Atlas_fill_13 16 rfl h (fun m2 h => ?_)
  refine ax_aload_n 0 d_Atlas_fill_16 rfl rfl 17 rfl ?_
  refine ax_getR fl_Atlas_21 x_24 rfl (rx_24_2 _) d_Atlas_fill_17 20 rfl ?_
  refine ax_callV mv_Atlas_81 ⟨Nat.le_of_ble_eq_true rfl, Nat.le_of_ble_eq_true rfl⟩ ⟨rfl, rfl⟩ [] [.ref 25] rfl rfl (rc_Index in_25 _) (Nat.le_of_ble_eq_true rfl) d_Atlas_fill_20 23 rfl (zc_Index_clear 25 m2 in_25 (ok_b h (fun p3 h => ?_)))
  refine ax_aload_n 0 d_Atlas_fill_23 rfl rfl 24 rfl ?_
  refine ax_aload_n 1 d_Atlas_fill_24 rfl rfl 25 rfl ?_
  refine ax_callV mv_Atlas_84 ⟨Nat.le_of_ble_eq_true rfl, Nat.le_of_ble_eq_true rfl⟩ ⟨rfl, rfl⟩ [.ref 7] [.ref 7, .ref 24] rfl rfl (rc_x_24 _) (Nat.le_of_ble_eq_true rfl) d_Atlas_fill_25 28 rfl (zc_Atlas_sort p3 (ok_b h (fun p4 h => ?_)))
  refine ax_iconst 0 d_Atlas_fill_28 ic_0 29 rfl ?_
  refine ax_istore_n (ls1 := [(3, .int 0), (0, .ref 24), (1, .ref 7), (2, .ref v2)]) d_Atlas_fill_29 rfl (Nat.le_of_ble_eq_true rfl) rfl 30 rfl ?_
  exact ax_sub [1, 2, 3, 0] rfl (c_Atlas_fill_L30 v2 0 p4 hv2 (fun p hp => hR p hp) h)
set_option maxRecDepth 4000 in
theorem zc_Joined_isAvoided (v1 : Int32) (m : zM)  {Q : Option Value → zM → Prop} (h : ok (f_Joined_isAvoided v1 m) (fun p => Q (some (.int (b2i p))) m)) : zc gX s_Joined_isAvoided [.ref 129, .int v1] m Q := by
  refine zc_of rfl (Nat.le_of_ble_eq_true rfl) ?_
  show AX gX s_Joined_isAvoided 0 [(0, .ref 129), (1, .int v1)] [] m Q
  obtain ⟨K, hK⟩ : ∃ K : Bool → Prop, K = (fun p : Bool => Q (some (.int (b2i p))) m) := ⟨_, rfl⟩
  have hR : ∀ p : Bool, K p → Q (some (.int (b2i p))) m := fun p hp => by rw [hK] at hp; exact hp
  replace h : ok (f_Joined_isAvoided v1 m) (fun p : Bool => Q (some (.int (b2i p))) m) := h
  rw [← hK] at h
  unfold f_Joined_isAvoided at h
  refine ax_aload_n 0 d_Joined_isAvoided_0 rfl rfl 1 rfl ?_
  refine ax_getI fl_Joined_19 x_129 rfl d_Joined_isAvoided_1 4 rfl ?_
  refine ax_iconst (-1) d_Joined_isAvoided_4 ic_m1 5 rfl ?_
  refine ax_icmp_eq 32 8 d_Joined_isAvoided_5 rfl rfl (fun hc => ?_) (fun hc => ?_)
  · have h := ok_t hc h
    refine ax_iconst 0 d_Joined_isAvoided_32 ic_0 33 rfl ?_
    exact ax_zret (b := false) rfl d_Joined_isAvoided_33 (hR false (ok_some h))
  · have h := ok_f hc h
    refine ax_aload_n 0 d_Joined_isAvoided_8 rfl rfl 9 rfl ?_
    refine ax_getR fl_Joined_59 x_129 rfl (rx_129_0 _) d_Joined_isAvoided_9 12 rfl ?_
    refine ax_getR fl_Joined_91 x_24 rfl (rx_24_9 _) d_Joined_isAvoided_12 15 rfl ?_
    refine ax_iload_n 1 d_Joined_isAvoided_15 rfl rfl 16 rfl ?_
    refine ax_iaload x_34 d_Joined_isAvoided_16 17 rfl h (fun i1 h => ?_)
    refine ax_sipush 343 d_Joined_isAvoided_17 sp_343 20 rfl ?_
    refine ax_idiv d_Joined_isAvoided_20 (by decide) 21 rfl ?_
    refine ax_aload_n 0 d_Joined_isAvoided_21 rfl rfl 22 rfl ?_
    refine ax_getI fl_Joined_19 x_129 rfl d_Joined_isAvoided_22 25 rfl ?_
    refine ax_icmp_ne 32 28 d_Joined_isAvoided_25 rfl rfl (fun hc => ?_) (fun hc => ?_)
    · have h := ok_f hc h
      refine ax_iconst 0 d_Joined_isAvoided_32 ic_0 33 rfl ?_
      exact ax_zret (b := false) rfl d_Joined_isAvoided_33 (hR false (ok_some h))
    · have h := ok_t hc h
      refine ax_iconst 1 d_Joined_isAvoided_28 ic_1 29 rfl ?_
      refine ax_goto 33 d_Joined_isAvoided_29 rfl ?_
      exact ax_zret (b := true) rfl d_Joined_isAvoided_33 (hR true (ok_some h))
set_option maxRecDepth 4000 in
theorem zc_Joined_isNode (v1 : Int32) (m : zM)  {Q : Option Value → zM → Prop} (h : ok (f_Joined_isNode v1 m) (fun p => Q (some (.int (b2i p))) m)) : zc gX s_Joined_isNode [.ref 129, .int v1] m Q := by
  refine zc_of rfl (Nat.le_of_ble_eq_true rfl) ?_
  show AX gX s_Joined_isNode 0 [(0, .ref 129), (1, .int v1)] [] m Q
  obtain ⟨K, hK⟩ : ∃ K : Bool → Prop, K = (fun p : Bool => Q (some (.int (b2i p))) m) := ⟨_, rfl⟩
  have hR : ∀ p : Bool, K p → Q (some (.int (b2i p))) m := fun p hp => by rw [hK] at hp; exact hp
  replace h : ok (f_Joined_isNode v1 m) (fun p : Bool => Q (some (.int (b2i p))) m) := h
  rw [← hK] at h
  unfold f_Joined_isNode at h
  refine ax_iload_n 1 d_Joined_isNode_0 rfl rfl 1 rfl ?_
  refine ax_iconst 4 d_Joined_isNode_1 ic_4 2 rfl ?_
  refine ax_irem d_Joined_isNode_2 (by decide) 3 rfl ?_
  refine ax_istore_n (ls1 := [(2, .int (ir v1 4)), (0, .ref 129), (1, .int v1)]) d_Joined_isNode_3 rfl (Nat.le_of_ble_eq_true rfl) rfl 4 rfl ?_
  refine ax_aload_n 1 d_Joined_isNode_4 rfl rfl 5 rfl ?_
  refine ax_getI fl_Joined_9 x_129 rfl d_Joined_isNode_5 8 rfl ?_
  refine ax_if_ne 21 11 d_Joined_isNode_8 rfl rfl (fun hc => ?_) (fun hc => ?_)
  · have h := ok_f hc h
    refine ax_iload_n 0 d_Joined_isNode_21 rfl rfl 22 rfl ?_
    refine ax_aload_n 1 d_Joined_isNode_22 rfl rfl 23 rfl ?_
    refine ax_getR fl_Joined_59 x_129 rfl (rx_129_0 _) d_Joined_isNode_23 26 rfl ?_
    refine ax_getI fl_Joined_82 x_24 rfl d_Joined_isNode_26 29 rfl ?_
    refine ax_icmp_ge 57 32 d_Joined_isNode_29 rfl rfl (fun hc => ?_) (fun hc => ?_)
    · have h := ok_t hc h
      refine ax_iconst 0 d_Joined_isNode_57 ic_0 58 rfl ?_
      exact ax_zret (b := false) rfl d_Joined_isNode_58 (hR false (ok_some h))
    · have h := ok_f hc h
      refine ax_aload_n 1 d_Joined_isNode_32 rfl rfl 33 rfl ?_
      refine ax_getR fl_Joined_59 x_129 rfl (rx_129_0 _) d_Joined_isNode_33 36 rfl ?_
      refine ax_getR fl_Joined_85 x_24 rfl (rx_24_10 _) d_Joined_isNode_36 39 rfl ?_
      refine ax_iload_n 2 d_Joined_isNode_39 rfl rfl 40 rfl ?_
      refine ax_iaload x_35 d_Joined_isNode_40 41 rfl h (fun i1 h => ?_)
      refine ax_iload_n 0 d_Joined_isNode_41 rfl rfl 42 rfl ?_
      refine ax_icmp_ne 57 45 d_Joined_isNode_42 rfl rfl (fun hc => ?_) (fun hc => ?_)
      · have h := ok_f hc h
        refine ax_iconst 0 d_Joined_isNode_57 ic_0 58 rfl ?_
        exact ax_zret (b := false) rfl d_Joined_isNode_58 (hR false (ok_some h))
      · have h := ok_t hc h
        refine ax_aload_n 1 d_Joined_isNode_45 rfl rfl 46 rfl ?_
        refine ax_iload_n 2 d_Joined_isNode_46 rfl rfl 47 rfl ?_
        refine ax_callV mv_Joined_88 ⟨Nat.le_of_ble_eq_true rfl, Nat.le_of_ble_eq_true rfl⟩ ⟨rfl, rfl⟩ [.int v1] [.int v1, .ref 129] rfl rfl (rc_x_129 _) (Nat.le_of_ble_eq_true rfl) d_Joined_isNode_47 50 rfl (zc_Joined_isAvoided v1 m (ok_b h (fun r2 h => ?_)))
        refine ax_ifb_ne 57 53 d_Joined_isNode_50 rfl rfl (fun hc => ?_) (fun hc => ?_)
        · have h := ok_t hc h
          refine ax_iconst 0 d_Joined_isNode_57 ic_0 58 rfl ?_
          exact ax_zret (b := false) rfl d_Joined_isNode_58 (hR false (ok_some h))
        · have h := ok_f (bf hc) h
          refine ax_iconst 1 d_Joined_isNode_53 ic_1 54 rfl ?_
          refine ax_goto 58 d_Joined_isNode_54 rfl ?_
          exact ax_zret (b := true) rfl d_Joined_isNode_58 (hR true (ok_some h))
  · have h := ok_t hc h
    refine ax_iload_n 0 d_Joined_isNode_11 rfl rfl 12 rfl ?_
    refine ax_if_ne 19 15 d_Joined_isNode_12 rfl rfl (fun hc => ?_) (fun hc => ?_)
    · have h := ok_f hc h
      refine ax_iconst 0 d_Joined_isNode_19 ic_0 20 rfl ?_
      exact ax_zret (b := false) rfl d_Joined_isNode_20 (hR false (ok_some h))
    · have h := ok_t hc h
      refine ax_iconst 1 d_Joined_isNode_15 ic_1 16 rfl ?_
      refine ax_goto 20 d_Joined_isNode_16 rfl ?_
      exact ax_zret (b := true) rfl d_Joined_isNode_20 (hR true (ok_some h))
set_option maxRecDepth 4000 in
theorem zc_Joined_enter (v1 : Int32) (m : zM)  {Q : Option Value → zM → Prop} (h : ok (f_Joined_enter v1 m) (fun p => Q none p)) : zc gX s_Joined_enter [.ref 129, .int v1] m Q := by
  refine zc_of rfl (Nat.le_of_ble_eq_true rfl) ?_
  show AX gX s_Joined_enter 0 [(0, .ref 129), (1, .int v1)] [] m Q
  obtain ⟨K, hK⟩ : ∃ K : zM → Prop, K = (fun p : zM => Q none p) := ⟨_, rfl⟩
  have hR : ∀ p : zM, K p → Q none p := fun p hp => by rw [hK] at hp; exact hp
  replace h : ok (f_Joined_enter v1 m) (fun p : zM => Q none p) := h
  rw [← hK] at h
  unfold f_Joined_enter at h
  refine ax_aload_n 0 d_Joined_enter_0 rfl rfl 1 rfl ?_
  refine ax_getR fl_Joined_35 x_129 rfl (rx_129_8 _) d_Joined_enter_1 4 rfl ?_
  refine ax_iload_n 1 d_Joined_enter_4 rfl rfl 5 rfl ?_
  refine ax_aload_n 0 d_Joined_enter_5 rfl rfl 6 rfl ?_
  refine ax_getI fl_Joined_50 x_129 rfl d_Joined_enter_6 9 rfl ?_
  refine ax_iastore x_133 d_Joined_enter_9 10 rfl h (fun i1 m2 h => ?_)
  refine ax_aload_n 0 d_Joined_enter_10 rfl rfl 11 rfl ?_
  refine ax_getR fl_Joined_38 x_129 rfl (rx_129_9 _) d_Joined_enter_11 14 rfl ?_
  refine ax_iload_n 1 d_Joined_enter_14 rfl rfl 15 rfl ?_
  refine ax_aload_n 0 d_Joined_enter_15 rfl rfl 16 rfl ?_
  refine ax_getI fl_Joined_50 x_129 rfl d_Joined_enter_16 19 rfl ?_
  refine ax_iastore x_134 d_Joined_enter_19 20 rfl h (fun i3 m4 h => ?_)
  refine ax_aload_n 0 d_Joined_enter_20 rfl rfl 21 rfl ?_
  refine ax_dup d_Joined_enter_21 rfl 22 rfl ?_
  refine ax_getI fl_Joined_50 x_129 rfl d_Joined_enter_22 25 rfl ?_
  refine ax_iconst 1 d_Joined_enter_25 ic_1 26 rfl ?_
  refine ax_iadd d_Joined_enter_26 27 rfl ?_
  refine ax_putI (K := K) fl_Joined_50 x_129 rfl rfl rfl (Nat.le_of_ble_eq_true rfl) d_Joined_enter_27 30 rfl h (fun m5 h => ?_)
  refine ax_aload_n 0 d_Joined_enter_30 rfl rfl 31 rfl ?_
  refine ax_getR fl_Joined_41 x_129 rfl (rx_129_10 _) d_Joined_enter_31 34 rfl ?_
  refine ax_iload_n 1 d_Joined_enter_34 rfl rfl 35 rfl ?_
  refine ax_aload_n 0 d_Joined_enter_35 rfl rfl 36 rfl ?_
  refine ax_getR fl_Joined_59 x_129 rfl (rx_129_0 _) d_Joined_enter_36 39 rfl ?_
  refine ax_getR fl_Joined_109 x_24 rfl (rx_24_11 _) d_Joined_enter_39 42 rfl ?_
  refine ax_iload_n 1 d_Joined_enter_42 rfl rfl 43 rfl ?_
  refine ax_iconst 4 d_Joined_enter_43 ic_4 44 rfl ?_
  refine ax_idiv d_Joined_enter_44 (by decide) 45 rfl ?_
  refine ax_iaload x_36 d_Joined_enter_45 46 rfl h (fun i6 h => ?_)
  refine ax_iastore x_135 d_Joined_enter_46 47 rfl h (fun i7 m8 h => ?_)
  refine ax_aload_n 0 d_Joined_enter_47 rfl rfl 48 rfl ?_
  refine ax_getR fl_Joined_44 x_129 rfl (rx_129_11 _) d_Joined_enter_48 51 rfl ?_
  refine ax_aload_n 0 d_Joined_enter_51 rfl rfl 52 rfl ?_
  refine ax_getI fl_Joined_53 x_129 rfl d_Joined_enter_52 55 rfl ?_
  refine ax_iload_n 1 d_Joined_enter_55 rfl rfl 56 rfl ?_
  refine ax_iastore x_136 d_Joined_enter_56 57 rfl h (fun i9 m10 h => ?_)
  refine ax_aload_n 0 d_Joined_enter_57 rfl rfl 58 rfl ?_
  refine ax_dup d_Joined_enter_58 rfl 59 rfl ?_
  refine ax_getI fl_Joined_53 x_129 rfl d_Joined_enter_59 62 rfl ?_
  refine ax_iconst 1 d_Joined_enter_62 ic_1 63 rfl ?_
  refine ax_iadd d_Joined_enter_63 64 rfl ?_
  refine ax_putI (K := K) fl_Joined_53 x_129 rfl rfl rfl (Nat.le_of_ble_eq_true rfl) d_Joined_enter_64 67 rfl h (fun m11 h => ?_)
  refine ax_aload_n 0 d_Joined_enter_67 rfl rfl 68 rfl ?_
  refine ax_getR fl_Joined_47 x_129 rfl (rx_129_12 _) d_Joined_enter_68 71 rfl ?_
  refine ax_aload_n 0 d_Joined_enter_71 rfl rfl 72 rfl ?_
  refine ax_getI fl_Joined_56 x_129 rfl d_Joined_enter_72 75 rfl ?_
  refine ax_iload_n 1 d_Joined_enter_75 rfl rfl 76 rfl ?_
  refine ax_iastore x_137 d_Joined_enter_76 77 rfl h (fun i12 m13 h => ?_)
  refine ax_aload_n 0 d_Joined_enter_77 rfl rfl 78 rfl ?_
  refine ax_dup d_Joined_enter_78 rfl 79 rfl ?_
  refine ax_getI fl_Joined_56 x_129 rfl d_Joined_enter_79 82 rfl ?_
  refine ax_iconst 1 d_Joined_enter_82 ic_1 83 rfl ?_
  refine ax_iadd d_Joined_enter_83 84 rfl ?_
  refine ax_putI (K := K) fl_Joined_56 x_129 rfl rfl rfl (Nat.le_of_ble_eq_true rfl) d_Joined_enter_84 87 rfl h (fun m14 h => ?_)
  exact ax_vret rfl d_Joined_enter_87 (hR m14 (ok_some h))
set_option maxRecDepth 4000 in
theorem zc_Atlas_by (v1 : Int32) (m : zM)  {Q : Option Value → zM → Prop} (h : ok (f_Atlas_by v1 m) (fun p => Q (some (.int p)) m)) : zc gX s_Atlas_by [.ref 24, .int v1] m Q := by
  refine zc_of rfl (Nat.le_of_ble_eq_true rfl) ?_
  show AX gX s_Atlas_by 0 [(0, .ref 24), (1, .int v1)] [] m Q
  obtain ⟨K, hK⟩ : ∃ K : Int32 → Prop, K = (fun p : Int32 => Q (some (.int p)) m) := ⟨_, rfl⟩
  have hR : ∀ p : Int32, K p → Q (some (.int p)) m := fun p hp => by rw [hK] at hp; exact hp
  replace h : ok (f_Atlas_by v1 m) (fun p : Int32 => Q (some (.int p)) m) := h
  rw [← hK] at h
  unfold f_Atlas_by at h
  refine ax_aload_n 0 d_Atlas_by_0 rfl rfl 1 rfl ?_
  refine ax_getR fl_Atlas_56 x_24 rfl (rx_24_12 _) d_Atlas_by_1 4 rfl ?_
  refine ax_iload_n 1 d_Atlas_by_4 rfl rfl 5 rfl ?_
  refine ax_iaload x_37 d_Atlas_by_5 6 rfl h (fun i1 h => ?_)
  refine ax_bipush 10 d_Atlas_by_6 bp_10 8 rfl ?_
  refine ax_ishr d_Atlas_by_8 9 rfl ?_
  refine ax_bipush 15 d_Atlas_by_9 bp_15 11 rfl ?_
  refine ax_iand d_Atlas_by_11 12 rfl ?_
  exact ax_iret rfl d_Atlas_by_12 (hR ((shr (m.1 37 i1) 10) &&& 15) (ok_some h))
set_option maxRecDepth 4000 in
theorem zc_Atlas_target (v1 : Int32) (m : zM)  {Q : Option Value → zM → Prop} (h : ok (f_Atlas_target v1 m) (fun p => Q (some (.int p)) m)) : zc gX s_Atlas_target [.ref 24, .int v1] m Q := by
  refine zc_of rfl (Nat.le_of_ble_eq_true rfl) ?_
  show AX gX s_Atlas_target 0 [(0, .ref 24), (1, .int v1)] [] m Q
  obtain ⟨K, hK⟩ : ∃ K : Int32 → Prop, K = (fun p : Int32 => Q (some (.int p)) m) := ⟨_, rfl⟩
  have hR : ∀ p : Int32, K p → Q (some (.int p)) m := fun p hp => by rw [hK] at hp; exact hp
  replace h : ok (f_Atlas_target v1 m) (fun p : Int32 => Q (some (.int p)) m) := h
  rw [← hK] at h
  unfold f_Atlas_target at h
  refine ax_aload_n 0 d_Atlas_target_0 rfl rfl 1 rfl ?_
  refine ax_getR fl_Atlas_56 x_24 rfl (rx_24_12 _) d_Atlas_target_1 4 rfl ?_
  refine ax_iload_n 1 d_Atlas_target_4 rfl rfl 5 rfl ?_
  refine ax_iaload x_37 d_Atlas_target_5 6 rfl h (fun i1 h => ?_)
  refine ax_bipush 14 d_Atlas_target_6 bp_14 8 rfl ?_
  refine ax_ishr d_Atlas_target_8 9 rfl ?_
  exact ax_iret rfl d_Atlas_target_9 (hR (shr (m.1 37 i1) 14) (ok_some h))
set_option maxRecDepth 4000 in
theorem zc_Atlas_put (v1 : Int32) (v2 : Int32) (m : zM)  {Q : Option Value → zM → Prop} (h : ok (f_Atlas_put v1 v2 m) (fun p => Q (some (.int p)) m)) : zc gX s_Atlas_put [.ref 24, .int v1, .int v2] m Q := by
  refine zc_of rfl (Nat.le_of_ble_eq_true rfl) ?_
  show AX gX s_Atlas_put 0 [(0, .ref 24), (1, .int v1), (2, .int v2)] [] m Q
  obtain ⟨K, hK⟩ : ∃ K : Int32 → Prop, K = (fun p : Int32 => Q (some (.int p)) m) := ⟨_, rfl⟩
  have hR : ∀ p : Int32, K p → Q (some (.int p)) m := fun p hp => by rw [hK] at hp; exact hp
  replace h : ok (f_Atlas_put v1 v2 m) (fun p : Int32 => Q (some (.int p)) m) := h
  rw [← hK] at h
  unfold f_Atlas_put at h
  refine ax_aload_n 0 d_Atlas_put_0 rfl rfl 1 rfl ?_
  refine ax_getR fl_Atlas_56 x_24 rfl (rx_24_12 _) d_Atlas_put_1 4 rfl ?_
  refine ax_iload_n 1 d_Atlas_put_4 rfl rfl 5 rfl ?_
  refine ax_iaload x_37 d_Atlas_put_5 6 rfl h (fun i1 h => ?_)
  refine ax_iconst 2 d_Atlas_put_6 ic_2 7 rfl ?_
  refine ax_iload_n 2 d_Atlas_put_7 rfl rfl 8 rfl ?_
  refine ax_imul d_Atlas_put_8 9 rfl ?_
  refine ax_ishr d_Atlas_put_9 10 rfl ?_
  refine ax_iconst 3 d_Atlas_put_10 ic_3 11 rfl ?_
  refine ax_iand d_Atlas_put_11 12 rfl ?_
  exact ax_iret rfl d_Atlas_put_12 (hR ((shr (m.1 37 i1) (2 * v2)) &&& 3) (ok_some h))
set_option maxRecDepth 4000 in
theorem zc_Joined_next (v1 : Int32) (v2 : Int32) (m : zM)  {Q : Option Value → zM → Prop} (h : ok (f_Joined_next v1 v2 m) (fun p => Q (some (.int p)) m)) : zc gX s_Joined_next [.ref 129, .int v1, .int v2] m Q := by
  refine zc_of rfl (Nat.le_of_ble_eq_true rfl) ?_
  show AX gX s_Joined_next 0 [(0, .ref 129), (1, .int v1), (2, .int v2)] [] m Q
  obtain ⟨K, hK⟩ : ∃ K : Int32 → Prop, K = (fun p : Int32 => Q (some (.int p)) m) := ⟨_, rfl⟩
  have hR : ∀ p : Int32, K p → Q (some (.int p)) m := fun p hp => by rw [hK] at hp; exact hp
  replace h : ok (f_Joined_next v1 v2 m) (fun p : Int32 => Q (some (.int p)) m) := h
  rw [← hK] at h
  unfold f_Joined_next at h
  refine ax_aload_n 0 d_Joined_next_0 rfl rfl 1 rfl ?_
  refine ax_getR fl_Joined_59 x_129 rfl (rx_129_0 _) d_Joined_next_1 4 rfl ?_
  refine ax_iload_n 2 d_Joined_next_4 rfl rfl 5 rfl ?_
  refine ax_callV mv_Joined_94 ⟨Nat.le_of_ble_eq_true rfl, Nat.le_of_ble_eq_true rfl⟩ ⟨rfl, rfl⟩ [.int v2] [.int v2, .ref 24] rfl rfl (rc_x_24 _) (Nat.le_of_ble_eq_true rfl) d_Joined_next_5 8 rfl (zc_Atlas_by v2 m (ok_b h (fun r1 h => ?_)))
  refine ax_aload_n 0 d_Joined_next_8 rfl rfl 9 rfl ?_
  refine ax_getI fl_Joined_15 x_129 rfl d_Joined_next_9 12 rfl ?_
  refine ax_icmp_ne 17 15 d_Joined_next_12 rfl rfl (fun hc => ?_) (fun hc => ?_)
  · have h := ok_f hc h
    refine ax_aload_n 0 d_Joined_next_17 rfl rfl 18 rfl ?_
    refine ax_getR fl_Joined_59 x_129 rfl (rx_129_0 _) d_Joined_next_18 21 rfl ?_
    refine ax_iload_n 2 d_Joined_next_21 rfl rfl 22 rfl ?_
    refine ax_callV mv_Joined_98 ⟨Nat.le_of_ble_eq_true rfl, Nat.le_of_ble_eq_true rfl⟩ ⟨rfl, rfl⟩ [.int v2] [.int v2, .ref 24] rfl rfl (rc_x_24 _) (Nat.le_of_ble_eq_true rfl) d_Joined_next_22 25 rfl (zc_Atlas_target v2 m (ok_b h (fun r2 h => ?_)))
    refine ax_iconst 4 d_Joined_next_25 ic_4 26 rfl ?_
    refine ax_imul d_Joined_next_26 27 rfl ?_
    refine ax_istore_n (ls1 := [(3, .int (r2 * 4)), (0, .ref 129), (1, .int v1), (2, .int v2)]) d_Joined_next_27 rfl (Nat.le_of_ble_eq_true rfl) rfl 28 rfl ?_
    refine ax_aload_n 1 d_Joined_next_28 rfl rfl 29 rfl ?_
    refine ax_getI fl_Joined_9 x_129 rfl d_Joined_next_29 32 rfl ?_
    refine ax_if_ne 37 35 d_Joined_next_32 rfl rfl (fun hc => ?_) (fun hc => ?_)
    · have h := ok_f hc h
      refine ax_iload_n 0 d_Joined_next_37 rfl rfl 38 rfl ?_
      refine ax_aload_n 1 d_Joined_next_38 rfl rfl 39 rfl ?_
      refine ax_getR fl_Joined_59 x_129 rfl (rx_129_0 _) d_Joined_next_39 42 rfl ?_
      refine ax_getR fl_Joined_85 x_24 rfl (rx_24_10 _) d_Joined_next_42 45 rfl ?_
      refine ax_iload_n 0 d_Joined_next_45 rfl rfl 46 rfl ?_
      refine ax_aload_n 1 d_Joined_next_46 rfl rfl 47 rfl ?_
      refine ax_getR fl_Joined_59 x_129 rfl (rx_129_0 _) d_Joined_next_47 50 rfl ?_
      refine ax_iload_n 3 d_Joined_next_50 rfl rfl 51 rfl ?_
      refine ax_iload_n 2 d_Joined_next_51 rfl rfl 52 rfl ?_
      refine ax_iconst 4 d_Joined_next_52 ic_4 53 rfl ?_
      refine ax_irem d_Joined_next_53 (by decide) 54 rfl ?_
      refine ax_callV mv_Joined_101 ⟨Nat.le_of_ble_eq_true rfl, Nat.le_of_ble_eq_true rfl⟩ ⟨rfl, rfl⟩ [.int v2, .int (ir v1 4)] [.int (ir v1 4), .int v2, .ref 24, .int (r2 * 4), .ref 35, .int (r2 * 4)] rfl rfl (rc_x_24 _) (Nat.le_of_ble_eq_true rfl) d_Joined_next_54 57 rfl (zc_Atlas_put v2 (ir v1 4) m (ok_b h (fun r3 h => ?_)))
      refine ax_iadd d_Joined_next_57 58 rfl ?_
      refine ax_iaload x_35 d_Joined_next_58 59 rfl h (fun i4 h => ?_)
      refine ax_iadd d_Joined_next_59 60 rfl ?_
      refine ax_istore_n (ls1 := [(3, .int ((r2 * 4) + (m.1 35 i4))), (0, .ref 129), (1, .int v1), (2, .int v2)]) d_Joined_next_60 rfl (Nat.le_of_ble_eq_true rfl) rfl 61 rfl ?_
      refine ax_aload_n 1 d_Joined_next_61 rfl rfl 62 rfl ?_
      refine ax_iload_n 0 d_Joined_next_62 rfl rfl 63 rfl ?_
      refine ax_callV mv_Joined_88 ⟨Nat.le_of_ble_eq_true rfl, Nat.le_of_ble_eq_true rfl⟩ ⟨rfl, rfl⟩ [.int ((r2 * 4) + (m.1 35 i4))] [.int ((r2 * 4) + (m.1 35 i4)), .ref 129] rfl rfl (rc_x_129 _) (Nat.le_of_ble_eq_true rfl) d_Joined_next_63 66 rfl (zc_Joined_isAvoided ((r2 * 4) + (m.1 35 i4)) m (ok_b h (fun r5 h => ?_)))
      refine ax_ifb_eq 73 69 d_Joined_next_66 rfl rfl (fun hc => ?_) (fun hc => ?_)
      · have h := ok_f (bf hc) h
        refine ax_iload_n 0 d_Joined_next_73 rfl rfl 74 rfl ?_
        exact ax_iret rfl d_Joined_next_74 (hR ((r2 * 4) + (m.1 35 i4)) (ok_some h))
      · have h := ok_t hc h
        refine ax_iconst (-1) d_Joined_next_69 ic_m1 70 rfl ?_
        refine ax_goto 74 d_Joined_next_70 rfl ?_
        exact ax_iret rfl d_Joined_next_74 (hR (-1) (ok_some h))
    · have h := ok_t hc h
      refine ax_iload_n 0 d_Joined_next_35 rfl rfl 36 rfl ?_
      exact ax_iret rfl d_Joined_next_36 (hR (r2 * 4) (ok_some h))
  · have h := ok_t hc h
    refine ax_iconst (-1) d_Joined_next_15 ic_m1 16 rfl ?_
    exact ax_iret rfl d_Joined_next_16 (hR (-1) (ok_some h))
set_option maxRecDepth 4000 in
theorem zc_Joined_follow (v1 : Int32) (v2 : Int32) (m : zM)  {Q : Option Value → zM → Prop} (h : ok (f_Joined_follow v1 v2 m) (fun p => Q none p)) : zc gX s_Joined_follow [.ref 129, .int v1, .int v2] m Q := by
  refine zc_of rfl (Nat.le_of_ble_eq_true rfl) ?_
  show AX gX s_Joined_follow 0 [(0, .ref 129), (1, .int v1), (2, .int v2)] [] m Q
  obtain ⟨K, hK⟩ : ∃ K : zM → Prop, K = (fun p : zM => Q none p) := ⟨_, rfl⟩
  have hR : ∀ p : zM, K p → Q none p := fun p hp => by rw [hK] at hp; exact hp
  replace h : ok (f_Joined_follow v1 v2 m) (fun p : zM => Q none p) := h
  rw [← hK] at h
  unfold f_Joined_follow at h
  refine ax_iload_n 2 d_Joined_follow_0 rfl rfl 1 rfl ?_
  refine ax_iconst (-1) d_Joined_follow_1 ic_m1 2 rfl ?_
  refine ax_icmp_ne 6 5 d_Joined_follow_2 rfl rfl (fun hc => ?_) (fun hc => ?_)
  · have h := ok_f hc h
    refine ax_aload_n 0 d_Joined_follow_6 rfl rfl 7 rfl ?_
    refine ax_getR fl_Joined_35 x_129 rfl (rx_129_8 _) d_Joined_follow_7 10 rfl ?_
    refine ax_iload_n 2 d_Joined_follow_10 rfl rfl 11 rfl ?_
    refine ax_iaload x_133 d_Joined_follow_11 12 rfl h (fun i1 h => ?_)
    refine ax_iconst (-1) d_Joined_follow_12 ic_m1 13 rfl ?_
    refine ax_icmp_ne 24 16 d_Joined_follow_13 rfl rfl (fun hc => ?_) (fun hc => ?_)
    · have h := ok_f hc h
      refine ax_aload_n 0 d_Joined_follow_24 rfl rfl 25 rfl ?_
      refine ax_getR fl_Joined_25 x_129 rfl (rx_129_5 _) d_Joined_follow_25 28 rfl ?_
      refine ax_iload_n 2 d_Joined_follow_28 rfl rfl 29 rfl ?_
      refine ax_iaload x_130 d_Joined_follow_29 30 rfl h (fun i2 h => ?_)
      refine ax_iconst (-1) d_Joined_follow_30 ic_m1 31 rfl ?_
      refine ax_icmp_ne 55 34 d_Joined_follow_31 rfl rfl (fun hc => ?_) (fun hc => ?_)
      · have h := ok_f hc h
        exact ax_vret rfl d_Joined_follow_55 (hR m (ok_some h))
      · have h := ok_t hc h
        refine ax_aload_n 0 d_Joined_follow_34 rfl rfl 35 rfl ?_
        refine ax_getR fl_Joined_38 x_129 rfl (rx_129_9 _) d_Joined_follow_35 38 rfl ?_
        refine ax_iload_n 1 d_Joined_follow_38 rfl rfl 39 rfl ?_
        refine ax_aload_n 0 d_Joined_follow_39 rfl rfl 40 rfl ?_
        refine ax_getR fl_Joined_38 x_129 rfl (rx_129_9 _) d_Joined_follow_40 43 rfl ?_
        refine ax_iload_n 1 d_Joined_follow_43 rfl rfl 44 rfl ?_
        refine ax_iaload x_134 d_Joined_follow_44 45 rfl h (fun i3 h => ?_)
        refine ax_aload_n 0 d_Joined_follow_45 rfl rfl 46 rfl ?_
        refine ax_getR fl_Joined_35 x_129 rfl (rx_129_8 _) d_Joined_follow_46 49 rfl ?_
        refine ax_iload_n 2 d_Joined_follow_49 rfl rfl 50 rfl ?_
        refine ax_iaload x_133 d_Joined_follow_50 51 rfl h (fun i4 h => ?_)
        refine ax_callS mv_Joined_122 ⟨Nat.le_of_ble_eq_true rfl, Nat.le_of_ble_eq_true rfl⟩ ⟨rfl, rfl⟩ [.int (m.1 134 i3), .int (m.1 133 i4)] [.int (m.1 133 i4), .int (m.1 134 i3), .int v1, .ref 134] rfl rfl (Nat.le_of_ble_eq_true rfl) d_Joined_follow_51 54 rfl (zc_Math_min (m.1 134 i3) (m.1 133 i4) m ?_)
        refine ax_iastore x_134 d_Joined_follow_54 55 rfl h (fun i5 m6 h => ?_)
        exact ax_vret rfl d_Joined_follow_55 (hR m6 (ok_some h))
    · have h := ok_t hc h
      refine ax_aload_n 0 d_Joined_follow_16 rfl rfl 17 rfl ?_
      refine ax_iload_n 2 d_Joined_follow_17 rfl rfl 18 rfl ?_
      refine ax_callV mv_Joined_105 ⟨Nat.le_of_ble_eq_true rfl, Nat.le_of_ble_eq_true rfl⟩ ⟨rfl, rfl⟩ [.int v2] [.int v2, .ref 129] rfl rfl (rc_x_129 _) (Nat.le_of_ble_eq_true rfl) d_Joined_follow_18 21 rfl (zc_Joined_enter v2 m (ok_b h (fun p7 h => ?_)))
      refine ax_goto 55 d_Joined_follow_21 rfl ?_
      exact ax_vret rfl d_Joined_follow_55 (hR p7 (ok_some h))
  · have h := ok_t hc h
    exact ax_vret rfl d_Joined_follow_5 (hR m (ok_some h))
set_option maxRecDepth 4000 in
theorem c_Joined_close_J67 (v2 : Int32) (m : zM)  {Q : Option Value → zM → Prop} {K : zM → Prop} (hR : ∀ p : zM, K (p) → Q none p)  (h : ok (f_Joined_close_J67 v2 m) K) : AX gX s_Joined_close 67 [(0, .ref 129), (2, .int v2)] [] m Q := by
  unfold f_Joined_close_J67 at h
  refine ax_aload_n 0 d_Joined_close_67 rfl rfl 68 rfl ?_
  refine ax_dup d_Joined_close_68 rfl 69 rfl ?_
  refine ax_getI fl_Joined_22 x_129 rfl d_Joined_close_69 72 rfl ?_
  refine ax_iconst 1 d_Joined_close_72 ic_1 73 rfl ?_
  refine ax_iadd d_Joined_close_73 74 rfl ?_
  refine ax_putI (K := K) fl_Joined_22 x_129 rfl rfl rfl (Nat.le_of_ble_eq_true rfl) d_Joined_close_74 77 rfl h (fun m8 h => ?_)
  refine ax_aload_n 0 d_Joined_close_77 rfl rfl 78 rfl ?_
  refine ax_getR fl_Joined_29 x_129 rfl (rx_129_6 _) d_Joined_close_78 81 rfl ?_
  refine ax_aload_n 0 d_Joined_close_81 rfl rfl 82 rfl ?_
  refine ax_getI fl_Joined_22 x_129 rfl d_Joined_close_82 85 rfl ?_
  refine ax_iload_n 1 d_Joined_close_85 rfl rfl 86 rfl ?_
  refine ax_iastore x_131 d_Joined_close_86 87 rfl h (fun i9 m10 h => ?_)
  exact ax_vret rfl d_Joined_close_87 (hR m10 (ok_some h))
set_option maxRecDepth 4000 in
theorem c_Joined_close_B12 (v1 : Int32) (v2 : Int32) (v3 : Int32) (m : zM)  {Q : Option Value → zM → Prop} {K : ((zM) ⊕ (Int32 × Int32 × zM)) → Prop} (hR : ∀ p : zM, K (.inl p) → Q none p) (h0 : ∀ s : Int32 × Int32 × zM, K (.inr s) → AX gX s_Joined_close 12 [(0, .ref 129), (1, .int v1), (2, .int s.1), (3, .int s.2.1)] [] s.2.2 Q) (h : ok (f_Joined_close_B12 v1 v2 v3 m) K) : AX gX s_Joined_close 12 [(0, .ref 129), (1, .int v1), (2, .int v2), (3, .int v3)] [] m Q := by
  unfold f_Joined_close_B12 at h
  refine ax_aload_n 0 d_Joined_close_12 rfl rfl 13 rfl ?_
  refine ax_getI fl_Joined_53 x_129 rfl d_Joined_close_13 16 rfl ?_
  refine ax_if_le 67 19 d_Joined_close_16 rfl rfl (fun hc => ?_) (fun hc => ?_)
  · have h := ok_t hc h
    exact ax_sub [0, 2] rfl (c_Joined_close_J67 v2 m (fun p hp => hR p hp) (ok_z h))
  · have h := ok_f hc h
    refine ax_iload_n 3 d_Joined_close_19 rfl rfl 20 rfl ?_
    refine ax_iload_n 1 d_Joined_close_20 rfl rfl 21 rfl ?_
    refine ax_icmp_eq 67 24 d_Joined_close_21 rfl rfl (fun hc => ?_) (fun hc => ?_)
    · have h := ok_t hc h
      exact ax_sub [0, 2] rfl (c_Joined_close_J67 v2 m (fun p hp => hR p hp) (ok_z h))
    · have h := ok_f hc h
      refine ax_aload_n 0 d_Joined_close_24 rfl rfl 25 rfl ?_
      refine ax_dup d_Joined_close_25 rfl 26 rfl ?_
      refine ax_getI fl_Joined_53 x_129 rfl d_Joined_close_26 29 rfl ?_
      refine ax_iconst 1 d_Joined_close_29 ic_1 30 rfl ?_
      refine ax_isub d_Joined_close_30 31 rfl ?_
      refine ax_putI (K := K) fl_Joined_53 x_129 rfl rfl rfl (Nat.le_of_ble_eq_true rfl) d_Joined_close_31 34 rfl h (fun m2 h => ?_)
      refine ax_aload_n 0 d_Joined_close_34 rfl rfl 35 rfl ?_
      refine ax_getR fl_Joined_44 x_129 rfl (rx_129_11 _) d_Joined_close_35 38 rfl ?_
      refine ax_aload_n 0 d_Joined_close_38 rfl rfl 39 rfl ?_
      refine ax_getI fl_Joined_53 x_129 rfl d_Joined_close_39 42 rfl ?_
      refine ax_iaload x_136 d_Joined_close_42 43 rfl h (fun i3 h => ?_)
      refine ax_istore_n (ls1 := [(3, .int (m2.1 136 i3)), (0, .ref 129), (1, .int v1), (2, .int v2)]) d_Joined_close_43 rfl (Nat.le_of_ble_eq_true rfl) rfl 44 rfl ?_
      refine ax_aload_n 1 d_Joined_close_44 rfl rfl 45 rfl ?_
      refine ax_getR fl_Joined_25 x_129 rfl (rx_129_5 _) d_Joined_close_45 48 rfl ?_
      refine ax_iload_n 0 d_Joined_close_48 rfl rfl 49 rfl ?_
      refine ax_aload_n 1 d_Joined_close_49 rfl rfl 50 rfl ?_
      refine ax_getI fl_Joined_22 x_129 rfl d_Joined_close_50 53 rfl ?_
      refine ax_iastore x_130 d_Joined_close_53 54 rfl h (fun i4 m5 h => ?_)
      refine ax_aload_n 1 d_Joined_close_54 rfl rfl 55 rfl ?_
      refine ax_getR fl_Joined_32 x_129 rfl (rx_129_7 _) d_Joined_close_55 58 rfl ?_
      refine ax_iload_n 3 d_Joined_close_58 rfl rfl 59 rfl ?_
      refine ax_iload_n 0 d_Joined_close_59 rfl rfl 60 rfl ?_
      refine ax_iastore x_132 d_Joined_close_60 61 rfl h (fun i6 m7 h => ?_)
      refine ax_iinc (ls1 := [(2, .int (v2 + 1)), (3, .int (m2.1 136 i3)), (0, .ref 129), (1, .int v1)]) 3 1 d_Joined_close_61 rfl ic_1 (Nat.le_of_ble_eq_true rfl) rfl 64 rfl ?_
      refine ax_goto 12 d_Joined_close_64 rfl ?_
      exact ax_sub [2, 3, 0, 1] rfl (h0 ((v2 + 1), (m2.1 136 i3), m7) (ok_some h))
theorem c_Joined_close_L12 (v1 : Int32) (v2 : Int32) (v3 : Int32) (m : zM)  {Q : Option Value → zM → Prop} {K : zM → Prop} (hR : ∀ p : zM, K (p) → Q none p)  (h : ok (f_Joined_close_L12 v1 v2 v3 m) K) : AX gX s_Joined_close 12 [(0, .ref 129), (1, .int v1), (2, .int v2), (3, .int v3)] [] m Q :=
  ok_lp (K := K) (G := fun s : Int32 × Int32 × zM => AX gX s_Joined_close 12 [(0, .ref 129), (1, .int v1), (2, .int s.1), (3, .int s.2.1)] [] s.2.2 Q) (fun s h => c_Joined_close_B12 v1 s.1 s.2.1 s.2.2  (fun p hp => hR p hp) (fun s hs => hs) h) FU (v2, v3, m) h
set_option maxRecDepth 4000 in
theorem zc_Joined_close (v1 : Int32) (m : zM)  {Q : Option Value → zM → Prop} (h : ok (f_Joined_close v1 m) (fun p => Q none p)) : zc gX s_Joined_close [.ref 129, .int v1] m Q := by
  refine zc_of rfl (Nat.le_of_ble_eq_true rfl) ?_
  show AX gX s_Joined_close 0 [(0, .ref 129), (1, .int v1)] [] m Q
  obtain ⟨K, hK⟩ : ∃ K : zM → Prop, K = (fun p : zM => Q none p) := ⟨_, rfl⟩
  have hR : ∀ p : zM, K p → Q none p := fun p hp => by rw [hK] at hp; exact hp
  replace h : ok (f_Joined_close v1 m) (fun p : zM => Q none p) := h
  rw [← hK] at h
  unfold f_Joined_close at h
  refine ax_aload_n 0 d_Joined_close_0 rfl rfl 1 rfl ?_
  refine ax_getR fl_Joined_29 x_129 rfl (rx_129_6 _) d_Joined_close_1 4 rfl ?_
  refine ax_aload_n 0 d_Joined_close_4 rfl rfl 5 rfl ?_
  refine ax_getI fl_Joined_22 x_129 rfl d_Joined_close_5 8 rfl ?_
  refine ax_iaload x_131 d_Joined_close_8 9 rfl h (fun i1 h => ?_)
  refine ax_istore_n (ls1 := [(2, .int (m.1 131 i1)), (0, .ref 129), (1, .int v1)]) d_Joined_close_9 rfl (Nat.le_of_ble_eq_true rfl) rfl 10 rfl ?_
  refine ax_iconst (-1) d_Joined_close_10 ic_m1 11 rfl ?_
  refine ax_istore_n (ls1 := [(3, .int (-1)), (2, .int (m.1 131 i1)), (0, .ref 129), (1, .int v1)]) d_Joined_close_11 rfl (Nat.le_of_ble_eq_true rfl) rfl 12 rfl ?_
  exact ax_sub [2, 3, 1, 0] rfl (c_Joined_close_L12 v1 (m.1 131 i1) (-1) m (fun p hp => hR p hp) h)
set_option maxRecDepth 4000 in
theorem c_Joined_leave_J50 (v1 : Int32) (m : zM)  {Q : Option Value → zM → Prop} {K : zM → Prop} (hR : ∀ p : zM, K (p) → Q none p)  (h : ok (f_Joined_leave_J50 v1 m) K) : AX gX s_Joined_leave 50 [(0, .ref 129), (1, .int v1)] [] m Q := by
  unfold f_Joined_leave_J50 at h
  refine ax_aload_n 0 d_Joined_leave_50 rfl rfl 51 rfl ?_
  refine ax_getR fl_Joined_38 x_129 rfl (rx_129_9 _) d_Joined_leave_51 54 rfl ?_
  refine ax_iload_n 1 d_Joined_leave_54 rfl rfl 55 rfl ?_
  refine ax_iaload x_134 d_Joined_leave_55 56 rfl h (fun i7 h => ?_)
  refine ax_aload_n 0 d_Joined_leave_56 rfl rfl 57 rfl ?_
  refine ax_getR fl_Joined_35 x_129 rfl (rx_129_8 _) d_Joined_leave_57 60 rfl ?_
  refine ax_iload_n 1 d_Joined_leave_60 rfl rfl 61 rfl ?_
  refine ax_iaload x_133 d_Joined_leave_61 62 rfl h (fun i8 h => ?_)
  refine ax_icmp_ne 70 65 d_Joined_leave_62 rfl rfl (fun hc => ?_) (fun hc => ?_)
  · have h := ok_f hc h
    exact ax_vret rfl d_Joined_leave_70 (hR m (ok_some h))
  · have h := ok_t hc h
    refine ax_aload_n 0 d_Joined_leave_65 rfl rfl 66 rfl ?_
    refine ax_iload_n 1 d_Joined_leave_66 rfl rfl 67 rfl ?_
    refine ax_callV mv_Joined_127 ⟨Nat.le_of_ble_eq_true rfl, Nat.le_of_ble_eq_true rfl⟩ ⟨rfl, rfl⟩ [.int v1] [.int v1, .ref 129] rfl rfl (rc_x_129 _) (Nat.le_of_ble_eq_true rfl) d_Joined_leave_67 70 rfl (zc_Joined_close v1 m (ok_b h (fun p9 h => ?_)))
    exact ax_vret rfl d_Joined_leave_70 (hR p9 (ok_some h))
set_option maxRecDepth 4000 in
theorem zc_Joined_leave (v1 : Int32) (m : zM)  {Q : Option Value → zM → Prop} (h : ok (f_Joined_leave v1 m) (fun p => Q none p)) : zc gX s_Joined_leave [.ref 129, .int v1] m Q := by
  refine zc_of rfl (Nat.le_of_ble_eq_true rfl) ?_
  show AX gX s_Joined_leave 0 [(0, .ref 129), (1, .int v1)] [] m Q
  obtain ⟨K, hK⟩ : ∃ K : zM → Prop, K = (fun p : zM => Q none p) := ⟨_, rfl⟩
  have hR : ∀ p : zM, K p → Q none p := fun p hp => by rw [hK] at hp; exact hp
  replace h : ok (f_Joined_leave v1 m) (fun p : zM => Q none p) := h
  rw [← hK] at h
  unfold f_Joined_leave at h
  refine ax_aload_n 0 d_Joined_leave_0 rfl rfl 1 rfl ?_
  refine ax_dup d_Joined_leave_1 rfl 2 rfl ?_
  refine ax_getI fl_Joined_56 x_129 rfl d_Joined_leave_2 5 rfl ?_
  refine ax_iconst 1 d_Joined_leave_5 ic_1 6 rfl ?_
  refine ax_isub d_Joined_leave_6 7 rfl ?_
  refine ax_putI (K := K) fl_Joined_56 x_129 rfl rfl rfl (Nat.le_of_ble_eq_true rfl) d_Joined_leave_7 10 rfl h (fun m1 h => ?_)
  refine ax_aload_n 0 d_Joined_leave_10 rfl rfl 11 rfl ?_
  refine ax_getI fl_Joined_56 x_129 rfl d_Joined_leave_11 14 rfl ?_
  refine ax_if_le 50 17 d_Joined_leave_14 rfl rfl (fun hc => ?_) (fun hc => ?_)
  · have h := ok_t hc h
    exact ax_sub [0, 1] rfl (c_Joined_leave_J50 v1 m1 (fun p hp => hR p hp) h)
  · have h := ok_f hc h
    refine ax_aload_n 0 d_Joined_leave_17 rfl rfl 18 rfl ?_
    refine ax_getR fl_Joined_47 x_129 rfl (rx_129_12 _) d_Joined_leave_18 21 rfl ?_
    refine ax_aload_n 0 d_Joined_leave_21 rfl rfl 22 rfl ?_
    refine ax_getI fl_Joined_56 x_129 rfl d_Joined_leave_22 25 rfl ?_
    refine ax_iconst 1 d_Joined_leave_25 ic_1 26 rfl ?_
    refine ax_isub d_Joined_leave_26 27 rfl ?_
    refine ax_iaload x_137 d_Joined_leave_27 28 rfl h (fun i2 h => ?_)
    refine ax_istore_n (ls1 := [(2, .int (m1.1 137 i2)), (0, .ref 129), (1, .int v1)]) d_Joined_leave_28 rfl (Nat.le_of_ble_eq_true rfl) rfl 29 rfl ?_
    refine ax_aload_n 1 d_Joined_leave_29 rfl rfl 30 rfl ?_
    refine ax_getR fl_Joined_38 x_129 rfl (rx_129_9 _) d_Joined_leave_30 33 rfl ?_
    refine ax_iload_n 0 d_Joined_leave_33 rfl rfl 34 rfl ?_
    refine ax_aload_n 1 d_Joined_leave_34 rfl rfl 35 rfl ?_
    refine ax_getR fl_Joined_38 x_129 rfl (rx_129_9 _) d_Joined_leave_35 38 rfl ?_
    refine ax_iload_n 0 d_Joined_leave_38 rfl rfl 39 rfl ?_
    refine ax_iaload x_134 d_Joined_leave_39 40 rfl h (fun i3 h => ?_)
    refine ax_aload_n 1 d_Joined_leave_40 rfl rfl 41 rfl ?_
    refine ax_getR fl_Joined_38 x_129 rfl (rx_129_9 _) d_Joined_leave_41 44 rfl ?_
    refine ax_iload_n 2 d_Joined_leave_44 rfl rfl 45 rfl ?_
    refine ax_iaload x_134 d_Joined_leave_45 46 rfl h (fun i4 h => ?_)
    refine ax_callS mv_Joined_122 ⟨Nat.le_of_ble_eq_true rfl, Nat.le_of_ble_eq_true rfl⟩ ⟨rfl, rfl⟩ [.int (m1.1 134 i3), .int (m1.1 134 i4)] [.int (m1.1 134 i4), .int (m1.1 134 i3), .int (m1.1 137 i2), .ref 134] rfl rfl (Nat.le_of_ble_eq_true rfl) d_Joined_leave_46 49 rfl (zc_Math_min (m1.1 134 i3) (m1.1 134 i4) m1 ?_)
    refine ax_iastore x_134 d_Joined_leave_49 50 rfl h (fun i5 m6 h => ?_)
    exact ax_sub [1, 2] rfl (c_Joined_leave_J50 v1 m6 (fun p hp => hR p hp) h)
set_option maxRecDepth 4000 in
theorem c_Joined_goThrough_J88 (v2 : Int32) (m : zM)  {Q : Option Value → zM → Prop} {K : ((zM) ⊕ (Int32 × zM)) → Prop} (hR : ∀ p : zM, K (.inl p) → Q none p) (h0 : ∀ s : Int32 × zM, K (.inr s) → AX gX s_Joined_goThrough 7 [(0, .ref 129), (2, .int s.1)] [] s.2 Q) (h : ok (f_Joined_goThrough_J88 v2 m) K) : AX gX s_Joined_goThrough 88 [(0, .ref 129), (2, .int v2)] [] m Q := by
  unfold f_Joined_goThrough_J88 at h
  refine ax_iinc (ls1 := [(2, .int (v2 + 1)), (0, .ref 129)]) 1 1 d_Joined_goThrough_88 rfl ic_1 (Nat.le_of_ble_eq_true rfl) rfl 91 rfl ?_
  refine ax_goto 7 d_Joined_goThrough_91 rfl ?_
  exact ax_sub [1, 0] rfl (h0 ((v2 + 1), m) (ok_some h))
set_option maxRecDepth 4000 in
theorem c_Joined_goThrough_B7 (v2 : Int32) (m : zM)  {Q : Option Value → zM → Prop} {K : ((zM) ⊕ (Int32 × zM)) → Prop} (hR : ∀ p : zM, K (.inl p) → Q none p) (h0 : ∀ s : Int32 × zM, K (.inr s) → AX gX s_Joined_goThrough 7 [(0, .ref 129), (2, .int s.1)] [] s.2 Q) (h : ok (f_Joined_goThrough_B7 v2 m) K) : AX gX s_Joined_goThrough 7 [(0, .ref 129), (2, .int v2)] [] m Q := by
  unfold f_Joined_goThrough_B7 at h
  refine ax_iload_n 1 d_Joined_goThrough_7 rfl rfl 8 rfl ?_
  refine ax_ldc 1000000 wk_Joined_108 d_Joined_goThrough_8 10 rfl ?_
  refine ax_icmp_ge 94 13 d_Joined_goThrough_10 rfl rfl (fun hc => ?_) (fun hc => ?_)
  · have h := ok_t hc h
    exact ax_vret rfl d_Joined_goThrough_94 (hR m (ok_some h))
  · have h := ok_f hc h
    refine ax_aload_n 0 d_Joined_goThrough_13 rfl rfl 14 rfl ?_
    refine ax_getI fl_Joined_56 x_129 rfl d_Joined_goThrough_14 17 rfl ?_
    refine ax_if_le 94 20 d_Joined_goThrough_17 rfl rfl (fun hc => ?_) (fun hc => ?_)
    · have h := ok_t hc h
      exact ax_vret rfl d_Joined_goThrough_94 (hR m (ok_some h))
    · have h := ok_f hc h
      refine ax_aload_n 0 d_Joined_goThrough_20 rfl rfl 21 rfl ?_
      refine ax_getR fl_Joined_47 x_129 rfl (rx_129_12 _) d_Joined_goThrough_21 24 rfl ?_
      refine ax_aload_n 0 d_Joined_goThrough_24 rfl rfl 25 rfl ?_
      refine ax_getI fl_Joined_56 x_129 rfl d_Joined_goThrough_25 28 rfl ?_
      refine ax_iconst 1 d_Joined_goThrough_28 ic_1 29 rfl ?_
      refine ax_isub d_Joined_goThrough_29 30 rfl ?_
      refine ax_iaload x_137 d_Joined_goThrough_30 31 rfl h (fun i2 h => ?_)
      refine ax_istore_n (ls1 := [(3, .int (m.1 137 i2)), (0, .ref 129), (2, .int v2)]) d_Joined_goThrough_31 rfl (Nat.le_of_ble_eq_true rfl) rfl 32 rfl ?_
      refine ax_aload_n 1 d_Joined_goThrough_32 rfl rfl 33 rfl ?_
      refine ax_getR fl_Joined_41 x_129 rfl (rx_129_10 _) d_Joined_goThrough_33 36 rfl ?_
      refine ax_iload_n 0 d_Joined_goThrough_36 rfl rfl 37 rfl ?_
      refine ax_iaload x_135 d_Joined_goThrough_37 38 rfl h (fun i3 h => ?_)
      refine ax_istore (ls1 := [(4, .int (m.1 135 i3)), (3, .int (m.1 137 i2)), (0, .ref 129), (2, .int v2)]) d_Joined_goThrough_38 (Nat.le_of_ble_eq_true rfl) rfl 40 rfl ?_
      refine ax_iload 0 d_Joined_goThrough_40 rfl 42 rfl ?_
      refine ax_aload_n 2 d_Joined_goThrough_42 rfl rfl 43 rfl ?_
      refine ax_getR fl_Joined_59 x_129 rfl (rx_129_0 _) d_Joined_goThrough_43 46 rfl ?_
      refine ax_getR fl_Joined_109 x_24 rfl (rx_24_11 _) d_Joined_goThrough_46 49 rfl ?_
      refine ax_iload_n 1 d_Joined_goThrough_49 rfl rfl 50 rfl ?_
      refine ax_iconst 4 d_Joined_goThrough_50 ic_4 51 rfl ?_
      refine ax_idiv d_Joined_goThrough_51 (by decide) 52 rfl ?_
      refine ax_iconst 1 d_Joined_goThrough_52 ic_1 53 rfl ?_
      refine ax_iadd d_Joined_goThrough_53 54 rfl ?_
      refine ax_iaload x_36 d_Joined_goThrough_54 55 rfl h (fun i4 h => ?_)
      refine ax_icmp_ge 83 58 d_Joined_goThrough_55 rfl rfl (fun hc => ?_) (fun hc => ?_)
      · have h := ok_t hc h
        refine ax_aload_n 2 d_Joined_goThrough_83 rfl rfl 84 rfl ?_
        refine ax_iload_n 1 d_Joined_goThrough_84 rfl rfl 85 rfl ?_
        refine ax_callV mv_Joined_119 ⟨Nat.le_of_ble_eq_true rfl, Nat.le_of_ble_eq_true rfl⟩ ⟨rfl, rfl⟩ [.int (m.1 137 i2)] [.int (m.1 137 i2), .ref 129] rfl rfl (rc_x_129 _) (Nat.le_of_ble_eq_true rfl) d_Joined_goThrough_85 88 rfl (zc_Joined_leave (m.1 137 i2) m (ok_b h (fun p5 h => ?_)))
        exact ax_sub [2, 3] rfl (c_Joined_goThrough_J88 v2 p5 (fun p hp => hR p hp) (fun s hs => h0 s hs) h)
      · have h := ok_f hc h
        refine ax_aload_n 2 d_Joined_goThrough_58 rfl rfl 59 rfl ?_
        refine ax_getR fl_Joined_41 x_129 rfl (rx_129_10 _) d_Joined_goThrough_59 62 rfl ?_
        refine ax_iload_n 1 d_Joined_goThrough_62 rfl rfl 63 rfl ?_
        refine ax_iload 0 d_Joined_goThrough_63 rfl 65 rfl ?_
        refine ax_iconst 1 d_Joined_goThrough_65 ic_1 66 rfl ?_
        refine ax_iadd d_Joined_goThrough_66 67 rfl ?_
        refine ax_iastore x_135 d_Joined_goThrough_67 68 rfl h (fun i6 m7 h => ?_)
        refine ax_aload_n 2 d_Joined_goThrough_68 rfl rfl 69 rfl ?_
        refine ax_iload_n 1 d_Joined_goThrough_69 rfl rfl 70 rfl ?_
        refine ax_aload_n 2 d_Joined_goThrough_70 rfl rfl 71 rfl ?_
        refine ax_iload_n 1 d_Joined_goThrough_71 rfl rfl 72 rfl ?_
        refine ax_iload 0 d_Joined_goThrough_72 rfl 74 rfl ?_
        refine ax_callV mv_Joined_112 ⟨Nat.le_of_ble_eq_true rfl, Nat.le_of_ble_eq_true rfl⟩ ⟨rfl, rfl⟩ [.int (m.1 137 i2), .int (m.1 135 i3)] [.int (m.1 135 i3), .int (m.1 137 i2), .ref 129, .int (m.1 137 i2), .ref 129] rfl rfl (rc_x_129 _) (Nat.le_of_ble_eq_true rfl) d_Joined_goThrough_74 77 rfl (zc_Joined_next (m.1 137 i2) (m.1 135 i3) m7 (ok_b h (fun r8 h => ?_)))
        refine ax_callV mv_Joined_115 ⟨Nat.le_of_ble_eq_true rfl, Nat.le_of_ble_eq_true rfl⟩ ⟨rfl, rfl⟩ [.int (m.1 137 i2), .int r8] [.int r8, .int (m.1 137 i2), .ref 129] rfl rfl (rc_x_129 _) (Nat.le_of_ble_eq_true rfl) d_Joined_goThrough_77 80 rfl (zc_Joined_follow (m.1 137 i2) r8 m7 (ok_b h (fun p9 h => ?_)))
        refine ax_goto 88 d_Joined_goThrough_80 rfl ?_
        exact ax_sub [2, 3] rfl (c_Joined_goThrough_J88 v2 p9 (fun p hp => hR p hp) (fun s hs => h0 s hs) h)
theorem c_Joined_goThrough_L7 (v2 : Int32) (m : zM)  {Q : Option Value → zM → Prop} {K : zM → Prop} (hR : ∀ p : zM, K (p) → Q none p)  (h : ok (f_Joined_goThrough_L7 v2 m) K) : AX gX s_Joined_goThrough 7 [(0, .ref 129), (2, .int v2)] [] m Q :=
  ok_lp (K := K) (G := fun s : Int32 × zM => AX gX s_Joined_goThrough 7 [(0, .ref 129), (2, .int s.1)] [] s.2 Q) (fun s h => c_Joined_goThrough_B7 s.1 s.2  (fun p hp => hR p hp) (fun s hs => hs) h) FU (v2, m) h
set_option maxRecDepth 4000 in
theorem zc_Joined_goThrough (v1 : Int32) (m : zM)  {Q : Option Value → zM → Prop} (h : ok (f_Joined_goThrough v1 m) (fun p => Q none p)) : zc gX s_Joined_goThrough [.ref 129, .int v1] m Q := by
  refine zc_of rfl (Nat.le_of_ble_eq_true rfl) ?_
  show AX gX s_Joined_goThrough 0 [(0, .ref 129), (1, .int v1)] [] m Q
  obtain ⟨K, hK⟩ : ∃ K : zM → Prop, K = (fun p : zM => Q none p) := ⟨_, rfl⟩
  have hR : ∀ p : zM, K p → Q none p := fun p hp => by rw [hK] at hp; exact hp
  replace h : ok (f_Joined_goThrough v1 m) (fun p : zM => Q none p) := h
  rw [← hK] at h
  unfold f_Joined_goThrough at h
  refine ax_aload_n 0 d_Joined_goThrough_0 rfl rfl 1 rfl ?_
  refine ax_iload_n 1 d_Joined_goThrough_1 rfl rfl 2 rfl ?_
  refine ax_callV mv_Joined_105 ⟨Nat.le_of_ble_eq_true rfl, Nat.le_of_ble_eq_true rfl⟩ ⟨rfl, rfl⟩ [.int v1] [.int v1, .ref 129] rfl rfl (rc_x_129 _) (Nat.le_of_ble_eq_true rfl) d_Joined_goThrough_2 5 rfl (zc_Joined_enter v1 m (ok_b h (fun p1 h => ?_)))
  refine ax_iconst 0 d_Joined_goThrough_5 ic_0 6 rfl ?_
  refine ax_istore_n (ls1 := [(2, .int 0), (0, .ref 129), (1, .int v1)]) d_Joined_goThrough_6 rfl (Nat.le_of_ble_eq_true rfl) rfl 7 rfl ?_
  exact ax_sub [1, 0] rfl (c_Joined_goThrough_L7 0 p1 (fun p hp => hR p hp) h)
set_option maxRecDepth 4000 in
theorem c_Joined_join_J101 (v4 : Int32) (m : zM)  {Q : Option Value → zM → Prop} {K : ((zM) ⊕ (Int32 × zM)) → Prop} (hR : ∀ p : zM, K (.inl p) → Q none p) (h0 : ∀ s : Int32 × zM, K (.inr s) → AX gX s_Joined_join 61 [(0, .ref 129), (4, .int s.1)] [] s.2 Q) (h : ok (f_Joined_join_J101 v4 m) K) : AX gX s_Joined_join 101 [(0, .ref 129), (4, .int v4)] [] m Q := by
  unfold f_Joined_join_J101 at h
  refine ax_iinc (ls1 := [(4, .int (v4 + 1)), (0, .ref 129)]) 1 1 d_Joined_join_101 rfl ic_1 (Nat.le_of_ble_eq_true rfl) rfl 104 rfl ?_
  refine ax_goto 61 d_Joined_join_104 rfl ?_
  exact ax_sub [1, 0] rfl (h0 ((v4 + 1), m) (ok_some h))
set_option maxRecDepth 4000 in
theorem c_Joined_join_B61 (v4 : Int32) (m : zM)  {Q : Option Value → zM → Prop} {K : ((zM) ⊕ (Int32 × zM)) → Prop} (hR : ∀ p : zM, K (.inl p) → Q none p) (h0 : ∀ s : Int32 × zM, K (.inr s) → AX gX s_Joined_join 61 [(0, .ref 129), (4, .int s.1)] [] s.2 Q) (h : ok (f_Joined_join_B61 v4 m) K) : AX gX s_Joined_join 61 [(0, .ref 129), (4, .int v4)] [] m Q := by
  unfold f_Joined_join_B61 at h
  refine ax_iload 1 d_Joined_join_61 rfl 63 rfl ?_
  refine ax_aload_n 0 d_Joined_join_63 rfl rfl 64 rfl ?_
  refine ax_getR fl_Joined_59 x_129 rfl (rx_129_0 _) d_Joined_join_64 67 rfl ?_
  refine ax_getI fl_Joined_69 x_24 rfl d_Joined_join_67 70 rfl ?_
  refine ax_iconst 4 d_Joined_join_70 ic_4 71 rfl ?_
  refine ax_imul d_Joined_join_71 72 rfl ?_
  refine ax_icmp_ge 107 75 d_Joined_join_72 rfl rfl (fun hc => ?_) (fun hc => ?_)
  · have h := ok_t hc h
    exact ax_vret rfl d_Joined_join_107 (hR m (ok_some h))
  · have h := ok_f hc h
    refine ax_aload_n 0 d_Joined_join_75 rfl rfl 76 rfl ?_
    refine ax_getR fl_Joined_35 x_129 rfl (rx_129_8 _) d_Joined_join_76 79 rfl ?_
    refine ax_iload 1 d_Joined_join_79 rfl 81 rfl ?_
    refine ax_iaload x_133 d_Joined_join_81 82 rfl h (fun i12 h => ?_)
    refine ax_iconst (-1) d_Joined_join_82 ic_m1 83 rfl ?_
    refine ax_icmp_ne 101 86 d_Joined_join_83 rfl rfl (fun hc => ?_) (fun hc => ?_)
    · have h := ok_f hc h
      exact ax_sub [0, 1] rfl (c_Joined_join_J101 v4 m (fun p hp => hR p hp) (fun s hs => h0 s hs) h)
    · have h := ok_t hc h
      refine ax_aload_n 0 d_Joined_join_86 rfl rfl 87 rfl ?_
      refine ax_iload 1 d_Joined_join_87 rfl 89 rfl ?_
      refine ax_callV mv_Joined_74 ⟨Nat.le_of_ble_eq_true rfl, Nat.le_of_ble_eq_true rfl⟩ ⟨rfl, rfl⟩ [.int v4] [.int v4, .ref 129] rfl rfl (rc_x_129 _) (Nat.le_of_ble_eq_true rfl) d_Joined_join_89 92 rfl (zc_Joined_isNode v4 m (ok_b h (fun r13 h => ?_)))
      refine ax_ifb_eq 101 95 d_Joined_join_92 rfl rfl (fun hc => ?_) (fun hc => ?_)
      · have h := ok_f (bf hc) h
        exact ax_sub [0, 1] rfl (c_Joined_join_J101 v4 m (fun p hp => hR p hp) (fun s hs => h0 s hs) h)
      · have h := ok_t hc h
        refine ax_aload_n 0 d_Joined_join_95 rfl rfl 96 rfl ?_
        refine ax_iload 1 d_Joined_join_96 rfl 98 rfl ?_
        refine ax_callV mv_Joined_78 ⟨Nat.le_of_ble_eq_true rfl, Nat.le_of_ble_eq_true rfl⟩ ⟨rfl, rfl⟩ [.int v4] [.int v4, .ref 129] rfl rfl (rc_x_129 _) (Nat.le_of_ble_eq_true rfl) d_Joined_join_98 101 rfl (zc_Joined_goThrough v4 m (ok_b h (fun p14 h => ?_)))
        exact ax_sub [0, 1] rfl (c_Joined_join_J101 v4 p14 (fun p hp => hR p hp) (fun s hs => h0 s hs) h)
theorem c_Joined_join_L61 (v4 : Int32) (m : zM)  {Q : Option Value → zM → Prop} {K : zM → Prop} (hR : ∀ p : zM, K (p) → Q none p)  (h : ok (f_Joined_join_L61 v4 m) K) : AX gX s_Joined_join 61 [(0, .ref 129), (4, .int v4)] [] m Q :=
  ok_lp (K := K) (G := fun s : Int32 × zM => AX gX s_Joined_join 61 [(0, .ref 129), (4, .int s.1)] [] s.2 Q) (fun s h => c_Joined_join_B61 s.1 s.2  (fun p hp => hR p hp) (fun s hs => hs) h) FU (v4, m) h
set_option maxRecDepth 4000 in
theorem zc_Joined_join (v1 : Int32) (v2 : Int32) (v3 : Int32) (m : zM)  {Q : Option Value → zM → Prop} (h : ok (f_Joined_join v1 v2 v3 m) (fun p => Q none p)) : zc gX s_Joined_join [.ref 129, .int v1, .int v2, .int v3] m Q := by
  refine zc_of rfl (Nat.le_of_ble_eq_true rfl) ?_
  show AX gX s_Joined_join 0 [(0, .ref 129), (1, .int v1), (2, .int v2), (3, .int v3)] [] m Q
  obtain ⟨K, hK⟩ : ∃ K : zM → Prop, K = (fun p : zM => Q none p) := ⟨_, rfl⟩
  have hR : ∀ p : zM, K p → Q none p := fun p hp => by rw [hK] at hp; exact hp
  replace h : ok (f_Joined_join v1 v2 v3 m) (fun p : zM => Q none p) := h
  rw [← hK] at h
  unfold f_Joined_join at h
  refine ax_aload_n 0 d_Joined_join_0 rfl rfl 1 rfl ?_
  refine ax_iload_n 1 d_Joined_join_1 rfl rfl 2 rfl ?_
  refine ok_bt h (fun hx h => ?_)
  refine ax_putZ (K := K) fl_Joined_9 x_129 hx rfl rfl rfl (Nat.le_of_ble_eq_true rfl) d_Joined_join_2 5 rfl h (fun m1 h => ?_)
  refine ax_aload_n 0 d_Joined_join_5 rfl rfl 6 rfl ?_
  refine ax_iload_n 2 d_Joined_join_6 rfl rfl 7 rfl ?_
  refine ax_putI (K := K) fl_Joined_15 x_129 rfl rfl rfl (Nat.le_of_ble_eq_true rfl) d_Joined_join_7 10 rfl h (fun m2 h => ?_)
  refine ax_aload_n 0 d_Joined_join_10 rfl rfl 11 rfl ?_
  refine ax_iload_n 3 d_Joined_join_11 rfl rfl 12 rfl ?_
  refine ax_putI (K := K) fl_Joined_19 x_129 rfl rfl rfl (Nat.le_of_ble_eq_true rfl) d_Joined_join_12 15 rfl h (fun m3 h => ?_)
  refine ax_aload_n 0 d_Joined_join_15 rfl rfl 16 rfl ?_
  refine ax_iconst 0 d_Joined_join_16 ic_0 17 rfl ?_
  refine ax_putI (K := K) fl_Joined_22 x_129 rfl rfl rfl (Nat.le_of_ble_eq_true rfl) d_Joined_join_17 20 rfl h (fun m4 h => ?_)
  refine ax_aload_n 0 d_Joined_join_20 rfl rfl 21 rfl ?_
  refine ax_iconst 0 d_Joined_join_21 ic_0 22 rfl ?_
  refine ax_putI (K := K) fl_Joined_50 x_129 rfl rfl rfl (Nat.le_of_ble_eq_true rfl) d_Joined_join_22 25 rfl h (fun m5 h => ?_)
  refine ax_aload_n 0 d_Joined_join_25 rfl rfl 26 rfl ?_
  refine ax_iconst 0 d_Joined_join_26 ic_0 27 rfl ?_
  refine ax_putI (K := K) fl_Joined_53 x_129 rfl rfl rfl (Nat.le_of_ble_eq_true rfl) d_Joined_join_27 30 rfl h (fun m6 h => ?_)
  refine ax_aload_n 0 d_Joined_join_30 rfl rfl 31 rfl ?_
  refine ax_iconst 0 d_Joined_join_31 ic_0 32 rfl ?_
  refine ax_putI (K := K) fl_Joined_56 x_129 rfl rfl rfl (Nat.le_of_ble_eq_true rfl) d_Joined_join_32 35 rfl h (fun m7 h => ?_)
  refine ax_aload_n 0 d_Joined_join_35 rfl rfl 36 rfl ?_
  refine ax_getR fl_Joined_29 x_129 rfl (rx_129_6 _) d_Joined_join_36 39 rfl ?_
  refine ax_iconst 0 d_Joined_join_39 ic_0 40 rfl ?_
  refine ax_iconst 0 d_Joined_join_40 ic_0 41 rfl ?_
  refine ax_iastore x_131 d_Joined_join_41 42 rfl h (fun i8 m9 h => ?_)
  refine ax_aload_n 0 d_Joined_join_42 rfl rfl 43 rfl ?_
  refine ax_getR fl_Joined_25 x_129 rfl (rx_129_5 _) d_Joined_join_43 46 rfl ?_
  refine ax_iconst (-1) d_Joined_join_46 ic_m1 47 rfl ?_
  refine ax_callS mv_Joined_63 ⟨Nat.le_of_ble_eq_true rfl, Nat.le_of_ble_eq_true rfl⟩ ⟨rfl, rfl⟩ [.ref 130, .int (-1)] [.int (-1), .ref 130] rfl rfl (Nat.le_of_ble_eq_true rfl) d_Joined_join_47 50 rfl (zc_Arrays_fill 130 (-1) m9 x_130z (ok_b h (fun p10 h => ?_)))
  refine ax_aload_n 0 d_Joined_join_50 rfl rfl 51 rfl ?_
  refine ax_getR fl_Joined_35 x_129 rfl (rx_129_8 _) d_Joined_join_51 54 rfl ?_
  refine ax_iconst (-1) d_Joined_join_54 ic_m1 55 rfl ?_
  refine ax_callS mv_Joined_63 ⟨Nat.le_of_ble_eq_true rfl, Nat.le_of_ble_eq_true rfl⟩ ⟨rfl, rfl⟩ [.ref 133, .int (-1)] [.int (-1), .ref 133] rfl rfl (Nat.le_of_ble_eq_true rfl) d_Joined_join_55 58 rfl (zc_Arrays_fill 133 (-1) p10 x_133z (ok_b h (fun p11 h => ?_)))
  refine ax_iconst 0 d_Joined_join_58 ic_0 59 rfl ?_
  refine ax_istore (ls1 := [(4, .int 0), (0, .ref 129), (1, .int v1), (2, .int v2), (3, .int v3)]) d_Joined_join_59 (Nat.le_of_ble_eq_true rfl) rfl 61 rfl ?_
  exact ax_sub [1, 0] rfl (c_Joined_join_L61 0 p11 (fun p hp => hR p hp) h)
set_option maxRecDepth 4000 in
theorem c_Study_findParts_J219 (v1 : Int32) (m : zM)  {Q : Option Value → zM → Prop} {K : ((zM) ⊕ (Int32 × zM)) → Prop} (hR : ∀ p : zM, K (.inl p) → Q none p) (h0 : ∀ s : Int32 × zM, K (.inr s) → AX gX s_Study_findParts 143 [(0, .ref 116), (1, .int s.1)] [] s.2 Q) (h : ok (f_Study_findParts_J219 v1 m) K) : AX gX s_Study_findParts 219 [(0, .ref 116), (1, .int v1)] [] m Q := by
  unfold f_Study_findParts_J219 at h
  refine ax_iinc (ls1 := [(1, .int (v1 + 1)), (0, .ref 116)]) 1 1 d_Study_findParts_219 rfl ic_1 (Nat.le_of_ble_eq_true rfl) rfl 222 rfl ?_
  refine ax_goto 143 d_Study_findParts_222 rfl ?_
  exact ax_sub [1, 0] rfl (h0 ((v1 + 1), m) (ok_some h))
set_option maxRecDepth 4000 in
theorem c_Study_findParts_J213 (v1 : Int32) (v2 : Int32) (m : zM)  {Q : Option Value → zM → Prop} {K : (((zM) ⊕ (Int32 × zM)) ⊕ (Int32 × zM)) → Prop} (hR : ∀ p : zM, K (.inl (.inl p)) → Q none p) (h0 : ∀ s : Int32 × zM, K (.inl (.inr s)) → AX gX s_Study_findParts 143 [(0, .ref 116), (1, .int s.1)] [] s.2 Q) (h1 : ∀ s : Int32 × zM, K (.inr s) → AX gX s_Study_findParts 164 [(0, .ref 116), (1, .int v1), (2, .int s.1)] [] s.2 Q) (h : ok (f_Study_findParts_J213 v1 v2 m) K) : AX gX s_Study_findParts 213 [(0, .ref 116), (1, .int v1), (2, .int v2)] [] m Q := by
  unfold f_Study_findParts_J213 at h
  refine ax_iinc (ls1 := [(2, .int (v2 + 1)), (0, .ref 116), (1, .int v1)]) 2 1 d_Study_findParts_213 rfl ic_1 (Nat.le_of_ble_eq_true rfl) rfl 216 rfl ?_
  refine ax_goto 164 d_Study_findParts_216 rfl ?_
  exact ax_sub [1, 2, 0] rfl (h1 ((v2 + 1), m) (ok_some h))
