set_option maxRecDepth 4000 in
theorem c_MO_first_J30 (v1 : Int32) (m : zM)  {Q : Option Value → zM → Prop} {K : (Int32 × zM) → Prop} (hR : ∀ p : Int32 × zM, K (p) → Q (some (.int p.1)) p.2)  (h : ok (f_MO_first_J30 v1 m) K) : AX gM s_MO_first 30 [(0, .ref 0), (1, .int v1)] [] m Q := by
  unfold f_MO_first_J30 at h
  refine ax_iconst 0 d_MO_first_30 ic_0 31 rfl ?_
  refine ax_istore_n (ls1 := [(2, .int 0), (0, .ref 0), (1, .int v1)]) d_MO_first_31 rfl (Nat.le_of_ble_eq_true rfl) rfl 32 rfl ?_
  exact ax_sub [1, 2, 0] rfl (c_MO_first_L32 v1 0 m (fun p hp => hR p hp) h)
set_option maxRecDepth 4000 in
theorem zc_MO_first (v1 : Int32) (m : zM)  {Q : Option Value → zM → Prop} (h : ok (f_MO_first v1 m) (fun p => Q (some (.int p.1)) p.2)) : zc gM s_MO_first [.ref 0, .int v1] m Q := by
  refine zc_of rfl (Nat.le_of_ble_eq_true rfl) ?_
  show AX gM s_MO_first 0 [(0, .ref 0), (1, .int v1)] [] m Q
  obtain ⟨K, hK⟩ : ∃ K : (Int32 × zM) → Prop, K = (fun p : Int32 × zM => Q (some (.int p.1)) p.2) := ⟨_, rfl⟩
  have hR : ∀ p : Int32 × zM, K p → Q (some (.int p.1)) p.2 := fun p hp => by rw [hK] at hp; exact hp
  replace h : ok (f_MO_first v1 m) (fun p : Int32 × zM => Q (some (.int p.1)) p.2) := h
  rw [← hK] at h
  unfold f_MO_first at h
  refine ax_aload_n 0 d_MO_first_0 rfl rfl 1 rfl ?_
  refine ax_callV mv_MO_505 ⟨Nat.le_of_ble_eq_true rfl, Nat.le_of_ble_eq_true rfl⟩ ⟨rfl, rfl⟩ [] [.ref 0] rfl rfl (rc_m_0 _) (Nat.le_of_ble_eq_true rfl) d_MO_first_1 4 rfl (zc_MO_isAsked m (ok_b h (fun p1 h => ?_)))
  refine ax_ifb_eq 19 7 d_MO_first_4 rfl rfl (fun hc => ?_) (fun hc => ?_)
  · have h := ok_f (bf hc) h
    refine ax_iconst (-1) d_MO_first_19 ic_m1 20 rfl ?_
    exact ax_iret rfl d_MO_first_20 (hR ((-1), p1.2) (ok_some h))
  · have h := ok_t hc h
    refine ax_iload_n 1 d_MO_first_7 rfl rfl 8 rfl ?_
    refine ax_i2l d_MO_first_8 9 rfl ?_
    refine ax_lconst 0 d_MO_first_9 lc_0 10 rfl ?_
    refine ax_ldc2 3 wk_MO_546 d_MO_first_10 13 rfl ?_
    refine ax_callS mv_MO_210 ⟨Nat.le_of_ble_eq_true rfl, Nat.le_of_ble_eq_true rfl⟩ ⟨rfl, rfl⟩ [.long v1.toInt64, .long 0, .long 3] [.long 3, .long 0, .long v1.toInt64] rfl rfl (Nat.le_of_ble_eq_true rfl) d_MO_first_13 16 rfl (zc_MO_isIn v1.toInt64 0 3 p1.2 ?_)
    refine ax_ifb_ne 21 19 d_MO_first_16 rfl rfl (fun hc => ?_) (fun hc => ?_)
    · have h := ok_t hc h
      refine ax_iload_n 1 d_MO_first_21 rfl rfl 22 rfl ?_
      refine ax_iconst 1 d_MO_first_22 ic_1 23 rfl ?_
      refine ax_icmp_le 30 26 d_MO_first_23 rfl rfl (fun hc => ?_) (fun hc => ?_)
      · have h := ok_t hc h
        exact ax_sub [0, 1] rfl (c_MO_first_J30 v1 p1.2 (fun p hp => hR p hp) h)
      · have h := ok_f hc h
        refine ax_aload_n 0 d_MO_first_26 rfl rfl 27 rfl ?_
        refine ax_callV mv_MO_496 ⟨Nat.le_of_ble_eq_true rfl, Nat.le_of_ble_eq_true rfl⟩ ⟨rfl, rfl⟩ [] [.ref 0] rfl rfl (rc_m_0 _) (Nat.le_of_ble_eq_true rfl) d_MO_first_27 30 rfl (zc_MO_looks p1.2 (ok_b h (fun p2 h => ?_)))
        exact ax_sub [0, 1] rfl (c_MO_first_J30 v1 p2 (fun p hp => hR p hp) h)
    · have h := ok_f (bf hc) h
      refine ax_iconst (-1) d_MO_first_19 ic_m1 20 rfl ?_
      exact ax_iret rfl d_MO_first_20 (hR ((-1), p1.2) (ok_some h))
set_option maxRecDepth 4000 in
theorem c_MO_returns_J46 (v1 : Int32) (v2 : Int32) (m : zM)  {Q : Option Value → zM → Prop} {K : ((Int32 × zM) ⊕ (Int32 × Int32 × zM)) → Prop} (hR : ∀ p : Int32 × zM, K (.inl p) → Q (some (.int p.1)) p.2) (h0 : ∀ s : Int32 × Int32 × zM, K (.inr s) → AX gM s_MO_returns 18 [(0, .ref 0), (1, .int s.1), (2, .int s.2.1)] [] s.2.2 Q) (h : ok (f_MO_returns_J46 v1 v2 m) K) : AX gM s_MO_returns 46 [(0, .ref 0), (1, .int v1), (2, .int v2)] [] m Q := by
  unfold f_MO_returns_J46 at h
  refine ax_iinc (ls1 := [(2, .int (v2 + 1)), (0, .ref 0), (1, .int v1)]) 2 1 d_MO_returns_46 rfl ic_1 (Nat.le_of_ble_eq_true rfl) rfl 49 rfl ?_
  refine ax_goto 18 d_MO_returns_49 rfl ?_
  exact ax_sub [1, 2, 0] rfl (h0 (v1, (v2 + 1), m) (ok_some h))
set_option maxRecDepth 4000 in
theorem c_MO_returns_B18 (v1 : Int32) (v2 : Int32) (m : zM)  {Q : Option Value → zM → Prop} {K : ((Int32 × zM) ⊕ (Int32 × Int32 × zM)) → Prop} (hR : ∀ p : Int32 × zM, K (.inl p) → Q (some (.int p.1)) p.2) (h0 : ∀ s : Int32 × Int32 × zM, K (.inr s) → AX gM s_MO_returns 18 [(0, .ref 0), (1, .int s.1), (2, .int s.2.1)] [] s.2.2 Q) (h : ok (f_MO_returns_B18 v1 v2 m) K) : AX gM s_MO_returns 18 [(0, .ref 0), (1, .int v1), (2, .int v2)] [] m Q := by
  unfold f_MO_returns_B18 at h
  refine ax_iload_n 2 d_MO_returns_18 rfl rfl 19 rfl ?_
  refine ax_aload_n 0 d_MO_returns_19 rfl rfl 20 rfl ?_
  refine ax_getI fl_MO_380 m_0 rfl d_MO_returns_20 23 rfl ?_
  refine ax_icmp_ge 52 26 d_MO_returns_23 rfl rfl (fun hc => ?_) (fun hc => ?_)
  · have h := ok_t hc h
    refine ax_iload_n 1 d_MO_returns_52 rfl rfl 53 rfl ?_
    exact ax_iret rfl d_MO_returns_53 (hR (v1, m) (ok_some h))
  · have h := ok_f hc h
    refine ax_aload_n 0 d_MO_returns_26 rfl rfl 27 rfl ?_
    refine ax_getR fl_MO_169 m_0 rfl (rm_0_70 _) d_MO_returns_27 30 rfl ?_
    refine ax_iload_n 2 d_MO_returns_30 rfl rfl 31 rfl ?_
    refine ax_iaload m_50 d_MO_returns_31 32 rfl h (fun i3 h => ?_)
    refine ax_ldcw 100000 wk_MO_535 d_MO_returns_32 35 rfl ?_
    refine ax_icmp_ge 46 38 d_MO_returns_35 rfl rfl (fun hc => ?_) (fun hc => ?_)
    · have h := ok_t hc h
      exact ax_sub [0, 1, 2] rfl (c_MO_returns_J46 v1 v2 m (fun p hp => hR p hp) (fun s hs => h0 s hs) h)
    · have h := ok_f hc h
      refine ax_iload_n 1 d_MO_returns_38 rfl rfl 39 rfl ?_
      refine ax_aload_n 0 d_MO_returns_39 rfl rfl 40 rfl ?_
      refine ax_iload_n 2 d_MO_returns_40 rfl rfl 41 rfl ?_
      refine ax_callV mv_MO_428 ⟨Nat.le_of_ble_eq_true rfl, Nat.le_of_ble_eq_true rfl⟩ ⟨rfl, rfl⟩ [.int v2] [.int v2, .ref 0, .int v1] rfl rfl (rc_m_0 _) (Nat.le_of_ble_eq_true rfl) d_MO_returns_41 44 rfl (zc_MO_copies v2 m (ok_b h (fun p4 h => ?_)))
      refine ax_iadd d_MO_returns_44 45 rfl ?_
      refine ax_istore_n (ls1 := [(1, .int (v1 + p4.1)), (0, .ref 0), (2, .int v2)]) d_MO_returns_45 rfl (Nat.le_of_ble_eq_true rfl) rfl 46 rfl ?_
      exact ax_sub [1, 0, 2] rfl (c_MO_returns_J46 (v1 + p4.1) v2 p4.2 (fun p hp => hR p hp) (fun s hs => h0 s hs) h)
theorem c_MO_returns_L18 (v1 : Int32) (v2 : Int32) (m : zM)  {Q : Option Value → zM → Prop} {K : (Int32 × zM) → Prop} (hR : ∀ p : Int32 × zM, K (p) → Q (some (.int p.1)) p.2)  (h : ok (f_MO_returns_L18 v1 v2 m) K) : AX gM s_MO_returns 18 [(0, .ref 0), (1, .int v1), (2, .int v2)] [] m Q :=
  ok_lp (K := K) (G := fun s : Int32 × Int32 × zM => AX gM s_MO_returns 18 [(0, .ref 0), (1, .int s.1), (2, .int s.2.1)] [] s.2.2 Q) (fun s h => c_MO_returns_B18 s.1 s.2.1 s.2.2  (fun p hp => hR p hp) (fun s hs => hs) h) FU (v1, v2, m) h
set_option maxRecDepth 4000 in
theorem zc_MO_returns  (m : zM)  {Q : Option Value → zM → Prop} (h : ok (f_MO_returns m) (fun p => Q (some (.int p.1)) p.2)) : zc gM s_MO_returns [.ref 0] m Q := by
  refine zc_of rfl (Nat.le_of_ble_eq_true rfl) ?_
  show AX gM s_MO_returns 0 [(0, .ref 0)] [] m Q
  obtain ⟨K, hK⟩ : ∃ K : (Int32 × zM) → Prop, K = (fun p : Int32 × zM => Q (some (.int p.1)) p.2) := ⟨_, rfl⟩
  have hR : ∀ p : Int32 × zM, K p → Q (some (.int p.1)) p.2 := fun p hp => by rw [hK] at hp; exact hp
  replace h : ok (f_MO_returns m) (fun p : Int32 × zM => Q (some (.int p.1)) p.2) := h
  rw [← hK] at h
  unfold f_MO_returns at h
  refine ax_aload_n 0 d_MO_returns_0 rfl rfl 1 rfl ?_
  refine ax_callV mv_MO_505 ⟨Nat.le_of_ble_eq_true rfl, Nat.le_of_ble_eq_true rfl⟩ ⟨rfl, rfl⟩ [] [.ref 0] rfl rfl (rc_m_0 _) (Nat.le_of_ble_eq_true rfl) d_MO_returns_1 4 rfl (zc_MO_isAsked m (ok_b h (fun p1 h => ?_)))
  refine ax_ifb_ne 9 7 d_MO_returns_4 rfl rfl (fun hc => ?_) (fun hc => ?_)
  · have h := ok_t hc h
    refine ax_aload_n 0 d_MO_returns_9 rfl rfl 10 rfl ?_
    refine ax_iconst 0 d_MO_returns_10 ic_0 11 rfl ?_
    refine ax_callV mv_MO_539 ⟨Nat.le_of_ble_eq_true rfl, Nat.le_of_ble_eq_true rfl⟩ ⟨rfl, rfl⟩ [.int 0] [.int 0, .ref 0] rfl rfl (rc_m_0 _) (Nat.le_of_ble_eq_true rfl) d_MO_returns_11 14 rfl (zc_MO_measures 0 p1.2 (ok_b h (fun p2 h => ?_)))
    refine ax_iconst 0 d_MO_returns_14 ic_0 15 rfl ?_
    refine ax_istore_n (ls1 := [(1, .int 0), (0, .ref 0)]) d_MO_returns_15 rfl (Nat.le_of_ble_eq_true rfl) rfl 16 rfl ?_
    refine ax_iconst 0 d_MO_returns_16 ic_0 17 rfl ?_
    refine ax_istore_n (ls1 := [(2, .int 0), (1, .int 0), (0, .ref 0)]) d_MO_returns_17 rfl (Nat.le_of_ble_eq_true rfl) rfl 18 rfl ?_
    exact ax_sub [2, 1, 0] rfl (c_MO_returns_L18 0 0 p2 (fun p hp => hR p hp) h)
  · have h := ok_f (bf hc) h
    refine ax_iconst (-1) d_MO_returns_7 ic_m1 8 rfl ?_
    exact ax_iret rfl d_MO_returns_8 (hR ((-1), p1.2) (ok_some h))
set_option maxRecDepth 4000 in
theorem c_MO_wantingAll_B8 (v1 : Int32) (v2 : Int32) (v3 : Int32) (m : zM)  {Q : Option Value → zM → Prop} {K : ((Int32 × zM) ⊕ (Int32 × Int32 × zM)) → Prop} (hR : ∀ p : Int32 × zM, K (.inl p) → Q (some (.int p.1)) p.2) (h0 : ∀ s : Int32 × Int32 × zM, K (.inr s) → AX gM s_MO_wantingAll 8 [(0, .ref 0), (1, .int v1), (2, .int s.1), (3, .int s.2.1)] [] s.2.2 Q) (h : ok (f_MO_wantingAll_B8 v1 v2 v3 m) K) : AX gM s_MO_wantingAll 8 [(0, .ref 0), (1, .int v1), (2, .int v2), (3, .int v3)] [] m Q := by
  unfold f_MO_wantingAll_B8 at h
  refine ax_iload_n 3 d_MO_wantingAll_8 rfl rfl 9 rfl ?_
  refine ax_aload_n 0 d_MO_wantingAll_9 rfl rfl 10 rfl ?_
  refine ax_getI fl_MO_380 m_0 rfl d_MO_wantingAll_10 13 rfl ?_
  refine ax_icmp_ge 37 16 d_MO_wantingAll_13 rfl rfl (fun hc => ?_) (fun hc => ?_)
  · have h := ok_t hc h
    refine ax_iload_n 2 d_MO_wantingAll_37 rfl rfl 38 rfl ?_
    exact ax_iret rfl d_MO_wantingAll_38 (hR (v2, m) (ok_some h))
  · have h := ok_f hc h
    refine ax_iload_n 2 d_MO_wantingAll_16 rfl rfl 17 rfl ?_
    refine ax_aload_n 0 d_MO_wantingAll_17 rfl rfl 18 rfl ?_
    refine ax_iload_n 3 d_MO_wantingAll_18 rfl rfl 19 rfl ?_
    refine ax_callV mv_MO_428 ⟨Nat.le_of_ble_eq_true rfl, Nat.le_of_ble_eq_true rfl⟩ ⟨rfl, rfl⟩ [.int v3] [.int v3, .ref 0, .int v2] rfl rfl (rc_m_0 _) (Nat.le_of_ble_eq_true rfl) d_MO_wantingAll_19 22 rfl (zc_MO_copies v3 m (ok_b h (fun p2 h => ?_)))
    refine ax_aload_n 0 d_MO_wantingAll_22 rfl rfl 23 rfl ?_
    refine ax_iload_n 3 d_MO_wantingAll_23 rfl rfl 24 rfl ?_
    refine ax_iload_n 1 d_MO_wantingAll_24 rfl rfl 25 rfl ?_
    refine ax_callV mv_MO_499 ⟨Nat.le_of_ble_eq_true rfl, Nat.le_of_ble_eq_true rfl⟩ ⟨rfl, rfl⟩ [.int v3, .int v1] [.int v1, .int v3, .ref 0, .int p2.1, .int v2] rfl rfl (rc_m_0 _) (Nat.le_of_ble_eq_true rfl) d_MO_wantingAll_25 28 rfl (zc_MO_wantingIn v3 v1 p2.2 (ok_b h (fun p3 h => ?_)))
    refine ax_imul d_MO_wantingAll_28 29 rfl ?_
    refine ax_iadd d_MO_wantingAll_29 30 rfl ?_
    refine ax_istore_n (ls1 := [(2, .int (v2 + (p2.1 * p3.1))), (0, .ref 0), (1, .int v1), (3, .int v3)]) d_MO_wantingAll_30 rfl (Nat.le_of_ble_eq_true rfl) rfl 31 rfl ?_
    refine ax_iinc (ls1 := [(3, .int (v3 + 1)), (2, .int (v2 + (p2.1 * p3.1))), (0, .ref 0), (1, .int v1)]) 3 1 d_MO_wantingAll_31 rfl ic_1 (Nat.le_of_ble_eq_true rfl) rfl 34 rfl ?_
    refine ax_goto 8 d_MO_wantingAll_34 rfl ?_
    exact ax_sub [2, 3, 1, 0] rfl (h0 ((v2 + (p2.1 * p3.1)), (v3 + 1), p3.2) (ok_some h))
theorem c_MO_wantingAll_L8 (v1 : Int32) (v2 : Int32) (v3 : Int32) (m : zM)  {Q : Option Value → zM → Prop} {K : (Int32 × zM) → Prop} (hR : ∀ p : Int32 × zM, K (p) → Q (some (.int p.1)) p.2)  (h : ok (f_MO_wantingAll_L8 v1 v2 v3 m) K) : AX gM s_MO_wantingAll 8 [(0, .ref 0), (1, .int v1), (2, .int v2), (3, .int v3)] [] m Q :=
  ok_lp (K := K) (G := fun s : Int32 × Int32 × zM => AX gM s_MO_wantingAll 8 [(0, .ref 0), (1, .int v1), (2, .int s.1), (3, .int s.2.1)] [] s.2.2 Q) (fun s h => c_MO_wantingAll_B8 v1 s.1 s.2.1 s.2.2  (fun p hp => hR p hp) (fun s hs => hs) h) FU (v2, v3, m) h
set_option maxRecDepth 4000 in
theorem zc_MO_wantingAll (v1 : Int32) (m : zM)  {Q : Option Value → zM → Prop} (h : ok (f_MO_wantingAll v1 m) (fun p => Q (some (.int p.1)) p.2)) : zc gM s_MO_wantingAll [.ref 0, .int v1] m Q := by
  refine zc_of rfl (Nat.le_of_ble_eq_true rfl) ?_
  show AX gM s_MO_wantingAll 0 [(0, .ref 0), (1, .int v1)] [] m Q
  obtain ⟨K, hK⟩ : ∃ K : (Int32 × zM) → Prop, K = (fun p : Int32 × zM => Q (some (.int p.1)) p.2) := ⟨_, rfl⟩
  have hR : ∀ p : Int32 × zM, K p → Q (some (.int p.1)) p.2 := fun p hp => by rw [hK] at hp; exact hp
  replace h : ok (f_MO_wantingAll v1 m) (fun p : Int32 × zM => Q (some (.int p.1)) p.2) := h
  rw [← hK] at h
  unfold f_MO_wantingAll at h
  refine ax_aload_n 0 d_MO_wantingAll_0 rfl rfl 1 rfl ?_
  refine ax_callV mv_MO_496 ⟨Nat.le_of_ble_eq_true rfl, Nat.le_of_ble_eq_true rfl⟩ ⟨rfl, rfl⟩ [] [.ref 0] rfl rfl (rc_m_0 _) (Nat.le_of_ble_eq_true rfl) d_MO_wantingAll_1 4 rfl (zc_MO_looks m (ok_b h (fun p1 h => ?_)))
  refine ax_iconst 0 d_MO_wantingAll_4 ic_0 5 rfl ?_
  refine ax_istore_n (ls1 := [(2, .int 0), (0, .ref 0), (1, .int v1)]) d_MO_wantingAll_5 rfl (Nat.le_of_ble_eq_true rfl) rfl 6 rfl ?_
  refine ax_iconst 0 d_MO_wantingAll_6 ic_0 7 rfl ?_
  refine ax_istore_n (ls1 := [(3, .int 0), (2, .int 0), (0, .ref 0), (1, .int v1)]) d_MO_wantingAll_7 rfl (Nat.le_of_ble_eq_true rfl) rfl 8 rfl ?_
  exact ax_sub [2, 3, 1, 0] rfl (c_MO_wantingAll_L8 v1 0 0 p1 (fun p hp => hR p hp) h)
set_option maxRecDepth 4000 in
theorem zc_MO_starving (v1 : Int32) (m : zM)  {Q : Option Value → zM → Prop} (h : ok (f_MO_starving v1 m) (fun p => Q (some (.int p.1)) p.2)) : zc gM s_MO_starving [.ref 0, .int v1] m Q := by
  refine zc_of rfl (Nat.le_of_ble_eq_true rfl) ?_
  show AX gM s_MO_starving 0 [(0, .ref 0), (1, .int v1)] [] m Q
  obtain ⟨K, hK⟩ : ∃ K : (Int32 × zM) → Prop, K = (fun p : Int32 × zM => Q (some (.int p.1)) p.2) := ⟨_, rfl⟩
  have hR : ∀ p : Int32 × zM, K p → Q (some (.int p.1)) p.2 := fun p hp => by rw [hK] at hp; exact hp
  replace h : ok (f_MO_starving v1 m) (fun p : Int32 × zM => Q (some (.int p.1)) p.2) := h
  rw [← hK] at h
  unfold f_MO_starving at h
  refine ax_aload_n 0 d_MO_starving_0 rfl rfl 1 rfl ?_
  refine ax_callV mv_MO_505 ⟨Nat.le_of_ble_eq_true rfl, Nat.le_of_ble_eq_true rfl⟩ ⟨rfl, rfl⟩ [] [.ref 0] rfl rfl (rc_m_0 _) (Nat.le_of_ble_eq_true rfl) d_MO_starving_1 4 rfl (zc_MO_isAsked m (ok_b h (fun p1 h => ?_)))
  refine ax_ifb_eq 25 7 d_MO_starving_4 rfl rfl (fun hc => ?_) (fun hc => ?_)
  · have h := ok_f (bf hc) h
    refine ax_iconst (-1) d_MO_starving_25 ic_m1 26 rfl ?_
    exact ax_iret rfl d_MO_starving_26 (hR ((-1), p1.2) (ok_some h))
  · have h := ok_t hc h
    refine ax_iload_n 1 d_MO_starving_7 rfl rfl 8 rfl ?_
    refine ax_i2l d_MO_starving_8 9 rfl ?_
    refine ax_lconst 0 d_MO_starving_9 lc_0 10 rfl ?_
    refine ax_lconst 1 d_MO_starving_10 lc_1 11 rfl ?_
    refine ax_callS mv_MO_210 ⟨Nat.le_of_ble_eq_true rfl, Nat.le_of_ble_eq_true rfl⟩ ⟨rfl, rfl⟩ [.long v1.toInt64, .long 0, .long 1] [.long 1, .long 0, .long v1.toInt64] rfl rfl (Nat.le_of_ble_eq_true rfl) d_MO_starving_11 14 rfl (zc_MO_isIn v1.toInt64 0 1 p1.2 ?_)
    refine ax_ifb_eq 25 17 d_MO_starving_14 rfl rfl (fun hc => ?_) (fun hc => ?_)
    · have h := ok_f (bf hc) h
      refine ax_iconst (-1) d_MO_starving_25 ic_m1 26 rfl ?_
      exact ax_iret rfl d_MO_starving_26 (hR ((-1), p1.2) (ok_some h))
    · have h := ok_t hc h
      refine ax_aload_n 0 d_MO_starving_17 rfl rfl 18 rfl ?_
      refine ax_iload_n 1 d_MO_starving_18 rfl rfl 19 rfl ?_
      refine ax_callV mv_MO_551 ⟨Nat.le_of_ble_eq_true rfl, Nat.le_of_ble_eq_true rfl⟩ ⟨rfl, rfl⟩ [.int v1] [.int v1, .ref 0] rfl rfl (rc_m_0 _) (Nat.le_of_ble_eq_true rfl) d_MO_starving_19 22 rfl (zc_MO_wantingAll v1 p1.2 (ok_b h (fun p2 h => ?_)))
      refine ax_goto 26 d_MO_starving_22 rfl ?_
      exact ax_iret rfl d_MO_starving_26 (hR (p2.1, p2.2) (ok_some h))
set_option maxRecDepth 4000 in
theorem c_MO_uses_J80 (v1 : Int32) (v2 : Int32) (v3 : Int32) (m : zM)  {Q : Option Value → zM → Prop} {K : ((Int32 × zM) ⊕ (Int32 × Int32 × zM)) → Prop} (hR : ∀ p : Int32 × zM, K (.inl p) → Q (some (.int p.1)) p.2) (h0 : ∀ s : Int32 × Int32 × zM, K (.inr s) → AX gM s_MO_uses 29 [(0, .ref 0), (1, .int v1), (2, .int s.1), (3, .int s.2.1)] [] s.2.2 Q) (h : ok (f_MO_uses_J80 v1 v2 v3 m) K) : AX gM s_MO_uses 80 [(0, .ref 0), (1, .int v1), (2, .int v2), (3, .int v3)] [] m Q := by
  unfold f_MO_uses_J80 at h
  refine ax_iinc (ls1 := [(3, .int (v3 + 1)), (0, .ref 0), (1, .int v1), (2, .int v2)]) 3 1 d_MO_uses_80 rfl ic_1 (Nat.le_of_ble_eq_true rfl) rfl 83 rfl ?_
  refine ax_goto 29 d_MO_uses_83 rfl ?_
  exact ax_sub [1, 2, 3, 0] rfl (h0 (v2, (v3 + 1), m) (ok_some h))
set_option maxRecDepth 4000 in
theorem c_MO_uses_J74 (v1 : Int32) (v2 : Int32) (v3 : Int32) (v4 : Int32) (m : zM)  {Q : Option Value → zM → Prop} {K : (((Int32 × zM) ⊕ (Int32 × Int32 × zM)) ⊕ (Int32 × Int32 × zM)) → Prop} (hR : ∀ p : Int32 × zM, K (.inl (.inl p)) → Q (some (.int p.1)) p.2) (h0 : ∀ s : Int32 × Int32 × zM, K (.inl (.inr s)) → AX gM s_MO_uses 29 [(0, .ref 0), (1, .int v1), (2, .int s.1), (3, .int s.2.1)] [] s.2.2 Q) (h1 : ∀ s : Int32 × Int32 × zM, K (.inr s) → AX gM s_MO_uses 40 [(0, .ref 0), (1, .int v1), (2, .int s.1), (3, .int v3), (4, .int s.2.1)] [] s.2.2 Q) (h : ok (f_MO_uses_J74 v1 v2 v3 v4 m) K) : AX gM s_MO_uses 74 [(0, .ref 0), (1, .int v1), (2, .int v2), (3, .int v3), (4, .int v4)] [] m Q := by
  unfold f_MO_uses_J74 at h
  refine ax_iinc (ls1 := [(4, .int (v4 + 1)), (0, .ref 0), (1, .int v1), (2, .int v2), (3, .int v3)]) 4 1 d_MO_uses_74 rfl ic_1 (Nat.le_of_ble_eq_true rfl) rfl 77 rfl ?_
  refine ax_goto 40 d_MO_uses_77 rfl ?_
  exact ax_sub [1, 2, 3, 4, 0] rfl (h1 (v2, (v4 + 1), m) (ok_some h))
set_option maxRecDepth 4000 in
theorem c_MO_uses_B40 (v1 : Int32) (v2 : Int32) (v3 : Int32) (v4 : Int32) (m : zM)  {Q : Option Value → zM → Prop} {K : (((Int32 × zM) ⊕ (Int32 × Int32 × zM)) ⊕ (Int32 × Int32 × zM)) → Prop} (hR : ∀ p : Int32 × zM, K (.inl (.inl p)) → Q (some (.int p.1)) p.2) (h0 : ∀ s : Int32 × Int32 × zM, K (.inl (.inr s)) → AX gM s_MO_uses 29 [(0, .ref 0), (1, .int v1), (2, .int s.1), (3, .int s.2.1)] [] s.2.2 Q) (h1 : ∀ s : Int32 × Int32 × zM, K (.inr s) → AX gM s_MO_uses 40 [(0, .ref 0), (1, .int v1), (2, .int s.1), (3, .int v3), (4, .int s.2.1)] [] s.2.2 Q) (h : ok (f_MO_uses_B40 v1 v2 v3 v4 m) K) : AX gM s_MO_uses 40 [(0, .ref 0), (1, .int v1), (2, .int v2), (3, .int v3), (4, .int v4)] [] m Q := by
  unfold f_MO_uses_B40 at h
  refine ax_iload 4 d_MO_uses_40 rfl 42 rfl ?_
  refine ax_iconst 4 d_MO_uses_42 ic_4 43 rfl ?_
  refine ax_icmp_ge 80 46 d_MO_uses_43 rfl rfl (fun hc => ?_) (fun hc => ?_)
  · have h := ok_t hc h
    exact ax_sub [0, 1, 2, 3] rfl (c_MO_uses_J80 v1 v2 v3 m (fun p hp => hR p hp) (fun s hs => h0 s hs) (ok_z h))
  · have h := ok_f hc h
    refine ax_aload_n 0 d_MO_uses_46 rfl rfl 47 rfl ?_
    refine ax_getR fl_MO_107 m_0 rfl (rm_0_45 _) d_MO_uses_47 50 rfl ?_
    refine ax_bipush 64 d_MO_uses_50 bp_64 52 rfl ?_
    refine ax_iload_n 3 d_MO_uses_52 rfl rfl 53 rfl ?_
    refine ax_imul d_MO_uses_53 54 rfl ?_
    refine ax_iconst 4 d_MO_uses_54 ic_4 55 rfl ?_
    refine ax_iload_n 1 d_MO_uses_55 rfl rfl 56 rfl ?_
    refine ax_imul d_MO_uses_56 57 rfl ?_
    refine ax_iadd d_MO_uses_57 58 rfl ?_
    refine ax_iload 4 d_MO_uses_58 rfl 60 rfl ?_
    refine ax_iadd d_MO_uses_60 61 rfl ?_
    refine ax_iaload m_30 d_MO_uses_61 62 rfl h (fun i3 h => ?_)
    refine ax_iconst (-1) d_MO_uses_62 ic_m1 63 rfl ?_
    refine ax_icmp_eq 74 66 d_MO_uses_63 rfl rfl (fun hc => ?_) (fun hc => ?_)
    · have h := ok_t hc h
      exact ax_sub [0, 1, 2, 3, 4] rfl (c_MO_uses_J74 v1 v2 v3 v4 m (fun p hp => hR p hp) (fun s hs => h0 s hs) (fun s hs => h1 s hs) h)
    · have h := ok_f hc h
      refine ax_iload_n 2 d_MO_uses_66 rfl rfl 67 rfl ?_
      refine ax_aload_n 0 d_MO_uses_67 rfl rfl 68 rfl ?_
      refine ax_iload_n 3 d_MO_uses_68 rfl rfl 69 rfl ?_
      refine ax_callV mv_MO_428 ⟨Nat.le_of_ble_eq_true rfl, Nat.le_of_ble_eq_true rfl⟩ ⟨rfl, rfl⟩ [.int v3] [.int v3, .ref 0, .int v2] rfl rfl (rc_m_0 _) (Nat.le_of_ble_eq_true rfl) d_MO_uses_69 72 rfl (zc_MO_copies v3 m (ok_b h (fun p4 h => ?_)))
      refine ax_iadd d_MO_uses_72 73 rfl ?_
      refine ax_istore_n (ls1 := [(2, .int (v2 + p4.1)), (0, .ref 0), (1, .int v1), (3, .int v3), (4, .int v4)]) d_MO_uses_73 rfl (Nat.le_of_ble_eq_true rfl) rfl 74 rfl ?_
      exact ax_sub [1, 2, 0, 3, 4] rfl (c_MO_uses_J74 v1 (v2 + p4.1) v3 v4 p4.2 (fun p hp => hR p hp) (fun s hs => h0 s hs) (fun s hs => h1 s hs) h)
theorem c_MO_uses_L40 (v1 : Int32) (v2 : Int32) (v3 : Int32) (v4 : Int32) (m : zM)  {Q : Option Value → zM → Prop} {K : ((Int32 × zM) ⊕ (Int32 × Int32 × zM)) → Prop} (hR : ∀ p : Int32 × zM, K (.inl p) → Q (some (.int p.1)) p.2) (h0 : ∀ s : Int32 × Int32 × zM, K (.inr s) → AX gM s_MO_uses 29 [(0, .ref 0), (1, .int v1), (2, .int s.1), (3, .int s.2.1)] [] s.2.2 Q) (h : ok (f_MO_uses_L40 v1 v2 v3 v4 m) K) : AX gM s_MO_uses 40 [(0, .ref 0), (1, .int v1), (2, .int v2), (3, .int v3), (4, .int v4)] [] m Q :=
  ok_lp (K := K) (G := fun s : Int32 × Int32 × zM => AX gM s_MO_uses 40 [(0, .ref 0), (1, .int v1), (2, .int s.1), (3, .int v3), (4, .int s.2.1)] [] s.2.2 Q) (fun s h => c_MO_uses_B40 v1 s.1 v3 s.2.1 s.2.2  (fun p hp => hR p hp) (fun s hs => h0 s hs) (fun s hs => hs) h) FU (v2, v4, m) h
set_option maxRecDepth 4000 in
theorem c_MO_uses_B29 (v1 : Int32) (v2 : Int32) (v3 : Int32) (m : zM)  {Q : Option Value → zM → Prop} {K : ((Int32 × zM) ⊕ (Int32 × Int32 × zM)) → Prop} (hR : ∀ p : Int32 × zM, K (.inl p) → Q (some (.int p.1)) p.2) (h0 : ∀ s : Int32 × Int32 × zM, K (.inr s) → AX gM s_MO_uses 29 [(0, .ref 0), (1, .int v1), (2, .int s.1), (3, .int s.2.1)] [] s.2.2 Q) (h : ok (f_MO_uses_B29 v1 v2 v3 m) K) : AX gM s_MO_uses 29 [(0, .ref 0), (1, .int v1), (2, .int v2), (3, .int v3)] [] m Q := by
  unfold f_MO_uses_B29 at h
  refine ax_iload_n 3 d_MO_uses_29 rfl rfl 30 rfl ?_
  refine ax_aload_n 0 d_MO_uses_30 rfl rfl 31 rfl ?_
  refine ax_getI fl_MO_380 m_0 rfl d_MO_uses_31 34 rfl ?_
  refine ax_icmp_ge 86 37 d_MO_uses_34 rfl rfl (fun hc => ?_) (fun hc => ?_)
  · have h := ok_t hc h
    refine ax_iload_n 2 d_MO_uses_86 rfl rfl 87 rfl ?_
    exact ax_iret rfl d_MO_uses_87 (hR (v2, m) (ok_some h))
  · have h := ok_f hc h
    refine ax_iconst 0 d_MO_uses_37 ic_0 38 rfl ?_
    refine ax_istore (ls1 := [(4, .int 0), (0, .ref 0), (1, .int v1), (2, .int v2), (3, .int v3)]) d_MO_uses_38 (Nat.le_of_ble_eq_true rfl) rfl 40 rfl ?_
    exact ax_sub [1, 2, 3, 4, 0] rfl (c_MO_uses_L40 v1 v2 v3 0 m (fun p hp => hR p hp) (fun s hs => h0 s hs) h)
theorem c_MO_uses_L29 (v1 : Int32) (v2 : Int32) (v3 : Int32) (m : zM)  {Q : Option Value → zM → Prop} {K : (Int32 × zM) → Prop} (hR : ∀ p : Int32 × zM, K (p) → Q (some (.int p.1)) p.2)  (h : ok (f_MO_uses_L29 v1 v2 v3 m) K) : AX gM s_MO_uses 29 [(0, .ref 0), (1, .int v1), (2, .int v2), (3, .int v3)] [] m Q :=
  ok_lp (K := K) (G := fun s : Int32 × Int32 × zM => AX gM s_MO_uses 29 [(0, .ref 0), (1, .int v1), (2, .int s.1), (3, .int s.2.1)] [] s.2.2 Q) (fun s h => c_MO_uses_B29 v1 s.1 s.2.1 s.2.2  (fun p hp => hR p hp) (fun s hs => hs) h) FU (v2, v3, m) h
set_option maxRecDepth 4000 in
theorem zc_MO_uses (v1 : Int32) (m : zM)  {Q : Option Value → zM → Prop} (h : ok (f_MO_uses v1 m) (fun p => Q (some (.int p.1)) p.2)) : zc gM s_MO_uses [.ref 0, .int v1] m Q := by
  refine zc_of rfl (Nat.le_of_ble_eq_true rfl) ?_
  show AX gM s_MO_uses 0 [(0, .ref 0), (1, .int v1)] [] m Q
  obtain ⟨K, hK⟩ : ∃ K : (Int32 × zM) → Prop, K = (fun p : Int32 × zM => Q (some (.int p.1)) p.2) := ⟨_, rfl⟩
  have hR : ∀ p : Int32 × zM, K p → Q (some (.int p.1)) p.2 := fun p hp => by rw [hK] at hp; exact hp
  replace h : ok (f_MO_uses v1 m) (fun p : Int32 × zM => Q (some (.int p.1)) p.2) := h
  rw [← hK] at h
  unfold f_MO_uses at h
  refine ax_aload_n 0 d_MO_uses_0 rfl rfl 1 rfl ?_
  refine ax_callV mv_MO_505 ⟨Nat.le_of_ble_eq_true rfl, Nat.le_of_ble_eq_true rfl⟩ ⟨rfl, rfl⟩ [] [.ref 0] rfl rfl (rc_m_0 _) (Nat.le_of_ble_eq_true rfl) d_MO_uses_1 4 rfl (zc_MO_isAsked m (ok_b h (fun p1 h => ?_)))
  refine ax_ifb_eq 23 7 d_MO_uses_4 rfl rfl (fun hc => ?_) (fun hc => ?_)
  · have h := ok_f (bf hc) h
    refine ax_iconst (-1) d_MO_uses_23 ic_m1 24 rfl ?_
    exact ax_iret rfl d_MO_uses_24 (hR ((-1), p1.2) (ok_some h))
  · have h := ok_t hc h
    refine ax_iload_n 1 d_MO_uses_7 rfl rfl 8 rfl ?_
    refine ax_i2l d_MO_uses_8 9 rfl ?_
    refine ax_lconst 0 d_MO_uses_9 lc_0 10 rfl ?_
    refine ax_aload_n 0 d_MO_uses_10 rfl rfl 11 rfl ?_
    refine ax_callV mv_MO_400 ⟨Nat.le_of_ble_eq_true rfl, Nat.le_of_ble_eq_true rfl⟩ ⟨rfl, rfl⟩ [] [.ref 0, .long 0, .long v1.toInt64] rfl rfl (rc_m_0 _) (Nat.le_of_ble_eq_true rfl) d_MO_uses_11 14 rfl (zc_MO_rules p1.2 (ok_b h (fun r2 h => ?_)))
    refine ax_iconst 1 d_MO_uses_14 ic_1 15 rfl ?_
    refine ax_isub d_MO_uses_15 16 rfl ?_
    refine ax_i2l d_MO_uses_16 17 rfl ?_
    refine ax_callS mv_MO_210 ⟨Nat.le_of_ble_eq_true rfl, Nat.le_of_ble_eq_true rfl⟩ ⟨rfl, rfl⟩ [.long v1.toInt64, .long 0, .long ((r2 - 1).toInt64)] [.long ((r2 - 1).toInt64), .long 0, .long v1.toInt64] rfl rfl (Nat.le_of_ble_eq_true rfl) d_MO_uses_17 20 rfl (zc_MO_isIn v1.toInt64 0 ((r2 - 1).toInt64) p1.2 ?_)
    refine ax_ifb_ne 25 23 d_MO_uses_20 rfl rfl (fun hc => ?_) (fun hc => ?_)
    · have h := ok_t hc h
      refine ax_iconst 0 d_MO_uses_25 ic_0 26 rfl ?_
      refine ax_istore_n (ls1 := [(2, .int 0), (0, .ref 0), (1, .int v1)]) d_MO_uses_26 rfl (Nat.le_of_ble_eq_true rfl) rfl 27 rfl ?_
      refine ax_iconst 0 d_MO_uses_27 ic_0 28 rfl ?_
      refine ax_istore_n (ls1 := [(3, .int 0), (2, .int 0), (0, .ref 0), (1, .int v1)]) d_MO_uses_28 rfl (Nat.le_of_ble_eq_true rfl) rfl 29 rfl ?_
      exact ax_sub [2, 3, 1, 0] rfl (c_MO_uses_L29 v1 0 0 p1.2 (fun p hp => hR p hp) h)
    · have h := ok_f (bf hc) h
      refine ax_iconst (-1) d_MO_uses_23 ic_m1 24 rfl ?_
      exact ax_iret rfl d_MO_uses_24 (hR ((-1), p1.2) (ok_some h))
set_option maxRecDepth 4000 in
theorem c_MO_withoutOf_J35 (t1 : Int32) (m : zM)  {Q : Option Value → zM → Prop} {K : (Int32 × zM) → Prop} (hR : ∀ p : Int32 × zM, K (p) → Q (some (.int p.1)) p.2)  (h : ok (f_MO_withoutOf_J35 t1 m) K) : AX gM s_MO_withoutOf 35 [] [.int t1, .ref 0] m Q := by
  unfold f_MO_withoutOf_J35 at h
  refine ax_callV mv_MO_510 ⟨Nat.le_of_ble_eq_true rfl, Nat.le_of_ble_eq_true rfl⟩ ⟨rfl, rfl⟩ [.int t1] [.int t1, .ref 0] rfl rfl (rc_m_0 _) (Nat.le_of_ble_eq_true rfl) d_MO_withoutOf_35 38 rfl (zc_MO_sumOf t1 m (ok_b h (fun p2 h => ?_)))
  exact ax_iret rfl d_MO_withoutOf_38 (hR (p2.1, p2.2) (ok_some h))
set_option maxRecDepth 4000 in
theorem zc_MO_withoutOf (v1 : Int32) (m : zM)  {Q : Option Value → zM → Prop} (h : ok (f_MO_withoutOf v1 m) (fun p => Q (some (.int p.1)) p.2)) : zc gM s_MO_withoutOf [.ref 0, .int v1] m Q := by
  refine zc_of rfl (Nat.le_of_ble_eq_true rfl) ?_
  show AX gM s_MO_withoutOf 0 [(0, .ref 0), (1, .int v1)] [] m Q
  obtain ⟨K, hK⟩ : ∃ K : (Int32 × zM) → Prop, K = (fun p : Int32 × zM => Q (some (.int p.1)) p.2) := ⟨_, rfl⟩
  have hR : ∀ p : Int32 × zM, K p → Q (some (.int p.1)) p.2 := fun p hp => by rw [hK] at hp; exact hp
  replace h : ok (f_MO_withoutOf v1 m) (fun p : Int32 × zM => Q (some (.int p.1)) p.2) := h
  rw [← hK] at h
  unfold f_MO_withoutOf at h
  refine ax_iload_n 1 d_MO_withoutOf_0 rfl rfl 1 rfl ?_
  refine ax_if_ne 11 4 d_MO_withoutOf_1 rfl rfl (fun hc => ?_) (fun hc => ?_)
  · have h := ok_f hc h
    refine ax_iload_n 1 d_MO_withoutOf_11 rfl rfl 12 rfl ?_
    refine ax_iconst 4 d_MO_withoutOf_12 ic_4 13 rfl ?_
    refine ax_icmp_ne 24 16 d_MO_withoutOf_13 rfl rfl (fun hc => ?_) (fun hc => ?_)
    · have h := ok_f hc h
      refine ax_aload_n 0 d_MO_withoutOf_24 rfl rfl 25 rfl ?_
      refine ax_iload_n 1 d_MO_withoutOf_25 rfl rfl 26 rfl ?_
      refine ax_iconst 1 d_MO_withoutOf_26 ic_1 27 rfl ?_
      refine ax_icmp_ne 34 30 d_MO_withoutOf_27 rfl rfl (fun hc => ?_) (fun hc => ?_)
      · have h := ok_f hc h
        refine ax_iload_n 1 d_MO_withoutOf_34 rfl rfl 35 rfl ?_
        exact ax_sub [] rfl (c_MO_withoutOf_J35 v1 m (fun p hp => hR p hp) h)
      · have h := ok_t hc h
        refine ax_iconst 0 d_MO_withoutOf_30 ic_0 31 rfl ?_
        refine ax_goto 35 d_MO_withoutOf_31 rfl ?_
        exact ax_sub [] rfl (c_MO_withoutOf_J35 0 m (fun p hp => hR p hp) h)
    · have h := ok_t hc h
      refine ax_aload_n 0 d_MO_withoutOf_16 rfl rfl 17 rfl ?_
      refine ax_iconst 0 d_MO_withoutOf_17 ic_0 18 rfl ?_
      refine ax_callV mv_MO_551 ⟨Nat.le_of_ble_eq_true rfl, Nat.le_of_ble_eq_true rfl⟩ ⟨rfl, rfl⟩ [.int 0] [.int 0, .ref 0] rfl rfl (rc_m_0 _) (Nat.le_of_ble_eq_true rfl) d_MO_withoutOf_18 21 rfl (zc_MO_wantingAll 0 m (ok_b h (fun p1 h => ?_)))
      refine ax_goto 38 d_MO_withoutOf_21 rfl ?_
      exact ax_iret rfl d_MO_withoutOf_38 (hR (p1.1, p1.2) (ok_some h))
  · have h := ok_t hc h
    refine ax_aload_n 0 d_MO_withoutOf_4 rfl rfl 5 rfl ?_
    refine ax_getI fl_MO_380 m_0 rfl d_MO_withoutOf_5 8 rfl ?_
    refine ax_goto 38 d_MO_withoutOf_8 rfl ?_
    exact ax_iret rfl d_MO_withoutOf_38 (hR ((m.1 0 41), m) (ok_some h))
set_option maxRecDepth 4000 in
theorem zc_MO_without (v1 : Int32) (v2 : Int32) (m : zM)  {Q : Option Value → zM → Prop} (h : ok (f_MO_without v1 v2 m) (fun p => Q (some (.int p.1)) p.2)) : zc gM s_MO_without [.ref 0, .int v1, .int v2] m Q := by
  refine zc_of rfl (Nat.le_of_ble_eq_true rfl) ?_
  show AX gM s_MO_without 0 [(0, .ref 0), (1, .int v1), (2, .int v2)] [] m Q
  obtain ⟨K, hK⟩ : ∃ K : (Int32 × zM) → Prop, K = (fun p : Int32 × zM => Q (some (.int p.1)) p.2) := ⟨_, rfl⟩
  have hR : ∀ p : Int32 × zM, K p → Q (some (.int p.1)) p.2 := fun p hp => by rw [hK] at hp; exact hp
  replace h : ok (f_MO_without v1 v2 m) (fun p : Int32 × zM => Q (some (.int p.1)) p.2) := h
  rw [← hK] at h
  unfold f_MO_without at h
  refine ax_aload_n 0 d_MO_without_0 rfl rfl 1 rfl ?_
  refine ax_getI fl_MO_321 m_0 rfl d_MO_without_1 4 rfl ?_
  refine ax_if_eq 35 7 d_MO_without_4 rfl rfl (fun hc => ?_) (fun hc => ?_)
  · have h := ok_t hc h
    refine ax_iconst (-1) d_MO_without_35 ic_m1 36 rfl ?_
    exact ax_iret rfl d_MO_without_36 (hR ((-1), m) (ok_some h))
  · have h := ok_f hc h
    refine ax_iload_n 1 d_MO_without_7 rfl rfl 8 rfl ?_
    refine ax_i2l d_MO_without_8 9 rfl ?_
    refine ax_lconst 0 d_MO_without_9 lc_0 10 rfl ?_
    refine ax_aload_n 0 d_MO_without_10 rfl rfl 11 rfl ?_
    refine ax_callV mv_MO_400 ⟨Nat.le_of_ble_eq_true rfl, Nat.le_of_ble_eq_true rfl⟩ ⟨rfl, rfl⟩ [] [.ref 0, .long 0, .long v1.toInt64] rfl rfl (rc_m_0 _) (Nat.le_of_ble_eq_true rfl) d_MO_without_11 14 rfl (zc_MO_rules m (ok_b h (fun r1 h => ?_)))
    refine ax_iconst 1 d_MO_without_14 ic_1 15 rfl ?_
    refine ax_isub d_MO_without_15 16 rfl ?_
    refine ax_i2l d_MO_without_16 17 rfl ?_
    refine ax_callS mv_MO_210 ⟨Nat.le_of_ble_eq_true rfl, Nat.le_of_ble_eq_true rfl⟩ ⟨rfl, rfl⟩ [.long v1.toInt64, .long 0, .long ((r1 - 1).toInt64)] [.long ((r1 - 1).toInt64), .long 0, .long v1.toInt64] rfl rfl (Nat.le_of_ble_eq_true rfl) d_MO_without_17 20 rfl (zc_MO_isIn v1.toInt64 0 ((r1 - 1).toInt64) m ?_)
    refine ax_ifb_eq 35 23 d_MO_without_20 rfl rfl (fun hc => ?_) (fun hc => ?_)
    · have h := ok_f (bf hc) h
      refine ax_iconst (-1) d_MO_without_35 ic_m1 36 rfl ?_
      exact ax_iret rfl d_MO_without_36 (hR ((-1), m) (ok_some h))
    · have h := ok_t hc h
      refine ax_iload_n 2 d_MO_without_23 rfl rfl 24 rfl ?_
      refine ax_i2l d_MO_without_24 25 rfl ?_
      refine ax_lconst 0 d_MO_without_25 lc_0 26 rfl ?_
      refine ax_ldc2 4 wk_MO_554 d_MO_without_26 29 rfl ?_
      refine ax_callS mv_MO_210 ⟨Nat.le_of_ble_eq_true rfl, Nat.le_of_ble_eq_true rfl⟩ ⟨rfl, rfl⟩ [.long v2.toInt64, .long 0, .long 4] [.long 4, .long 0, .long v2.toInt64] rfl rfl (Nat.le_of_ble_eq_true rfl) d_MO_without_29 32 rfl (zc_MO_isIn v2.toInt64 0 4 m ?_)
      refine ax_ifb_ne 37 35 d_MO_without_32 rfl rfl (fun hc => ?_) (fun hc => ?_)
      · have h := ok_t hc h
        refine ax_aload_n 0 d_MO_without_37 rfl rfl 38 rfl ?_
        refine ax_iload_n 1 d_MO_without_38 rfl rfl 39 rfl ?_
        refine ax_callV mv_MO_502 ⟨Nat.le_of_ble_eq_true rfl, Nat.le_of_ble_eq_true rfl⟩ ⟨rfl, rfl⟩ [.int v1] [.int v1, .ref 0] rfl rfl (rc_m_0 _) (Nat.le_of_ble_eq_true rfl) d_MO_without_39 42 rfl (zc_MO_atlas v1 m (ok_b h (fun p2 h => ?_)))
        refine ax_aload_n 0 d_MO_without_42 rfl rfl 43 rfl ?_
        refine ax_iload_n 2 d_MO_without_43 rfl rfl 44 rfl ?_
        refine ax_callV mv_MO_556 ⟨Nat.le_of_ble_eq_true rfl, Nat.le_of_ble_eq_true rfl⟩ ⟨rfl, rfl⟩ [.int v2] [.int v2, .ref 0] rfl rfl (rc_m_0 _) (Nat.le_of_ble_eq_true rfl) d_MO_without_44 47 rfl (zc_MO_withoutOf v2 p2 (ok_b h (fun p3 h => ?_)))
        exact ax_iret rfl d_MO_without_47 (hR (p3.1, p3.2) (ok_some h))
      · have h := ok_f (bf hc) h
        refine ax_iconst (-1) d_MO_without_35 ic_m1 36 rfl ?_
        exact ax_iret rfl d_MO_without_36 (hR ((-1), m) (ok_some h))
set_option maxRecDepth 4000 in
theorem c_MO_isBetter_J23 (v1 : Int32) (v2 : Int32) (m : zM)  {Q : Option Value → zM → Prop} {K : (Bool × zM) → Prop} (hR : ∀ p : Bool × zM, K (p) → Q (some (.int (b2i p.1))) p.2)  (h : ok (f_MO_isBetter_J23 v1 v2 m) K) : AX gM s_MO_isBetter 23 [(0, .ref 0), (1, .int v1), (2, .int v2)] [] m Q := by
  unfold f_MO_isBetter_J23 at h
  refine ax_iload_n 2 d_MO_isBetter_23 rfl rfl 24 rfl ?_
  refine ax_aload_n 0 d_MO_isBetter_24 rfl rfl 25 rfl ?_
  refine ax_getR fl_MO_172 m_0 rfl (rm_0_71 _) d_MO_isBetter_25 28 rfl ?_
  refine ax_iload_n 1 d_MO_isBetter_28 rfl rfl 29 rfl ?_
  refine ax_iaload m_51 d_MO_isBetter_29 30 rfl h (fun i3 h => ?_)
  refine ax_icmp_ge 37 33 d_MO_isBetter_30 rfl rfl (fun hc => ?_) (fun hc => ?_)
  · have h := ok_t hc h
    refine ax_iconst 0 d_MO_isBetter_37 ic_0 38 rfl ?_
    exact ax_zret (b := false) rfl d_MO_isBetter_38 (hR (false, m) (ok_some h))
  · have h := ok_f hc h
    refine ax_iconst 1 d_MO_isBetter_33 ic_1 34 rfl ?_
    refine ax_goto 38 d_MO_isBetter_34 rfl ?_
    exact ax_zret (b := true) rfl d_MO_isBetter_38 (hR (true, m) (ok_some h))
set_option maxRecDepth 4000 in
theorem c_MO_isBetter_B2 (v1 : Int32) (m : zM)  {Q : Option Value → zM → Prop} {K : ((Bool × zM) ⊕ (Int32 × zM)) → Prop} (hR : ∀ p : Bool × zM, K (.inl p) → Q (some (.int (b2i p.1))) p.2) (h0 : ∀ s : Int32 × zM, K (.inr s) → AX gM s_MO_isBetter 2 [(0, .ref 0), (1, .int s.1)] [] s.2 Q) (h : ok (f_MO_isBetter_B2 v1 m) K) : AX gM s_MO_isBetter 2 [(0, .ref 0), (1, .int v1)] [] m Q := by
  unfold f_MO_isBetter_B2 at h
  refine ax_iload_n 1 d_MO_isBetter_2 rfl rfl 3 rfl ?_
  refine ax_iconst 5 d_MO_isBetter_3 ic_5 4 rfl ?_
  refine ax_icmp_ge 45 7 d_MO_isBetter_4 rfl rfl (fun hc => ?_) (fun hc => ?_)
  · have h := ok_t hc h
    refine ax_iconst 0 d_MO_isBetter_45 ic_0 46 rfl ?_
    exact ax_zret (b := false) rfl d_MO_isBetter_46 (hR (false, m) (ok_some h))
  · have h := ok_f hc h
    refine ax_aload_n 0 d_MO_isBetter_7 rfl rfl 8 rfl ?_
    refine ax_iload_n 1 d_MO_isBetter_8 rfl rfl 9 rfl ?_
    refine ax_callV mv_MO_556 ⟨Nat.le_of_ble_eq_true rfl, Nat.le_of_ble_eq_true rfl⟩ ⟨rfl, rfl⟩ [.int v1] [.int v1, .ref 0] rfl rfl (rc_m_0 _) (Nat.le_of_ble_eq_true rfl) d_MO_isBetter_9 12 rfl (zc_MO_withoutOf v1 m (ok_b h (fun p1 h => ?_)))
    refine ax_istore_n (ls1 := [(2, .int p1.1), (0, .ref 0), (1, .int v1)]) d_MO_isBetter_12 rfl (Nat.le_of_ble_eq_true rfl) rfl 13 rfl ?_
    refine ax_iload_n 0 d_MO_isBetter_13 rfl rfl 14 rfl ?_
    refine ax_aload_n 1 d_MO_isBetter_14 rfl rfl 15 rfl ?_
    refine ax_getR fl_MO_172 m_0 rfl (rm_0_71 _) d_MO_isBetter_15 18 rfl ?_
    refine ax_iload_n 2 d_MO_isBetter_18 rfl rfl 19 rfl ?_
    refine ax_iaload m_51 d_MO_isBetter_19 20 rfl h (fun i2 h => ?_)
    refine ax_icmp_eq 39 23 d_MO_isBetter_20 rfl rfl (fun hc => ?_) (fun hc => ?_)
    · have h := ok_t hc h
      refine ax_iinc (ls1 := [(1, .int (v1 + 1)), (2, .int p1.1), (0, .ref 0)]) 2 1 d_MO_isBetter_39 rfl ic_1 (Nat.le_of_ble_eq_true rfl) rfl 42 rfl ?_
      refine ax_goto 2 d_MO_isBetter_42 rfl ?_
      exact ax_sub [2, 0] rfl (h0 ((v1 + 1), p1.2) (ok_some h))
    · have h := ok_f hc h
      exact ax_sub [1, 2, 0] rfl (c_MO_isBetter_J23 v1 p1.1 p1.2 (fun p hp => hR p hp) (ok_z h))
theorem c_MO_isBetter_L2 (v1 : Int32) (m : zM)  {Q : Option Value → zM → Prop} {K : (Bool × zM) → Prop} (hR : ∀ p : Bool × zM, K (p) → Q (some (.int (b2i p.1))) p.2)  (h : ok (f_MO_isBetter_L2 v1 m) K) : AX gM s_MO_isBetter 2 [(0, .ref 0), (1, .int v1)] [] m Q :=
  ok_lp (K := K) (G := fun s : Int32 × zM => AX gM s_MO_isBetter 2 [(0, .ref 0), (1, .int s.1)] [] s.2 Q) (fun s h => c_MO_isBetter_B2 s.1 s.2  (fun p hp => hR p hp) (fun s hs => hs) h) FU (v1, m) h
set_option maxRecDepth 4000 in
theorem zc_MO_isBetter  (m : zM)  {Q : Option Value → zM → Prop} (h : ok (f_MO_isBetter m) (fun p => Q (some (.int (b2i p.1))) p.2)) : zc gM s_MO_isBetter [.ref 0] m Q := by
  refine zc_of rfl (Nat.le_of_ble_eq_true rfl) ?_
  show AX gM s_MO_isBetter 0 [(0, .ref 0)] [] m Q
  obtain ⟨K, hK⟩ : ∃ K : (Bool × zM) → Prop, K = (fun p : Bool × zM => Q (some (.int (b2i p.1))) p.2) := ⟨_, rfl⟩
  have hR : ∀ p : Bool × zM, K p → Q (some (.int (b2i p.1))) p.2 := fun p hp => by rw [hK] at hp; exact hp
  replace h : ok (f_MO_isBetter m) (fun p : Bool × zM => Q (some (.int (b2i p.1))) p.2) := h
  rw [← hK] at h
  unfold f_MO_isBetter at h
  refine ax_iconst 2 d_MO_isBetter_0 ic_2 1 rfl ?_
  refine ax_istore_n (ls1 := [(1, .int 2), (0, .ref 0)]) d_MO_isBetter_1 rfl (Nat.le_of_ble_eq_true rfl) rfl 2 rfl ?_
  exact ax_sub [1, 0] rfl (c_MO_isBetter_L2 2 m (fun p hp => hR p hp) h)
set_option maxRecDepth 4000 in
theorem c_MO_mend_J74 (v1 : Int32) (v2 : Int32) (m : zM)  {Q : Option Value → zM → Prop} {K : ((Int32 × zM) ⊕ (Int32 × Int32 × zM)) → Prop} (hR : ∀ p : Int32 × zM, K (.inl p) → Q (some (.int p.1)) p.2) (h0 : ∀ s : Int32 × Int32 × zM, K (.inr s) → AX gM s_MO_mend 20 [(0, .ref 0), (1, .int s.1), (2, .int s.2.1)] [] s.2.2 Q) (h : ok (f_MO_mend_J74 v1 v2 m) K) : AX gM s_MO_mend 74 [(0, .ref 0), (1, .int v1), (2, .int v2)] [] m Q := by
  unfold f_MO_mend_J74 at h
  refine ax_iinc (ls1 := [(2, .int (v2 + 1)), (0, .ref 0), (1, .int v1)]) 2 1 d_MO_mend_74 rfl ic_1 (Nat.le_of_ble_eq_true rfl) rfl 77 rfl ?_
  refine ax_goto 20 d_MO_mend_77 rfl ?_
  exact ax_sub [1, 2, 0] rfl (h0 (v1, (v2 + 1), m) (ok_some h))
set_option maxRecDepth 4000 in
theorem c_MO_mend_B52 (v1 : Int32) (v2 : Int32) (v3 : Int32) (m : zM)  {Q : Option Value → zM → Prop} {K : (((Int32 × zM) ⊕ (Int32 × Int32 × zM)) ⊕ (Int32 × zM)) → Prop} (hR : ∀ p : Int32 × zM, K (.inl (.inl p)) → Q (some (.int p.1)) p.2) (h0 : ∀ s : Int32 × Int32 × zM, K (.inl (.inr s)) → AX gM s_MO_mend 20 [(0, .ref 0), (1, .int s.1), (2, .int s.2.1)] [] s.2.2 Q) (h1 : ∀ s : Int32 × zM, K (.inr s) → AX gM s_MO_mend 52 [(0, .ref 0), (1, .int v1), (2, .int v2), (3, .int s.1)] [] s.2 Q) (h : ok (f_MO_mend_B52 v1 v2 v3 m) K) : AX gM s_MO_mend 52 [(0, .ref 0), (1, .int v1), (2, .int v2), (3, .int v3)] [] m Q := by
  unfold f_MO_mend_B52 at h
  refine ax_iload_n 3 d_MO_mend_52 rfl rfl 53 rfl ?_
  refine ax_iconst 5 d_MO_mend_53 ic_5 54 rfl ?_
  refine ax_icmp_ge 74 57 d_MO_mend_54 rfl rfl (fun hc => ?_) (fun hc => ?_)
  · have h := ok_t hc h
    exact ax_sub [0, 1, 2] rfl (c_MO_mend_J74 v1 v2 m (fun p hp => hR p hp) (fun s hs => h0 s hs) (ok_z h))
  · have h := ok_f hc h
    refine ax_aload_n 0 d_MO_mend_57 rfl rfl 58 rfl ?_
    refine ax_getR fl_MO_172 m_0 rfl (rm_0_71 _) d_MO_mend_58 61 rfl ?_
    refine ax_iload_n 3 d_MO_mend_61 rfl rfl 62 rfl ?_
    refine ax_aload_n 0 d_MO_mend_62 rfl rfl 63 rfl ?_
    refine ax_iload_n 3 d_MO_mend_63 rfl rfl 64 rfl ?_
    refine ax_callV mv_MO_556 ⟨Nat.le_of_ble_eq_true rfl, Nat.le_of_ble_eq_true rfl⟩ ⟨rfl, rfl⟩ [.int v3] [.int v3, .ref 0, .int v3, .ref 51] rfl rfl (rc_m_0 _) (Nat.le_of_ble_eq_true rfl) d_MO_mend_64 67 rfl (zc_MO_withoutOf v3 m (ok_b h (fun p5 h => ?_)))
    refine ax_iastore m_51 d_MO_mend_67 68 rfl h (fun i6 m7 h => ?_)
    refine ax_iinc (ls1 := [(3, .int (v3 + 1)), (0, .ref 0), (1, .int v1), (2, .int v2)]) 3 1 d_MO_mend_68 rfl ic_1 (Nat.le_of_ble_eq_true rfl) rfl 71 rfl ?_
    refine ax_goto 52 d_MO_mend_71 rfl ?_
    exact ax_sub [1, 2, 3, 0] rfl (h1 ((v3 + 1), m7) (ok_some h))
theorem c_MO_mend_L52 (v1 : Int32) (v2 : Int32) (v3 : Int32) (m : zM)  {Q : Option Value → zM → Prop} {K : ((Int32 × zM) ⊕ (Int32 × Int32 × zM)) → Prop} (hR : ∀ p : Int32 × zM, K (.inl p) → Q (some (.int p.1)) p.2) (h0 : ∀ s : Int32 × Int32 × zM, K (.inr s) → AX gM s_MO_mend 20 [(0, .ref 0), (1, .int s.1), (2, .int s.2.1)] [] s.2.2 Q) (h : ok (f_MO_mend_L52 v1 v2 v3 m) K) : AX gM s_MO_mend 52 [(0, .ref 0), (1, .int v1), (2, .int v2), (3, .int v3)] [] m Q :=
  ok_lp (K := K) (G := fun s : Int32 × zM => AX gM s_MO_mend 52 [(0, .ref 0), (1, .int v1), (2, .int v2), (3, .int s.1)] [] s.2 Q) (fun s h => c_MO_mend_B52 v1 v2 s.1 s.2  (fun p hp => hR p hp) (fun s hs => h0 s hs) (fun s hs => hs) h) FU (v3, m) h
set_option maxRecDepth 4000 in
theorem c_MO_mend_J48 (v2 : Int32) (m : zM)  {Q : Option Value → zM → Prop} {K : ((Int32 × zM) ⊕ (Int32 × Int32 × zM)) → Prop} (hR : ∀ p : Int32 × zM, K (.inl p) → Q (some (.int p.1)) p.2) (h0 : ∀ s : Int32 × Int32 × zM, K (.inr s) → AX gM s_MO_mend 20 [(0, .ref 0), (1, .int s.1), (2, .int s.2.1)] [] s.2.2 Q) (h : ok (f_MO_mend_J48 v2 m) K) : AX gM s_MO_mend 48 [(0, .ref 0), (2, .int v2)] [] m Q := by
  unfold f_MO_mend_J48 at h
  refine ax_iload_n 1 d_MO_mend_48 rfl rfl 49 rfl ?_
  refine ax_istore_n (ls1 := [(1, .int v2), (0, .ref 0), (2, .int v2)]) d_MO_mend_49 rfl (Nat.le_of_ble_eq_true rfl) rfl 50 rfl ?_
  refine ax_iconst 2 d_MO_mend_50 ic_2 51 rfl ?_
  refine ax_istore_n (ls1 := [(3, .int 2), (1, .int v2), (0, .ref 0), (2, .int v2)]) d_MO_mend_51 rfl (Nat.le_of_ble_eq_true rfl) rfl 52 rfl ?_
  exact ax_sub [2, 1, 3, 0] rfl (c_MO_mend_L52 v2 v2 2 m (fun p hp => hR p hp) (fun s hs => h0 s hs) h)
set_option maxRecDepth 4000 in
theorem c_MO_mend_B20 (v1 : Int32) (v2 : Int32) (m : zM)  {Q : Option Value → zM → Prop} {K : ((Int32 × zM) ⊕ (Int32 × Int32 × zM)) → Prop} (hR : ∀ p : Int32 × zM, K (.inl p) → Q (some (.int p.1)) p.2) (h0 : ∀ s : Int32 × Int32 × zM, K (.inr s) → AX gM s_MO_mend 20 [(0, .ref 0), (1, .int s.1), (2, .int s.2.1)] [] s.2.2 Q) (h : ok (f_MO_mend_B20 v1 v2 m) K) : AX gM s_MO_mend 20 [(0, .ref 0), (1, .int v1), (2, .int v2)] [] m Q := by
  unfold f_MO_mend_B20 at h
  refine ax_iload_n 2 d_MO_mend_20 rfl rfl 21 rfl ?_
  refine ax_aload_n 0 d_MO_mend_21 rfl rfl 22 rfl ?_
  refine ax_callV mv_MO_400 ⟨Nat.le_of_ble_eq_true rfl, Nat.le_of_ble_eq_true rfl⟩ ⟨rfl, rfl⟩ [] [.ref 0, .int v2] rfl rfl (rc_m_0 _) (Nat.le_of_ble_eq_true rfl) d_MO_mend_22 25 rfl (zc_MO_rules m (ok_b h (fun r2 h => ?_)))
  refine ax_icmp_ge 80 28 d_MO_mend_25 rfl rfl (fun hc => ?_) (fun hc => ?_)
  · have h := ok_t hc h
    refine ax_iload_n 1 d_MO_mend_80 rfl rfl 81 rfl ?_
    exact ax_iret rfl d_MO_mend_81 (hR (v1, m) (ok_some h))
  · have h := ok_f hc h
    refine ax_aload_n 0 d_MO_mend_28 rfl rfl 29 rfl ?_
    refine ax_iload_n 2 d_MO_mend_29 rfl rfl 30 rfl ?_
    refine ax_callV mv_MO_502 ⟨Nat.le_of_ble_eq_true rfl, Nat.le_of_ble_eq_true rfl⟩ ⟨rfl, rfl⟩ [.int v2] [.int v2, .ref 0] rfl rfl (rc_m_0 _) (Nat.le_of_ble_eq_true rfl) d_MO_mend_30 33 rfl (zc_MO_atlas v2 m (ok_b h (fun p3 h => ?_)))
    refine ax_iload_n 1 d_MO_mend_33 rfl rfl 34 rfl ?_
    refine ax_iconst (-1) d_MO_mend_34 ic_m1 35 rfl ?_
    refine ax_icmp_eq 48 38 d_MO_mend_35 rfl rfl (fun hc => ?_) (fun hc => ?_)
    · have h := ok_t hc h
      exact ax_sub [0, 2] rfl (c_MO_mend_J48 v2 p3 (fun p hp => hR p hp) (fun s hs => h0 s hs) h)
    · have h := ok_f hc h
      refine ax_aload_n 0 d_MO_mend_38 rfl rfl 39 rfl ?_
      refine ax_callV mv_MO_559 ⟨Nat.le_of_ble_eq_true rfl, Nat.le_of_ble_eq_true rfl⟩ ⟨rfl, rfl⟩ [] [.ref 0] rfl rfl (rc_m_0 _) (Nat.le_of_ble_eq_true rfl) d_MO_mend_39 42 rfl (zc_MO_isBetter p3 (ok_b h (fun p4 h => ?_)))
      refine ax_ifb_ne 48 45 d_MO_mend_42 rfl rfl (fun hc => ?_) (fun hc => ?_)
      · have h := ok_t hc h
        exact ax_sub [0, 2] rfl (c_MO_mend_J48 v2 p4.2 (fun p hp => hR p hp) (fun s hs => h0 s hs) h)
      · have h := ok_f (bf hc) h
        refine ax_goto 74 d_MO_mend_45 rfl ?_
        exact ax_sub [0, 1, 2] rfl (c_MO_mend_J74 v1 v2 p4.2 (fun p hp => hR p hp) (fun s hs => h0 s hs) h)
theorem c_MO_mend_L20 (v1 : Int32) (v2 : Int32) (m : zM)  {Q : Option Value → zM → Prop} {K : (Int32 × zM) → Prop} (hR : ∀ p : Int32 × zM, K (p) → Q (some (.int p.1)) p.2)  (h : ok (f_MO_mend_L20 v1 v2 m) K) : AX gM s_MO_mend 20 [(0, .ref 0), (1, .int v1), (2, .int v2)] [] m Q :=
  ok_lp (K := K) (G := fun s : Int32 × Int32 × zM => AX gM s_MO_mend 20 [(0, .ref 0), (1, .int s.1), (2, .int s.2.1)] [] s.2.2 Q) (fun s h => c_MO_mend_B20 s.1 s.2.1 s.2.2  (fun p hp => hR p hp) (fun s hs => hs) h) FU (v1, v2, m) h
set_option maxRecDepth 4000 in
theorem zc_MO_mend  (m : zM)  {Q : Option Value → zM → Prop} (h : ok (f_MO_mend m) (fun p => Q (some (.int p.1)) p.2)) : zc gM s_MO_mend [.ref 0] m Q := by
  refine zc_of rfl (Nat.le_of_ble_eq_true rfl) ?_
  show AX gM s_MO_mend 0 [(0, .ref 0)] [] m Q
  obtain ⟨K, hK⟩ : ∃ K : (Int32 × zM) → Prop, K = (fun p : Int32 × zM => Q (some (.int p.1)) p.2) := ⟨_, rfl⟩
  have hR : ∀ p : Int32 × zM, K p → Q (some (.int p.1)) p.2 := fun p hp => by rw [hK] at hp; exact hp
  replace h : ok (f_MO_mend m) (fun p : Int32 × zM => Q (some (.int p.1)) p.2) := h
  rw [← hK] at h
  unfold f_MO_mend at h
  refine ax_aload_n 0 d_MO_mend_0 rfl rfl 1 rfl ?_
  refine ax_getI fl_MO_321 m_0 rfl d_MO_mend_1 4 rfl ?_
  refine ax_if_eq 14 7 d_MO_mend_4 rfl rfl (fun hc => ?_) (fun hc => ?_)
  · have h := ok_t hc h
    refine ax_iconst (-1) d_MO_mend_14 ic_m1 15 rfl ?_
    exact ax_iret rfl d_MO_mend_15 (hR ((-1), m) (ok_some h))
  · have h := ok_f hc h
    refine ax_aload_n 0 d_MO_mend_7 rfl rfl 8 rfl ?_
    refine ax_callV mv_MO_400 ⟨Nat.le_of_ble_eq_true rfl, Nat.le_of_ble_eq_true rfl⟩ ⟨rfl, rfl⟩ [] [.ref 0] rfl rfl (rc_m_0 _) (Nat.le_of_ble_eq_true rfl) d_MO_mend_8 11 rfl (zc_MO_rules m (ok_b h (fun r1 h => ?_)))
    refine ax_if_ne 16 14 d_MO_mend_11 rfl rfl (fun hc => ?_) (fun hc => ?_)
    · have h := ok_f hc h
      refine ax_iconst (-1) d_MO_mend_16 ic_m1 17 rfl ?_
      refine ax_istore_n (ls1 := [(1, .int (-1)), (0, .ref 0)]) d_MO_mend_17 rfl (Nat.le_of_ble_eq_true rfl) rfl 18 rfl ?_
      refine ax_iconst 0 d_MO_mend_18 ic_0 19 rfl ?_
      refine ax_istore_n (ls1 := [(2, .int 0), (1, .int (-1)), (0, .ref 0)]) d_MO_mend_19 rfl (Nat.le_of_ble_eq_true rfl) rfl 20 rfl ?_
      exact ax_sub [2, 1, 0] rfl (c_MO_mend_L20 (-1) 0 m (fun p hp => hR p hp) h)
    · have h := ok_t hc h
      refine ax_iconst (-1) d_MO_mend_14 ic_m1 15 rfl ?_
      exact ax_iret rfl d_MO_mend_15 (hR ((-1), m) (ok_some h))
set_option maxRecDepth 4000 in
theorem zc_MO_undo  (m : zM)  {Q : Option Value → zM → Prop} (h : ok (f_MO_undo m) (fun p => Q (some (.int (b2i p.1))) p.2)) : zc gM s_MO_undo [.ref 0] m Q := by
  refine zc_of rfl (Nat.le_of_ble_eq_true rfl) ?_
  show AX gM s_MO_undo 0 [(0, .ref 0)] [] m Q
  obtain ⟨K, hK⟩ : ∃ K : (Bool × zM) → Prop, K = (fun p : Bool × zM => Q (some (.int (b2i p.1))) p.2) := ⟨_, rfl⟩
  have hR : ∀ p : Bool × zM, K p → Q (some (.int (b2i p.1))) p.2 := fun p hp => by rw [hK] at hp; exact hp
  replace h : ok (f_MO_undo m) (fun p : Bool × zM => Q (some (.int (b2i p.1))) p.2) := h
  rw [← hK] at h
  unfold f_MO_undo at h
  refine ax_aload_n 0 d_MO_undo_0 rfl rfl 1 rfl ?_
  refine ax_getI fl_MO_328 m_0 rfl d_MO_undo_1 4 rfl ?_
  refine ax_if_ne 13 7 d_MO_undo_4 rfl rfl (fun hc => ?_) (fun hc => ?_)
  · have h := ok_f hc h
    refine ax_aload_n 0 d_MO_undo_13 rfl rfl 14 rfl ?_
    refine ax_aload_n 0 d_MO_undo_14 rfl rfl 15 rfl ?_
    refine ax_getR fl_MO_175 m_0 rfl (rm_0_73 _) d_MO_undo_15 18 rfl ?_
    refine ax_aload_n 0 d_MO_undo_18 rfl rfl 19 rfl ?_
    refine ax_getI fl_MO_562 m_0 rfl d_MO_undo_19 22 rfl ?_
    refine ax_laload m_52 d_MO_undo_22 23 rfl h (fun i1 h => ?_)
    refine ax_putJ (K := K) fl_MO_325 m_0 rfl rfl rfl (Nat.le_of_ble_eq_true rfl) d_MO_undo_23 26 rfl h (fun m2 h => ?_)
    refine ax_aload_n 0 d_MO_undo_26 rfl rfl 27 rfl ?_
    refine ax_aload_n 0 d_MO_undo_27 rfl rfl 28 rfl ?_
    refine ax_getI fl_MO_562 m_0 rfl d_MO_undo_28 31 rfl ?_
    refine ax_bipush 20 d_MO_undo_31 bp_20 33 rfl ?_
    refine ax_iadd d_MO_undo_33 34 rfl ?_
    refine ax_iconst 1 d_MO_undo_34 ic_1 35 rfl ?_
    refine ax_isub d_MO_undo_35 36 rfl ?_
    refine ax_bipush 20 d_MO_undo_36 bp_20 38 rfl ?_
    refine ax_irem d_MO_undo_38 (by decide) 39 rfl ?_
    refine ax_putI (K := K) fl_MO_562 m_0 rfl rfl rfl (Nat.le_of_ble_eq_true rfl) d_MO_undo_39 42 rfl h (fun m3 h => ?_)
    refine ax_aload_n 0 d_MO_undo_42 rfl rfl 43 rfl ?_
    refine ax_dup d_MO_undo_43 rfl 44 rfl ?_
    refine ax_getI fl_MO_328 m_0 rfl d_MO_undo_44 47 rfl ?_
    refine ax_iconst 1 d_MO_undo_47 ic_1 48 rfl ?_
    refine ax_isub d_MO_undo_48 49 rfl ?_
    refine ax_putI (K := K) fl_MO_328 m_0 rfl rfl rfl (Nat.le_of_ble_eq_true rfl) d_MO_undo_49 52 rfl h (fun m4 h => ?_)
    refine ax_iconst 1 d_MO_undo_52 ic_1 53 rfl ?_
    exact ax_zret (b := true) rfl d_MO_undo_53 (hR (true, m4) (ok_some h))
  · have h := ok_t hc h
    refine ax_aload_n 0 d_MO_undo_7 rfl rfl 8 rfl ?_
    refine ax_iconst 4 d_MO_undo_8 ic_4 9 rfl ?_
    refine ax_callV mv_MO_204 ⟨Nat.le_of_ble_eq_true rfl, Nat.le_of_ble_eq_true rfl⟩ ⟨rfl, rfl⟩ [.int 4] [.int 4, .ref 0] rfl rfl (rc_m_0 _) (Nat.le_of_ble_eq_true rfl) d_MO_undo_9 12 rfl (zc_MO_isRefused 4 m (ok_b h (fun p5 h => ?_)))
    exact ax_zret (b := p5.1) rfl d_MO_undo_12 (hR (p5.1, p5.2) (ok_some h))
set_option maxRecDepth 4000 in
theorem c_MO_now_J42 (v1 : Int32) (v2 : Int32) (t0 : Int64) (t1 : Int64) (t2 : Int64) (m : zM)  {Q : Option Value → zM → Prop} {K : (Int32 × zM) → Prop} (hR : ∀ p : Int32 × zM, K (p) → Q (some (.int p.1)) p.2)  (h : ok (f_MO_now_J42 v1 v2 t0 t1 t2 m) K) : AX gM s_MO_now 42 [(0, .ref 0), (1, .int v1), (2, .int v2)] [.long t2, .long t1, .long t0] m Q := by
  unfold f_MO_now_J42 at h
  refine ax_callS mv_MO_210 ⟨Nat.le_of_ble_eq_true rfl, Nat.le_of_ble_eq_true rfl⟩ ⟨rfl, rfl⟩ [.long t0, .long t1, .long t2] [.long t2, .long t1, .long t0] rfl rfl (Nat.le_of_ble_eq_true rfl) d_MO_now_42 45 rfl (zc_MO_isIn t0 t1 t2 m ?_)
  refine ax_ifb_ne 50 48 d_MO_now_45 rfl rfl (fun hc => ?_) (fun hc => ?_)
  · have h := ok_t hc h
    refine ax_aload_n 0 d_MO_now_50 rfl rfl 51 rfl ?_
    refine ax_aload_n 0 d_MO_now_51 rfl rfl 52 rfl ?_
    refine ax_getJ fl_MO_325 m_0 rfl d_MO_now_52 55 rfl ?_
    refine ax_callV mv_MO_415 ⟨Nat.le_of_ble_eq_true rfl, Nat.le_of_ble_eq_true rfl⟩ ⟨rfl, rfl⟩ [.long (m.2.1 0 72)] [.long (m.2.1 0 72), .ref 0] rfl rfl (rc_m_0 _) (Nat.le_of_ble_eq_true rfl) d_MO_now_55 58 rfl (zc_MO_opens (m.2.1 0 72) m (ok_b h (fun p3 h => ?_)))
    refine ax_iload_n 1 d_MO_now_58 rfl rfl 59 rfl ?_
    refine ax_iconst (-1) d_MO_now_59 ic_m1 60 rfl ?_
    refine ax_icmp_eq 70 63 d_MO_now_60 rfl rfl (fun hc => ?_) (fun hc => ?_)
    · have h := ok_t hc h
      refine ax_iload_n 2 d_MO_now_70 rfl rfl 71 rfl ?_
      refine ax_if_ne 81 74 d_MO_now_71 rfl rfl (fun hc => ?_) (fun hc => ?_)
      · have h := ok_f hc h
        refine ax_iload_n 2 d_MO_now_81 rfl rfl 82 rfl ?_
        refine ax_iconst 1 d_MO_now_82 ic_1 83 rfl ?_
        refine ax_icmp_ne 97 86 d_MO_now_83 rfl rfl (fun hc => ?_) (fun hc => ?_)
        · have h := ok_f hc h
          refine ax_aload_n 0 d_MO_now_97 rfl rfl 98 rfl ?_
          refine ax_aload_n 0 d_MO_now_98 rfl rfl 99 rfl ?_
          refine ax_getJ fl_MO_325 m_0 rfl d_MO_now_99 102 rfl ?_
          refine ax_callV mv_MO_434 ⟨Nat.le_of_ble_eq_true rfl, Nat.le_of_ble_eq_true rfl⟩ ⟨rfl, rfl⟩ [.long (p3.2.1 0 72)] [.long (p3.2.1 0 72), .ref 0] rfl rfl (rc_m_0 _) (Nat.le_of_ble_eq_true rfl) d_MO_now_102 105 rfl (zc_MO_isBad (p3.2.1 0 72) p3 (ok_b h (fun p4 h => ?_)))
          refine ax_ifb_eq 112 108 d_MO_now_105 rfl rfl (fun hc => ?_) (fun hc => ?_)
          · have h := ok_f (bf hc) h
            refine ax_iconst 0 d_MO_now_112 ic_0 113 rfl ?_
            exact ax_iret rfl d_MO_now_113 (hR (0, p4.2) (ok_some h))
          · have h := ok_t hc h
            refine ax_iconst 1 d_MO_now_108 ic_1 109 rfl ?_
            refine ax_goto 113 d_MO_now_109 rfl ?_
            exact ax_iret rfl d_MO_now_113 (hR (1, p4.2) (ok_some h))
        · have h := ok_t hc h
          refine ax_aload_n 0 d_MO_now_86 rfl rfl 87 rfl ?_
          refine ax_aload_n 0 d_MO_now_87 rfl rfl 88 rfl ?_
          refine ax_getJ fl_MO_325 m_0 rfl d_MO_now_88 91 rfl ?_
          refine ax_callV mv_MO_536 ⟨Nat.le_of_ble_eq_true rfl, Nat.le_of_ble_eq_true rfl⟩ ⟨rfl, rfl⟩ [.long (p3.2.1 0 72)] [.long (p3.2.1 0 72), .ref 0] rfl rfl (rc_m_0 _) (Nat.le_of_ble_eq_true rfl) d_MO_now_91 94 rfl (zc_MO_foldedOf (p3.2.1 0 72) p3 (ok_b h (fun p5 h => ?_)))
          refine ax_goto 113 d_MO_now_94 rfl ?_
          exact ax_iret rfl d_MO_now_113 (hR (p5.1, p5.2) (ok_some h))
      · have h := ok_t hc h
        refine ax_aload_n 0 d_MO_now_74 rfl rfl 75 rfl ?_
        refine ax_getI fl_MO_334 m_0 rfl d_MO_now_75 78 rfl ?_
        refine ax_goto 113 d_MO_now_78 rfl ?_
        exact ax_iret rfl d_MO_now_113 (hR ((p3.1 0 36), p3) (ok_some h))
    · have h := ok_f hc h
      refine ax_aload_n 0 d_MO_now_63 rfl rfl 64 rfl ?_
      refine ax_iload_n 1 d_MO_now_64 rfl rfl 65 rfl ?_
      refine ax_iload_n 2 d_MO_now_65 rfl rfl 66 rfl ?_
      refine ax_callV mv_MO_529 ⟨Nat.le_of_ble_eq_true rfl, Nat.le_of_ble_eq_true rfl⟩ ⟨rfl, rfl⟩ [.int v1, .int v2] [.int v2, .int v1, .ref 0] rfl rfl (rc_m_0 _) (Nat.le_of_ble_eq_true rfl) d_MO_now_66 69 rfl (zc_MO_agentHas v1 v2 p3 (ok_b h (fun r6 h => ?_)))
      exact ax_iret rfl d_MO_now_69 (hR (r6, p3) (ok_some h))
  · have h := ok_f (bf hc) h
    refine ax_iconst (-1) d_MO_now_48 ic_m1 49 rfl ?_
    exact ax_iret rfl d_MO_now_49 (hR ((-1), m) (ok_some h))
set_option maxRecDepth 4000 in
theorem zc_MO_now (v1 : Int32) (v2 : Int32) (m : zM)  {Q : Option Value → zM → Prop} (h : ok (f_MO_now v1 v2 m) (fun p => Q (some (.int p.1)) p.2)) : zc gM s_MO_now [.ref 0, .int v1, .int v2] m Q := by
  refine zc_of rfl (Nat.le_of_ble_eq_true rfl) ?_
  show AX gM s_MO_now 0 [(0, .ref 0), (1, .int v1), (2, .int v2)] [] m Q
  obtain ⟨K, hK⟩ : ∃ K : (Int32 × zM) → Prop, K = (fun p : Int32 × zM => Q (some (.int p.1)) p.2) := ⟨_, rfl⟩
  have hR : ∀ p : Int32 × zM, K p → Q (some (.int p.1)) p.2 := fun p hp => by rw [hK] at hp; exact hp
  replace h : ok (f_MO_now v1 v2 m) (fun p : Int32 × zM => Q (some (.int p.1)) p.2) := h
  rw [← hK] at h
  unfold f_MO_now at h
  refine ax_aload_n 0 d_MO_now_0 rfl rfl 1 rfl ?_
  refine ax_callV mv_MO_505 ⟨Nat.le_of_ble_eq_true rfl, Nat.le_of_ble_eq_true rfl⟩ ⟨rfl, rfl⟩ [] [.ref 0] rfl rfl (rc_m_0 _) (Nat.le_of_ble_eq_true rfl) d_MO_now_1 4 rfl (zc_MO_isAsked m (ok_b h (fun p1 h => ?_)))
  refine ax_ifb_eq 48 7 d_MO_now_4 rfl rfl (fun hc => ?_) (fun hc => ?_)
  · have h := ok_f (bf hc) h
    refine ax_iconst (-1) d_MO_now_48 ic_m1 49 rfl ?_
    exact ax_iret rfl d_MO_now_49 (hR ((-1), p1.2) (ok_some h))
  · have h := ok_t hc h
    refine ax_iload_n 1 d_MO_now_7 rfl rfl 8 rfl ?_
    refine ax_i2l d_MO_now_8 9 rfl ?_
    refine ax_ldc2 (-1) wk_MO_565 d_MO_now_9 12 rfl ?_
    refine ax_aload_n 0 d_MO_now_12 rfl rfl 13 rfl ?_
    refine ax_callV mv_MO_358 ⟨Nat.le_of_ble_eq_true rfl, Nat.le_of_ble_eq_true rfl⟩ ⟨rfl, rfl⟩ [] [.ref 0, .long (-1), .long v1.toInt64] rfl rfl (rc_m_0 _) (Nat.le_of_ble_eq_true rfl) d_MO_now_13 16 rfl (zc_MO_agents p1.2 (ok_b h (fun r2 h => ?_)))
    refine ax_iconst 1 d_MO_now_16 ic_1 17 rfl ?_
    refine ax_isub d_MO_now_17 18 rfl ?_
    refine ax_i2l d_MO_now_18 19 rfl ?_
    refine ax_callS mv_MO_210 ⟨Nat.le_of_ble_eq_true rfl, Nat.le_of_ble_eq_true rfl⟩ ⟨rfl, rfl⟩ [.long v1.toInt64, .long (-1), .long ((r2 - 1).toInt64)] [.long ((r2 - 1).toInt64), .long (-1), .long v1.toInt64] rfl rfl (Nat.le_of_ble_eq_true rfl) d_MO_now_19 22 rfl (zc_MO_isIn v1.toInt64 (-1) ((r2 - 1).toInt64) p1.2 ?_)
    refine ax_ifb_eq 48 25 d_MO_now_22 rfl rfl (fun hc => ?_) (fun hc => ?_)
    · have h := ok_f (bf hc) h
      refine ax_iconst (-1) d_MO_now_48 ic_m1 49 rfl ?_
      exact ax_iret rfl d_MO_now_49 (hR ((-1), p1.2) (ok_some h))
    · have h := ok_t hc h
      refine ax_iload_n 2 d_MO_now_25 rfl rfl 26 rfl ?_
      refine ax_i2l d_MO_now_26 27 rfl ?_
      refine ax_lconst 0 d_MO_now_27 lc_0 28 rfl ?_
      refine ax_iload_n 1 d_MO_now_28 rfl rfl 29 rfl ?_
      refine ax_iconst (-1) d_MO_now_29 ic_m1 30 rfl ?_
      refine ax_icmp_ne 39 33 d_MO_now_30 rfl rfl (fun hc => ?_) (fun hc => ?_)
      · have h := ok_f hc h
        refine ax_ldc2 3 wk_MO_546 d_MO_now_39 42 rfl ?_
        exact ax_sub [0, 1, 2] rfl (c_MO_now_J42 v1 v2 v2.toInt64 0 3 p1.2 (fun p hp => hR p hp) h)
      · have h := ok_t hc h
        refine ax_ldc2 2 wk_MO_516 d_MO_now_33 36 rfl ?_
        refine ax_goto 42 d_MO_now_36 rfl ?_
        exact ax_sub [0, 1, 2] rfl (c_MO_now_J42 v1 v2 v2.toInt64 0 2 p1.2 (fun p hp => hR p hp) h)
set_option maxRecDepth 4000 in
theorem zc_MO_can (v1 : Int32) (v2 : Int32) (m : zM)  {Q : Option Value → zM → Prop} (h : ok (f_MO_can v1 v2 m) (fun p => Q (some (.int p.1)) p.2)) : zc gM s_MO_can [.ref 0, .int v1, .int v2] m Q := by
  refine zc_of rfl (Nat.le_of_ble_eq_true rfl) ?_
  show AX gM s_MO_can 0 [(0, .ref 0), (1, .int v1), (2, .int v2)] [] m Q
  obtain ⟨K, hK⟩ : ∃ K : (Int32 × zM) → Prop, K = (fun p : Int32 × zM => Q (some (.int p.1)) p.2) := ⟨_, rfl⟩
  have hR : ∀ p : Int32 × zM, K p → Q (some (.int p.1)) p.2 := fun p hp => by rw [hK] at hp; exact hp
  replace h : ok (f_MO_can v1 v2 m) (fun p : Int32 × zM => Q (some (.int p.1)) p.2) := h
  rw [← hK] at h
  unfold f_MO_can at h
  refine ax_aload_n 0 d_MO_can_0 rfl rfl 1 rfl ?_
  refine ax_callV mv_MO_505 ⟨Nat.le_of_ble_eq_true rfl, Nat.le_of_ble_eq_true rfl⟩ ⟨rfl, rfl⟩ [] [.ref 0] rfl rfl (rc_m_0 _) (Nat.le_of_ble_eq_true rfl) d_MO_can_1 4 rfl (zc_MO_isAsked m (ok_b h (fun p1 h => ?_)))
  refine ax_ifb_eq 16 7 d_MO_can_4 rfl rfl (fun hc => ?_) (fun hc => ?_)
  · have h := ok_f (bf hc) h
    refine ax_iconst (-1) d_MO_can_16 ic_m1 17 rfl ?_
    exact ax_iret rfl d_MO_can_17 (hR ((-1), p1.2) (ok_some h))
  · have h := ok_t hc h
    refine ax_aload_n 0 d_MO_can_7 rfl rfl 8 rfl ?_
    refine ax_iload_n 1 d_MO_can_8 rfl rfl 9 rfl ?_
    refine ax_iload_n 2 d_MO_can_9 rfl rfl 10 rfl ?_
    refine ax_callV mv_MO_532 ⟨Nat.le_of_ble_eq_true rfl, Nat.le_of_ble_eq_true rfl⟩ ⟨rfl, rfl⟩ [.int v1, .int v2] [.int v2, .int v1, .ref 0] rfl rfl (rc_m_0 _) (Nat.le_of_ble_eq_true rfl) d_MO_can_10 13 rfl (zc_MO_isMove v1 v2 p1.2 (ok_b h (fun r2 h => ?_)))
    refine ax_ifb_ne 18 16 d_MO_can_13 rfl rfl (fun hc => ?_) (fun hc => ?_)
    · have h := ok_t hc h
      refine ax_aload_n 0 d_MO_can_18 rfl rfl 19 rfl ?_
      refine ax_aload_n 0 d_MO_can_19 rfl rfl 20 rfl ?_
      refine ax_getJ fl_MO_325 m_0 rfl d_MO_can_20 23 rfl ?_
      refine ax_callV mv_MO_415 ⟨Nat.le_of_ble_eq_true rfl, Nat.le_of_ble_eq_true rfl⟩ ⟨rfl, rfl⟩ [.long (p1.2.2.1 0 72)] [.long (p1.2.2.1 0 72), .ref 0] rfl rfl (rc_m_0 _) (Nat.le_of_ble_eq_true rfl) d_MO_can_23 26 rfl (zc_MO_opens (p1.2.2.1 0 72) p1.2 (ok_b h (fun p3 h => ?_)))
      refine ax_aload_n 0 d_MO_can_26 rfl rfl 27 rfl ?_
      refine ax_iload_n 1 d_MO_can_27 rfl rfl 28 rfl ?_
      refine ax_iload_n 2 d_MO_can_28 rfl rfl 29 rfl ?_
      refine ax_callV mv_MO_419 ⟨Nat.le_of_ble_eq_true rfl, Nat.le_of_ble_eq_true rfl⟩ ⟨rfl, rfl⟩ [.int v1, .int v2] [.int v2, .int v1, .ref 0] rfl rfl (rc_m_0 _) (Nat.le_of_ble_eq_true rfl) d_MO_can_29 32 rfl (zc_MO_isMoved v1 v2 p3 (ok_b h (fun p4 h => ?_)))
      refine ax_ifb_eq 39 35 d_MO_can_32 rfl rfl (fun hc => ?_) (fun hc => ?_)
      · have h := ok_f (bf hc) h
        refine ax_iconst 0 d_MO_can_39 ic_0 40 rfl ?_
        exact ax_iret rfl d_MO_can_40 (hR (0, p4.2) (ok_some h))
      · have h := ok_t hc h
        refine ax_iconst 1 d_MO_can_35 ic_1 36 rfl ?_
        refine ax_goto 40 d_MO_can_36 rfl ?_
        exact ax_iret rfl d_MO_can_40 (hR (1, p4.2) (ok_some h))
    · have h := ok_f (bf hc) h
      refine ax_iconst (-1) d_MO_can_16 ic_m1 17 rfl ?_
      exact ax_iret rfl d_MO_can_17 (hR ((-1), p1.2) (ok_some h))
set_option maxRecDepth 4000 in
theorem zc_MO_keeps  (m : zM)  {Q : Option Value → zM → Prop} (h : ok (f_MO_keeps m) (fun p => Q none p)) : zc gM s_MO_keeps [.ref 0] m Q := by
  refine zc_of rfl (Nat.le_of_ble_eq_true rfl) ?_
  show AX gM s_MO_keeps 0 [(0, .ref 0)] [] m Q
  obtain ⟨K, hK⟩ : ∃ K : zM → Prop, K = (fun p : zM => Q none p) := ⟨_, rfl⟩
  have hR : ∀ p : zM, K p → Q none p := fun p hp => by rw [hK] at hp; exact hp
  replace h : ok (f_MO_keeps m) (fun p : zM => Q none p) := h
  rw [← hK] at h
  unfold f_MO_keeps at h
  refine ax_aload_n 0 d_MO_keeps_0 rfl rfl 1 rfl ?_
  refine ax_aload_n 0 d_MO_keeps_1 rfl rfl 2 rfl ?_
  refine ax_getI fl_MO_562 m_0 rfl d_MO_keeps_2 5 rfl ?_
  refine ax_iconst 1 d_MO_keeps_5 ic_1 6 rfl ?_
  refine ax_iadd d_MO_keeps_6 7 rfl ?_
  refine ax_bipush 20 d_MO_keeps_7 bp_20 9 rfl ?_
  refine ax_irem d_MO_keeps_9 (by decide) 10 rfl ?_
  refine ax_putI (K := K) fl_MO_562 m_0 rfl rfl rfl (Nat.le_of_ble_eq_true rfl) d_MO_keeps_10 13 rfl h (fun m1 h => ?_)
  refine ax_aload_n 0 d_MO_keeps_13 rfl rfl 14 rfl ?_
  refine ax_getR fl_MO_175 m_0 rfl (rm_0_73 _) d_MO_keeps_14 17 rfl ?_
  refine ax_aload_n 0 d_MO_keeps_17 rfl rfl 18 rfl ?_
  refine ax_getI fl_MO_562 m_0 rfl d_MO_keeps_18 21 rfl ?_
  refine ax_aload_n 0 d_MO_keeps_21 rfl rfl 22 rfl ?_
  refine ax_getJ fl_MO_325 m_0 rfl d_MO_keeps_22 25 rfl ?_
  refine ax_lastore m_52 d_MO_keeps_25 26 rfl h (fun i2 m3 h => ?_)
  refine ax_aload_n 0 d_MO_keeps_26 rfl rfl 27 rfl ?_
  refine ax_getI fl_MO_328 m_0 rfl d_MO_keeps_27 30 rfl ?_
  refine ax_bipush 20 d_MO_keeps_30 bp_20 32 rfl ?_
  refine ax_icmp_ge 45 35 d_MO_keeps_32 rfl rfl (fun hc => ?_) (fun hc => ?_)
  · have h := ok_t hc h
    exact ax_vret rfl d_MO_keeps_45 (hR m3 (ok_some h))
  · have h := ok_f hc h
    refine ax_aload_n 0 d_MO_keeps_35 rfl rfl 36 rfl ?_
    refine ax_dup d_MO_keeps_36 rfl 37 rfl ?_
    refine ax_getI fl_MO_328 m_0 rfl d_MO_keeps_37 40 rfl ?_
    refine ax_iconst 1 d_MO_keeps_40 ic_1 41 rfl ?_
    refine ax_iadd d_MO_keeps_41 42 rfl ?_
    refine ax_putI (K := K) fl_MO_328 m_0 rfl rfl rfl (Nat.le_of_ble_eq_true rfl) d_MO_keeps_42 45 rfl h (fun m4 h => ?_)
    exact ax_vret rfl d_MO_keeps_45 (hR m4 (ok_some h))
set_option maxRecDepth 4000 in
theorem zc_MO_move (v1 : Int32) (v2 : Int32) (m : zM)  {Q : Option Value → zM → Prop} (h : ok (f_MO_move v1 v2 m) (fun p => Q (some (.int p.1)) p.2)) : zc gM s_MO_move [.ref 0, .int v1, .int v2] m Q := by
  refine zc_of rfl (Nat.le_of_ble_eq_true rfl) ?_
  show AX gM s_MO_move 0 [(0, .ref 0), (1, .int v1), (2, .int v2)] [] m Q
  obtain ⟨K, hK⟩ : ∃ K : (Int32 × zM) → Prop, K = (fun p : Int32 × zM => Q (some (.int p.1)) p.2) := ⟨_, rfl⟩
  have hR : ∀ p : Int32 × zM, K p → Q (some (.int p.1)) p.2 := fun p hp => by rw [hK] at hp; exact hp
  replace h : ok (f_MO_move v1 v2 m) (fun p : Int32 × zM => Q (some (.int p.1)) p.2) := h
  rw [← hK] at h
  unfold f_MO_move at h
  refine ax_aload_n 0 d_MO_move_0 rfl rfl 1 rfl ?_
  refine ax_iload_n 1 d_MO_move_1 rfl rfl 2 rfl ?_
  refine ax_iload_n 2 d_MO_move_2 rfl rfl 3 rfl ?_
  refine ax_callV mv_MO_567 ⟨Nat.le_of_ble_eq_true rfl, Nat.le_of_ble_eq_true rfl⟩ ⟨rfl, rfl⟩ [.int v1, .int v2] [.int v2, .int v1, .ref 0] rfl rfl (rc_m_0 _) (Nat.le_of_ble_eq_true rfl) d_MO_move_3 6 rfl (zc_MO_can v1 v2 m (ok_b h (fun p1 h => ?_)))
  refine ax_iconst 1 d_MO_move_6 ic_1 7 rfl ?_
  refine ax_icmp_eq 16 10 d_MO_move_7 rfl rfl (fun hc => ?_) (fun hc => ?_)
  · have h := ok_t hc h
    refine ax_aload_n 0 d_MO_move_16 rfl rfl 17 rfl ?_
    refine ax_callV mv_MO_570 ⟨Nat.le_of_ble_eq_true rfl, Nat.le_of_ble_eq_true rfl⟩ ⟨rfl, rfl⟩ [] [.ref 0] rfl rfl (rc_m_0 _) (Nat.le_of_ble_eq_true rfl) d_MO_move_17 20 rfl (zc_MO_keeps p1.2 (ok_b h (fun p2 h => ?_)))
    refine ax_aload_n 0 d_MO_move_20 rfl rfl 21 rfl ?_
    refine ax_aload_n 0 d_MO_move_21 rfl rfl 22 rfl ?_
    refine ax_callV mv_MO_392 ⟨Nat.le_of_ble_eq_true rfl, Nat.le_of_ble_eq_true rfl⟩ ⟨rfl, rfl⟩ [] [.ref 0, .ref 0] rfl rfl (rc_m_0 _) (Nat.le_of_ble_eq_true rfl) d_MO_move_22 25 rfl (zc_MO_shut p2 (ok_b h (fun r3 h => ?_)))
    refine ax_putJ (K := K) fl_MO_325 m_0 rfl rfl rfl (Nat.le_of_ble_eq_true rfl) d_MO_move_25 28 rfl h (fun m4 h => ?_)
    refine ax_aload_n 0 d_MO_move_28 rfl rfl 29 rfl ?_
    refine ax_aload_n 0 d_MO_move_29 rfl rfl 30 rfl ?_
    refine ax_getJ fl_MO_325 m_0 rfl d_MO_move_30 33 rfl ?_
    refine ax_callV mv_MO_536 ⟨Nat.le_of_ble_eq_true rfl, Nat.le_of_ble_eq_true rfl⟩ ⟨rfl, rfl⟩ [.long (m4.2.1 0 72)] [.long (m4.2.1 0 72), .ref 0] rfl rfl (rc_m_0 _) (Nat.le_of_ble_eq_true rfl) d_MO_move_33 36 rfl (zc_MO_foldedOf (m4.2.1 0 72) m4 (ok_b h (fun p5 h => ?_)))
    exact ax_iret rfl d_MO_move_36 (hR (p5.1, p5.2) (ok_some h))
  · have h := ok_f hc h
    refine ax_aload_n 0 d_MO_move_10 rfl rfl 11 rfl ?_
    refine ax_iconst 2 d_MO_move_11 ic_2 12 rfl ?_
    refine ax_callV mv_MO_200 ⟨Nat.le_of_ble_eq_true rfl, Nat.le_of_ble_eq_true rfl⟩ ⟨rfl, rfl⟩ [.int 2] [.int 2, .ref 0] rfl rfl (rc_m_0 _) (Nat.le_of_ble_eq_true rfl) d_MO_move_12 15 rfl (zc_MO_refuses 2 p1.2 (ok_b h (fun p6 h => ?_)))
    exact ax_iret rfl d_MO_move_15 (hR (p6.1, p6.2) (ok_some h))
set_option maxRecDepth 4000 in
theorem zc_MO_jump (v1 : Int32) (m : zM)  {Q : Option Value → zM → Prop} (h : ok (f_MO_jump v1 m) (fun p => Q (some (.int (b2i p.1))) p.2)) : zc gM s_MO_jump [.ref 0, .int v1] m Q := by
  refine zc_of rfl (Nat.le_of_ble_eq_true rfl) ?_
  show AX gM s_MO_jump 0 [(0, .ref 0), (1, .int v1)] [] m Q
  obtain ⟨K, hK⟩ : ∃ K : (Bool × zM) → Prop, K = (fun p : Bool × zM => Q (some (.int (b2i p.1))) p.2) := ⟨_, rfl⟩
  have hR : ∀ p : Bool × zM, K p → Q (some (.int (b2i p.1))) p.2 := fun p hp => by rw [hK] at hp; exact hp
  replace h : ok (f_MO_jump v1 m) (fun p : Bool × zM => Q (some (.int (b2i p.1))) p.2) := h
  rw [← hK] at h
  unfold f_MO_jump at h
  refine ax_aload_n 0 d_MO_jump_0 rfl rfl 1 rfl ?_
  refine ax_iload_n 1 d_MO_jump_1 rfl rfl 2 rfl ?_
  refine ax_callV mv_MO_526 ⟨Nat.le_of_ble_eq_true rfl, Nat.le_of_ble_eq_true rfl⟩ ⟨rfl, rfl⟩ [.int v1] [.int v1, .ref 0] rfl rfl (rc_m_0 _) (Nat.le_of_ble_eq_true rfl) d_MO_jump_2 5 rfl (zc_MO_isWorld v1 m (ok_b h (fun p1 h => ?_)))
  refine ax_ifb_ne 14 8 d_MO_jump_5 rfl rfl (fun hc => ?_) (fun hc => ?_)
  · have h := ok_t hc h
    refine ax_aload_n 0 d_MO_jump_14 rfl rfl 15 rfl ?_
    refine ax_callV mv_MO_570 ⟨Nat.le_of_ble_eq_true rfl, Nat.le_of_ble_eq_true rfl⟩ ⟨rfl, rfl⟩ [] [.ref 0] rfl rfl (rc_m_0 _) (Nat.le_of_ble_eq_true rfl) d_MO_jump_15 18 rfl (zc_MO_keeps p1.2 (ok_b h (fun p2 h => ?_)))
    refine ax_aload_n 0 d_MO_jump_18 rfl rfl 19 rfl ?_
    refine ax_aload_n 0 d_MO_jump_19 rfl rfl 20 rfl ?_
    refine ax_getR fl_MO_96 m_0 rfl (rm_0_42 _) d_MO_jump_20 23 rfl ?_
    refine ax_iload_n 1 d_MO_jump_23 rfl rfl 24 rfl ?_
    refine ax_laload m_27 d_MO_jump_24 25 rfl h (fun i3 h => ?_)
    refine ax_putJ (K := K) fl_MO_325 m_0 rfl rfl rfl (Nat.le_of_ble_eq_true rfl) d_MO_jump_25 28 rfl h (fun m4 h => ?_)
    refine ax_iconst 1 d_MO_jump_28 ic_1 29 rfl ?_
    exact ax_zret (b := true) rfl d_MO_jump_29 (hR (true, m4) (ok_some h))
  · have h := ok_f (bf hc) h
    refine ax_aload_n 0 d_MO_jump_8 rfl rfl 9 rfl ?_
    refine ax_iconst 2 d_MO_jump_9 ic_2 10 rfl ?_
    refine ax_callV mv_MO_204 ⟨Nat.le_of_ble_eq_true rfl, Nat.le_of_ble_eq_true rfl⟩ ⟨rfl, rfl⟩ [.int 2] [.int 2, .ref 0] rfl rfl (rc_m_0 _) (Nat.le_of_ble_eq_true rfl) d_MO_jump_10 13 rfl (zc_MO_isRefused 2 p1.2 (ok_b h (fun p5 h => ?_)))
    exact ax_zret (b := p5.1) rfl d_MO_jump_13 (hR (p5.1, p5.2) (ok_some h))
set_option maxRecDepth 4000 in
theorem zc_MO_seed (v1 : Int32) (m : zM)  {Q : Option Value → zM → Prop} (h : ok (f_MO_seed v1 m) (fun p => Q (some (.int (b2i p.1))) p.2)) : zc gM s_MO_seed [.ref 0, .int v1] m Q := by
  refine zc_of rfl (Nat.le_of_ble_eq_true rfl) ?_
  show AX gM s_MO_seed 0 [(0, .ref 0), (1, .int v1)] [] m Q
  obtain ⟨K, hK⟩ : ∃ K : (Bool × zM) → Prop, K = (fun p : Bool × zM => Q (some (.int (b2i p.1))) p.2) := ⟨_, rfl⟩
  have hR : ∀ p : Bool × zM, K p → Q (some (.int (b2i p.1))) p.2 := fun p hp => by rw [hK] at hp; exact hp
  replace h : ok (f_MO_seed v1 m) (fun p : Bool × zM => Q (some (.int (b2i p.1))) p.2) := h
  rw [← hK] at h
  unfold f_MO_seed at h
  refine ax_iload_n 1 d_MO_seed_0 rfl rfl 1 rfl ?_
  refine ax_if_ge 10 4 d_MO_seed_1 rfl rfl (fun hc => ?_) (fun hc => ?_)
  · have h := ok_t hc h
    refine ax_aload_n 0 d_MO_seed_10 rfl rfl 11 rfl ?_
    refine ax_iload_n 1 d_MO_seed_11 rfl rfl 12 rfl ?_
    refine ax_i2l d_MO_seed_12 13 rfl ?_
    refine ax_putJ (K := K) fl_MO_178 m_0 rfl rfl rfl (Nat.le_of_ble_eq_true rfl) d_MO_seed_13 16 rfl h (fun m1 h => ?_)
    refine ax_iconst 1 d_MO_seed_16 ic_1 17 rfl ?_
    exact ax_zret (b := true) rfl d_MO_seed_17 (hR (true, m1) (ok_some h))
  · have h := ok_f hc h
    refine ax_aload_n 0 d_MO_seed_4 rfl rfl 5 rfl ?_
    refine ax_iconst 5 d_MO_seed_5 ic_5 6 rfl ?_
    refine ax_callV mv_MO_204 ⟨Nat.le_of_ble_eq_true rfl, Nat.le_of_ble_eq_true rfl⟩ ⟨rfl, rfl⟩ [.int 5] [.int 5, .ref 0] rfl rfl (rc_m_0 _) (Nat.le_of_ble_eq_true rfl) d_MO_seed_6 9 rfl (zc_MO_isRefused 5 m (ok_b h (fun p2 h => ?_)))
    exact ax_zret (b := p2.1) rfl d_MO_seed_9 (hR (p2.1, p2.2) (ok_some h))
set_option maxRecDepth 4000 in
theorem c_MO_movesOfWalk_J70 (v1 : Int32) (v2 : Int32) (v3 : Int32) (m : zM)  {Q : Option Value → zM → Prop} {K : ((Int32 × zM) ⊕ (Int32 × Int32 × zM)) → Prop} (hR : ∀ p : Int32 × zM, K (.inl p) → Q (some (.int p.1)) p.2) (h0 : ∀ s : Int32 × Int32 × zM, K (.inr s) → AX gM s_MO_movesOfWalk 12 [(0, .ref 0), (1, .int v1), (2, .int s.1), (3, .int s.2.1)] [] s.2.2 Q) (h : ok (f_MO_movesOfWalk_J70 v1 v2 v3 m) K) : AX gM s_MO_movesOfWalk 70 [(0, .ref 0), (1, .int v1), (2, .int v2), (3, .int v3)] [] m Q := by
  unfold f_MO_movesOfWalk_J70 at h
  refine ax_iinc (ls1 := [(3, .int (v3 + 1)), (0, .ref 0), (1, .int v1), (2, .int v2)]) 3 1 d_MO_movesOfWalk_70 rfl ic_1 (Nat.le_of_ble_eq_true rfl) rfl 73 rfl ?_
  refine ax_goto 12 d_MO_movesOfWalk_73 rfl ?_
  exact ax_sub [1, 2, 3, 0] rfl (h0 (v2, (v3 + 1), m) (ok_some h))
set_option maxRecDepth 4000 in
theorem c_MO_movesOfWalk_J67 (v1 : Int32) (v2 : Int32) (v3 : Int32) (m : zM)  {Q : Option Value → zM → Prop} {K : ((Int32 × zM) ⊕ (Int32 × Int32 × zM)) → Prop} (hR : ∀ p : Int32 × zM, K (.inl p) → Q (some (.int p.1)) p.2) (h0 : ∀ s : Int32 × Int32 × zM, K (.inr s) → AX gM s_MO_movesOfWalk 12 [(0, .ref 0), (1, .int v1), (2, .int s.1), (3, .int s.2.1)] [] s.2.2 Q) (h : ok (f_MO_movesOfWalk_J67 v1 v2 v3 m) K) : AX gM s_MO_movesOfWalk 67 [(0, .ref 0), (1, .int v1), (2, .int v2), (3, .int v3)] [] m Q := by
  unfold f_MO_movesOfWalk_J67 at h
  refine ax_iinc (ls1 := [(2, .int (v2 + 1)), (0, .ref 0), (1, .int v1), (3, .int v3)]) 2 1 d_MO_movesOfWalk_67 rfl ic_1 (Nat.le_of_ble_eq_true rfl) rfl 70 rfl ?_
  exact ax_sub [1, 2, 0, 3] rfl (c_MO_movesOfWalk_J70 v1 (v2 + 1) v3 m (fun p hp => hR p hp) (fun s hs => h0 s hs) h)
set_option maxRecDepth 4000 in
theorem c_MO_movesOfWalk_B12 (v1 : Int32) (v2 : Int32) (v3 : Int32) (m : zM)  {Q : Option Value → zM → Prop} {K : ((Int32 × zM) ⊕ (Int32 × Int32 × zM)) → Prop} (hR : ∀ p : Int32 × zM, K (.inl p) → Q (some (.int p.1)) p.2) (h0 : ∀ s : Int32 × Int32 × zM, K (.inr s) → AX gM s_MO_movesOfWalk 12 [(0, .ref 0), (1, .int v1), (2, .int s.1), (3, .int s.2.1)] [] s.2.2 Q) (h : ok (f_MO_movesOfWalk_B12 v1 v2 v3 m) K) : AX gM s_MO_movesOfWalk 12 [(0, .ref 0), (1, .int v1), (2, .int v2), (3, .int v3)] [] m Q := by
  unfold f_MO_movesOfWalk_B12 at h
  refine ax_iload_n 3 d_MO_movesOfWalk_12 rfl rfl 13 rfl ?_
  refine ax_bipush 64 d_MO_movesOfWalk_13 bp_64 15 rfl ?_
  refine ax_icmp_ge 76 18 d_MO_movesOfWalk_15 rfl rfl (fun hc => ?_) (fun hc => ?_)
  · have h := ok_t hc h
    refine ax_iload_n 2 d_MO_movesOfWalk_76 rfl rfl 77 rfl ?_
    exact ax_iret rfl d_MO_movesOfWalk_77 (hR (v2, m) (ok_some h))
  · have h := ok_f hc h
    refine ax_iload_n 3 d_MO_movesOfWalk_18 rfl rfl 19 rfl ?_
    refine ax_iconst 4 d_MO_movesOfWalk_19 ic_4 20 rfl ?_
    refine ax_idiv d_MO_movesOfWalk_20 (by decide) 21 rfl ?_
    refine ax_aload_n 0 d_MO_movesOfWalk_21 rfl rfl 22 rfl ?_
    refine ax_callV mv_MO_400 ⟨Nat.le_of_ble_eq_true rfl, Nat.le_of_ble_eq_true rfl⟩ ⟨rfl, rfl⟩ [] [.ref 0, .int (v3 / 4)] rfl rfl (rc_m_0 _) (Nat.le_of_ble_eq_true rfl) d_MO_movesOfWalk_22 25 rfl (zc_MO_rules m (ok_b h (fun r2 h => ?_)))
    refine ax_icmp_ge 70 28 d_MO_movesOfWalk_25 rfl rfl (fun hc => ?_) (fun hc => ?_)
    · have h := ok_t hc h
      exact ax_sub [0, 1, 2, 3] rfl (c_MO_movesOfWalk_J70 v1 v2 v3 m (fun p hp => hR p hp) (fun s hs => h0 s hs) h)
    · have h := ok_f hc h
      refine ax_iload_n 3 d_MO_movesOfWalk_28 rfl rfl 29 rfl ?_
      refine ax_iconst 4 d_MO_movesOfWalk_29 ic_4 30 rfl ?_
      refine ax_irem d_MO_movesOfWalk_30 (by decide) 31 rfl ?_
      refine ax_aload_n 0 d_MO_movesOfWalk_31 rfl rfl 32 rfl ?_
      refine ax_callV mv_MO_358 ⟨Nat.le_of_ble_eq_true rfl, Nat.le_of_ble_eq_true rfl⟩ ⟨rfl, rfl⟩ [] [.ref 0, .int (ir v3 4)] rfl rfl (rc_m_0 _) (Nat.le_of_ble_eq_true rfl) d_MO_movesOfWalk_32 35 rfl (zc_MO_agents m (ok_b h (fun r3 h => ?_)))
      refine ax_icmp_ge 70 38 d_MO_movesOfWalk_35 rfl rfl (fun hc => ?_) (fun hc => ?_)
      · have h := ok_t hc h
        exact ax_sub [0, 1, 2, 3] rfl (c_MO_movesOfWalk_J70 v1 v2 v3 m (fun p hp => hR p hp) (fun s hs => h0 s hs) h)
      · have h := ok_f hc h
        refine ax_aload_n 0 d_MO_movesOfWalk_38 rfl rfl 39 rfl ?_
        refine ax_iload_n 3 d_MO_movesOfWalk_39 rfl rfl 40 rfl ?_
        refine ax_iconst 4 d_MO_movesOfWalk_40 ic_4 41 rfl ?_
        refine ax_idiv d_MO_movesOfWalk_41 (by decide) 42 rfl ?_
        refine ax_iload_n 3 d_MO_movesOfWalk_42 rfl rfl 43 rfl ?_
        refine ax_iconst 4 d_MO_movesOfWalk_43 ic_4 44 rfl ?_
        refine ax_irem d_MO_movesOfWalk_44 (by decide) 45 rfl ?_
        refine ax_callV mv_MO_419 ⟨Nat.le_of_ble_eq_true rfl, Nat.le_of_ble_eq_true rfl⟩ ⟨rfl, rfl⟩ [.int (v3 / 4), .int (ir v3 4)] [.int (ir v3 4), .int (v3 / 4), .ref 0] rfl rfl (rc_m_0 _) (Nat.le_of_ble_eq_true rfl) d_MO_movesOfWalk_45 48 rfl (zc_MO_isMoved (v3 / 4) (ir v3 4) m (ok_b h (fun p4 h => ?_)))
        refine ax_ifb_ne 54 51 d_MO_movesOfWalk_48 rfl rfl (fun hc => ?_) (fun hc => ?_)
        · have h := ok_t hc h
          refine ax_iload_n 2 d_MO_movesOfWalk_54 rfl rfl 55 rfl ?_
          refine ax_iload_n 1 d_MO_movesOfWalk_55 rfl rfl 56 rfl ?_
          refine ax_icmp_ne 67 59 d_MO_movesOfWalk_56 rfl rfl (fun hc => ?_) (fun hc => ?_)
          · have h := ok_f hc h
            exact ax_sub [0, 1, 2, 3] rfl (c_MO_movesOfWalk_J67 v1 v2 v3 p4.2 (fun p hp => hR p hp) (fun s hs => h0 s hs) h)
          · have h := ok_t hc h
            refine ax_aload_n 0 d_MO_movesOfWalk_59 rfl rfl 60 rfl ?_
            refine ax_aload_n 0 d_MO_movesOfWalk_60 rfl rfl 61 rfl ?_
            refine ax_callV mv_MO_392 ⟨Nat.le_of_ble_eq_true rfl, Nat.le_of_ble_eq_true rfl⟩ ⟨rfl, rfl⟩ [] [.ref 0, .ref 0] rfl rfl (rc_m_0 _) (Nat.le_of_ble_eq_true rfl) d_MO_movesOfWalk_61 64 rfl (zc_MO_shut p4.2 (ok_b h (fun r5 h => ?_)))
            refine ax_putJ (K := K) fl_MO_325 m_0 rfl rfl rfl (Nat.le_of_ble_eq_true rfl) d_MO_movesOfWalk_64 67 rfl h (fun m6 h => ?_)
            exact ax_sub [0, 1, 2, 3] rfl (c_MO_movesOfWalk_J67 v1 v2 v3 m6 (fun p hp => hR p hp) (fun s hs => h0 s hs) h)
        · have h := ok_f (bf hc) h
          refine ax_goto 70 d_MO_movesOfWalk_51 rfl ?_
          exact ax_sub [0, 1, 2, 3] rfl (c_MO_movesOfWalk_J70 v1 v2 v3 p4.2 (fun p hp => hR p hp) (fun s hs => h0 s hs) h)
theorem c_MO_movesOfWalk_L12 (v1 : Int32) (v2 : Int32) (v3 : Int32) (m : zM)  {Q : Option Value → zM → Prop} {K : (Int32 × zM) → Prop} (hR : ∀ p : Int32 × zM, K (p) → Q (some (.int p.1)) p.2)  (h : ok (f_MO_movesOfWalk_L12 v1 v2 v3 m) K) : AX gM s_MO_movesOfWalk 12 [(0, .ref 0), (1, .int v1), (2, .int v2), (3, .int v3)] [] m Q :=
  ok_lp (K := K) (G := fun s : Int32 × Int32 × zM => AX gM s_MO_movesOfWalk 12 [(0, .ref 0), (1, .int v1), (2, .int s.1), (3, .int s.2.1)] [] s.2.2 Q) (fun s h => c_MO_movesOfWalk_B12 v1 s.1 s.2.1 s.2.2  (fun p hp => hR p hp) (fun s hs => hs) h) FU (v2, v3, m) h
set_option maxRecDepth 4000 in
theorem zc_MO_movesOfWalk (v1 : Int32) (m : zM)  {Q : Option Value → zM → Prop} (h : ok (f_MO_movesOfWalk v1 m) (fun p => Q (some (.int p.1)) p.2)) : zc gM s_MO_movesOfWalk [.ref 0, .int v1] m Q := by
  refine zc_of rfl (Nat.le_of_ble_eq_true rfl) ?_
  show AX gM s_MO_movesOfWalk 0 [(0, .ref 0), (1, .int v1)] [] m Q
  obtain ⟨K, hK⟩ : ∃ K : (Int32 × zM) → Prop, K = (fun p : Int32 × zM => Q (some (.int p.1)) p.2) := ⟨_, rfl⟩
  have hR : ∀ p : Int32 × zM, K p → Q (some (.int p.1)) p.2 := fun p hp => by rw [hK] at hp; exact hp
  replace h : ok (f_MO_movesOfWalk v1 m) (fun p : Int32 × zM => Q (some (.int p.1)) p.2) := h
  rw [← hK] at h
  unfold f_MO_movesOfWalk at h
  refine ax_iconst 0 d_MO_movesOfWalk_0 ic_0 1 rfl ?_
  refine ax_istore_n (ls1 := [(2, .int 0), (0, .ref 0), (1, .int v1)]) d_MO_movesOfWalk_1 rfl (Nat.le_of_ble_eq_true rfl) rfl 2 rfl ?_
  refine ax_aload_n 1 d_MO_movesOfWalk_2 rfl rfl 3 rfl ?_
  refine ax_aload_n 1 d_MO_movesOfWalk_3 rfl rfl 4 rfl ?_
  refine ax_getJ fl_MO_325 m_0 rfl d_MO_movesOfWalk_4 7 rfl ?_
  refine ax_callV mv_MO_415 ⟨Nat.le_of_ble_eq_true rfl, Nat.le_of_ble_eq_true rfl⟩ ⟨rfl, rfl⟩ [.long (m.2.1 0 72)] [.long (m.2.1 0 72), .ref 0] rfl rfl (rc_m_0 _) (Nat.le_of_ble_eq_true rfl) d_MO_movesOfWalk_7 10 rfl (zc_MO_opens (m.2.1 0 72) m (ok_b h (fun p1 h => ?_)))
  refine ax_iconst 0 d_MO_movesOfWalk_10 ic_0 11 rfl ?_
  refine ax_istore_n (ls1 := [(3, .int 0), (2, .int 0), (0, .ref 0), (1, .int v1)]) d_MO_movesOfWalk_11 rfl (Nat.le_of_ble_eq_true rfl) rfl 12 rfl ?_
  exact ax_sub [2, 3, 1, 0] rfl (c_MO_movesOfWalk_L12 v1 0 0 p1 (fun p hp => hR p hp) h)
set_option maxRecDepth 4000 in
theorem zc_MO_drawOf (v1 : Int32) (m : zM)  {Q : Option Value → zM → Prop} (h : ok (f_MO_drawOf v1 m) (fun p => Q (some (.int p.1)) p.2)) : zc gM s_MO_drawOf [.ref 0, .int v1] m Q := by
  refine zc_of rfl (Nat.le_of_ble_eq_true rfl) ?_
  show AX gM s_MO_drawOf 0 [(0, .ref 0), (1, .int v1)] [] m Q
  obtain ⟨K, hK⟩ : ∃ K : (Int32 × zM) → Prop, K = (fun p : Int32 × zM => Q (some (.int p.1)) p.2) := ⟨_, rfl⟩
  have hR : ∀ p : Int32 × zM, K p → Q (some (.int p.1)) p.2 := fun p hp => by rw [hK] at hp; exact hp
  replace h : ok (f_MO_drawOf v1 m) (fun p : Int32 × zM => Q (some (.int p.1)) p.2) := h
  rw [← hK] at h
  unfold f_MO_drawOf at h
  refine ax_aload_n 0 d_MO_drawOf_0 rfl rfl 1 rfl ?_
  refine ax_ldc2 1103515245 wk_MO_573 d_MO_drawOf_1 4 rfl ?_
  refine ax_aload_n 0 d_MO_drawOf_4 rfl rfl 5 rfl ?_
  refine ax_getJ fl_MO_178 m_0 rfl d_MO_drawOf_5 8 rfl ?_
  refine ax_lmul d_MO_drawOf_8 9 rfl ?_
  refine ax_ldc2 12345 wk_MO_575 d_MO_drawOf_9 12 rfl ?_
  refine ax_ladd d_MO_drawOf_12 13 rfl ?_
  refine ax_ldc2 2147483648 wk_MO_577 d_MO_drawOf_13 16 rfl ?_
  refine ax_lrem d_MO_drawOf_16 (by decide) 17 rfl ?_
  refine ax_putJ (K := K) fl_MO_178 m_0 rfl rfl rfl (Nat.le_of_ble_eq_true rfl) d_MO_drawOf_17 20 rfl h (fun m1 h => ?_)
  refine ax_aload_n 0 d_MO_drawOf_20 rfl rfl 21 rfl ?_
  refine ax_getJ fl_MO_178 m_0 rfl d_MO_drawOf_21 24 rfl ?_
  refine ax_ldc2 64 wk_MO_579 d_MO_drawOf_24 27 rfl ?_
  refine ax_ldiv d_MO_drawOf_27 (by decide) 28 rfl ?_
  refine ax_iload_n 1 d_MO_drawOf_28 rfl rfl 29 rfl ?_
  refine ax_i2l d_MO_drawOf_29 30 rfl ?_
  refine ok_nzl h (fun hn h => ?_)
  refine ax_lrem d_MO_drawOf_30 hn 31 rfl ?_
  refine ax_l2i d_MO_drawOf_31 32 rfl ?_
  exact ax_iret rfl d_MO_drawOf_32 (hR (((irl ((m1.2.1 0 76) / 64) v1.toInt64).toInt32), m1) (ok_some h))
set_option maxRecDepth 4000 in
theorem c_MO_chance_B37 (v1 : Int32) (v2 : Int32) (v3 : Int32) (m : zM)  {Q : Option Value → zM → Prop} {K : ((Int32 × zM) ⊕ (Int32 × Int32 × zM)) → Prop} (hR : ∀ p : Int32 × zM, K (.inl p) → Q (some (.int p.1)) p.2) (h0 : ∀ s : Int32 × Int32 × zM, K (.inr s) → AX gM s_MO_chance 37 [(0, .ref 0), (1, .int v1), (2, .int s.1), (3, .int s.2.1)] [] s.2.2 Q) (h : ok (f_MO_chance_B37 v1 v2 v3 m) K) : AX gM s_MO_chance 37 [(0, .ref 0), (1, .int v1), (2, .int v2), (3, .int v3)] [] m Q := by
  unfold f_MO_chance_B37 at h
  refine ax_iload_n 2 d_MO_chance_37 rfl rfl 38 rfl ?_
  refine ax_iload_n 1 d_MO_chance_38 rfl rfl 39 rfl ?_
  refine ax_icmp_ge 68 42 d_MO_chance_39 rfl rfl (fun hc => ?_) (fun hc => ?_)
  · have h := ok_t hc h
    refine ax_iload_n 2 d_MO_chance_68 rfl rfl 69 rfl ?_
    exact ax_iret rfl d_MO_chance_69 (hR (v2, m) (ok_some h))
  · have h := ok_f hc h
    refine ax_iload_n 3 d_MO_chance_42 rfl rfl 43 rfl ?_
    refine ax_if_le 68 46 d_MO_chance_43 rfl rfl (fun hc => ?_) (fun hc => ?_)
    · have h := ok_t hc h
      refine ax_iload_n 2 d_MO_chance_68 rfl rfl 69 rfl ?_
      exact ax_iret rfl d_MO_chance_69 (hR (v2, m) (ok_some h))
    · have h := ok_f hc h
      refine ax_aload_n 0 d_MO_chance_46 rfl rfl 47 rfl ?_
      refine ax_aload_n 0 d_MO_chance_47 rfl rfl 48 rfl ?_
      refine ax_iload_n 3 d_MO_chance_48 rfl rfl 49 rfl ?_
      refine ax_callV mv_MO_586 ⟨Nat.le_of_ble_eq_true rfl, Nat.le_of_ble_eq_true rfl⟩ ⟨rfl, rfl⟩ [.int v3] [.int v3, .ref 0, .ref 0] rfl rfl (rc_m_0 _) (Nat.le_of_ble_eq_true rfl) d_MO_chance_49 52 rfl (zc_MO_drawOf v3 m (ok_b h (fun p4 h => ?_)))
      refine ax_callV mv_MO_583 ⟨Nat.le_of_ble_eq_true rfl, Nat.le_of_ble_eq_true rfl⟩ ⟨rfl, rfl⟩ [.int p4.1] [.int p4.1, .ref 0] rfl rfl (rc_m_0 _) (Nat.le_of_ble_eq_true rfl) d_MO_chance_52 55 rfl (zc_MO_movesOfWalk p4.1 p4.2 (ok_b h (fun p5 h => ?_)))
      refine ax_pop d_MO_chance_55 rfl 56 rfl ?_
      refine ax_iinc (ls1 := [(2, .int (v2 + 1)), (0, .ref 0), (1, .int v1), (3, .int v3)]) 2 1 d_MO_chance_56 rfl ic_1 (Nat.le_of_ble_eq_true rfl) rfl 59 rfl ?_
      refine ax_aload_n 1 d_MO_chance_59 rfl rfl 60 rfl ?_
      refine ax_iconst (-1) d_MO_chance_60 ic_m1 61 rfl ?_
      refine ax_callV mv_MO_583 ⟨Nat.le_of_ble_eq_true rfl, Nat.le_of_ble_eq_true rfl⟩ ⟨rfl, rfl⟩ [.int (-1)] [.int (-1), .ref 0] rfl rfl (rc_m_0 _) (Nat.le_of_ble_eq_true rfl) d_MO_chance_61 64 rfl (zc_MO_movesOfWalk (-1) p5.2 (ok_b h (fun p6 h => ?_)))
      refine ax_istore_n (ls1 := [(3, .int p6.1), (2, .int (v2 + 1)), (0, .ref 0), (1, .int v1)]) d_MO_chance_64 rfl (Nat.le_of_ble_eq_true rfl) rfl 65 rfl ?_
      refine ax_goto 37 d_MO_chance_65 rfl ?_
      exact ax_sub [2, 3, 1, 0] rfl (h0 ((v2 + 1), p6.1, p6.2) (ok_some h))
theorem c_MO_chance_L37 (v1 : Int32) (v2 : Int32) (v3 : Int32) (m : zM)  {Q : Option Value → zM → Prop} {K : (Int32 × zM) → Prop} (hR : ∀ p : Int32 × zM, K (p) → Q (some (.int p.1)) p.2)  (h : ok (f_MO_chance_L37 v1 v2 v3 m) K) : AX gM s_MO_chance 37 [(0, .ref 0), (1, .int v1), (2, .int v2), (3, .int v3)] [] m Q :=
  ok_lp (K := K) (G := fun s : Int32 × Int32 × zM => AX gM s_MO_chance 37 [(0, .ref 0), (1, .int v1), (2, .int s.1), (3, .int s.2.1)] [] s.2.2 Q) (fun s h => c_MO_chance_B37 v1 s.1 s.2.1 s.2.2  (fun p hp => hR p hp) (fun s hs => hs) h) FU (v2, v3, m) h
set_option maxRecDepth 4000 in
theorem c_MO_chance_J19  (m : zM)  {Q : Option Value → zM → Prop} {K : (Int32 × zM) → Prop} (hR : ∀ p : Int32 × zM, K (p) → Q (some (.int p.1)) p.2)  (h : ok (f_MO_chance_J19  m) K) : AX gM s_MO_chance 19 [(0, .ref 0)] [] m Q := by
  unfold f_MO_chance_J19 at h
  refine ax_aload_n 0 d_MO_chance_19 rfl rfl 20 rfl ?_
  refine ax_iconst 3 d_MO_chance_20 ic_3 21 rfl ?_
  refine ax_callV mv_MO_200 ⟨Nat.le_of_ble_eq_true rfl, Nat.le_of_ble_eq_true rfl⟩ ⟨rfl, rfl⟩ [.int 3] [.int 3, .ref 0] rfl rfl (rc_m_0 _) (Nat.le_of_ble_eq_true rfl) d_MO_chance_21 24 rfl (zc_MO_refuses 3 m (ok_b h (fun p7 h => ?_)))
  exact ax_iret rfl d_MO_chance_24 (hR (p7.1, p7.2) (ok_some h))
set_option maxRecDepth 4000 in
theorem zc_MO_chance (v1 : Int32) (m : zM)  {Q : Option Value → zM → Prop} (h : ok (f_MO_chance v1 m) (fun p => Q (some (.int p.1)) p.2)) : zc gM s_MO_chance [.ref 0, .int v1] m Q := by
  refine zc_of rfl (Nat.le_of_ble_eq_true rfl) ?_
  show AX gM s_MO_chance 0 [(0, .ref 0), (1, .int v1)] [] m Q
  obtain ⟨K, hK⟩ : ∃ K : (Int32 × zM) → Prop, K = (fun p : Int32 × zM => Q (some (.int p.1)) p.2) := ⟨_, rfl⟩
  have hR : ∀ p : Int32 × zM, K p → Q (some (.int p.1)) p.2 := fun p hp => by rw [hK] at hp; exact hp
  replace h : ok (f_MO_chance v1 m) (fun p : Int32 × zM => Q (some (.int p.1)) p.2) := h
  rw [← hK] at h
  unfold f_MO_chance at h
  refine ax_aload_n 0 d_MO_chance_0 rfl rfl 1 rfl ?_
  refine ax_callV mv_MO_505 ⟨Nat.le_of_ble_eq_true rfl, Nat.le_of_ble_eq_true rfl⟩ ⟨rfl, rfl⟩ [] [.ref 0] rfl rfl (rc_m_0 _) (Nat.le_of_ble_eq_true rfl) d_MO_chance_1 4 rfl (zc_MO_isAsked m (ok_b h (fun p1 h => ?_)))
  refine ax_ifb_eq 19 7 d_MO_chance_4 rfl rfl (fun hc => ?_) (fun hc => ?_)
  · have h := ok_f (bf hc) h
    exact ax_sub [0] rfl (c_MO_chance_J19 p1.2 (fun p hp => hR p hp) h)
  · have h := ok_t hc h
    refine ax_iload_n 1 d_MO_chance_7 rfl rfl 8 rfl ?_
    refine ax_i2l d_MO_chance_8 9 rfl ?_
    refine ax_lconst 1 d_MO_chance_9 lc_1 10 rfl ?_
    refine ax_ldc2 100 wk_MO_581 d_MO_chance_10 13 rfl ?_
    refine ax_callS mv_MO_210 ⟨Nat.le_of_ble_eq_true rfl, Nat.le_of_ble_eq_true rfl⟩ ⟨rfl, rfl⟩ [.long v1.toInt64, .long 1, .long 100] [.long 100, .long 1, .long v1.toInt64] rfl rfl (Nat.le_of_ble_eq_true rfl) d_MO_chance_13 16 rfl (zc_MO_isIn v1.toInt64 1 100 p1.2 ?_)
    refine ax_ifb_ne 25 19 d_MO_chance_16 rfl rfl (fun hc => ?_) (fun hc => ?_)
    · have h := ok_t hc h
      refine ax_aload_n 0 d_MO_chance_25 rfl rfl 26 rfl ?_
      refine ax_callV mv_MO_570 ⟨Nat.le_of_ble_eq_true rfl, Nat.le_of_ble_eq_true rfl⟩ ⟨rfl, rfl⟩ [] [.ref 0] rfl rfl (rc_m_0 _) (Nat.le_of_ble_eq_true rfl) d_MO_chance_26 29 rfl (zc_MO_keeps p1.2 (ok_b h (fun p2 h => ?_)))
      refine ax_iconst 0 d_MO_chance_29 ic_0 30 rfl ?_
      refine ax_istore_n (ls1 := [(2, .int 0), (0, .ref 0), (1, .int v1)]) d_MO_chance_30 rfl (Nat.le_of_ble_eq_true rfl) rfl 31 rfl ?_
      refine ax_aload_n 1 d_MO_chance_31 rfl rfl 32 rfl ?_
      refine ax_iconst (-1) d_MO_chance_32 ic_m1 33 rfl ?_
      refine ax_callV mv_MO_583 ⟨Nat.le_of_ble_eq_true rfl, Nat.le_of_ble_eq_true rfl⟩ ⟨rfl, rfl⟩ [.int (-1)] [.int (-1), .ref 0] rfl rfl (rc_m_0 _) (Nat.le_of_ble_eq_true rfl) d_MO_chance_33 36 rfl (zc_MO_movesOfWalk (-1) p2 (ok_b h (fun p3 h => ?_)))
      refine ax_istore_n (ls1 := [(3, .int p3.1), (2, .int 0), (0, .ref 0), (1, .int v1)]) d_MO_chance_36 rfl (Nat.le_of_ble_eq_true rfl) rfl 37 rfl ?_
      exact ax_sub [2, 3, 1, 0] rfl (c_MO_chance_L37 v1 0 p3.1 p3.2 (fun p hp => hR p hp) h)
    · have h := ok_f (bf hc) h
      exact ax_sub [0] rfl (c_MO_chance_J19 p1.2 (fun p hp => hR p hp) h)
set_option maxRecDepth 4000 in
theorem c_MO_see_J146 (v1 : Int32) (v2 : Int32) (m : zM)  {Q : Option Value → zM → Prop} {K : (Int32 × zM) → Prop} (hR : ∀ p : Int32 × zM, K (p) → Q (some (.int p.1)) p.2)  (h : ok (f_MO_see_J146 v1 v2 m) K) : AX gM s_MO_see 146 [(0, .ref 0), (1, .int v1), (2, .int v2)] [] m Q := by
  unfold f_MO_see_J146 at h
  refine ax_aload_n 0 d_MO_see_146 rfl rfl 147 rfl ?_
  refine ax_iload_n 2 d_MO_see_147 rfl rfl 148 rfl ?_
  refine ax_iconst 2 d_MO_see_148 ic_2 149 rfl ?_
  refine ax_idiv d_MO_see_149 (by decide) 150 rfl ?_
  refine ax_putI (K := K) fl_MO_331 m_0 rfl rfl rfl (Nat.le_of_ble_eq_true rfl) d_MO_see_150 153 rfl h (fun m9 h => ?_)
  refine ax_aload_n 0 d_MO_see_153 rfl rfl 154 rfl ?_
  refine ax_iload_n 1 d_MO_see_154 rfl rfl 155 rfl ?_
  refine ax_putI (K := K) fl_MO_591 m_0 rfl rfl rfl (Nat.le_of_ble_eq_true rfl) d_MO_see_155 158 rfl h (fun m10 h => ?_)
  refine ax_aload_n 0 d_MO_see_158 rfl rfl 159 rfl ?_
  refine ax_getI fl_MO_331 m_0 rfl d_MO_see_159 162 rfl ?_
  exact ax_iret rfl d_MO_see_162 (hR ((m10.1 0 77), m10) (ok_some h))
set_option maxRecDepth 4000 in
theorem c_MO_see_B120 (v1 : Int32) (v2 : Int32) (v4 : Int32) (m : zM)  {Q : Option Value → zM → Prop} {K : ((Int32 × zM) ⊕ (Int32 × zM)) → Prop} (hR : ∀ p : Int32 × zM, K (.inl p) → Q (some (.int p.1)) p.2) (h0 : ∀ s : Int32 × zM, K (.inr s) → AX gM s_MO_see 120 [(0, .ref 0), (1, .int v1), (2, .int v2), (4, .int s.1)] [] s.2 Q) (h : ok (f_MO_see_B120 v1 v2 v4 m) K) : AX gM s_MO_see 120 [(0, .ref 0), (1, .int v1), (2, .int v2), (4, .int v4)] [] m Q := by
  unfold f_MO_see_B120 at h
  refine ax_iload 3 d_MO_see_120 rfl 122 rfl ?_
  refine ax_iload_n 2 d_MO_see_122 rfl rfl 123 rfl ?_
  refine ax_icmp_ge 146 126 d_MO_see_123 rfl rfl (fun hc => ?_) (fun hc => ?_)
  · have h := ok_t hc h
    exact ax_sub [0, 1, 2] rfl (c_MO_see_J146 v1 v2 m (fun p hp => hR p hp) (ok_z h))
  · have h := ok_f hc h
    refine ax_aload_n 0 d_MO_see_126 rfl rfl 127 rfl ?_
    refine ax_getR fl_MO_182 m_0 rfl (rm_0_79 _) d_MO_see_127 130 rfl ?_
    refine ax_iload 3 d_MO_see_130 rfl 132 rfl ?_
    refine ax_aload_n 0 d_MO_see_132 rfl rfl 133 rfl ?_
    refine ax_getR fl_MO_7 m_0 rfl (rm_0_0 _) d_MO_see_133 136 rfl ?_
    refine ax_iload 3 d_MO_see_136 rfl 138 rfl ?_
    refine ax_iaload m_1 d_MO_see_138 139 rfl h (fun i6 h => ?_)
    refine ax_iastore m_53 d_MO_see_139 140 rfl h (fun i7 m8 h => ?_)
    refine ax_iinc (ls1 := [(4, .int (v4 + 1)), (0, .ref 0), (1, .int v1), (2, .int v2)]) 3 1 d_MO_see_140 rfl ic_1 (Nat.le_of_ble_eq_true rfl) rfl 143 rfl ?_
    refine ax_goto 120 d_MO_see_143 rfl ?_
    exact ax_sub [1, 2, 3, 0] rfl (h0 ((v4 + 1), m8) (ok_some h))
theorem c_MO_see_L120 (v1 : Int32) (v2 : Int32) (v4 : Int32) (m : zM)  {Q : Option Value → zM → Prop} {K : (Int32 × zM) → Prop} (hR : ∀ p : Int32 × zM, K (p) → Q (some (.int p.1)) p.2)  (h : ok (f_MO_see_L120 v1 v2 v4 m) K) : AX gM s_MO_see 120 [(0, .ref 0), (1, .int v1), (2, .int v2), (4, .int v4)] [] m Q :=
  ok_lp (K := K) (G := fun s : Int32 × zM => AX gM s_MO_see 120 [(0, .ref 0), (1, .int v1), (2, .int v2), (4, .int s.1)] [] s.2 Q) (fun s h => c_MO_see_B120 v1 v2 s.1 s.2  (fun p hp => hR p hp) (fun s hs => hs) h) FU (v4, m) h
set_option maxRecDepth 4000 in
theorem c_MO_see_J107 (v1 : Int32) (v2 : Int32) (v3 : Bool) (m : zM)  {Q : Option Value → zM → Prop} {K : (Int32 × zM) → Prop} (hR : ∀ p : Int32 × zM, K (p) → Q (some (.int p.1)) p.2)  (h : ok (f_MO_see_J107 v1 v2 v3 m) K) : AX gM s_MO_see 107 [(0, .ref 0), (1, .int v1), (2, .int v2), (3, .int (b2i v3))] [] m Q := by
  unfold f_MO_see_J107 at h
  refine ax_iload_n 3 d_MO_see_107 rfl rfl 108 rfl ?_
  refine ax_ifb_ne 117 111 d_MO_see_108 rfl rfl (fun hc => ?_) (fun hc => ?_)
  · have h := ok_t hc h
    refine ax_iconst 0 d_MO_see_117 ic_0 118 rfl ?_
    refine ax_istore (ls1 := [(4, .int 0), (0, .ref 0), (1, .int v1), (2, .int v2), (3, .int (b2i v3))]) d_MO_see_118 (Nat.le_of_ble_eq_true rfl) rfl 120 rfl ?_
    exact ax_sub [1, 2, 3, 0] rfl (c_MO_see_L120 v1 v2 0 m (fun p hp => hR p hp) h)
  · have h := ok_f (bf hc) h
    refine ax_aload_n 0 d_MO_see_111 rfl rfl 112 rfl ?_
    refine ax_iconst 1 d_MO_see_112 ic_1 113 rfl ?_
    refine ax_callV mv_MO_200 ⟨Nat.le_of_ble_eq_true rfl, Nat.le_of_ble_eq_true rfl⟩ ⟨rfl, rfl⟩ [.int 1] [.int 1, .ref 0] rfl rfl (rc_m_0 _) (Nat.le_of_ble_eq_true rfl) d_MO_see_113 116 rfl (zc_MO_refuses 1 m (ok_b h (fun p5 h => ?_)))
    exact ax_iret rfl d_MO_see_116 (hR (p5.1, p5.2) (ok_some h))
set_option maxRecDepth 4000 in
theorem c_MO_see_J100 (v1 : Int32) (v2 : Int32) (v4 : Int32) (t0 : Bool) (m : zM)  {Q : Option Value → zM → Prop} {K : ((Int32 × zM) ⊕ (Bool × Int32)) → Prop} (hR : ∀ p : Int32 × zM, K (.inl p) → Q (some (.int p.1)) p.2) (h0 : ∀ s : Bool × Int32, K (.inr s) → AX gM s_MO_see 56 [(0, .ref 0), (1, .int v1), (2, .int v2), (3, .int (b2i s.1)), (4, .int s.2)] [] m Q) (h : ok (f_MO_see_J100 v1 v2 v4 t0 m) K) : AX gM s_MO_see 100 [(0, .ref 0), (1, .int v1), (2, .int v2), (4, .int v4)] [.int (b2i t0)] m Q := by
  unfold f_MO_see_J100 at h
  refine ax_istore_n (ls1 := [(3, .int (b2i t0)), (0, .ref 0), (1, .int v1), (2, .int v2), (4, .int v4)]) d_MO_see_100 rfl (Nat.le_of_ble_eq_true rfl) rfl 101 rfl ?_
  refine ax_iinc (ls1 := [(4, .int (v4 + 2)), (3, .int (b2i t0)), (0, .ref 0), (1, .int v1), (2, .int v2)]) 4 2 d_MO_see_101 rfl ic_2 (Nat.le_of_ble_eq_true rfl) rfl 104 rfl ?_
  refine ax_goto 56 d_MO_see_104 rfl ?_
  exact ax_sub [2, 3, 4, 1, 0] rfl (h0 (t0, (v4 + 2)) (ok_some h))
set_option maxRecDepth 4000 in
theorem c_MO_see_J99 (v1 : Int32) (v2 : Int32) (v4 : Int32) (m : zM)  {Q : Option Value → zM → Prop} {K : ((Int32 × zM) ⊕ (Bool × Int32)) → Prop} (hR : ∀ p : Int32 × zM, K (.inl p) → Q (some (.int p.1)) p.2) (h0 : ∀ s : Bool × Int32, K (.inr s) → AX gM s_MO_see 56 [(0, .ref 0), (1, .int v1), (2, .int v2), (3, .int (b2i s.1)), (4, .int s.2)] [] m Q) (h : ok (f_MO_see_J99 v1 v2 v4 m) K) : AX gM s_MO_see 99 [(0, .ref 0), (1, .int v1), (2, .int v2), (4, .int v4)] [] m Q := by
  unfold f_MO_see_J99 at h
  refine ax_iconst 0 d_MO_see_99 ic_0 100 rfl ?_
  exact ax_sub [0, 1, 2, 3] rfl (c_MO_see_J100 v1 v2 v4 false m (fun p hp => hR p hp) (fun s hs => h0 s hs) h)
set_option maxRecDepth 4000 in
theorem c_MO_see_B56 (v1 : Int32) (v2 : Int32) (v3 : Bool) (v4 : Int32) (m : zM)  {Q : Option Value → zM → Prop} {K : ((Int32 × zM) ⊕ (Bool × Int32)) → Prop} (hR : ∀ p : Int32 × zM, K (.inl p) → Q (some (.int p.1)) p.2) (h0 : ∀ s : Bool × Int32, K (.inr s) → AX gM s_MO_see 56 [(0, .ref 0), (1, .int v1), (2, .int v2), (3, .int (b2i s.1)), (4, .int s.2)] [] m Q) (h : ok (f_MO_see_B56 v1 v2 v3 v4 m) K) : AX gM s_MO_see 56 [(0, .ref 0), (1, .int v1), (2, .int v2), (3, .int (b2i v3)), (4, .int v4)] [] m Q := by
  unfold f_MO_see_B56 at h
  refine ax_iload 4 d_MO_see_56 rfl 58 rfl ?_
  refine ax_iload_n 2 d_MO_see_58 rfl rfl 59 rfl ?_
  refine ax_icmp_ge 107 62 d_MO_see_59 rfl rfl (fun hc => ?_) (fun hc => ?_)
  · have h := ok_t hc h
    exact ax_sub [0, 1, 2, 3] rfl (c_MO_see_J107 v1 v2 v3 m (fun p hp => hR p hp) (ok_z h))
  · have h := ok_f hc h
    refine ax_iload_n 3 d_MO_see_62 rfl rfl 63 rfl ?_
    refine ax_ifb_eq 107 66 d_MO_see_63 rfl rfl (fun hc => ?_) (fun hc => ?_)
    · have h := ok_f (bf hc) h
      exact ax_sub [0, 1, 2, 3] rfl (c_MO_see_J107 v1 v2 v3 m (fun p hp => hR p hp) (ok_z h))
    · have h := ok_t hc h
      refine ax_aload_n 0 d_MO_see_66 rfl rfl 67 rfl ?_
      refine ax_getR fl_MO_7 m_0 rfl (rm_0_0 _) d_MO_see_67 70 rfl ?_
      refine ax_iload 4 d_MO_see_70 rfl 72 rfl ?_
      refine ax_iaload m_1 d_MO_see_72 73 rfl h (fun i2 h => ?_)
      refine ax_aload_n 0 d_MO_see_73 rfl rfl 74 rfl ?_
      refine ax_getR fl_MO_81 m_0 rfl (rm_0_31 _) d_MO_see_74 77 rfl ?_
      refine ax_iconst 0 d_MO_see_77 ic_0 78 rfl ?_
      refine ax_iaload m_23 d_MO_see_78 79 rfl h (fun i3 h => ?_)
      refine ax_icmp_ge 99 82 d_MO_see_79 rfl rfl (fun hc => ?_) (fun hc => ?_)
      · have h := ok_t hc h
        exact ax_sub [0, 1, 2, 4] rfl (c_MO_see_J99 v1 v2 v4 m (fun p hp => hR p hp) (fun s hs => h0 s hs) h)
      · have h := ok_f hc h
        refine ax_aload_n 0 d_MO_see_82 rfl rfl 83 rfl ?_
        refine ax_getR fl_MO_7 m_0 rfl (rm_0_0 _) d_MO_see_83 86 rfl ?_
        refine ax_iload 4 d_MO_see_86 rfl 88 rfl ?_
        refine ax_iconst 1 d_MO_see_88 ic_1 89 rfl ?_
        refine ax_iadd d_MO_see_89 90 rfl ?_
        refine ax_iaload m_1 d_MO_see_90 91 rfl h (fun i4 h => ?_)
        refine ax_iconst 4 d_MO_see_91 ic_4 92 rfl ?_
        refine ax_icmp_gt 99 95 d_MO_see_92 rfl rfl (fun hc => ?_) (fun hc => ?_)
        · have h := ok_t hc h
          exact ax_sub [0, 1, 2, 4] rfl (c_MO_see_J99 v1 v2 v4 m (fun p hp => hR p hp) (fun s hs => h0 s hs) h)
        · have h := ok_f hc h
          refine ax_iconst 1 d_MO_see_95 ic_1 96 rfl ?_
          refine ax_goto 100 d_MO_see_96 rfl ?_
          exact ax_sub [0, 1, 2, 4] rfl (c_MO_see_J100 v1 v2 v4 true m (fun p hp => hR p hp) (fun s hs => h0 s hs) h)
theorem c_MO_see_L56 (v1 : Int32) (v2 : Int32) (v3 : Bool) (v4 : Int32) (m : zM)  {Q : Option Value → zM → Prop} {K : (Int32 × zM) → Prop} (hR : ∀ p : Int32 × zM, K (p) → Q (some (.int p.1)) p.2)  (h : ok (f_MO_see_L56 v1 v2 v3 v4 m) K) : AX gM s_MO_see 56 [(0, .ref 0), (1, .int v1), (2, .int v2), (3, .int (b2i v3)), (4, .int v4)] [] m Q :=
  ok_lp (K := K) (G := fun s : Bool × Int32 => AX gM s_MO_see 56 [(0, .ref 0), (1, .int v1), (2, .int v2), (3, .int (b2i s.1)), (4, .int s.2)] [] m Q) (fun s h => c_MO_see_B56 v1 v2 s.1 s.2 m  (fun p hp => hR p hp) (fun s hs => hs) h) FU (v3, v4) h
set_option maxRecDepth 4000 in
theorem c_MO_see_J52 (v1 : Int32) (v2 : Int32) (t0 : Bool) (m : zM)  {Q : Option Value → zM → Prop} {K : (Int32 × zM) → Prop} (hR : ∀ p : Int32 × zM, K (p) → Q (some (.int p.1)) p.2)  (h : ok (f_MO_see_J52 v1 v2 t0 m) K) : AX gM s_MO_see 52 [(0, .ref 0), (1, .int v1), (2, .int v2)] [.int (b2i t0)] m Q := by
  unfold f_MO_see_J52 at h
  refine ax_istore_n (ls1 := [(3, .int (b2i t0)), (0, .ref 0), (1, .int v1), (2, .int v2)]) d_MO_see_52 rfl (Nat.le_of_ble_eq_true rfl) rfl 53 rfl ?_
  refine ax_iconst 0 d_MO_see_53 ic_0 54 rfl ?_
  refine ax_istore (ls1 := [(4, .int 0), (3, .int (b2i t0)), (0, .ref 0), (1, .int v1), (2, .int v2)]) d_MO_see_54 (Nat.le_of_ble_eq_true rfl) rfl 56 rfl ?_
  exact ax_sub [2, 3, 4, 1, 0] rfl (c_MO_see_L56 v1 v2 t0 0 m (fun p hp => hR p hp) h)
set_option maxRecDepth 4000 in
theorem c_MO_see_J51 (v1 : Int32) (v2 : Int32) (m : zM)  {Q : Option Value → zM → Prop} {K : (Int32 × zM) → Prop} (hR : ∀ p : Int32 × zM, K (p) → Q (some (.int p.1)) p.2)  (h : ok (f_MO_see_J51 v1 v2 m) K) : AX gM s_MO_see 51 [(0, .ref 0), (1, .int v1), (2, .int v2)] [] m Q := by
  unfold f_MO_see_J51 at h
  refine ax_iconst 0 d_MO_see_51 ic_0 52 rfl ?_
  exact ax_sub [0, 1, 2] rfl (c_MO_see_J52 v1 v2 false m (fun p hp => hR p hp) h)
set_option maxRecDepth 4000 in
theorem zc_MO_see (v1 : Int32) (m : zM)  {Q : Option Value → zM → Prop} (h : ok (f_MO_see v1 m) (fun p => Q (some (.int p.1)) p.2)) : zc gM s_MO_see [.ref 0, .int v1] m Q := by
  refine zc_of rfl (Nat.le_of_ble_eq_true rfl) ?_
  show AX gM s_MO_see 0 [(0, .ref 0), (1, .int v1)] [] m Q
  obtain ⟨K, hK⟩ : ∃ K : (Int32 × zM) → Prop, K = (fun p : Int32 × zM => Q (some (.int p.1)) p.2) := ⟨_, rfl⟩
  have hR : ∀ p : Int32 × zM, K p → Q (some (.int p.1)) p.2 := fun p hp => by rw [hK] at hp; exact hp
  replace h : ok (f_MO_see v1 m) (fun p : Int32 × zM => Q (some (.int p.1)) p.2) := h
  rw [← hK] at h
  unfold f_MO_see at h
  refine ax_aload_n 0 d_MO_see_0 rfl rfl 1 rfl ?_
  refine ax_getI fl_MO_197 m_0 rfl d_MO_see_1 4 rfl ?_
  refine ax_istore_n (ls1 := [(2, .int (m.1 0 1)), (0, .ref 0), (1, .int v1)]) d_MO_see_4 rfl (Nat.le_of_ble_eq_true rfl) rfl 5 rfl ?_
  refine ax_aload_n 1 d_MO_see_5 rfl rfl 6 rfl ?_
  refine ax_iconst 0 d_MO_see_6 ic_0 7 rfl ?_
  refine ax_putI (K := K) fl_MO_197 m_0 rfl rfl rfl (Nat.le_of_ble_eq_true rfl) d_MO_see_7 10 rfl h (fun m1 h => ?_)
  refine ax_aload_n 1 d_MO_see_10 rfl rfl 11 rfl ?_
  refine ax_getI fl_MO_321 m_0 rfl d_MO_see_11 14 rfl ?_
  refine ax_if_eq 51 17 d_MO_see_14 rfl rfl (fun hc => ?_) (fun hc => ?_)
  · have h := ok_t hc h
    exact ax_sub [1, 2, 0] rfl (c_MO_see_J51 v1 (m.1 0 1) m1 (fun p hp => hR p hp) h)
  · have h := ok_f hc h
    refine ax_iload_n 2 d_MO_see_17 rfl rfl 18 rfl ?_
    refine ax_i2l d_MO_see_18 19 rfl ?_
    refine ax_lconst 0 d_MO_see_19 lc_0 20 rfl ?_
    refine ax_ldc2 6 wk_MO_589 d_MO_see_20 23 rfl ?_
    refine ax_callS mv_MO_210 ⟨Nat.le_of_ble_eq_true rfl, Nat.le_of_ble_eq_true rfl⟩ ⟨rfl, rfl⟩ [.long v1.toInt64, .long 0, .long 6] [.long 6, .long 0, .long v1.toInt64] rfl rfl (Nat.le_of_ble_eq_true rfl) d_MO_see_23 26 rfl (zc_MO_isIn v1.toInt64 0 6 m1 ?_)
    refine ax_ifb_eq 51 29 d_MO_see_26 rfl rfl (fun hc => ?_) (fun hc => ?_)
    · have h := ok_f (bf hc) h
      exact ax_sub [1, 2, 0] rfl (c_MO_see_J51 v1 (m.1 0 1) m1 (fun p hp => hR p hp) h)
    · have h := ok_t hc h
      refine ax_iload_n 0 d_MO_see_29 rfl rfl 30 rfl ?_
      refine ax_if_le 51 33 d_MO_see_30 rfl rfl (fun hc => ?_) (fun hc => ?_)
      · have h := ok_t hc h
        exact ax_sub [1, 2, 0] rfl (c_MO_see_J51 v1 (m.1 0 1) m1 (fun p hp => hR p hp) h)
      · have h := ok_f hc h
        refine ax_iload_n 0 d_MO_see_33 rfl rfl 34 rfl ?_
        refine ax_iconst 2 d_MO_see_34 ic_2 35 rfl ?_
        refine ax_irem d_MO_see_35 (by decide) 36 rfl ?_
        refine ax_if_ne 51 39 d_MO_see_36 rfl rfl (fun hc => ?_) (fun hc => ?_)
        · have h := ok_f hc h
          exact ax_sub [1, 2, 0] rfl (c_MO_see_J51 v1 (m.1 0 1) m1 (fun p hp => hR p hp) h)
        · have h := ok_t hc h
          refine ax_iload_n 0 d_MO_see_39 rfl rfl 40 rfl ?_
          refine ax_iconst 2 d_MO_see_40 ic_2 41 rfl ?_
          refine ax_idiv d_MO_see_41 (by decide) 42 rfl ?_
          refine ax_bipush 6 d_MO_see_42 bp_6 44 rfl ?_
          refine ax_icmp_gt 51 47 d_MO_see_44 rfl rfl (fun hc => ?_) (fun hc => ?_)
          · have h := ok_t hc h
            exact ax_sub [1, 2, 0] rfl (c_MO_see_J51 v1 (m.1 0 1) m1 (fun p hp => hR p hp) h)
          · have h := ok_f hc h
            refine ax_iconst 1 d_MO_see_47 ic_1 48 rfl ?_
            refine ax_goto 52 d_MO_see_48 rfl ?_
            exact ax_sub [1, 2, 0] rfl (c_MO_see_J52 v1 (m.1 0 1) true m1 (fun p hp => hR p hp) h)
set_option maxRecDepth 4000 in
theorem c_MO_couldGoOn_J82 (v1 : Int32) (m : zM)  {Q : Option Value → zM → Prop} {K : ((zM) ⊕ (Int32 × zM)) → Prop} (hR : ∀ p : zM, K (.inl p) → Q none p) (h0 : ∀ s : Int32 × zM, K (.inr s) → AX gM s_MO_couldGoOn 37 [(0, .ref 0), (1, .int s.1)] [] s.2 Q) (h : ok (f_MO_couldGoOn_J82 v1 m) K) : AX gM s_MO_couldGoOn 82 [(0, .ref 0), (1, .int v1)] [] m Q := by
  unfold f_MO_couldGoOn_J82 at h
  refine ax_iinc (ls1 := [(1, .int (v1 + 1)), (0, .ref 0)]) 1 1 d_MO_couldGoOn_82 rfl ic_1 (Nat.le_of_ble_eq_true rfl) rfl 85 rfl ?_
  refine ax_goto 37 d_MO_couldGoOn_85 rfl ?_
  exact ax_sub [1, 0] rfl (h0 ((v1 + 1), m) (ok_some h))
set_option maxRecDepth 4000 in
theorem c_MO_couldGoOn_B37 (v1 : Int32) (m : zM)  {Q : Option Value → zM → Prop} {K : ((zM) ⊕ (Int32 × zM)) → Prop} (hR : ∀ p : zM, K (.inl p) → Q none p) (h0 : ∀ s : Int32 × zM, K (.inr s) → AX gM s_MO_couldGoOn 37 [(0, .ref 0), (1, .int s.1)] [] s.2 Q) (h : ok (f_MO_couldGoOn_B37 v1 m) K) : AX gM s_MO_couldGoOn 37 [(0, .ref 0), (1, .int v1)] [] m Q := by
  unfold f_MO_couldGoOn_B37 at h
  refine ax_iload_n 1 d_MO_couldGoOn_37 rfl rfl 38 rfl ?_
  refine ax_bipush 64 d_MO_couldGoOn_38 bp_64 40 rfl ?_
  refine ax_aload_n 0 d_MO_couldGoOn_40 rfl rfl 41 rfl ?_
  refine ax_getI fl_MO_380 m_0 rfl d_MO_couldGoOn_41 44 rfl ?_
  refine ax_imul d_MO_couldGoOn_44 45 rfl ?_
  refine ax_icmp_ge 88 48 d_MO_couldGoOn_45 rfl rfl (fun hc => ?_) (fun hc => ?_)
  · have h := ok_t hc h
    exact ax_vret rfl d_MO_couldGoOn_88 (hR m (ok_some h))
  · have h := ok_f hc h
    refine ax_aload_n 0 d_MO_couldGoOn_48 rfl rfl 49 rfl ?_
    refine ax_getR fl_MO_188 m_0 rfl (rm_0_81 _) d_MO_couldGoOn_49 52 rfl ?_
    refine ax_iload_n 1 d_MO_couldGoOn_52 rfl rfl 53 rfl ?_
    refine ax_bipush 64 d_MO_couldGoOn_53 bp_64 55 rfl ?_
    refine ax_idiv d_MO_couldGoOn_55 (by decide) 56 rfl ?_
    refine ax_baload m_55 d_MO_couldGoOn_56 57 rfl h (fun i6 h => ?_)
    refine ax_if_eq 82 60 d_MO_couldGoOn_57 rfl rfl (fun hc => ?_) (fun hc => ?_)
    · have h := ok_t hc h
      exact ax_sub [0, 1] rfl (c_MO_couldGoOn_J82 v1 m (fun p hp => hR p hp) (fun s hs => h0 s hs) h)
    · have h := ok_f hc h
      refine ax_aload_n 0 d_MO_couldGoOn_60 rfl rfl 61 rfl ?_
      refine ax_getR fl_MO_107 m_0 rfl (rm_0_45 _) d_MO_couldGoOn_61 64 rfl ?_
      refine ax_iload_n 1 d_MO_couldGoOn_64 rfl rfl 65 rfl ?_
      refine ax_iaload m_30 d_MO_couldGoOn_65 66 rfl h (fun i7 h => ?_)
      refine ax_iconst (-1) d_MO_couldGoOn_66 ic_m1 67 rfl ?_
      refine ax_icmp_eq 82 70 d_MO_couldGoOn_67 rfl rfl (fun hc => ?_) (fun hc => ?_)
      · have h := ok_t hc h
        exact ax_sub [0, 1] rfl (c_MO_couldGoOn_J82 v1 m (fun p hp => hR p hp) (fun s hs => h0 s hs) h)
      · have h := ok_f hc h
        refine ax_aload_n 0 d_MO_couldGoOn_70 rfl rfl 71 rfl ?_
        refine ax_getR fl_MO_185 m_0 rfl (rm_0_80 _) d_MO_couldGoOn_71 74 rfl ?_
        refine ax_aload_n 0 d_MO_couldGoOn_74 rfl rfl 75 rfl ?_
        refine ax_getR fl_MO_107 m_0 rfl (rm_0_45 _) d_MO_couldGoOn_75 78 rfl ?_
        refine ax_iload_n 1 d_MO_couldGoOn_78 rfl rfl 79 rfl ?_
        refine ax_iaload m_30 d_MO_couldGoOn_79 80 rfl h (fun i8 h => ?_)
        refine ax_iconst 1 d_MO_couldGoOn_80 ic_1 81 rfl ?_
        refine ax_zastore (y := true) m_54 d_MO_couldGoOn_81 82 rfl h (fun i9 m10 h => ?_)
        exact ax_sub [0, 1] rfl (c_MO_couldGoOn_J82 v1 m10 (fun p hp => hR p hp) (fun s hs => h0 s hs) h)
theorem c_MO_couldGoOn_L37 (v1 : Int32) (m : zM)  {Q : Option Value → zM → Prop} {K : zM → Prop} (hR : ∀ p : zM, K (p) → Q none p)  (h : ok (f_MO_couldGoOn_L37 v1 m) K) : AX gM s_MO_couldGoOn 37 [(0, .ref 0), (1, .int v1)] [] m Q :=
  ok_lp (K := K) (G := fun s : Int32 × zM => AX gM s_MO_couldGoOn 37 [(0, .ref 0), (1, .int s.1)] [] s.2 Q) (fun s h => c_MO_couldGoOn_B37 s.1 s.2  (fun p hp => hR p hp) (fun s hs => hs) h) FU (v1, m) h
set_option maxRecDepth 4000 in
theorem c_MO_couldGoOn_J35  (m : zM)  {Q : Option Value → zM → Prop} {K : zM → Prop} (hR : ∀ p : zM, K (p) → Q none p)  (h : ok (f_MO_couldGoOn_J35  m) K) : AX gM s_MO_couldGoOn 35 [(0, .ref 0)] [] m Q := by
  unfold f_MO_couldGoOn_J35 at h
  refine ax_iconst 0 d_MO_couldGoOn_35 ic_0 36 rfl ?_
  refine ax_istore_n (ls1 := [(1, .int 0), (0, .ref 0)]) d_MO_couldGoOn_36 rfl (Nat.le_of_ble_eq_true rfl) rfl 37 rfl ?_
  exact ax_sub [1, 0] rfl (c_MO_couldGoOn_L37 0 m (fun p hp => hR p hp) h)
set_option maxRecDepth 4000 in
theorem c_MO_couldGoOn_B2 (v1 : Int32) (m : zM)  {Q : Option Value → zM → Prop} {K : ((zM) ⊕ (Int32 × zM)) → Prop} (hR : ∀ p : zM, K (.inl p) → Q none p) (h0 : ∀ s : Int32 × zM, K (.inr s) → AX gM s_MO_couldGoOn 2 [(0, .ref 0), (1, .int s.1)] [] s.2 Q) (h : ok (f_MO_couldGoOn_B2 v1 m) K) : AX gM s_MO_couldGoOn 2 [(0, .ref 0), (1, .int v1)] [] m Q := by
  unfold f_MO_couldGoOn_B2 at h
  refine ax_iload_n 1 d_MO_couldGoOn_2 rfl rfl 3 rfl ?_
  refine ax_aload_n 0 d_MO_couldGoOn_3 rfl rfl 4 rfl ?_
  refine ax_getI fl_MO_380 m_0 rfl d_MO_couldGoOn_4 7 rfl ?_
  refine ax_icmp_ge 35 10 d_MO_couldGoOn_7 rfl rfl (fun hc => ?_) (fun hc => ?_)
  · have h := ok_t hc h
    exact ax_sub [0] rfl (c_MO_couldGoOn_J35 m (fun p hp => hR p hp) (ok_z h))
  · have h := ok_f hc h
    refine ax_aload_n 0 d_MO_couldGoOn_10 rfl rfl 11 rfl ?_
    refine ax_getR fl_MO_188 m_0 rfl (rm_0_81 _) d_MO_couldGoOn_11 14 rfl ?_
    refine ax_iload_n 1 d_MO_couldGoOn_14 rfl rfl 15 rfl ?_
    refine ax_aload_n 0 d_MO_couldGoOn_15 rfl rfl 16 rfl ?_
    refine ax_getR fl_MO_185 m_0 rfl (rm_0_80 _) d_MO_couldGoOn_16 19 rfl ?_
    refine ax_iload_n 1 d_MO_couldGoOn_19 rfl rfl 20 rfl ?_
    refine ax_baload m_54 d_MO_couldGoOn_20 21 rfl h (fun i1 h => ?_)
    refine ax_bastore m_55 d_MO_couldGoOn_21 22 rfl h (fun i2 m3 h => ?_)
    refine ax_aload_n 0 d_MO_couldGoOn_22 rfl rfl 23 rfl ?_
    refine ax_getR fl_MO_185 m_0 rfl (rm_0_80 _) d_MO_couldGoOn_23 26 rfl ?_
    refine ax_iload_n 1 d_MO_couldGoOn_26 rfl rfl 27 rfl ?_
    refine ax_iconst 0 d_MO_couldGoOn_27 ic_0 28 rfl ?_
    refine ax_zastore (y := false) m_54 d_MO_couldGoOn_28 29 rfl h (fun i4 m5 h => ?_)
    refine ax_iinc (ls1 := [(1, .int (v1 + 1)), (0, .ref 0)]) 1 1 d_MO_couldGoOn_29 rfl ic_1 (Nat.le_of_ble_eq_true rfl) rfl 32 rfl ?_
    refine ax_goto 2 d_MO_couldGoOn_32 rfl ?_
    exact ax_sub [1, 0] rfl (h0 ((v1 + 1), m5) (ok_some h))
theorem c_MO_couldGoOn_L2 (v1 : Int32) (m : zM)  {Q : Option Value → zM → Prop} {K : zM → Prop} (hR : ∀ p : zM, K (p) → Q none p)  (h : ok (f_MO_couldGoOn_L2 v1 m) K) : AX gM s_MO_couldGoOn 2 [(0, .ref 0), (1, .int v1)] [] m Q :=
  ok_lp (K := K) (G := fun s : Int32 × zM => AX gM s_MO_couldGoOn 2 [(0, .ref 0), (1, .int s.1)] [] s.2 Q) (fun s h => c_MO_couldGoOn_B2 s.1 s.2  (fun p hp => hR p hp) (fun s hs => hs) h) FU (v1, m) h
set_option maxRecDepth 4000 in
theorem zc_MO_couldGoOn  (m : zM)  {Q : Option Value → zM → Prop} (h : ok (f_MO_couldGoOn m) (fun p => Q none p)) : zc gM s_MO_couldGoOn [.ref 0] m Q := by
  refine zc_of rfl (Nat.le_of_ble_eq_true rfl) ?_
  show AX gM s_MO_couldGoOn 0 [(0, .ref 0)] [] m Q
  obtain ⟨K, hK⟩ : ∃ K : zM → Prop, K = (fun p : zM => Q none p) := ⟨_, rfl⟩
  have hR : ∀ p : zM, K p → Q none p := fun p hp => by rw [hK] at hp; exact hp
  replace h : ok (f_MO_couldGoOn m) (fun p : zM => Q none p) := h
  rw [← hK] at h
  unfold f_MO_couldGoOn at h
  refine ax_iconst 0 d_MO_couldGoOn_0 ic_0 1 rfl ?_
  refine ax_istore_n (ls1 := [(1, .int 0), (0, .ref 0)]) d_MO_couldGoOn_1 rfl (Nat.le_of_ble_eq_true rfl) rfl 2 rfl ?_
  exact ax_sub [1, 0] rfl (c_MO_couldGoOn_L2 0 m (fun p hp => hR p hp) h)
set_option maxRecDepth 4000 in
theorem c_MO_inState_J41 (v2 : Int32) (v3 : Int32) (v4 : Int32) (m : zM)  {Q : Option Value → zM → Prop} {K : ((Int32 × zM) ⊕ (Int32 × Int32)) → Prop} (hR : ∀ p : Int32 × zM, K (.inl p) → Q (some (.int p.1)) p.2) (h0 : ∀ s : Int32 × Int32, K (.inr s) → AX gM s_MO_inState 15 [(0, .ref 0), (2, .int v2), (3, .int s.1), (4, .int s.2)] [] m Q) (h : ok (f_MO_inState_J41 v2 v3 v4 m) K) : AX gM s_MO_inState 41 [(0, .ref 0), (2, .int v2), (3, .int v3), (4, .int v4)] [] m Q := by
  unfold f_MO_inState_J41 at h
  refine ax_iinc (ls1 := [(4, .int (v4 + 1)), (0, .ref 0), (2, .int v2), (3, .int v3)]) 3 1 d_MO_inState_41 rfl ic_1 (Nat.le_of_ble_eq_true rfl) rfl 44 rfl ?_
  refine ax_goto 15 d_MO_inState_44 rfl ?_
  exact ax_sub [1, 2, 3, 0] rfl (h0 (v3, (v4 + 1)) (ok_some h))
set_option maxRecDepth 4000 in
theorem c_MO_inState_B15 (v2 : Int32) (v3 : Int32) (v4 : Int32) (m : zM)  {Q : Option Value → zM → Prop} {K : ((Int32 × zM) ⊕ (Int32 × Int32)) → Prop} (hR : ∀ p : Int32 × zM, K (.inl p) → Q (some (.int p.1)) p.2) (h0 : ∀ s : Int32 × Int32, K (.inr s) → AX gM s_MO_inState 15 [(0, .ref 0), (2, .int v2), (3, .int s.1), (4, .int s.2)] [] m Q) (h : ok (f_MO_inState_B15 v2 v3 v4 m) K) : AX gM s_MO_inState 15 [(0, .ref 0), (2, .int v2), (3, .int v3), (4, .int v4)] [] m Q := by
  unfold f_MO_inState_B15 at h
  refine ax_iload 3 d_MO_inState_15 rfl 17 rfl ?_
  refine ax_aload_n 0 d_MO_inState_17 rfl rfl 18 rfl ?_
  refine ax_callV mv_MO_358 ⟨Nat.le_of_ble_eq_true rfl, Nat.le_of_ble_eq_true rfl⟩ ⟨rfl, rfl⟩ [] [.ref 0, .int v4] rfl rfl (rc_m_0 _) (Nat.le_of_ble_eq_true rfl) d_MO_inState_18 21 rfl (zc_MO_agents m (ok_b h (fun r3 h => ?_)))
  refine ax_icmp_ge 47 24 d_MO_inState_21 rfl rfl (fun hc => ?_) (fun hc => ?_)
  · have h := ok_t hc h
    refine ax_iload_n 2 d_MO_inState_47 rfl rfl 48 rfl ?_
    exact ax_iret rfl d_MO_inState_48 (hR (v3, m) (ok_some h))
  · have h := ok_f hc h
    refine ax_aload_n 0 d_MO_inState_24 rfl rfl 25 rfl ?_
    refine ax_getR fl_MO_87 m_0 rfl (rm_0_37 _) d_MO_inState_25 28 rfl ?_
    refine ax_iload 3 d_MO_inState_28 rfl 30 rfl ?_
    refine ax_iaload m_25 d_MO_inState_30 31 rfl h (fun i4 h => ?_)
    refine ax_callS mv_MO_346 ⟨Nat.le_of_ble_eq_true rfl, Nat.le_of_ble_eq_true rfl⟩ ⟨rfl, rfl⟩ [.int (m.1 25 i4)] [.int (m.1 25 i4)] rfl rfl (Nat.le_of_ble_eq_true rfl) d_MO_inState_31 34 rfl (zc_MO_stateOf (m.1 25 i4) m ?_)
    refine ax_iload_n 1 d_MO_inState_34 rfl rfl 35 rfl ?_
    refine ax_icmp_ne 41 38 d_MO_inState_35 rfl rfl (fun hc => ?_) (fun hc => ?_)
    · have h := ok_f hc h
      exact ax_sub [0, 1, 2, 3] rfl (c_MO_inState_J41 v2 v3 v4 m (fun p hp => hR p hp) (fun s hs => h0 s hs) h)
    · have h := ok_t hc h
      refine ax_iinc (ls1 := [(3, .int (v3 + 1)), (0, .ref 0), (2, .int v2), (4, .int v4)]) 2 1 d_MO_inState_38 rfl ic_1 (Nat.le_of_ble_eq_true rfl) rfl 41 rfl ?_
      exact ax_sub [1, 2, 0, 3] rfl (c_MO_inState_J41 v2 (v3 + 1) v4 m (fun p hp => hR p hp) (fun s hs => h0 s hs) h)
theorem c_MO_inState_L15 (v2 : Int32) (v3 : Int32) (v4 : Int32) (m : zM)  {Q : Option Value → zM → Prop} {K : (Int32 × zM) → Prop} (hR : ∀ p : Int32 × zM, K (p) → Q (some (.int p.1)) p.2)  (h : ok (f_MO_inState_L15 v2 v3 v4 m) K) : AX gM s_MO_inState 15 [(0, .ref 0), (2, .int v2), (3, .int v3), (4, .int v4)] [] m Q :=
  ok_lp (K := K) (G := fun s : Int32 × Int32 => AX gM s_MO_inState 15 [(0, .ref 0), (2, .int v2), (3, .int s.1), (4, .int s.2)] [] m Q) (fun s h => c_MO_inState_B15 v2 s.1 s.2 m  (fun p hp => hR p hp) (fun s hs => hs) h) FU (v3, v4) h
set_option maxRecDepth 4000 in
theorem zc_MO_inState (v1 : Int32) (v2 : Int32) (m : zM)  {Q : Option Value → zM → Prop} (h : ok (f_MO_inState v1 v2 m) (fun p => Q (some (.int p.1)) p.2)) : zc gM s_MO_inState [.ref 0, .int v1, .int v2] m Q := by
  refine zc_of rfl (Nat.le_of_ble_eq_true rfl) ?_
  show AX gM s_MO_inState 0 [(0, .ref 0), (1, .int v1), (2, .int v2)] [] m Q
  obtain ⟨K, hK⟩ : ∃ K : (Int32 × zM) → Prop, K = (fun p : Int32 × zM => Q (some (.int p.1)) p.2) := ⟨_, rfl⟩
  have hR : ∀ p : Int32 × zM, K p → Q (some (.int p.1)) p.2 := fun p hp => by rw [hK] at hp; exact hp
  replace h : ok (f_MO_inState v1 v2 m) (fun p : Int32 × zM => Q (some (.int p.1)) p.2) := h
  rw [← hK] at h
  unfold f_MO_inState at h
  refine ax_aload_n 0 d_MO_inState_0 rfl rfl 1 rfl ?_
  refine ax_aload_n 0 d_MO_inState_1 rfl rfl 2 rfl ?_
  refine ax_getR fl_MO_96 m_0 rfl (rm_0_42 _) d_MO_inState_2 5 rfl ?_
  refine ax_iload_n 1 d_MO_inState_5 rfl rfl 6 rfl ?_
  refine ax_laload m_27 d_MO_inState_6 7 rfl h (fun i1 h => ?_)
  refine ax_callV mv_MO_415 ⟨Nat.le_of_ble_eq_true rfl, Nat.le_of_ble_eq_true rfl⟩ ⟨rfl, rfl⟩ [.long (m.2.1 27 i1)] [.long (m.2.1 27 i1), .ref 0] rfl rfl (rc_m_0 _) (Nat.le_of_ble_eq_true rfl) d_MO_inState_7 10 rfl (zc_MO_opens (m.2.1 27 i1) m (ok_b h (fun p2 h => ?_)))
  refine ax_iconst 0 d_MO_inState_10 ic_0 11 rfl ?_
  refine ax_istore_n (ls1 := [(3, .int 0), (0, .ref 0), (1, .int v1), (2, .int v2)]) d_MO_inState_11 rfl (Nat.le_of_ble_eq_true rfl) rfl 12 rfl ?_
  refine ax_iconst 0 d_MO_inState_12 ic_0 13 rfl ?_
  refine ax_istore (ls1 := [(4, .int 0), (3, .int 0), (0, .ref 0), (1, .int v1), (2, .int v2)]) d_MO_inState_13 (Nat.le_of_ble_eq_true rfl) rfl 15 rfl ?_
  exact ax_sub [2, 4, 1, 0] rfl (c_MO_inState_L15 v2 0 0 p2 (fun p hp => hR p hp) h)
set_option maxRecDepth 4000 in
theorem c_MO_isAsSeen_B2 (v1 : Int32) (v2 : Int32) (m : zM)  {Q : Option Value → zM → Prop} {K : ((Bool × zM) ⊕ (Int32 × zM)) → Prop} (hR : ∀ p : Bool × zM, K (.inl p) → Q (some (.int (b2i p.1))) p.2) (h0 : ∀ s : Int32 × zM, K (.inr s) → AX gM s_MO_isAsSeen 2 [(0, .ref 0), (1, .int v1), (2, .int s.1)] [] s.2 Q) (h : ok (f_MO_isAsSeen_B2 v1 v2 m) K) : AX gM s_MO_isAsSeen 2 [(0, .ref 0), (1, .int v1), (2, .int v2)] [] m Q := by
  unfold f_MO_isAsSeen_B2 at h
  refine ax_iload_n 2 d_MO_isAsSeen_2 rfl rfl 3 rfl ?_
  refine ax_aload_n 0 d_MO_isAsSeen_3 rfl rfl 4 rfl ?_
  refine ax_getI fl_MO_331 m_0 rfl d_MO_isAsSeen_4 7 rfl ?_
  refine ax_icmp_ge 44 10 d_MO_isAsSeen_7 rfl rfl (fun hc => ?_) (fun hc => ?_)
  · have h := ok_t hc h
    refine ax_iconst 1 d_MO_isAsSeen_44 ic_1 45 rfl ?_
    exact ax_zret (b := true) rfl d_MO_isAsSeen_45 (hR (true, m) (ok_some h))
  · have h := ok_f hc h
    refine ax_aload_n 0 d_MO_isAsSeen_10 rfl rfl 11 rfl ?_
    refine ax_iload_n 1 d_MO_isAsSeen_11 rfl rfl 12 rfl ?_
    refine ax_aload_n 0 d_MO_isAsSeen_12 rfl rfl 13 rfl ?_
    refine ax_getR fl_MO_182 m_0 rfl (rm_0_79 _) d_MO_isAsSeen_13 16 rfl ?_
    refine ax_iconst 2 d_MO_isAsSeen_16 ic_2 17 rfl ?_
    refine ax_iload_n 2 d_MO_isAsSeen_17 rfl rfl 18 rfl ?_
    refine ax_imul d_MO_isAsSeen_18 19 rfl ?_
    refine ax_iaload m_53 d_MO_isAsSeen_19 20 rfl h (fun i1 h => ?_)
    refine ax_callV mv_MO_594 ⟨Nat.le_of_ble_eq_true rfl, Nat.le_of_ble_eq_true rfl⟩ ⟨rfl, rfl⟩ [.int v1, .int (m.1 53 i1)] [.int (m.1 53 i1), .int v1, .ref 0] rfl rfl (rc_m_0 _) (Nat.le_of_ble_eq_true rfl) d_MO_isAsSeen_20 23 rfl (zc_MO_inState v1 (m.1 53 i1) m (ok_b h (fun p2 h => ?_)))
    refine ax_aload_n 0 d_MO_isAsSeen_23 rfl rfl 24 rfl ?_
    refine ax_getR fl_MO_182 m_0 rfl (rm_0_79 _) d_MO_isAsSeen_24 27 rfl ?_
    refine ax_iconst 2 d_MO_isAsSeen_27 ic_2 28 rfl ?_
    refine ax_iload_n 2 d_MO_isAsSeen_28 rfl rfl 29 rfl ?_
    refine ax_imul d_MO_isAsSeen_29 30 rfl ?_
    refine ax_iconst 1 d_MO_isAsSeen_30 ic_1 31 rfl ?_
    refine ax_iadd d_MO_isAsSeen_31 32 rfl ?_
    refine ax_iaload m_53 d_MO_isAsSeen_32 33 rfl h (fun i3 h => ?_)
    refine ax_icmp_eq 38 36 d_MO_isAsSeen_33 rfl rfl (fun hc => ?_) (fun hc => ?_)
    · have h := ok_t hc h
      refine ax_iinc (ls1 := [(2, .int (v2 + 1)), (0, .ref 0), (1, .int v1)]) 2 1 d_MO_isAsSeen_38 rfl ic_1 (Nat.le_of_ble_eq_true rfl) rfl 41 rfl ?_
      refine ax_goto 2 d_MO_isAsSeen_41 rfl ?_
      exact ax_sub [1, 2, 0] rfl (h0 ((v2 + 1), p2.2) (ok_some h))
    · have h := ok_f hc h
      refine ax_iconst 0 d_MO_isAsSeen_36 ic_0 37 rfl ?_
      exact ax_zret (b := false) rfl d_MO_isAsSeen_37 (hR (false, p2.2) (ok_some h))
theorem c_MO_isAsSeen_L2 (v1 : Int32) (v2 : Int32) (m : zM)  {Q : Option Value → zM → Prop} {K : (Bool × zM) → Prop} (hR : ∀ p : Bool × zM, K (p) → Q (some (.int (b2i p.1))) p.2)  (h : ok (f_MO_isAsSeen_L2 v1 v2 m) K) : AX gM s_MO_isAsSeen 2 [(0, .ref 0), (1, .int v1), (2, .int v2)] [] m Q :=
  ok_lp (K := K) (G := fun s : Int32 × zM => AX gM s_MO_isAsSeen 2 [(0, .ref 0), (1, .int v1), (2, .int s.1)] [] s.2 Q) (fun s h => c_MO_isAsSeen_B2 v1 s.1 s.2  (fun p hp => hR p hp) (fun s hs => hs) h) FU (v2, m) h
set_option maxRecDepth 4000 in
theorem zc_MO_isAsSeen (v1 : Int32) (m : zM)  {Q : Option Value → zM → Prop} (h : ok (f_MO_isAsSeen v1 m) (fun p => Q (some (.int (b2i p.1))) p.2)) : zc gM s_MO_isAsSeen [.ref 0, .int v1] m Q := by
  refine zc_of rfl (Nat.le_of_ble_eq_true rfl) ?_
  show AX gM s_MO_isAsSeen 0 [(0, .ref 0), (1, .int v1)] [] m Q
  obtain ⟨K, hK⟩ : ∃ K : (Bool × zM) → Prop, K = (fun p : Bool × zM => Q (some (.int (b2i p.1))) p.2) := ⟨_, rfl⟩
  have hR : ∀ p : Bool × zM, K p → Q (some (.int (b2i p.1))) p.2 := fun p hp => by rw [hK] at hp; exact hp
  replace h : ok (f_MO_isAsSeen v1 m) (fun p : Bool × zM => Q (some (.int (b2i p.1))) p.2) := h
  rw [← hK] at h
  unfold f_MO_isAsSeen at h
  refine ax_iconst 0 d_MO_isAsSeen_0 ic_0 1 rfl ?_
  refine ax_istore_n (ls1 := [(2, .int 0), (0, .ref 0), (1, .int v1)]) d_MO_isAsSeen_1 rfl (Nat.le_of_ble_eq_true rfl) rfl 2 rfl ?_
  exact ax_sub [1, 2, 0] rfl (c_MO_isAsSeen_L2 v1 0 m (fun p hp => hR p hp) h)
set_option maxRecDepth 4000 in
theorem c_MO_laysCould_J116 (v1 : Int32) (v2 : Int32) (m : zM)  {Q : Option Value → zM → Prop} {K : ((Int32 × zM) ⊕ (Int32 × Int32 × zM)) → Prop} (hR : ∀ p : Int32 × zM, K (.inl p) → Q (some (.int p.1)) p.2) (h0 : ∀ s : Int32 × Int32 × zM, K (.inr s) → AX gM s_MO_laysCould 68 [(0, .ref 0), (1, .int s.1), (2, .int s.2.1)] [] s.2.2 Q) (h : ok (f_MO_laysCould_J116 v1 v2 m) K) : AX gM s_MO_laysCould 116 [(0, .ref 0), (1, .int v1), (2, .int v2)] [] m Q := by
  unfold f_MO_laysCould_J116 at h
  refine ax_iinc (ls1 := [(2, .int (v2 + 1)), (0, .ref 0), (1, .int v1)]) 2 1 d_MO_laysCould_116 rfl ic_1 (Nat.le_of_ble_eq_true rfl) rfl 119 rfl ?_
  refine ax_goto 68 d_MO_laysCould_119 rfl ?_
  exact ax_sub [1, 2, 0] rfl (h0 (v1, (v2 + 1), m) (ok_some h))
set_option maxRecDepth 4000 in
theorem c_MO_laysCould_J103 (v1 : Int32) (v2 : Int32) (t0 : Nat) (t1 : Int32) (t2 : Bool) (m : zM) (ht0 : gM.1[t0]? = some (.inr (1, zlen gM t0))) {Q : Option Value → zM → Prop} {K : ((Int32 × zM) ⊕ (Int32 × Int32 × zM)) → Prop} (hR : ∀ p : Int32 × zM, K (.inl p) → Q (some (.int p.1)) p.2) (h0 : ∀ s : Int32 × Int32 × zM, K (.inr s) → AX gM s_MO_laysCould 68 [(0, .ref 0), (1, .int s.1), (2, .int s.2.1)] [] s.2.2 Q) (h : ok (f_MO_laysCould_J103 v1 v2 t0 t1 t2 m) K) : AX gM s_MO_laysCould 103 [(0, .ref 0), (1, .int v1), (2, .int v2)] [.int (b2i t2), .int t1, .ref t0] m Q := by
  unfold f_MO_laysCould_J103 at h
  refine ax_zastore (y := t2) ht0 d_MO_laysCould_103 104 rfl h (fun i9 m10 h => ?_)
  refine ax_aload_n 0 d_MO_laysCould_104 rfl rfl 105 rfl ?_
  refine ax_getR fl_MO_185 m_0 rfl (rm_0_80 _) d_MO_laysCould_105 108 rfl ?_
  refine ax_iload_n 2 d_MO_laysCould_108 rfl rfl 109 rfl ?_
  refine ax_baload m_54 d_MO_laysCould_109 110 rfl h (fun i11 h => ?_)
  refine ax_if_eq 116 113 d_MO_laysCould_110 rfl rfl (fun hc => ?_) (fun hc => ?_)
  · have h := ok_t hc h
    exact ax_sub [0, 1, 2] rfl (c_MO_laysCould_J116 v1 v2 m10 (fun p hp => hR p hp) (fun s hs => h0 s hs) h)
  · have h := ok_f hc h
    refine ax_iinc (ls1 := [(1, .int (v1 + 1)), (0, .ref 0), (2, .int v2)]) 1 1 d_MO_laysCould_113 rfl ic_1 (Nat.le_of_ble_eq_true rfl) rfl 116 rfl ?_
    exact ax_sub [1, 0, 2] rfl (c_MO_laysCould_J116 (v1 + 1) v2 m10 (fun p hp => hR p hp) (fun s hs => h0 s hs) h)
set_option maxRecDepth 4000 in
theorem c_MO_laysCould_J102 (v1 : Int32) (v2 : Int32) (t0 : Nat) (t1 : Int32) (m : zM) (ht0 : gM.1[t0]? = some (.inr (1, zlen gM t0))) {Q : Option Value → zM → Prop} {K : ((Int32 × zM) ⊕ (Int32 × Int32 × zM)) → Prop} (hR : ∀ p : Int32 × zM, K (.inl p) → Q (some (.int p.1)) p.2) (h0 : ∀ s : Int32 × Int32 × zM, K (.inr s) → AX gM s_MO_laysCould 68 [(0, .ref 0), (1, .int s.1), (2, .int s.2.1)] [] s.2.2 Q) (h : ok (f_MO_laysCould_J102 v1 v2 t0 t1 m) K) : AX gM s_MO_laysCould 102 [(0, .ref 0), (1, .int v1), (2, .int v2)] [.int t1, .ref t0] m Q := by
  unfold f_MO_laysCould_J102 at h
  refine ax_iconst 0 d_MO_laysCould_102 ic_0 103 rfl ?_
  exact ax_sub [0, 1, 2] rfl (c_MO_laysCould_J103 v1 v2 t0 t1 false m ht0 (fun p hp => hR p hp) (fun s hs => h0 s hs) h)
set_option maxRecDepth 4000 in
theorem c_MO_laysCould_B68 (v1 : Int32) (v2 : Int32) (m : zM)  {Q : Option Value → zM → Prop} {K : ((Int32 × zM) ⊕ (Int32 × Int32 × zM)) → Prop} (hR : ∀ p : Int32 × zM, K (.inl p) → Q (some (.int p.1)) p.2) (h0 : ∀ s : Int32 × Int32 × zM, K (.inr s) → AX gM s_MO_laysCould 68 [(0, .ref 0), (1, .int s.1), (2, .int s.2.1)] [] s.2.2 Q) (h : ok (f_MO_laysCould_B68 v1 v2 m) K) : AX gM s_MO_laysCould 68 [(0, .ref 0), (1, .int v1), (2, .int v2)] [] m Q := by
  unfold f_MO_laysCould_B68 at h
  refine ax_iload_n 2 d_MO_laysCould_68 rfl rfl 69 rfl ?_
  refine ax_aload_n 0 d_MO_laysCould_69 rfl rfl 70 rfl ?_
  refine ax_getI fl_MO_380 m_0 rfl d_MO_laysCould_70 73 rfl ?_
  refine ax_icmp_ge 122 76 d_MO_laysCould_73 rfl rfl (fun hc => ?_) (fun hc => ?_)
  · have h := ok_t hc h
    refine ax_iload_n 1 d_MO_laysCould_122 rfl rfl 123 rfl ?_
    exact ax_iret rfl d_MO_laysCould_123 (hR (v1, m) (ok_some h))
  · have h := ok_f hc h
    refine ax_aload_n 0 d_MO_laysCould_76 rfl rfl 77 rfl ?_
    refine ax_getR fl_MO_185 m_0 rfl (rm_0_80 _) d_MO_laysCould_77 80 rfl ?_
    refine ax_iload_n 2 d_MO_laysCould_80 rfl rfl 81 rfl ?_
    refine ax_aload_n 0 d_MO_laysCould_81 rfl rfl 82 rfl ?_
    refine ax_getR fl_MO_185 m_0 rfl (rm_0_80 _) d_MO_laysCould_82 85 rfl ?_
    refine ax_iload_n 2 d_MO_laysCould_85 rfl rfl 86 rfl ?_
    refine ax_baload m_54 d_MO_laysCould_86 87 rfl h (fun i7 h => ?_)
    refine ax_if_eq 102 90 d_MO_laysCould_87 rfl rfl (fun hc => ?_) (fun hc => ?_)
    · have h := ok_t hc h
      exact ax_sub [0, 1, 2] rfl (c_MO_laysCould_J102 v1 v2 54 v2 m m_54z (fun p hp => hR p hp) (fun s hs => h0 s hs) h)
    · have h := ok_f hc h
      refine ax_aload_n 0 d_MO_laysCould_90 rfl rfl 91 rfl ?_
      refine ax_iload_n 2 d_MO_laysCould_91 rfl rfl 92 rfl ?_
      refine ax_callV mv_MO_600 ⟨Nat.le_of_ble_eq_true rfl, Nat.le_of_ble_eq_true rfl⟩ ⟨rfl, rfl⟩ [.int v2] [.int v2, .ref 0, .int v2, .ref 54] rfl rfl (rc_m_0 _) (Nat.le_of_ble_eq_true rfl) d_MO_laysCould_92 95 rfl (zc_MO_isAsSeen v2 m (ok_b h (fun p8 h => ?_)))
      refine ax_ifb_eq 102 98 d_MO_laysCould_95 rfl rfl (fun hc => ?_) (fun hc => ?_)
      · have h := ok_f (bf hc) h
        exact ax_sub [0, 1, 2] rfl (c_MO_laysCould_J102 v1 v2 54 v2 p8.2 m_54z (fun p hp => hR p hp) (fun s hs => h0 s hs) h)
      · have h := ok_t hc h
        refine ax_iconst 1 d_MO_laysCould_98 ic_1 99 rfl ?_
        refine ax_goto 103 d_MO_laysCould_99 rfl ?_
        exact ax_sub [0, 1, 2] rfl (c_MO_laysCould_J103 v1 v2 54 v2 true p8.2 m_54z (fun p hp => hR p hp) (fun s hs => h0 s hs) h)
theorem c_MO_laysCould_L68 (v1 : Int32) (v2 : Int32) (m : zM)  {Q : Option Value → zM → Prop} {K : (Int32 × zM) → Prop} (hR : ∀ p : Int32 × zM, K (p) → Q (some (.int p.1)) p.2)  (h : ok (f_MO_laysCould_L68 v1 v2 m) K) : AX gM s_MO_laysCould 68 [(0, .ref 0), (1, .int v1), (2, .int v2)] [] m Q :=
  ok_lp (K := K) (G := fun s : Int32 × Int32 × zM => AX gM s_MO_laysCould 68 [(0, .ref 0), (1, .int s.1), (2, .int s.2.1)] [] s.2.2 Q) (fun s h => c_MO_laysCould_B68 s.1 s.2.1 s.2.2  (fun p hp => hR p hp) (fun s hs => hs) h) FU (v1, v2, m) h
set_option maxRecDepth 4000 in
theorem c_MO_laysCould_J64  (m : zM)  {Q : Option Value → zM → Prop} {K : (Int32 × zM) → Prop} (hR : ∀ p : Int32 × zM, K (p) → Q (some (.int p.1)) p.2)  (h : ok (f_MO_laysCould_J64  m) K) : AX gM s_MO_laysCould 64 [(0, .ref 0)] [] m Q := by
  unfold f_MO_laysCould_J64 at h
  refine ax_iconst 0 d_MO_laysCould_64 ic_0 65 rfl ?_
  refine ax_istore_n (ls1 := [(1, .int 0), (0, .ref 0)]) d_MO_laysCould_65 rfl (Nat.le_of_ble_eq_true rfl) rfl 66 rfl ?_
  refine ax_iconst 0 d_MO_laysCould_66 ic_0 67 rfl ?_
  refine ax_istore_n (ls1 := [(2, .int 0), (1, .int 0), (0, .ref 0)]) d_MO_laysCould_67 rfl (Nat.le_of_ble_eq_true rfl) rfl 68 rfl ?_
  exact ax_sub [2, 1, 0] rfl (c_MO_laysCould_L68 0 0 m (fun p hp => hR p hp) h)
set_option maxRecDepth 4000 in
theorem c_MO_laysCould_B39 (v1 : Int32) (m : zM)  {Q : Option Value → zM → Prop} {K : ((Int32 × zM) ⊕ (Int32 × zM)) → Prop} (hR : ∀ p : Int32 × zM, K (.inl p) → Q (some (.int p.1)) p.2) (h0 : ∀ s : Int32 × zM, K (.inr s) → AX gM s_MO_laysCould 39 [(0, .ref 0), (1, .int s.1)] [] s.2 Q) (h : ok (f_MO_laysCould_B39 v1 m) K) : AX gM s_MO_laysCould 39 [(0, .ref 0), (1, .int v1)] [] m Q := by
  unfold f_MO_laysCould_B39 at h
  refine ax_iload_n 1 d_MO_laysCould_39 rfl rfl 40 rfl ?_
  refine ax_aload_n 0 d_MO_laysCould_40 rfl rfl 41 rfl ?_
  refine ax_getI fl_MO_591 m_0 rfl d_MO_laysCould_41 44 rfl ?_
  refine ax_icmp_ge 64 47 d_MO_laysCould_44 rfl rfl (fun hc => ?_) (fun hc => ?_)
  · have h := ok_t hc h
    exact ax_sub [0] rfl (c_MO_laysCould_J64 m (fun p hp => hR p hp) (ok_z h))
  · have h := ok_f hc h
    refine ax_aload_n 0 d_MO_laysCould_47 rfl rfl 48 rfl ?_
    refine ax_getI fl_MO_331 m_0 rfl d_MO_laysCould_48 51 rfl ?_
    refine ax_if_le 64 54 d_MO_laysCould_51 rfl rfl (fun hc => ?_) (fun hc => ?_)
    · have h := ok_t hc h
      exact ax_sub [0] rfl (c_MO_laysCould_J64 m (fun p hp => hR p hp) (ok_z h))
    · have h := ok_f hc h
      refine ax_aload_n 0 d_MO_laysCould_54 rfl rfl 55 rfl ?_
      refine ax_callV mv_MO_597 ⟨Nat.le_of_ble_eq_true rfl, Nat.le_of_ble_eq_true rfl⟩ ⟨rfl, rfl⟩ [] [.ref 0] rfl rfl (rc_m_0 _) (Nat.le_of_ble_eq_true rfl) d_MO_laysCould_55 58 rfl (zc_MO_couldGoOn m (ok_b h (fun p6 h => ?_)))
      refine ax_iinc (ls1 := [(1, .int (v1 + 1)), (0, .ref 0)]) 1 1 d_MO_laysCould_58 rfl ic_1 (Nat.le_of_ble_eq_true rfl) rfl 61 rfl ?_
      refine ax_goto 39 d_MO_laysCould_61 rfl ?_
      exact ax_sub [1, 0] rfl (h0 ((v1 + 1), p6) (ok_some h))
theorem c_MO_laysCould_L39 (v1 : Int32) (m : zM)  {Q : Option Value → zM → Prop} {K : (Int32 × zM) → Prop} (hR : ∀ p : Int32 × zM, K (p) → Q (some (.int p.1)) p.2)  (h : ok (f_MO_laysCould_L39 v1 m) K) : AX gM s_MO_laysCould 39 [(0, .ref 0), (1, .int v1)] [] m Q :=
  ok_lp (K := K) (G := fun s : Int32 × zM => AX gM s_MO_laysCould 39 [(0, .ref 0), (1, .int s.1)] [] s.2 Q) (fun s h => c_MO_laysCould_B39 s.1 s.2  (fun p hp => hR p hp) (fun s hs => hs) h) FU (v1, m) h
set_option maxRecDepth 4000 in
theorem c_MO_laysCould_J23  (m : zM)  {Q : Option Value → zM → Prop} {K : (Int32 × zM) → Prop} (hR : ∀ p : Int32 × zM, K (p) → Q (some (.int p.1)) p.2)  (h : ok (f_MO_laysCould_J23  m) K) : AX gM s_MO_laysCould 23 [(0, .ref 0)] [] m Q := by
  unfold f_MO_laysCould_J23 at h
  refine ax_aload_n 0 d_MO_laysCould_23 rfl rfl 24 rfl ?_
  refine ax_getR fl_MO_185 m_0 rfl (rm_0_80 _) d_MO_laysCould_24 27 rfl ?_
  refine ax_aload_n 0 d_MO_laysCould_27 rfl rfl 28 rfl ?_
  refine ax_aload_n 0 d_MO_laysCould_28 rfl rfl 29 rfl ?_
  refine ax_getJ fl_MO_325 m_0 rfl d_MO_laysCould_29 32 rfl ?_
  refine ax_callV mv_MO_536 ⟨Nat.le_of_ble_eq_true rfl, Nat.le_of_ble_eq_true rfl⟩ ⟨rfl, rfl⟩ [.long (m.2.1 0 72)] [.long (m.2.1 0 72), .ref 0, .ref 54] rfl rfl (rc_m_0 _) (Nat.le_of_ble_eq_true rfl) d_MO_laysCould_32 35 rfl (zc_MO_foldedOf (m.2.1 0 72) m (ok_b h (fun p3 h => ?_)))
  refine ax_iconst 1 d_MO_laysCould_35 ic_1 36 rfl ?_
  refine ax_zastore (y := true) m_54 d_MO_laysCould_36 37 rfl h (fun i4 m5 h => ?_)
  refine ax_iconst 0 d_MO_laysCould_37 ic_0 38 rfl ?_
  refine ax_istore_n (ls1 := [(1, .int 0), (0, .ref 0)]) d_MO_laysCould_38 rfl (Nat.le_of_ble_eq_true rfl) rfl 39 rfl ?_
  exact ax_sub [1, 0] rfl (c_MO_laysCould_L39 0 m5 (fun p hp => hR p hp) h)
set_option maxRecDepth 4000 in
theorem c_MO_laysCould_B2 (v1 : Int32) (m : zM)  {Q : Option Value → zM → Prop} {K : ((Int32 × zM) ⊕ (Int32 × zM)) → Prop} (hR : ∀ p : Int32 × zM, K (.inl p) → Q (some (.int p.1)) p.2) (h0 : ∀ s : Int32 × zM, K (.inr s) → AX gM s_MO_laysCould 2 [(0, .ref 0), (1, .int s.1)] [] s.2 Q) (h : ok (f_MO_laysCould_B2 v1 m) K) : AX gM s_MO_laysCould 2 [(0, .ref 0), (1, .int v1)] [] m Q := by
  unfold f_MO_laysCould_B2 at h
  refine ax_iload_n 1 d_MO_laysCould_2 rfl rfl 3 rfl ?_
  refine ax_aload_n 0 d_MO_laysCould_3 rfl rfl 4 rfl ?_
  refine ax_getI fl_MO_380 m_0 rfl d_MO_laysCould_4 7 rfl ?_
  refine ax_icmp_ge 23 10 d_MO_laysCould_7 rfl rfl (fun hc => ?_) (fun hc => ?_)
  · have h := ok_t hc h
    exact ax_sub [0] rfl (c_MO_laysCould_J23 m (fun p hp => hR p hp) (ok_z h))
  · have h := ok_f hc h
    refine ax_aload_n 0 d_MO_laysCould_10 rfl rfl 11 rfl ?_
    refine ax_getR fl_MO_185 m_0 rfl (rm_0_80 _) d_MO_laysCould_11 14 rfl ?_
    refine ax_iload_n 1 d_MO_laysCould_14 rfl rfl 15 rfl ?_
    refine ax_iconst 0 d_MO_laysCould_15 ic_0 16 rfl ?_
    refine ax_zastore (y := false) m_54 d_MO_laysCould_16 17 rfl h (fun i1 m2 h => ?_)
    refine ax_iinc (ls1 := [(1, .int (v1 + 1)), (0, .ref 0)]) 1 1 d_MO_laysCould_17 rfl ic_1 (Nat.le_of_ble_eq_true rfl) rfl 20 rfl ?_
    refine ax_goto 2 d_MO_laysCould_20 rfl ?_
    exact ax_sub [1, 0] rfl (h0 ((v1 + 1), m2) (ok_some h))
theorem c_MO_laysCould_L2 (v1 : Int32) (m : zM)  {Q : Option Value → zM → Prop} {K : (Int32 × zM) → Prop} (hR : ∀ p : Int32 × zM, K (p) → Q (some (.int p.1)) p.2)  (h : ok (f_MO_laysCould_L2 v1 m) K) : AX gM s_MO_laysCould 2 [(0, .ref 0), (1, .int v1)] [] m Q :=
  ok_lp (K := K) (G := fun s : Int32 × zM => AX gM s_MO_laysCould 2 [(0, .ref 0), (1, .int s.1)] [] s.2 Q) (fun s h => c_MO_laysCould_B2 s.1 s.2  (fun p hp => hR p hp) (fun s hs => hs) h) FU (v1, m) h
set_option maxRecDepth 4000 in
theorem zc_MO_laysCould  (m : zM)  {Q : Option Value → zM → Prop} (h : ok (f_MO_laysCould m) (fun p => Q (some (.int p.1)) p.2)) : zc gM s_MO_laysCould [.ref 0] m Q := by
  refine zc_of rfl (Nat.le_of_ble_eq_true rfl) ?_
  show AX gM s_MO_laysCould 0 [(0, .ref 0)] [] m Q
  obtain ⟨K, hK⟩ : ∃ K : (Int32 × zM) → Prop, K = (fun p : Int32 × zM => Q (some (.int p.1)) p.2) := ⟨_, rfl⟩
  have hR : ∀ p : Int32 × zM, K p → Q (some (.int p.1)) p.2 := fun p hp => by rw [hK] at hp; exact hp
  replace h : ok (f_MO_laysCould m) (fun p : Int32 × zM => Q (some (.int p.1)) p.2) := h
  rw [← hK] at h
  unfold f_MO_laysCould at h
  refine ax_iconst 0 d_MO_laysCould_0 ic_0 1 rfl ?_
  refine ax_istore_n (ls1 := [(1, .int 0), (0, .ref 0)]) d_MO_laysCould_1 rfl (Nat.le_of_ble_eq_true rfl) rfl 2 rfl ?_
  exact ax_sub [1, 0] rfl (c_MO_laysCould_L2 0 m (fun p hp => hR p hp) h)
set_option maxRecDepth 4000 in
theorem c_MO_could_J64 (v1 : Int32) (v3 : Int32) (v4 : Int32) (m : zM)  {Q : Option Value → zM → Prop} {K : ((Int32 × zM) ⊕ (Int32 × Int32)) → Prop} (hR : ∀ p : Int32 × zM, K (.inl p) → Q (some (.int p.1)) p.2) (h0 : ∀ s : Int32 × Int32, K (.inr s) → AX gM s_MO_could 31 [(0, .ref 0), (1, .int v1), (3, .int s.1), (4, .int s.2)] [] m Q) (h : ok (f_MO_could_J64 v1 v3 v4 m) K) : AX gM s_MO_could 64 [(0, .ref 0), (1, .int v1), (3, .int v3), (4, .int v4)] [] m Q := by
  unfold f_MO_could_J64 at h
  refine ax_iinc (ls1 := [(4, .int (v4 + 1)), (0, .ref 0), (1, .int v1), (3, .int v3)]) 3 1 d_MO_could_64 rfl ic_1 (Nat.le_of_ble_eq_true rfl) rfl 67 rfl ?_
  refine ax_goto 31 d_MO_could_67 rfl ?_
  exact ax_sub [1, 2, 3, 0] rfl (h0 (v3, (v4 + 1)) (ok_some h))
set_option maxRecDepth 4000 in
theorem c_MO_could_B31 (v1 : Int32) (v3 : Int32) (v4 : Int32) (m : zM)  {Q : Option Value → zM → Prop} {K : ((Int32 × zM) ⊕ (Int32 × Int32)) → Prop} (hR : ∀ p : Int32 × zM, K (.inl p) → Q (some (.int p.1)) p.2) (h0 : ∀ s : Int32 × Int32, K (.inr s) → AX gM s_MO_could 31 [(0, .ref 0), (1, .int v1), (3, .int s.1), (4, .int s.2)] [] m Q) (h : ok (f_MO_could_B31 v1 v3 v4 m) K) : AX gM s_MO_could 31 [(0, .ref 0), (1, .int v1), (3, .int v3), (4, .int v4)] [] m Q := by
  unfold f_MO_could_B31 at h
  refine ax_iload 3 d_MO_could_31 rfl 33 rfl ?_
  refine ax_aload_n 0 d_MO_could_33 rfl rfl 34 rfl ?_
  refine ax_getI fl_MO_380 m_0 rfl d_MO_could_34 37 rfl ?_
  refine ax_icmp_ge 70 40 d_MO_could_37 rfl rfl (fun hc => ?_) (fun hc => ?_)
  · have h := ok_t hc h
    refine ax_iconst (-1) d_MO_could_70 ic_m1 71 rfl ?_
    exact ax_iret rfl d_MO_could_71 (hR ((-1), m) (ok_some h))
  · have h := ok_f hc h
    refine ax_aload_n 0 d_MO_could_40 rfl rfl 41 rfl ?_
    refine ax_getR fl_MO_185 m_0 rfl (rm_0_80 _) d_MO_could_41 44 rfl ?_
    refine ax_iload 3 d_MO_could_44 rfl 46 rfl ?_
    refine ax_baload m_54 d_MO_could_46 47 rfl h (fun i3 h => ?_)
    refine ax_if_ne 53 50 d_MO_could_47 rfl rfl (fun hc => ?_) (fun hc => ?_)
    · have h := ok_f hc h
      refine ax_iload_n 2 d_MO_could_53 rfl rfl 54 rfl ?_
      refine ax_iload_n 1 d_MO_could_54 rfl rfl 55 rfl ?_
      refine ax_icmp_ne 61 58 d_MO_could_55 rfl rfl (fun hc => ?_) (fun hc => ?_)
      · have h := ok_f hc h
        refine ax_iinc (ls1 := [(3, .int (v3 + 1)), (0, .ref 0), (1, .int v1), (4, .int v4)]) 2 1 d_MO_could_61 rfl ic_1 (Nat.le_of_ble_eq_true rfl) rfl 64 rfl ?_
        exact ax_sub [1, 2, 0, 3] rfl (c_MO_could_J64 v1 (v3 + 1) v4 m (fun p hp => hR p hp) (fun s hs => h0 s hs) h)
      · have h := ok_t hc h
        refine ax_iload 3 d_MO_could_58 rfl 60 rfl ?_
        exact ax_iret rfl d_MO_could_60 (hR (v4, m) (ok_some h))
    · have h := ok_t hc h
      refine ax_goto 64 d_MO_could_50 rfl ?_
      exact ax_sub [0, 1, 2, 3] rfl (c_MO_could_J64 v1 v3 v4 m (fun p hp => hR p hp) (fun s hs => h0 s hs) h)
theorem c_MO_could_L31 (v1 : Int32) (v3 : Int32) (v4 : Int32) (m : zM)  {Q : Option Value → zM → Prop} {K : (Int32 × zM) → Prop} (hR : ∀ p : Int32 × zM, K (p) → Q (some (.int p.1)) p.2)  (h : ok (f_MO_could_L31 v1 v3 v4 m) K) : AX gM s_MO_could 31 [(0, .ref 0), (1, .int v1), (3, .int v3), (4, .int v4)] [] m Q :=
  ok_lp (K := K) (G := fun s : Int32 × Int32 => AX gM s_MO_could 31 [(0, .ref 0), (1, .int v1), (3, .int s.1), (4, .int s.2)] [] m Q) (fun s h => c_MO_could_B31 v1 s.1 s.2 m  (fun p hp => hR p hp) (fun s hs => hs) h) FU (v3, v4) h
set_option maxRecDepth 4000 in
theorem zc_MO_could (v1 : Int32) (m : zM)  {Q : Option Value → zM → Prop} (h : ok (f_MO_could v1 m) (fun p => Q (some (.int p.1)) p.2)) : zc gM s_MO_could [.ref 0, .int v1] m Q := by
  refine zc_of rfl (Nat.le_of_ble_eq_true rfl) ?_
  show AX gM s_MO_could 0 [(0, .ref 0), (1, .int v1)] [] m Q
  obtain ⟨K, hK⟩ : ∃ K : (Int32 × zM) → Prop, K = (fun p : Int32 × zM => Q (some (.int p.1)) p.2) := ⟨_, rfl⟩
  have hR : ∀ p : Int32 × zM, K p → Q (some (.int p.1)) p.2 := fun p hp => by rw [hK] at hp; exact hp
  replace h : ok (f_MO_could v1 m) (fun p : Int32 × zM => Q (some (.int p.1)) p.2) := h
  rw [← hK] at h
  unfold f_MO_could at h
  refine ax_aload_n 0 d_MO_could_0 rfl rfl 1 rfl ?_
  refine ax_callV mv_MO_505 ⟨Nat.le_of_ble_eq_true rfl, Nat.le_of_ble_eq_true rfl⟩ ⟨rfl, rfl⟩ [] [.ref 0] rfl rfl (rc_m_0 _) (Nat.le_of_ble_eq_true rfl) d_MO_could_1 4 rfl (zc_MO_isAsked m (ok_b h (fun p1 h => ?_)))
  refine ax_ifb_eq 12 7 d_MO_could_4 rfl rfl (fun hc => ?_) (fun hc => ?_)
  · have h := ok_f (bf hc) h
    refine ax_iconst (-1) d_MO_could_12 ic_m1 13 rfl ?_
    exact ax_iret rfl d_MO_could_13 (hR ((-1), p1.2) (ok_some h))
  · have h := ok_t hc h
    refine ax_iload_n 1 d_MO_could_7 rfl rfl 8 rfl ?_
    refine ax_iconst (-1) d_MO_could_8 ic_m1 9 rfl ?_
    refine ax_icmp_ge 14 12 d_MO_could_9 rfl rfl (fun hc => ?_) (fun hc => ?_)
    · have h := ok_t hc h
      refine ax_aload_n 0 d_MO_could_14 rfl rfl 15 rfl ?_
      refine ax_callV mv_MO_603 ⟨Nat.le_of_ble_eq_true rfl, Nat.le_of_ble_eq_true rfl⟩ ⟨rfl, rfl⟩ [] [.ref 0] rfl rfl (rc_m_0 _) (Nat.le_of_ble_eq_true rfl) d_MO_could_15 18 rfl (zc_MO_laysCould p1.2 (ok_b h (fun p2 h => ?_)))
      refine ax_istore_n (ls1 := [(2, .int p2.1), (0, .ref 0), (1, .int v1)]) d_MO_could_18 rfl (Nat.le_of_ble_eq_true rfl) rfl 19 rfl ?_
      refine ax_iload_n 2 d_MO_could_19 rfl rfl 20 rfl ?_
      refine ax_iconst (-1) d_MO_could_20 ic_m1 21 rfl ?_
      refine ax_icmp_ne 26 24 d_MO_could_21 rfl rfl (fun hc => ?_) (fun hc => ?_)
      · have h := ok_f hc h
        refine ax_iconst 0 d_MO_could_26 ic_0 27 rfl ?_
        refine ax_istore_n (ls1 := [(3, .int 0), (2, .int p2.1), (0, .ref 0), (1, .int v1)]) d_MO_could_27 rfl (Nat.le_of_ble_eq_true rfl) rfl 28 rfl ?_
        refine ax_iconst 0 d_MO_could_28 ic_0 29 rfl ?_
        refine ax_istore (ls1 := [(4, .int 0), (3, .int 0), (2, .int p2.1), (0, .ref 0), (1, .int v1)]) d_MO_could_29 (Nat.le_of_ble_eq_true rfl) rfl 31 rfl ?_
        exact ax_sub [3, 4, 1, 0] rfl (c_MO_could_L31 v1 0 0 p2.2 (fun p hp => hR p hp) h)
      · have h := ok_t hc h
        refine ax_iload_n 0 d_MO_could_24 rfl rfl 25 rfl ?_
        exact ax_iret rfl d_MO_could_25 (hR (p2.1, p2.2) (ok_some h))
    · have h := ok_f hc h
      refine ax_iconst (-1) d_MO_could_12 ic_m1 13 rfl ?_
      exact ax_iret rfl d_MO_could_13 (hR ((-1), p1.2) (ok_some h))
set_option maxRecDepth 4000 in
theorem c_MO_mostBy_J63 (v1 : Int32) (v2 : Int32) (v3 : Int32) (m : zM)  {Q : Option Value → zM → Prop} {K : ((Int32 × zM) ⊕ (Int32 × Int32 × zM)) → Prop} (hR : ∀ p : Int32 × zM, K (.inl p) → Q (some (.int p.1)) p.2) (h0 : ∀ s : Int32 × Int32 × zM, K (.inr s) → AX gM s_MO_mostBy 4 [(0, .ref 0), (1, .int v1), (2, .int s.1), (3, .int s.2.1)] [] s.2.2 Q) (h : ok (f_MO_mostBy_J63 v1 v2 v3 m) K) : AX gM s_MO_mostBy 63 [(0, .ref 0), (1, .int v1), (2, .int v2), (3, .int v3)] [] m Q := by
  unfold f_MO_mostBy_J63 at h
  refine ax_iinc (ls1 := [(3, .int (v3 + 1)), (0, .ref 0), (1, .int v1), (2, .int v2)]) 3 1 d_MO_mostBy_63 rfl ic_1 (Nat.le_of_ble_eq_true rfl) rfl 66 rfl ?_
  refine ax_goto 4 d_MO_mostBy_66 rfl ?_
  exact ax_sub [1, 2, 3, 0] rfl (h0 (v2, (v3 + 1), m) (ok_some h))
set_option maxRecDepth 4000 in
theorem c_MO_mostBy_J54 (v1 : Int32) (v2 : Int32) (v3 : Int32) (v4 : Int32) (m : zM)  {Q : Option Value → zM → Prop} {K : ((Int32 × zM) ⊕ (Int32 × Int32 × zM)) → Prop} (hR : ∀ p : Int32 × zM, K (.inl p) → Q (some (.int p.1)) p.2) (h0 : ∀ s : Int32 × Int32 × zM, K (.inr s) → AX gM s_MO_mostBy 4 [(0, .ref 0), (1, .int v1), (2, .int s.1), (3, .int s.2.1)] [] s.2.2 Q) (h : ok (f_MO_mostBy_J54 v1 v2 v3 v4 m) K) : AX gM s_MO_mostBy 54 [(0, .ref 0), (1, .int v1), (2, .int v2), (3, .int v3), (4, .int v4)] [] m Q := by
  unfold f_MO_mostBy_J54 at h
  refine ax_iload 4 d_MO_mostBy_54 rfl 56 rfl ?_
  refine ax_iload_n 2 d_MO_mostBy_56 rfl rfl 57 rfl ?_
  refine ax_icmp_le 63 60 d_MO_mostBy_57 rfl rfl (fun hc => ?_) (fun hc => ?_)
  · have h := ok_t hc h
    exact ax_sub [0, 1, 2, 3] rfl (c_MO_mostBy_J63 v1 v2 v3 m (fun p hp => hR p hp) (fun s hs => h0 s hs) h)
  · have h := ok_f hc h
    refine ax_iload 4 d_MO_mostBy_60 rfl 62 rfl ?_
    refine ax_istore_n (ls1 := [(2, .int v4), (0, .ref 0), (1, .int v1), (3, .int v3), (4, .int v4)]) d_MO_mostBy_62 rfl (Nat.le_of_ble_eq_true rfl) rfl 63 rfl ?_
    exact ax_sub [1, 2, 0, 3] rfl (c_MO_mostBy_J63 v1 v4 v3 m (fun p hp => hR p hp) (fun s hs => h0 s hs) h)
set_option maxRecDepth 4000 in
theorem c_MO_mostBy_J48 (v1 : Int32) (v2 : Int32) (v3 : Int32) (v4 : Int32) (v5 : Int32) (m : zM)  {Q : Option Value → zM → Prop} {K : (((Int32 × zM) ⊕ (Int32 × Int32 × zM)) ⊕ (Int32 × Int32 × zM)) → Prop} (hR : ∀ p : Int32 × zM, K (.inl (.inl p)) → Q (some (.int p.1)) p.2) (h0 : ∀ s : Int32 × Int32 × zM, K (.inl (.inr s)) → AX gM s_MO_mostBy 4 [(0, .ref 0), (1, .int v1), (2, .int s.1), (3, .int s.2.1)] [] s.2.2 Q) (h1 : ∀ s : Int32 × Int32 × zM, K (.inr s) → AX gM s_MO_mostBy 15 [(0, .ref 0), (1, .int v1), (2, .int v2), (3, .int v3), (4, .int s.1), (5, .int s.2.1)] [] s.2.2 Q) (h : ok (f_MO_mostBy_J48 v1 v2 v3 v4 v5 m) K) : AX gM s_MO_mostBy 48 [(0, .ref 0), (1, .int v1), (2, .int v2), (3, .int v3), (4, .int v4), (5, .int v5)] [] m Q := by
  unfold f_MO_mostBy_J48 at h
  refine ax_iinc (ls1 := [(5, .int (v5 + 1)), (0, .ref 0), (1, .int v1), (2, .int v2), (3, .int v3), (4, .int v4)]) 5 1 d_MO_mostBy_48 rfl ic_1 (Nat.le_of_ble_eq_true rfl) rfl 51 rfl ?_
  refine ax_goto 15 d_MO_mostBy_51 rfl ?_
  exact ax_sub [1, 2, 3, 4, 5, 0] rfl (h1 (v4, (v5 + 1), m) (ok_some h))
set_option maxRecDepth 4000 in
theorem c_MO_mostBy_B15 (v1 : Int32) (v2 : Int32) (v3 : Int32) (v4 : Int32) (v5 : Int32) (m : zM)  {Q : Option Value → zM → Prop} {K : (((Int32 × zM) ⊕ (Int32 × Int32 × zM)) ⊕ (Int32 × Int32 × zM)) → Prop} (hR : ∀ p : Int32 × zM, K (.inl (.inl p)) → Q (some (.int p.1)) p.2) (h0 : ∀ s : Int32 × Int32 × zM, K (.inl (.inr s)) → AX gM s_MO_mostBy 4 [(0, .ref 0), (1, .int v1), (2, .int s.1), (3, .int s.2.1)] [] s.2.2 Q) (h1 : ∀ s : Int32 × Int32 × zM, K (.inr s) → AX gM s_MO_mostBy 15 [(0, .ref 0), (1, .int v1), (2, .int v2), (3, .int v3), (4, .int s.1), (5, .int s.2.1)] [] s.2.2 Q) (h : ok (f_MO_mostBy_B15 v1 v2 v3 v4 v5 m) K) : AX gM s_MO_mostBy 15 [(0, .ref 0), (1, .int v1), (2, .int v2), (3, .int v3), (4, .int v4), (5, .int v5)] [] m Q := by
  unfold f_MO_mostBy_B15 at h
  refine ax_iload 5 d_MO_mostBy_15 rfl 17 rfl ?_
  refine ax_aload_n 0 d_MO_mostBy_17 rfl rfl 18 rfl ?_
  refine ax_getI fl_MO_380 m_0 rfl d_MO_mostBy_18 21 rfl ?_
  refine ax_icmp_ge 54 24 d_MO_mostBy_21 rfl rfl (fun hc => ?_) (fun hc => ?_)
  · have h := ok_t hc h
    exact ax_sub [0, 1, 2, 3, 4] rfl (c_MO_mostBy_J54 v1 v2 v3 v4 m (fun p hp => hR p hp) (fun s hs => h0 s hs) (ok_z h))
  · have h := ok_f hc h
    refine ax_aload_n 0 d_MO_mostBy_24 rfl rfl 25 rfl ?_
    refine ax_getR fl_MO_185 m_0 rfl (rm_0_80 _) d_MO_mostBy_25 28 rfl ?_
    refine ax_iload 5 d_MO_mostBy_28 rfl 30 rfl ?_
    refine ax_baload m_54 d_MO_mostBy_30 31 rfl h (fun i1 h => ?_)
    refine ax_if_eq 48 34 d_MO_mostBy_31 rfl rfl (fun hc => ?_) (fun hc => ?_)
    · have h := ok_t hc h
      exact ax_sub [0, 1, 2, 3, 4, 5] rfl (c_MO_mostBy_J48 v1 v2 v3 v4 v5 m (fun p hp => hR p hp) (fun s hs => h0 s hs) (fun s hs => h1 s hs) h)
    · have h := ok_f hc h
      refine ax_aload_n 0 d_MO_mostBy_34 rfl rfl 35 rfl ?_
      refine ax_iload 5 d_MO_mostBy_35 rfl 37 rfl ?_
      refine ax_iload_n 1 d_MO_mostBy_37 rfl rfl 38 rfl ?_
      refine ax_callV mv_MO_594 ⟨Nat.le_of_ble_eq_true rfl, Nat.le_of_ble_eq_true rfl⟩ ⟨rfl, rfl⟩ [.int v5, .int v1] [.int v1, .int v5, .ref 0] rfl rfl (rc_m_0 _) (Nat.le_of_ble_eq_true rfl) d_MO_mostBy_38 41 rfl (zc_MO_inState v5 v1 m (ok_b h (fun p2 h => ?_)))
      refine ax_iload_n 3 d_MO_mostBy_41 rfl rfl 42 rfl ?_
      refine ax_icmp_ne 48 45 d_MO_mostBy_42 rfl rfl (fun hc => ?_) (fun hc => ?_)
      · have h := ok_f hc h
        exact ax_sub [0, 1, 2, 3, 4, 5] rfl (c_MO_mostBy_J48 v1 v2 v3 v4 v5 p2.2 (fun p hp => hR p hp) (fun s hs => h0 s hs) (fun s hs => h1 s hs) h)
      · have h := ok_t hc h
        refine ax_iinc (ls1 := [(4, .int (v4 + 1)), (0, .ref 0), (1, .int v1), (2, .int v2), (3, .int v3), (5, .int v5)]) 4 1 d_MO_mostBy_45 rfl ic_1 (Nat.le_of_ble_eq_true rfl) rfl 48 rfl ?_
        exact ax_sub [1, 2, 3, 4, 0, 5] rfl (c_MO_mostBy_J48 v1 v2 v3 (v4 + 1) v5 p2.2 (fun p hp => hR p hp) (fun s hs => h0 s hs) (fun s hs => h1 s hs) h)
theorem c_MO_mostBy_L15 (v1 : Int32) (v2 : Int32) (v3 : Int32) (v4 : Int32) (v5 : Int32) (m : zM)  {Q : Option Value → zM → Prop} {K : ((Int32 × zM) ⊕ (Int32 × Int32 × zM)) → Prop} (hR : ∀ p : Int32 × zM, K (.inl p) → Q (some (.int p.1)) p.2) (h0 : ∀ s : Int32 × Int32 × zM, K (.inr s) → AX gM s_MO_mostBy 4 [(0, .ref 0), (1, .int v1), (2, .int s.1), (3, .int s.2.1)] [] s.2.2 Q) (h : ok (f_MO_mostBy_L15 v1 v2 v3 v4 v5 m) K) : AX gM s_MO_mostBy 15 [(0, .ref 0), (1, .int v1), (2, .int v2), (3, .int v3), (4, .int v4), (5, .int v5)] [] m Q :=
  ok_lp (K := K) (G := fun s : Int32 × Int32 × zM => AX gM s_MO_mostBy 15 [(0, .ref 0), (1, .int v1), (2, .int v2), (3, .int v3), (4, .int s.1), (5, .int s.2.1)] [] s.2.2 Q) (fun s h => c_MO_mostBy_B15 v1 v2 v3 s.1 s.2.1 s.2.2  (fun p hp => hR p hp) (fun s hs => h0 s hs) (fun s hs => hs) h) FU (v4, v5, m) h
set_option maxRecDepth 4000 in
theorem c_MO_mostBy_B4 (v1 : Int32) (v2 : Int32) (v3 : Int32) (m : zM)  {Q : Option Value → zM → Prop} {K : ((Int32 × zM) ⊕ (Int32 × Int32 × zM)) → Prop} (hR : ∀ p : Int32 × zM, K (.inl p) → Q (some (.int p.1)) p.2) (h0 : ∀ s : Int32 × Int32 × zM, K (.inr s) → AX gM s_MO_mostBy 4 [(0, .ref 0), (1, .int v1), (2, .int s.1), (3, .int s.2.1)] [] s.2.2 Q) (h : ok (f_MO_mostBy_B4 v1 v2 v3 m) K) : AX gM s_MO_mostBy 4 [(0, .ref 0), (1, .int v1), (2, .int v2), (3, .int v3)] [] m Q := by
  unfold f_MO_mostBy_B4 at h
  refine ax_iload_n 3 d_MO_mostBy_4 rfl rfl 5 rfl ?_
  refine ax_iconst 4 d_MO_mostBy_5 ic_4 6 rfl ?_
  refine ax_icmp_gt 69 9 d_MO_mostBy_6 rfl rfl (fun hc => ?_) (fun hc => ?_)
  · have h := ok_t hc h
    refine ax_iload_n 2 d_MO_mostBy_69 rfl rfl 70 rfl ?_
    exact ax_iret rfl d_MO_mostBy_70 (hR (v2, m) (ok_some h))
  · have h := ok_f hc h
    refine ax_iconst 0 d_MO_mostBy_9 ic_0 10 rfl ?_
    refine ax_istore (ls1 := [(4, .int 0), (0, .ref 0), (1, .int v1), (2, .int v2), (3, .int v3)]) d_MO_mostBy_10 (Nat.le_of_ble_eq_true rfl) rfl 12 rfl ?_
    refine ax_iconst 0 d_MO_mostBy_12 ic_0 13 rfl ?_
    refine ax_istore (ls1 := [(5, .int 0), (4, .int 0), (0, .ref 0), (1, .int v1), (2, .int v2), (3, .int v3)]) d_MO_mostBy_13 (Nat.le_of_ble_eq_true rfl) rfl 15 rfl ?_
    exact ax_sub [2, 3, 4, 5, 1, 0] rfl (c_MO_mostBy_L15 v1 v2 v3 0 0 m (fun p hp => hR p hp) (fun s hs => h0 s hs) h)
theorem c_MO_mostBy_L4 (v1 : Int32) (v2 : Int32) (v3 : Int32) (m : zM)  {Q : Option Value → zM → Prop} {K : (Int32 × zM) → Prop} (hR : ∀ p : Int32 × zM, K (p) → Q (some (.int p.1)) p.2)  (h : ok (f_MO_mostBy_L4 v1 v2 v3 m) K) : AX gM s_MO_mostBy 4 [(0, .ref 0), (1, .int v1), (2, .int v2), (3, .int v3)] [] m Q :=
  ok_lp (K := K) (G := fun s : Int32 × Int32 × zM => AX gM s_MO_mostBy 4 [(0, .ref 0), (1, .int v1), (2, .int s.1), (3, .int s.2.1)] [] s.2.2 Q) (fun s h => c_MO_mostBy_B4 v1 s.1 s.2.1 s.2.2  (fun p hp => hR p hp) (fun s hs => hs) h) FU (v2, v3, m) h
set_option maxRecDepth 4000 in
theorem zc_MO_mostBy (v1 : Int32) (m : zM)  {Q : Option Value → zM → Prop} (h : ok (f_MO_mostBy v1 m) (fun p => Q (some (.int p.1)) p.2)) : zc gM s_MO_mostBy [.ref 0, .int v1] m Q := by
  refine zc_of rfl (Nat.le_of_ble_eq_true rfl) ?_
  show AX gM s_MO_mostBy 0 [(0, .ref 0), (1, .int v1)] [] m Q
  obtain ⟨K, hK⟩ : ∃ K : (Int32 × zM) → Prop, K = (fun p : Int32 × zM => Q (some (.int p.1)) p.2) := ⟨_, rfl⟩
  have hR : ∀ p : Int32 × zM, K p → Q (some (.int p.1)) p.2 := fun p hp => by rw [hK] at hp; exact hp
  replace h : ok (f_MO_mostBy v1 m) (fun p : Int32 × zM => Q (some (.int p.1)) p.2) := h
  rw [← hK] at h
  unfold f_MO_mostBy at h
  refine ax_iconst 0 d_MO_mostBy_0 ic_0 1 rfl ?_
  refine ax_istore_n (ls1 := [(2, .int 0), (0, .ref 0), (1, .int v1)]) d_MO_mostBy_1 rfl (Nat.le_of_ble_eq_true rfl) rfl 2 rfl ?_
  refine ax_iconst 0 d_MO_mostBy_2 ic_0 3 rfl ?_
  refine ax_istore_n (ls1 := [(3, .int 0), (2, .int 0), (0, .ref 0), (1, .int v1)]) d_MO_mostBy_3 rfl (Nat.le_of_ble_eq_true rfl) rfl 4 rfl ?_
  exact ax_sub [2, 3, 1, 0] rfl (c_MO_mostBy_L4 v1 0 0 m (fun p hp => hR p hp) h)
set_option maxRecDepth 4000 in
theorem c_MO_tells_J61 (v1 : Int32) (v2 : Int32) (m : zM)  {Q : Option Value → zM → Prop} {K : (Int32 × zM) → Prop} (hR : ∀ p : Int32 × zM, K (p) → Q (some (.int p.1)) p.2)  (h : ok (f_MO_tells_J61 v1 v2 m) K) : AX gM s_MO_tells 61 [(0, .ref 0), (1, .int v1), (2, .int v2)] [] m Q := by
  unfold f_MO_tells_J61 at h
  refine ax_iload_n 1 d_MO_tells_61 rfl rfl 62 rfl ?_
  refine ax_if_ne 69 65 d_MO_tells_62 rfl rfl (fun hc => ?_) (fun hc => ?_)
  · have h := ok_f hc h
    refine ax_aload_n 0 d_MO_tells_69 rfl rfl 70 rfl ?_
    refine ax_iload_n 2 d_MO_tells_70 rfl rfl 71 rfl ?_
    refine ax_callV mv_MO_606 ⟨Nat.le_of_ble_eq_true rfl, Nat.le_of_ble_eq_true rfl⟩ ⟨rfl, rfl⟩ [.int v2] [.int v2, .ref 0] rfl rfl (rc_m_0 _) (Nat.le_of_ble_eq_true rfl) d_MO_tells_71 74 rfl (zc_MO_mostBy v2 m (ok_b h (fun p6 h => ?_)))
    exact ax_iret rfl d_MO_tells_74 (hR (p6.1, p6.2) (ok_some h))
  · have h := ok_t hc h
    refine ax_iload_n 2 d_MO_tells_65 rfl rfl 66 rfl ?_
    refine ax_goto 74 d_MO_tells_66 rfl ?_
    exact ax_iret rfl d_MO_tells_74 (hR (v2, m) (ok_some h))
set_option maxRecDepth 4000 in
theorem c_MO_tells_J55 (v1 : Int32) (v2 : Int32) (v3 : Int32) (m : zM)  {Q : Option Value → zM → Prop} {K : ((Int32 × zM) ⊕ (Int32 × Int32 × zM)) → Prop} (hR : ∀ p : Int32 × zM, K (.inl p) → Q (some (.int p.1)) p.2) (h0 : ∀ s : Int32 × Int32 × zM, K (.inr s) → AX gM s_MO_tells 30 [(0, .ref 0), (1, .int v1), (2, .int s.1), (3, .int s.2.1)] [] s.2.2 Q) (h : ok (f_MO_tells_J55 v1 v2 v3 m) K) : AX gM s_MO_tells 55 [(0, .ref 0), (1, .int v1), (2, .int v2), (3, .int v3)] [] m Q := by
  unfold f_MO_tells_J55 at h
  refine ax_iinc (ls1 := [(3, .int (v3 + 1)), (0, .ref 0), (1, .int v1), (2, .int v2)]) 3 1 d_MO_tells_55 rfl ic_1 (Nat.le_of_ble_eq_true rfl) rfl 58 rfl ?_
  refine ax_goto 30 d_MO_tells_58 rfl ?_
  exact ax_sub [1, 2, 3, 0] rfl (h0 (v2, (v3 + 1), m) (ok_some h))
