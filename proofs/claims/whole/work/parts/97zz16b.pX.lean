set_option maxRecDepth 4000 in
theorem c_Reader_maybe_J21  (m : zM)  {Q : Option Value → zM → Prop} {K : (Bool × zM) → Prop} (hR : ∀ p : Bool × zM, K (p) → Q (some (.int (b2i p.1))) p.2)  (h : ok (f_Reader_maybe_J21  m) K) : AX gX s_Reader_maybe 21 [] [] m Q := by
  unfold f_Reader_maybe_J21 at h
  refine ax_iconst 1 d_Reader_maybe_21 ic_1 22 rfl ?_
  refine ax_goto 26 d_Reader_maybe_22 rfl ?_
  exact ax_zret (b := true) rfl d_Reader_maybe_26 (hR (true, m) (ok_some h))
set_option maxRecDepth 4000 in
theorem zc_Reader_maybe (v1 : Nat) (v2 : Int32) (m : zM) (hv1 : v1 < zsN) {Q : Option Value → zM → Prop} (h : ok (f_Reader_maybe v1 v2 m) (fun p => Q (some (.int (b2i p.1))) p.2)) : zc gX s_Reader_maybe [.ref 65, .ref (1000 + v1), .int v2] m Q := by
  refine zc_of rfl (Nat.le_of_ble_eq_true rfl) ?_
  show AX gX s_Reader_maybe 0 [(0, .ref 65), (1, .ref (1000 + v1)), (2, .int v2)] [] m Q
  obtain ⟨K, hK⟩ : ∃ K : (Bool × zM) → Prop, K = (fun p : Bool × zM => Q (some (.int (b2i p.1))) p.2) := ⟨_, rfl⟩
  have hR : ∀ p : Bool × zM, K p → Q (some (.int (b2i p.1))) p.2 := fun p hp => by rw [hK] at hp; exact hp
  replace h : ok (f_Reader_maybe v1 v2 m) (fun p : Bool × zM => Q (some (.int (b2i p.1))) p.2) := h
  rw [← hK] at h
  unfold f_Reader_maybe at h
  refine ax_aload_n 0 d_Reader_maybe_0 rfl rfl 1 rfl ?_
  refine ax_iconst (-1) d_Reader_maybe_1 ic_m1 2 rfl ?_
  refine ax_putI (K := K) fl_Reader_36 x_65 rfl rfl rfl (Nat.le_of_ble_eq_true rfl) d_Reader_maybe_2 5 rfl h (fun m1 h => ?_)
  refine ax_aload_n 0 d_Reader_maybe_5 rfl rfl 6 rfl ?_
  refine ax_aload_n 1 d_Reader_maybe_6 rfl rfl 7 rfl ?_
  refine ax_callV mv_Reader_119 ⟨Nat.le_of_ble_eq_true rfl, Nat.le_of_ble_eq_true rfl⟩ ⟨rfl, rfl⟩ [.ref (1000 + v1)] [.ref (1000 + v1), .ref 65] rfl rfl (rc_x_65 _) (Nat.le_of_ble_eq_true rfl) d_Reader_maybe_7 10 rfl (zc_Reader_word v1 m1 hv1 (ok_b h (fun p2 h => ?_)))
  refine ax_ifb_eq 21 13 d_Reader_maybe_10 rfl rfl (fun hc => ?_) (fun hc => ?_)
  · have h := ok_f (bf hc) h
    exact ax_sub [] rfl (c_Reader_maybe_J21 p2.2 (fun p hp => hR p hp) h)
  · have h := ok_t hc h
    refine ax_aload_n 0 d_Reader_maybe_13 rfl rfl 14 rfl ?_
    refine ax_iload_n 2 d_Reader_maybe_14 rfl rfl 15 rfl ?_
    refine ax_callV mv_Reader_136 ⟨Nat.le_of_ble_eq_true rfl, Nat.le_of_ble_eq_true rfl⟩ ⟨rfl, rfl⟩ [.int v2] [.int v2, .ref 65] rfl rfl (rc_x_65 _) (Nat.le_of_ble_eq_true rfl) d_Reader_maybe_15 18 rfl (zc_Reader_known v2 p2.2 (ok_b h (fun p3 h => ?_)))
    refine ax_ifb_eq 25 21 d_Reader_maybe_18 rfl rfl (fun hc => ?_) (fun hc => ?_)
    · have h := ok_f (bf hc) h
      refine ax_iconst 0 d_Reader_maybe_25 ic_0 26 rfl ?_
      exact ax_zret (b := false) rfl d_Reader_maybe_26 (hR (false, p3.2) (ok_some h))
    · have h := ok_t hc h
      exact ax_sub [] rfl (c_Reader_maybe_J21 p3.2 (fun p hp => hR p hp) h)
set_option maxRecDepth 4000 in
theorem zc_Reader_agentRow (v1 : Nat) (m : zM) (hv1 : v1 ∈ li_Row) {Q : Option Value → zM → Prop} (h : ok (f_Reader_agentRow v1 m) (fun p => Q (some (.int (b2i p.1))) p.2)) : zc gX s_Reader_agentRow [.ref 65, .ref v1] m Q := by
  refine zc_of rfl (Nat.le_of_ble_eq_true rfl) ?_
  show AX gX s_Reader_agentRow 0 [(0, .ref 65), (1, .ref v1)] [] m Q
  obtain ⟨K, hK⟩ : ∃ K : (Bool × zM) → Prop, K = (fun p : Bool × zM => Q (some (.int (b2i p.1))) p.2) := ⟨_, rfl⟩
  have hR : ∀ p : Bool × zM, K p → Q (some (.int (b2i p.1))) p.2 := fun p hp => by rw [hK] at hp; exact hp
  replace h : ok (f_Reader_agentRow v1 m) (fun p : Bool × zM => Q (some (.int (b2i p.1))) p.2) := h
  rw [← hK] at h
  unfold f_Reader_agentRow at h
  refine ax_aload_n 0 d_Reader_agentRow_0 rfl rfl 1 rfl ?_
  refine ax_iconst 0 d_Reader_agentRow_1 ic_0 2 rfl ?_
  refine ax_callV mv_Reader_136 ⟨Nat.le_of_ble_eq_true rfl, Nat.le_of_ble_eq_true rfl⟩ ⟨rfl, rfl⟩ [.int 0] [.int 0, .ref 65] rfl rfl (rc_x_65 _) (Nat.le_of_ble_eq_true rfl) d_Reader_agentRow_2 5 rfl (zc_Reader_known 0 m (ok_b h (fun p1 h => ?_)))
  refine ax_ifb_ne 10 8 d_Reader_agentRow_5 rfl rfl (fun hc => ?_) (fun hc => ?_)
  · have h := ok_t hc h
    refine ax_aload_n 1 d_Reader_agentRow_10 rfl rfl 11 rfl ?_
    refine ax_aload_n 0 d_Reader_agentRow_11 rfl rfl 12 rfl ?_
    refine ax_getI fl_Reader_36 x_65 rfl d_Reader_agentRow_12 15 rfl ?_
    refine ax_putI (K := K) fl_Reader_224 (sx_Row hv1) rfl rfl rfl (Nat.le_of_ble_eq_true rfl) d_Reader_agentRow_15 18 rfl h (fun m2 h => ?_)
    refine ax_aload_n 0 d_Reader_agentRow_18 rfl rfl 19 rfl ?_
    refine ax_ldcS 12 (Nat.le_of_ble_eq_true rfl) rfl rfl d_Reader_agentRow_19 21 rfl ?_
    refine ax_iconst 2 d_Reader_agentRow_21 ic_2 22 rfl ?_
    refine ax_callV mv_Reader_231 ⟨Nat.le_of_ble_eq_true rfl, Nat.le_of_ble_eq_true rfl⟩ ⟨rfl, rfl⟩ [.ref (1000 + 12), .int 2] [.int 2, .ref (1000 + 12), .ref 65] rfl rfl (rc_x_65 _) (Nat.le_of_ble_eq_true rfl) d_Reader_agentRow_22 25 rfl (zc_Reader_maybe 12 2 m2 (Nat.le_of_ble_eq_true rfl) (ok_b h (fun p3 h => ?_)))
    refine ax_ifb_ne 30 28 d_Reader_agentRow_25 rfl rfl (fun hc => ?_) (fun hc => ?_)
    · have h := ok_t hc h
      refine ax_aload_n 1 d_Reader_agentRow_30 rfl rfl 31 rfl ?_
      refine ax_aload_n 0 d_Reader_agentRow_31 rfl rfl 32 rfl ?_
      refine ax_getI fl_Reader_36 x_65 rfl d_Reader_agentRow_32 35 rfl ?_
      refine ax_putI (K := K) fl_Reader_235 (sx_Row hv1) rfl rfl rfl (Nat.le_of_ble_eq_true rfl) d_Reader_agentRow_35 38 rfl h (fun m4 h => ?_)
      refine ax_aload_n 0 d_Reader_agentRow_38 rfl rfl 39 rfl ?_
      refine ax_ldcS 13 (Nat.le_of_ble_eq_true rfl) rfl rfl d_Reader_agentRow_39 41 rfl ?_
      refine ax_callV mv_Reader_149 ⟨Nat.le_of_ble_eq_true rfl, Nat.le_of_ble_eq_true rfl⟩ ⟨rfl, rfl⟩ [.ref (1000 + 13)] [.ref (1000 + 13), .ref 65] rfl rfl (rc_x_65 _) (Nat.le_of_ble_eq_true rfl) d_Reader_agentRow_41 44 rfl (zc_Reader_ask 13 m4 (Nat.le_of_ble_eq_true rfl) (ok_b h (fun p5 h => ?_)))
      refine ax_ifb_eq 55 47 d_Reader_agentRow_44 rfl rfl (fun hc => ?_) (fun hc => ?_)
      · have h := ok_f (bf hc) h
        refine ax_iconst 0 d_Reader_agentRow_55 ic_0 56 rfl ?_
        exact ax_zret (b := false) rfl d_Reader_agentRow_56 (hR (false, p5.2) (ok_some h))
      · have h := ok_t hc h
        refine ax_aload_n 0 d_Reader_agentRow_47 rfl rfl 48 rfl ?_
        refine ax_iconst 0 d_Reader_agentRow_48 ic_0 49 rfl ?_
        refine ax_callV mv_Reader_136 ⟨Nat.le_of_ble_eq_true rfl, Nat.le_of_ble_eq_true rfl⟩ ⟨rfl, rfl⟩ [.int 0] [.int 0, .ref 65] rfl rfl (rc_x_65 _) (Nat.le_of_ble_eq_true rfl) d_Reader_agentRow_49 52 rfl (zc_Reader_known 0 p5.2 (ok_b h (fun p6 h => ?_)))
        refine ax_ifb_ne 57 55 d_Reader_agentRow_52 rfl rfl (fun hc => ?_) (fun hc => ?_)
        · have h := ok_t hc h
          refine ax_aload_n 1 d_Reader_agentRow_57 rfl rfl 58 rfl ?_
          refine ax_aload_n 0 d_Reader_agentRow_58 rfl rfl 59 rfl ?_
          refine ax_getI fl_Reader_36 x_65 rfl d_Reader_agentRow_59 62 rfl ?_
          refine ax_putI (K := K) fl_Reader_239 (sx_Row hv1) rfl rfl rfl (Nat.le_of_ble_eq_true rfl) d_Reader_agentRow_62 65 rfl h (fun m7 h => ?_)
          refine ax_aload_n 0 d_Reader_agentRow_65 rfl rfl 66 rfl ?_
          refine ax_ldcS 14 (Nat.le_of_ble_eq_true rfl) rfl rfl d_Reader_agentRow_66 68 rfl ?_
          refine ax_iconst 2 d_Reader_agentRow_68 ic_2 69 rfl ?_
          refine ax_callV mv_Reader_231 ⟨Nat.le_of_ble_eq_true rfl, Nat.le_of_ble_eq_true rfl⟩ ⟨rfl, rfl⟩ [.ref (1000 + 14), .int 2] [.int 2, .ref (1000 + 14), .ref 65] rfl rfl (rc_x_65 _) (Nat.le_of_ble_eq_true rfl) d_Reader_agentRow_69 72 rfl (zc_Reader_maybe 14 2 m7 (Nat.le_of_ble_eq_true rfl) (ok_b h (fun p8 h => ?_)))
          refine ax_ifb_ne 77 75 d_Reader_agentRow_72 rfl rfl (fun hc => ?_) (fun hc => ?_)
          · have h := ok_t hc h
            refine ax_aload_n 1 d_Reader_agentRow_77 rfl rfl 78 rfl ?_
            refine ax_aload_n 0 d_Reader_agentRow_78 rfl rfl 79 rfl ?_
            refine ax_getI fl_Reader_36 x_65 rfl d_Reader_agentRow_79 82 rfl ?_
            refine ax_putI (K := K) fl_Reader_243 (sx_Row hv1) rfl rfl rfl (Nat.le_of_ble_eq_true rfl) d_Reader_agentRow_82 85 rfl h (fun m9 h => ?_)
            refine ax_iconst 1 d_Reader_agentRow_85 ic_1 86 rfl ?_
            exact ax_zret (b := true) rfl d_Reader_agentRow_86 (hR (true, m9) (ok_some h))
          · have h := ok_f (bf hc) h
            refine ax_iconst 0 d_Reader_agentRow_75 ic_0 76 rfl ?_
            exact ax_zret (b := false) rfl d_Reader_agentRow_76 (hR (false, p8.2) (ok_some h))
        · have h := ok_f (bf hc) h
          refine ax_iconst 0 d_Reader_agentRow_55 ic_0 56 rfl ?_
          exact ax_zret (b := false) rfl d_Reader_agentRow_56 (hR (false, p6.2) (ok_some h))
    · have h := ok_f (bf hc) h
      refine ax_iconst 0 d_Reader_agentRow_28 ic_0 29 rfl ?_
      exact ax_zret (b := false) rfl d_Reader_agentRow_29 (hR (false, p3.2) (ok_some h))
  · have h := ok_f (bf hc) h
    refine ax_iconst 0 d_Reader_agentRow_8 ic_0 9 rfl ?_
    exact ax_zret (b := false) rfl d_Reader_agentRow_9 (hR (false, p1.2) (ok_some h))
set_option maxRecDepth 4000 in
theorem c_Reader_homeRow_J138 (v1 : Nat) (t1 : Nat) (m : zM) (hv1 : v1 ∈ li_Row) (ht1 : t1 < zsN) {Q : Option Value → zM → Prop} {K : (Bool × zM) → Prop} (hR : ∀ p : Bool × zM, K (p) → Q (some (.int (b2i p.1))) p.2)  (h : ok (f_Reader_homeRow_J138 v1 t1 m) K) : AX gX s_Reader_homeRow 138 [(0, .ref 65), (1, .ref v1)] [.ref (1000 + t1), .ref 65] m Q := by
  unfold f_Reader_homeRow_J138 at h
  refine ax_iconst 0 d_Reader_homeRow_138 ic_0 139 rfl ?_
  refine ax_callV mv_Reader_231 ⟨Nat.le_of_ble_eq_true rfl, Nat.le_of_ble_eq_true rfl⟩ ⟨rfl, rfl⟩ [.ref (1000 + t1), .int 0] [.int 0, .ref (1000 + t1), .ref 65] rfl rfl (rc_x_65 _) (Nat.le_of_ble_eq_true rfl) d_Reader_homeRow_139 142 rfl (zc_Reader_maybe t1 0 m ht1 (ok_b h (fun p15 h => ?_)))
  refine ax_ifb_ne 147 145 d_Reader_homeRow_142 rfl rfl (fun hc => ?_) (fun hc => ?_)
  · have h := ok_t hc h
    refine ax_aload_n 1 d_Reader_homeRow_147 rfl rfl 148 rfl ?_
    refine ax_aload_n 0 d_Reader_homeRow_148 rfl rfl 149 rfl ?_
    refine ax_getI fl_Reader_36 x_65 rfl d_Reader_homeRow_149 152 rfl ?_
    refine ax_putI (K := K) fl_Reader_259 (sx_Row hv1) rfl rfl rfl (Nat.le_of_ble_eq_true rfl) d_Reader_homeRow_152 155 rfl h (fun m16 h => ?_)
    refine ax_iconst 1 d_Reader_homeRow_155 ic_1 156 rfl ?_
    exact ax_zret (b := true) rfl d_Reader_homeRow_156 (hR (true, m16) (ok_some h))
  · have h := ok_f (bf hc) h
    refine ax_iconst 0 d_Reader_homeRow_145 ic_0 146 rfl ?_
    exact ax_zret (b := false) rfl d_Reader_homeRow_146 (hR (false, p15.2) (ok_some h))
set_option maxRecDepth 4000 in
theorem zc_Reader_homeRow (v1 : Nat) (m : zM) (hv1 : v1 ∈ li_Row) {Q : Option Value → zM → Prop} (h : ok (f_Reader_homeRow v1 m) (fun p => Q (some (.int (b2i p.1))) p.2)) : zc gX s_Reader_homeRow [.ref 65, .ref v1] m Q := by
  refine zc_of rfl (Nat.le_of_ble_eq_true rfl) ?_
  show AX gX s_Reader_homeRow 0 [(0, .ref 65), (1, .ref v1)] [] m Q
  obtain ⟨K, hK⟩ : ∃ K : (Bool × zM) → Prop, K = (fun p : Bool × zM => Q (some (.int (b2i p.1))) p.2) := ⟨_, rfl⟩
  have hR : ∀ p : Bool × zM, K p → Q (some (.int (b2i p.1))) p.2 := fun p hp => by rw [hK] at hp; exact hp
  replace h : ok (f_Reader_homeRow v1 m) (fun p : Bool × zM => Q (some (.int (b2i p.1))) p.2) := h
  rw [← hK] at h
  unfold f_Reader_homeRow at h
  refine ax_aload_n 0 d_Reader_homeRow_0 rfl rfl 1 rfl ?_
  refine ax_iconst 1 d_Reader_homeRow_1 ic_1 2 rfl ?_
  refine ax_callV mv_Reader_136 ⟨Nat.le_of_ble_eq_true rfl, Nat.le_of_ble_eq_true rfl⟩ ⟨rfl, rfl⟩ [.int 1] [.int 1, .ref 65] rfl rfl (rc_x_65 _) (Nat.le_of_ble_eq_true rfl) d_Reader_homeRow_2 5 rfl (zc_Reader_known 1 m (ok_b h (fun p1 h => ?_)))
  refine ax_ifb_ne 10 8 d_Reader_homeRow_5 rfl rfl (fun hc => ?_) (fun hc => ?_)
  · have h := ok_t hc h
    refine ax_aload_n 1 d_Reader_homeRow_10 rfl rfl 11 rfl ?_
    refine ax_aload_n 0 d_Reader_homeRow_11 rfl rfl 12 rfl ?_
    refine ax_getI fl_Reader_36 x_65 rfl d_Reader_homeRow_12 15 rfl ?_
    refine ax_putI (K := K) fl_Reader_224 (sx_Row hv1) rfl rfl rfl (Nat.le_of_ble_eq_true rfl) d_Reader_homeRow_15 18 rfl h (fun m2 h => ?_)
    refine ax_aload_n 0 d_Reader_homeRow_18 rfl rfl 19 rfl ?_
    refine ax_ldcS 12 (Nat.le_of_ble_eq_true rfl) rfl rfl d_Reader_homeRow_19 21 rfl ?_
    refine ax_callV mv_Reader_149 ⟨Nat.le_of_ble_eq_true rfl, Nat.le_of_ble_eq_true rfl⟩ ⟨rfl, rfl⟩ [.ref (1000 + 12)] [.ref (1000 + 12), .ref 65] rfl rfl (rc_x_65 _) (Nat.le_of_ble_eq_true rfl) d_Reader_homeRow_21 24 rfl (zc_Reader_ask 12 m2 (Nat.le_of_ble_eq_true rfl) (ok_b h (fun p3 h => ?_)))
    refine ax_ifb_eq 35 27 d_Reader_homeRow_24 rfl rfl (fun hc => ?_) (fun hc => ?_)
    · have h := ok_f (bf hc) h
      refine ax_iconst 0 d_Reader_homeRow_35 ic_0 36 rfl ?_
      exact ax_zret (b := false) rfl d_Reader_homeRow_36 (hR (false, p3.2) (ok_some h))
    · have h := ok_t hc h
      refine ax_aload_n 0 d_Reader_homeRow_27 rfl rfl 28 rfl ?_
      refine ax_iconst 2 d_Reader_homeRow_28 ic_2 29 rfl ?_
      refine ax_callV mv_Reader_136 ⟨Nat.le_of_ble_eq_true rfl, Nat.le_of_ble_eq_true rfl⟩ ⟨rfl, rfl⟩ [.int 2] [.int 2, .ref 65] rfl rfl (rc_x_65 _) (Nat.le_of_ble_eq_true rfl) d_Reader_homeRow_29 32 rfl (zc_Reader_known 2 p3.2 (ok_b h (fun p4 h => ?_)))
      refine ax_ifb_ne 37 35 d_Reader_homeRow_32 rfl rfl (fun hc => ?_) (fun hc => ?_)
      · have h := ok_t hc h
        refine ax_aload_n 1 d_Reader_homeRow_37 rfl rfl 38 rfl ?_
        refine ax_aload_n 0 d_Reader_homeRow_38 rfl rfl 39 rfl ?_
        refine ax_getI fl_Reader_36 x_65 rfl d_Reader_homeRow_39 42 rfl ?_
        refine ax_putI (K := K) fl_Reader_235 (sx_Row hv1) rfl rfl rfl (Nat.le_of_ble_eq_true rfl) d_Reader_homeRow_42 45 rfl h (fun m5 h => ?_)
        refine ax_aload_n 0 d_Reader_homeRow_45 rfl rfl 46 rfl ?_
        refine ax_ldcS 13 (Nat.le_of_ble_eq_true rfl) rfl rfl d_Reader_homeRow_46 48 rfl ?_
        refine ax_callV mv_Reader_149 ⟨Nat.le_of_ble_eq_true rfl, Nat.le_of_ble_eq_true rfl⟩ ⟨rfl, rfl⟩ [.ref (1000 + 13)] [.ref (1000 + 13), .ref 65] rfl rfl (rc_x_65 _) (Nat.le_of_ble_eq_true rfl) d_Reader_homeRow_48 51 rfl (zc_Reader_ask 13 m5 (Nat.le_of_ble_eq_true rfl) (ok_b h (fun p6 h => ?_)))
        refine ax_ifb_eq 62 54 d_Reader_homeRow_51 rfl rfl (fun hc => ?_) (fun hc => ?_)
        · have h := ok_f (bf hc) h
          refine ax_iconst 0 d_Reader_homeRow_62 ic_0 63 rfl ?_
          exact ax_zret (b := false) rfl d_Reader_homeRow_63 (hR (false, p6.2) (ok_some h))
        · have h := ok_t hc h
          refine ax_aload_n 0 d_Reader_homeRow_54 rfl rfl 55 rfl ?_
          refine ax_iconst 1 d_Reader_homeRow_55 ic_1 56 rfl ?_
          refine ax_callV mv_Reader_136 ⟨Nat.le_of_ble_eq_true rfl, Nat.le_of_ble_eq_true rfl⟩ ⟨rfl, rfl⟩ [.int 1] [.int 1, .ref 65] rfl rfl (rc_x_65 _) (Nat.le_of_ble_eq_true rfl) d_Reader_homeRow_56 59 rfl (zc_Reader_known 1 p6.2 (ok_b h (fun p7 h => ?_)))
          refine ax_ifb_ne 64 62 d_Reader_homeRow_59 rfl rfl (fun hc => ?_) (fun hc => ?_)
          · have h := ok_t hc h
            refine ax_aload_n 1 d_Reader_homeRow_64 rfl rfl 65 rfl ?_
            refine ax_aload_n 0 d_Reader_homeRow_65 rfl rfl 66 rfl ?_
            refine ax_getI fl_Reader_36 x_65 rfl d_Reader_homeRow_66 69 rfl ?_
            refine ax_putI (K := K) fl_Reader_239 (sx_Row hv1) rfl rfl rfl (Nat.le_of_ble_eq_true rfl) d_Reader_homeRow_69 72 rfl h (fun m8 h => ?_)
            refine ax_aload_n 0 d_Reader_homeRow_72 rfl rfl 73 rfl ?_
            refine ax_ldcS 16 (Nat.le_of_ble_eq_true rfl) rfl rfl d_Reader_homeRow_73 75 rfl ?_
            refine ax_iconst 2 d_Reader_homeRow_75 ic_2 76 rfl ?_
            refine ax_callV mv_Reader_231 ⟨Nat.le_of_ble_eq_true rfl, Nat.le_of_ble_eq_true rfl⟩ ⟨rfl, rfl⟩ [.ref (1000 + 16), .int 2] [.int 2, .ref (1000 + 16), .ref 65] rfl rfl (rc_x_65 _) (Nat.le_of_ble_eq_true rfl) d_Reader_homeRow_76 79 rfl (zc_Reader_maybe 16 2 m8 (Nat.le_of_ble_eq_true rfl) (ok_b h (fun p9 h => ?_)))
            refine ax_ifb_ne 84 82 d_Reader_homeRow_79 rfl rfl (fun hc => ?_) (fun hc => ?_)
            · have h := ok_t hc h
              refine ax_aload_n 1 d_Reader_homeRow_84 rfl rfl 85 rfl ?_
              refine ax_aload_n 0 d_Reader_homeRow_85 rfl rfl 86 rfl ?_
              refine ax_getI fl_Reader_36 x_65 rfl d_Reader_homeRow_86 89 rfl ?_
              refine ax_putI (K := K) fl_Reader_243 (sx_Row hv1) rfl rfl rfl (Nat.le_of_ble_eq_true rfl) d_Reader_homeRow_89 92 rfl h (fun m10 h => ?_)
              refine ax_aload_n 0 d_Reader_homeRow_92 rfl rfl 93 rfl ?_
              refine ax_ldcS 17 (Nat.le_of_ble_eq_true rfl) rfl rfl d_Reader_homeRow_93 95 rfl ?_
              refine ax_iconst 2 d_Reader_homeRow_95 ic_2 96 rfl ?_
              refine ax_callV mv_Reader_231 ⟨Nat.le_of_ble_eq_true rfl, Nat.le_of_ble_eq_true rfl⟩ ⟨rfl, rfl⟩ [.ref (1000 + 17), .int 2] [.int 2, .ref (1000 + 17), .ref 65] rfl rfl (rc_x_65 _) (Nat.le_of_ble_eq_true rfl) d_Reader_homeRow_96 99 rfl (zc_Reader_maybe 17 2 m10 (Nat.le_of_ble_eq_true rfl) (ok_b h (fun p11 h => ?_)))
              refine ax_ifb_ne 104 102 d_Reader_homeRow_99 rfl rfl (fun hc => ?_) (fun hc => ?_)
              · have h := ok_t hc h
                refine ax_aload_n 1 d_Reader_homeRow_104 rfl rfl 105 rfl ?_
                refine ax_aload_n 0 d_Reader_homeRow_105 rfl rfl 106 rfl ?_
                refine ax_getI fl_Reader_36 x_65 rfl d_Reader_homeRow_106 109 rfl ?_
                refine ax_putI (K := K) fl_Reader_250 (sx_Row hv1) rfl rfl rfl (Nat.le_of_ble_eq_true rfl) d_Reader_homeRow_109 112 rfl h (fun m12 h => ?_)
                refine ax_aload_n 1 d_Reader_homeRow_112 rfl rfl 113 rfl ?_
                refine ax_aload_n 0 d_Reader_homeRow_113 rfl rfl 114 rfl ?_
                refine ax_ldcS 18 (Nat.le_of_ble_eq_true rfl) rfl rfl d_Reader_homeRow_114 116 rfl ?_
                refine ax_callV mv_Reader_115 ⟨Nat.le_of_ble_eq_true rfl, Nat.le_of_ble_eq_true rfl⟩ ⟨rfl, rfl⟩ [.ref (1000 + 18)] [.ref (1000 + 18), .ref 65, .ref v1] rfl rfl (rc_x_65 _) (Nat.le_of_ble_eq_true rfl) d_Reader_homeRow_116 119 rfl (zc_Reader_isNext 18 m12 (Nat.le_of_ble_eq_true rfl) (ok_b h (fun r13 h => ?_)))
                refine ax_putZ (K := K) fl_Reader_255 (sx_Row hv1) (b2i_01 _) rfl rfl rfl (Nat.le_of_ble_eq_true rfl) d_Reader_homeRow_119 122 rfl h (fun m14 h => ?_)
                refine ax_aload_n 0 d_Reader_homeRow_122 rfl rfl 123 rfl ?_
                refine ax_aload_n 1 d_Reader_homeRow_123 rfl rfl 124 rfl ?_
                refine ax_getI fl_Reader_255 (sx_Row hv1) rfl d_Reader_homeRow_124 127 rfl ?_
                refine ax_if_eq 135 130 d_Reader_homeRow_127 rfl rfl (fun hc => ?_) (fun hc => ?_)
                · have h := ok_t hc h
                  refine ax_ldcSW 19 (Nat.le_of_ble_eq_true rfl) rfl rfl d_Reader_homeRow_135 138 rfl ?_
                  exact ax_sub [0, 1] rfl (c_Reader_homeRow_J138 v1 19 m14 hv1 (Nat.le_of_ble_eq_true rfl) (fun p hp => hR p hp) h)
                · have h := ok_f hc h
                  refine ax_ldcS 18 (Nat.le_of_ble_eq_true rfl) rfl rfl d_Reader_homeRow_130 132 rfl ?_
                  refine ax_goto 138 d_Reader_homeRow_132 rfl ?_
                  exact ax_sub [0, 1] rfl (c_Reader_homeRow_J138 v1 18 m14 hv1 (Nat.le_of_ble_eq_true rfl) (fun p hp => hR p hp) h)
              · have h := ok_f (bf hc) h
                refine ax_iconst 0 d_Reader_homeRow_102 ic_0 103 rfl ?_
                exact ax_zret (b := false) rfl d_Reader_homeRow_103 (hR (false, p11.2) (ok_some h))
            · have h := ok_f (bf hc) h
              refine ax_iconst 0 d_Reader_homeRow_82 ic_0 83 rfl ?_
              exact ax_zret (b := false) rfl d_Reader_homeRow_83 (hR (false, p9.2) (ok_some h))
          · have h := ok_f (bf hc) h
            refine ax_iconst 0 d_Reader_homeRow_62 ic_0 63 rfl ?_
            exact ax_zret (b := false) rfl d_Reader_homeRow_63 (hR (false, p7.2) (ok_some h))
      · have h := ok_f (bf hc) h
        refine ax_iconst 0 d_Reader_homeRow_35 ic_0 36 rfl ?_
        exact ax_zret (b := false) rfl d_Reader_homeRow_36 (hR (false, p4.2) (ok_some h))
  · have h := ok_f (bf hc) h
    refine ax_iconst 0 d_Reader_homeRow_8 ic_0 9 rfl ?_
    exact ax_zret (b := false) rfl d_Reader_homeRow_9 (hR (false, p1.2) (ok_some h))
set_option maxRecDepth 4000 in
theorem c_Reader_statement_J37 (v1 : Int32) (t1 : Bool) (m : zM)  {Q : Option Value → zM → Prop} {K : (Bool × zM) → Prop} (hR : ∀ p : Bool × zM, K (p) → Q (some (.int (b2i p.1))) p.2)  (h : ok (f_Reader_statement_J37 v1 t1 m) K) : AX gX s_Reader_statement 37 [(0, .ref 65), (1, .int v1)] [.int (b2i t1), .ref 65] m Q := by
  unfold f_Reader_statement_J37 at h
  refine ax_iload_n 1 d_Reader_statement_37 rfl rfl 38 rfl ?_
  refine ax_callV mv_Reader_167 ⟨Nat.le_of_ble_eq_true rfl, Nat.le_of_ble_eq_true rfl⟩ ⟨rfl, rfl⟩ [.int (b2i t1), .int v1] [.int v1, .int (b2i t1), .ref 65] rfl rfl (rc_x_65 _) (Nat.le_of_ble_eq_true rfl) d_Reader_statement_38 41 rfl (zc_Reader_isFree (b2i t1) v1 m ?_)
  refine ok_l (G := fun p => AX gX s_Reader_statement 41 [(0, .ref 65), (1, .int v1)] [.int (b2i p.1)] p.2 Q) h (fun p23 h => ?_)
  refine ax_ifb_eq 56 44 d_Reader_statement_41 rfl rfl (fun hc => ?_) (fun hc => ?_)
  · have h := ok_f (bf hc) h
    refine ax_iconst 0 d_Reader_statement_56 ic_0 57 rfl ?_
    exact ax_zret (b := false) rfl d_Reader_statement_57 (hR (false, p23.2) (ok_some h))
  · have h := ok_t hc h
    refine ax_aload_n 0 d_Reader_statement_44 rfl rfl 45 rfl ?_
    refine ax_iconst 1 d_Reader_statement_45 ic_1 46 rfl ?_
    refine ax_callV mv_Reader_159 ⟨Nat.le_of_ble_eq_true rfl, Nat.le_of_ble_eq_true rfl⟩ ⟨rfl, rfl⟩ [.int 1] [.int 1, .ref 65] rfl rfl (rc_x_65 _) (Nat.le_of_ble_eq_true rfl) d_Reader_statement_46 49 rfl (zc_Reader_names 1 p23.2 (ok_b h (fun p24 h => ?_)))
    refine ax_ifb_eq 56 52 d_Reader_statement_49 rfl rfl (fun hc => ?_) (fun hc => ?_)
    · have h := ok_f (bf hc) h
      refine ax_iconst 0 d_Reader_statement_56 ic_0 57 rfl ?_
      exact ax_zret (b := false) rfl d_Reader_statement_57 (hR (false, p24.2) (ok_some h))
    · have h := ok_t hc h
      refine ax_iconst 1 d_Reader_statement_52 ic_1 53 rfl ?_
      refine ax_goto 57 d_Reader_statement_53 rfl ?_
      exact ax_zret (b := true) rfl d_Reader_statement_57 (hR (true, p24.2) (ok_some h))
set_option maxRecDepth 4000 in
theorem c_Reader_statement_J85 (v1 : Int32) (t1 : Bool) (m : zM)  {Q : Option Value → zM → Prop} {K : (Bool × zM) → Prop} (hR : ∀ p : Bool × zM, K (p) → Q (some (.int (b2i p.1))) p.2)  (h : ok (f_Reader_statement_J85 v1 t1 m) K) : AX gX s_Reader_statement 85 [(0, .ref 65), (1, .int v1)] [.int (b2i t1), .ref 65] m Q := by
  unfold f_Reader_statement_J85 at h
  refine ax_iload_n 1 d_Reader_statement_85 rfl rfl 86 rfl ?_
  refine ax_callV mv_Reader_167 ⟨Nat.le_of_ble_eq_true rfl, Nat.le_of_ble_eq_true rfl⟩ ⟨rfl, rfl⟩ [.int (b2i t1), .int v1] [.int v1, .int (b2i t1), .ref 65] rfl rfl (rc_x_65 _) (Nat.le_of_ble_eq_true rfl) d_Reader_statement_86 89 rfl (zc_Reader_isFree (b2i t1) v1 m ?_)
  refine ok_l (G := fun p => AX gX s_Reader_statement 89 [(0, .ref 65), (1, .int v1)] [.int (b2i p.1)] p.2 Q) h (fun p25 h => ?_)
  refine ax_ifb_eq 104 92 d_Reader_statement_89 rfl rfl (fun hc => ?_) (fun hc => ?_)
  · have h := ok_f (bf hc) h
    refine ax_iconst 0 d_Reader_statement_104 ic_0 105 rfl ?_
    exact ax_zret (b := false) rfl d_Reader_statement_105 (hR (false, p25.2) (ok_some h))
  · have h := ok_t hc h
    refine ax_aload_n 0 d_Reader_statement_92 rfl rfl 93 rfl ?_
    refine ax_iconst 2 d_Reader_statement_93 ic_2 94 rfl ?_
    refine ax_callV mv_Reader_159 ⟨Nat.le_of_ble_eq_true rfl, Nat.le_of_ble_eq_true rfl⟩ ⟨rfl, rfl⟩ [.int 2] [.int 2, .ref 65] rfl rfl (rc_x_65 _) (Nat.le_of_ble_eq_true rfl) d_Reader_statement_94 97 rfl (zc_Reader_names 2 p25.2 (ok_b h (fun p26 h => ?_)))
    refine ax_ifb_eq 104 100 d_Reader_statement_97 rfl rfl (fun hc => ?_) (fun hc => ?_)
    · have h := ok_f (bf hc) h
      refine ax_iconst 0 d_Reader_statement_104 ic_0 105 rfl ?_
      exact ax_zret (b := false) rfl d_Reader_statement_105 (hR (false, p26.2) (ok_some h))
    · have h := ok_t hc h
      refine ax_iconst 1 d_Reader_statement_100 ic_1 101 rfl ?_
      refine ax_goto 105 d_Reader_statement_101 rfl ?_
      exact ax_zret (b := true) rfl d_Reader_statement_105 (hR (true, p26.2) (ok_some h))
set_option maxRecDepth 4000 in
theorem c_Reader_statement_J146  (m : zM)  {Q : Option Value → zM → Prop} {K : (Bool × zM) → Prop} (hR : ∀ p : Bool × zM, K (p) → Q (some (.int (b2i p.1))) p.2)  (h : ok (f_Reader_statement_J146  m) K) : AX gX s_Reader_statement 146 [] [] m Q := by
  unfold f_Reader_statement_J146 at h
  refine ax_iconst 1 d_Reader_statement_146 ic_1 147 rfl ?_
  refine ax_goto 151 d_Reader_statement_147 rfl ?_
  exact ax_zret (b := true) rfl d_Reader_statement_151 (hR (true, m) (ok_some h))
set_option maxRecDepth 4000 in
theorem c_Reader_statement_J178 (v1 : Int32) (t1 : Bool) (m : zM)  {Q : Option Value → zM → Prop} {K : (Bool × zM) → Prop} (hR : ∀ p : Bool × zM, K (p) → Q (some (.int (b2i p.1))) p.2)  (h : ok (f_Reader_statement_J178 v1 t1 m) K) : AX gX s_Reader_statement 178 [(0, .ref 65), (1, .int v1)] [.int (b2i t1), .ref 65] m Q := by
  unfold f_Reader_statement_J178 at h
  refine ax_iload_n 1 d_Reader_statement_178 rfl rfl 179 rfl ?_
  refine ax_callV mv_Reader_167 ⟨Nat.le_of_ble_eq_true rfl, Nat.le_of_ble_eq_true rfl⟩ ⟨rfl, rfl⟩ [.int (b2i t1), .int v1] [.int v1, .int (b2i t1), .ref 65] rfl rfl (rc_x_65 _) (Nat.le_of_ble_eq_true rfl) d_Reader_statement_179 182 rfl (zc_Reader_isFree (b2i t1) v1 m ?_)
  refine ok_l (G := fun p => AX gX s_Reader_statement 182 [(0, .ref 65), (1, .int v1)] [.int (b2i p.1)] p.2 Q) h (fun p27 h => ?_)
  refine ax_ifb_eq 196 185 d_Reader_statement_182 rfl rfl (fun hc => ?_) (fun hc => ?_)
  · have h := ok_f (bf hc) h
    refine ax_iconst 0 d_Reader_statement_196 ic_0 197 rfl ?_
    exact ax_zret (b := false) rfl d_Reader_statement_197 (hR (false, p27.2) (ok_some h))
  · have h := ok_t hc h
    refine ax_aload_n 0 d_Reader_statement_185 rfl rfl 186 rfl ?_
    refine ax_callV mv_Reader_187 ⟨Nat.le_of_ble_eq_true rfl, Nat.le_of_ble_eq_true rfl⟩ ⟨rfl, rfl⟩ [] [.ref 65] rfl rfl (rc_x_65 _) (Nat.le_of_ble_eq_true rfl) d_Reader_statement_186 189 rfl (zc_Reader_never p27.2 (ok_b h (fun p28 h => ?_)))
    refine ax_ifb_eq 196 192 d_Reader_statement_189 rfl rfl (fun hc => ?_) (fun hc => ?_)
    · have h := ok_f (bf hc) h
      refine ax_iconst 0 d_Reader_statement_196 ic_0 197 rfl ?_
      exact ax_zret (b := false) rfl d_Reader_statement_197 (hR (false, p28.2) (ok_some h))
    · have h := ok_t hc h
      refine ax_iconst 1 d_Reader_statement_192 ic_1 193 rfl ?_
      refine ax_goto 197 d_Reader_statement_193 rfl ?_
      exact ax_zret (b := true) rfl d_Reader_statement_197 (hR (true, p28.2) (ok_some h))
set_option maxRecDepth 4000 in
theorem c_Reader_statement_J224 (v1 : Int32) (t1 : Bool) (m : zM)  {Q : Option Value → zM → Prop} {K : (Bool × zM) → Prop} (hR : ∀ p : Bool × zM, K (p) → Q (some (.int (b2i p.1))) p.2)  (h : ok (f_Reader_statement_J224 v1 t1 m) K) : AX gX s_Reader_statement 224 [(0, .ref 65), (1, .int v1)] [.int (b2i t1), .ref 65] m Q := by
  unfold f_Reader_statement_J224 at h
  refine ax_iload_n 1 d_Reader_statement_224 rfl rfl 225 rfl ?_
  refine ax_callV mv_Reader_167 ⟨Nat.le_of_ble_eq_true rfl, Nat.le_of_ble_eq_true rfl⟩ ⟨rfl, rfl⟩ [.int (b2i t1), .int v1] [.int v1, .int (b2i t1), .ref 65] rfl rfl (rc_x_65 _) (Nat.le_of_ble_eq_true rfl) d_Reader_statement_225 228 rfl (zc_Reader_isFree (b2i t1) v1 m ?_)
  refine ok_l (G := fun p => AX gX s_Reader_statement 228 [(0, .ref 65), (1, .int v1)] [.int (b2i p.1)] p.2 Q) h (fun p29 h => ?_)
  refine ax_ifb_eq 242 231 d_Reader_statement_228 rfl rfl (fun hc => ?_) (fun hc => ?_)
  · have h := ok_f (bf hc) h
    refine ax_iconst 0 d_Reader_statement_242 ic_0 243 rfl ?_
    exact ax_zret (b := false) rfl d_Reader_statement_243 (hR (false, p29.2) (ok_some h))
  · have h := ok_t hc h
    refine ax_aload_n 0 d_Reader_statement_231 rfl rfl 232 rfl ?_
    refine ax_callV mv_Reader_194 ⟨Nat.le_of_ble_eq_true rfl, Nat.le_of_ble_eq_true rfl⟩ ⟨rfl, rfl⟩ [] [.ref 65] rfl rfl (rc_x_65 _) (Nat.le_of_ble_eq_true rfl) d_Reader_statement_232 235 rfl (zc_Reader_wants p29.2 (ok_b h (fun p30 h => ?_)))
    refine ax_ifb_eq 242 238 d_Reader_statement_235 rfl rfl (fun hc => ?_) (fun hc => ?_)
    · have h := ok_f (bf hc) h
      refine ax_iconst 0 d_Reader_statement_242 ic_0 243 rfl ?_
      exact ax_zret (b := false) rfl d_Reader_statement_243 (hR (false, p30.2) (ok_some h))
    · have h := ok_t hc h
      refine ax_iconst 1 d_Reader_statement_238 ic_1 239 rfl ?_
      refine ax_goto 243 d_Reader_statement_239 rfl ?_
      exact ax_zret (b := true) rfl d_Reader_statement_243 (hR (true, p30.2) (ok_some h))
set_option maxRecDepth 4000 in
theorem c_Reader_statement_J271 (v1 : Int32) (t1 : Bool) (m : zM)  {Q : Option Value → zM → Prop} {K : (Bool × zM) → Prop} (hR : ∀ p : Bool × zM, K (p) → Q (some (.int (b2i p.1))) p.2)  (h : ok (f_Reader_statement_J271 v1 t1 m) K) : AX gX s_Reader_statement 271 [(0, .ref 65), (1, .int v1)] [.int (b2i t1), .ref 65] m Q := by
  unfold f_Reader_statement_J271 at h
  refine ax_iload_n 1 d_Reader_statement_271 rfl rfl 272 rfl ?_
  refine ax_callV mv_Reader_167 ⟨Nat.le_of_ble_eq_true rfl, Nat.le_of_ble_eq_true rfl⟩ ⟨rfl, rfl⟩ [.int (b2i t1), .int v1] [.int v1, .int (b2i t1), .ref 65] rfl rfl (rc_x_65 _) (Nat.le_of_ble_eq_true rfl) d_Reader_statement_272 275 rfl (zc_Reader_isFree (b2i t1) v1 m ?_)
  refine ok_l (G := fun p => AX gX s_Reader_statement 275 [(0, .ref 65), (1, .int v1)] [.int (b2i p.1)] p.2 Q) h (fun p31 h => ?_)
  refine ax_ifb_eq 297 278 d_Reader_statement_275 rfl rfl (fun hc => ?_) (fun hc => ?_)
  · have h := ok_f (bf hc) h
    refine ax_iconst 0 d_Reader_statement_297 ic_0 298 rfl ?_
    exact ax_zret (b := false) rfl d_Reader_statement_298 (hR (false, p31.2) (ok_some h))
  · have h := ok_t hc h
    refine ax_aload_n 0 d_Reader_statement_278 rfl rfl 279 rfl ?_
    refine ax_aload_n 0 d_Reader_statement_279 rfl rfl 280 rfl ?_
    refine ok_tb h (fun t32 ht32 et32 h => ?_)
    refine ax_getR fl_Reader_12 x_65 rfl (ry_1 et32) d_Reader_statement_280 283 rfl ?_
    refine ax_iconst 0 d_Reader_statement_283 ic_0 284 rfl ?_
    refine ax_callV mv_Reader_201 ⟨Nat.le_of_ble_eq_true rfl, Nat.le_of_ble_eq_true rfl⟩ ⟨rfl, rfl⟩ [.int 0] [.int 0, .ref t32, .ref 65] rfl rfl (rc_Table ht32 _) (Nat.le_of_ble_eq_true rfl) d_Reader_statement_284 287 rfl (zc_Table_newRow t32 0 p31.2 ht32 (ok_b h (fun p33 h => ?_)))
    refine ok_mb h (fun hp33 h => ?_)
    refine ax_callV mv_Reader_205 ⟨Nat.le_of_ble_eq_true rfl, Nat.le_of_ble_eq_true rfl⟩ ⟨rfl, rfl⟩ [.ref p33.1] [.ref p33.1, .ref 65] rfl rfl (rc_x_65 _) (Nat.le_of_ble_eq_true rfl) d_Reader_statement_287 290 rfl (zc_Reader_agentRow p33.1 p33.2 hp33 (ok_b h (fun p34 h => ?_)))
    refine ax_ifb_eq 297 293 d_Reader_statement_290 rfl rfl (fun hc => ?_) (fun hc => ?_)
    · have h := ok_f (bf hc) h
      refine ax_iconst 0 d_Reader_statement_297 ic_0 298 rfl ?_
      exact ax_zret (b := false) rfl d_Reader_statement_298 (hR (false, p34.2) (ok_some h))
    · have h := ok_t hc h
      refine ax_iconst 1 d_Reader_statement_293 ic_1 294 rfl ?_
      refine ax_goto 298 d_Reader_statement_294 rfl ?_
      exact ax_zret (b := true) rfl d_Reader_statement_298 (hR (true, p34.2) (ok_some h))
set_option maxRecDepth 4000 in
theorem c_Reader_statement_J326 (v1 : Int32) (t1 : Bool) (m : zM)  {Q : Option Value → zM → Prop} {K : (Bool × zM) → Prop} (hR : ∀ p : Bool × zM, K (p) → Q (some (.int (b2i p.1))) p.2)  (h : ok (f_Reader_statement_J326 v1 t1 m) K) : AX gX s_Reader_statement 326 [(0, .ref 65), (1, .int v1)] [.int (b2i t1), .ref 65] m Q := by
  unfold f_Reader_statement_J326 at h
  refine ax_iload_n 1 d_Reader_statement_326 rfl rfl 327 rfl ?_
  refine ax_callV mv_Reader_167 ⟨Nat.le_of_ble_eq_true rfl, Nat.le_of_ble_eq_true rfl⟩ ⟨rfl, rfl⟩ [.int (b2i t1), .int v1] [.int v1, .int (b2i t1), .ref 65] rfl rfl (rc_x_65 _) (Nat.le_of_ble_eq_true rfl) d_Reader_statement_327 330 rfl (zc_Reader_isFree (b2i t1) v1 m ?_)
  refine ok_l (G := fun p => AX gX s_Reader_statement 330 [(0, .ref 65), (1, .int v1)] [.int (b2i p.1)] p.2 Q) h (fun p35 h => ?_)
  refine ax_ifb_eq 352 333 d_Reader_statement_330 rfl rfl (fun hc => ?_) (fun hc => ?_)
  · have h := ok_f (bf hc) h
    refine ax_iconst 0 d_Reader_statement_352 ic_0 353 rfl ?_
    exact ax_zret (b := false) rfl d_Reader_statement_353 (hR (false, p35.2) (ok_some h))
  · have h := ok_t hc h
    refine ax_aload_n 0 d_Reader_statement_333 rfl rfl 334 rfl ?_
    refine ax_aload_n 0 d_Reader_statement_334 rfl rfl 335 rfl ?_
    refine ok_tb h (fun t36 ht36 et36 h => ?_)
    refine ax_getR fl_Reader_12 x_65 rfl (ry_1 et36) d_Reader_statement_335 338 rfl ?_
    refine ax_iconst 1 d_Reader_statement_338 ic_1 339 rfl ?_
    refine ax_callV mv_Reader_201 ⟨Nat.le_of_ble_eq_true rfl, Nat.le_of_ble_eq_true rfl⟩ ⟨rfl, rfl⟩ [.int 1] [.int 1, .ref t36, .ref 65] rfl rfl (rc_Table ht36 _) (Nat.le_of_ble_eq_true rfl) d_Reader_statement_339 342 rfl (zc_Table_newRow t36 1 p35.2 ht36 (ok_b h (fun p37 h => ?_)))
    refine ok_mb h (fun hp37 h => ?_)
    refine ax_callV mv_Reader_210 ⟨Nat.le_of_ble_eq_true rfl, Nat.le_of_ble_eq_true rfl⟩ ⟨rfl, rfl⟩ [.ref p37.1] [.ref p37.1, .ref 65] rfl rfl (rc_x_65 _) (Nat.le_of_ble_eq_true rfl) d_Reader_statement_342 345 rfl (zc_Reader_homeRow p37.1 p37.2 hp37 (ok_b h (fun p38 h => ?_)))
    refine ax_ifb_eq 352 348 d_Reader_statement_345 rfl rfl (fun hc => ?_) (fun hc => ?_)
    · have h := ok_f (bf hc) h
      refine ax_iconst 0 d_Reader_statement_352 ic_0 353 rfl ?_
      exact ax_zret (b := false) rfl d_Reader_statement_353 (hR (false, p38.2) (ok_some h))
    · have h := ok_t hc h
      refine ax_iconst 1 d_Reader_statement_348 ic_1 349 rfl ?_
      refine ax_goto 353 d_Reader_statement_349 rfl ?_
      exact ax_zret (b := true) rfl d_Reader_statement_353 (hR (true, p38.2) (ok_some h))
set_option maxRecDepth 4000 in
theorem zc_Reader_statement  (m : zM)  {Q : Option Value → zM → Prop} (h : ok (f_Reader_statement m) (fun p => Q (some (.int (b2i p.1))) p.2)) : zc gX s_Reader_statement [.ref 65] m Q := by
  refine zc_of rfl (Nat.le_of_ble_eq_true rfl) ?_
  show AX gX s_Reader_statement 0 [(0, .ref 65)] [] m Q
  obtain ⟨K, hK⟩ : ∃ K : (Bool × zM) → Prop, K = (fun p : Bool × zM => Q (some (.int (b2i p.1))) p.2) := ⟨_, rfl⟩
  have hR : ∀ p : Bool × zM, K p → Q (some (.int (b2i p.1))) p.2 := fun p hp => by rw [hK] at hp; exact hp
  replace h : ok (f_Reader_statement m) (fun p : Bool × zM => Q (some (.int (b2i p.1))) p.2) := h
  rw [← hK] at h
  unfold f_Reader_statement at h
  refine ax_aload_n 0 d_Reader_statement_0 rfl rfl 1 rfl ?_
  refine ax_getR fl_Reader_22 x_65 rfl (rx_65_2 _) d_Reader_statement_1 4 rfl ?_
  refine ax_aload_n 0 d_Reader_statement_4 rfl rfl 5 rfl ?_
  refine ax_getI fl_Reader_32 x_65 rfl d_Reader_statement_5 8 rfl ?_
  refine ax_iaload x_90 d_Reader_statement_8 9 rfl h (fun i1 h => ?_)
  refine ax_istore_n (ls1 := [(1, .int (m.1 90 i1)), (0, .ref 65)]) d_Reader_statement_9 rfl (Nat.le_of_ble_eq_true rfl) rfl 10 rfl ?_
  refine ax_aload_n 1 d_Reader_statement_10 rfl rfl 11 rfl ?_
  refine ax_ldcS 3 (Nat.le_of_ble_eq_true rfl) rfl rfl d_Reader_statement_11 13 rfl ?_
  refine ax_callV mv_Reader_119 ⟨Nat.le_of_ble_eq_true rfl, Nat.le_of_ble_eq_true rfl⟩ ⟨rfl, rfl⟩ [.ref (1000 + 3)] [.ref (1000 + 3), .ref 65] rfl rfl (rc_x_65 _) (Nat.le_of_ble_eq_true rfl) d_Reader_statement_13 16 rfl (zc_Reader_word 3 m (Nat.le_of_ble_eq_true rfl) (ok_b h (fun p2 h => ?_)))
  refine ax_ifb_eq 58 19 d_Reader_statement_16 rfl rfl (fun hc => ?_) (fun hc => ?_)
  · have h := ok_f (bf hc) h
    refine ax_aload_n 1 d_Reader_statement_58 rfl rfl 59 rfl ?_
    refine ax_ldcS 4 (Nat.le_of_ble_eq_true rfl) rfl rfl d_Reader_statement_59 61 rfl ?_
    refine ax_callV mv_Reader_119 ⟨Nat.le_of_ble_eq_true rfl, Nat.le_of_ble_eq_true rfl⟩ ⟨rfl, rfl⟩ [.ref (1000 + 4)] [.ref (1000 + 4), .ref 65] rfl rfl (rc_x_65 _) (Nat.le_of_ble_eq_true rfl) d_Reader_statement_61 64 rfl (zc_Reader_word 4 p2.2 (Nat.le_of_ble_eq_true rfl) (ok_b h (fun p3 h => ?_)))
    refine ax_ifb_eq 106 67 d_Reader_statement_64 rfl rfl (fun hc => ?_) (fun hc => ?_)
    · have h := ok_f (bf hc) h
      refine ax_aload_n 1 d_Reader_statement_106 rfl rfl 107 rfl ?_
      refine ax_ldcS 5 (Nat.le_of_ble_eq_true rfl) rfl rfl d_Reader_statement_107 109 rfl ?_
      refine ax_callV mv_Reader_119 ⟨Nat.le_of_ble_eq_true rfl, Nat.le_of_ble_eq_true rfl⟩ ⟨rfl, rfl⟩ [.ref (1000 + 5)] [.ref (1000 + 5), .ref 65] rfl rfl (rc_x_65 _) (Nat.le_of_ble_eq_true rfl) d_Reader_statement_109 112 rfl (zc_Reader_word 5 p3.2 (Nat.le_of_ble_eq_true rfl) (ok_b h (fun p4 h => ?_)))
      refine ax_ifb_eq 152 115 d_Reader_statement_112 rfl rfl (fun hc => ?_) (fun hc => ?_)
      · have h := ok_f (bf hc) h
        refine ax_aload_n 1 d_Reader_statement_152 rfl rfl 153 rfl ?_
        refine ax_ldcS 8 (Nat.le_of_ble_eq_true rfl) rfl rfl d_Reader_statement_153 155 rfl ?_
        refine ax_callV mv_Reader_119 ⟨Nat.le_of_ble_eq_true rfl, Nat.le_of_ble_eq_true rfl⟩ ⟨rfl, rfl⟩ [.ref (1000 + 8)] [.ref (1000 + 8), .ref 65] rfl rfl (rc_x_65 _) (Nat.le_of_ble_eq_true rfl) d_Reader_statement_155 158 rfl (zc_Reader_word 8 p4.2 (Nat.le_of_ble_eq_true rfl) (ok_b h (fun p5 h => ?_)))
        refine ax_ifb_eq 198 161 d_Reader_statement_158 rfl rfl (fun hc => ?_) (fun hc => ?_)
        · have h := ok_f (bf hc) h
          refine ax_aload_n 1 d_Reader_statement_198 rfl rfl 199 rfl ?_
          refine ax_ldcS 10 (Nat.le_of_ble_eq_true rfl) rfl rfl d_Reader_statement_199 201 rfl ?_
          refine ax_callV mv_Reader_119 ⟨Nat.le_of_ble_eq_true rfl, Nat.le_of_ble_eq_true rfl⟩ ⟨rfl, rfl⟩ [.ref (1000 + 10)] [.ref (1000 + 10), .ref 65] rfl rfl (rc_x_65 _) (Nat.le_of_ble_eq_true rfl) d_Reader_statement_201 204 rfl (zc_Reader_word 10 p5.2 (Nat.le_of_ble_eq_true rfl) (ok_b h (fun p6 h => ?_)))
          refine ax_ifb_eq 244 207 d_Reader_statement_204 rfl rfl (fun hc => ?_) (fun hc => ?_)
          · have h := ok_f (bf hc) h
            refine ax_aload_n 1 d_Reader_statement_244 rfl rfl 245 rfl ?_
            refine ax_ldcS 11 (Nat.le_of_ble_eq_true rfl) rfl rfl d_Reader_statement_245 247 rfl ?_
            refine ax_callV mv_Reader_119 ⟨Nat.le_of_ble_eq_true rfl, Nat.le_of_ble_eq_true rfl⟩ ⟨rfl, rfl⟩ [.ref (1000 + 11)] [.ref (1000 + 11), .ref 65] rfl rfl (rc_x_65 _) (Nat.le_of_ble_eq_true rfl) d_Reader_statement_247 250 rfl (zc_Reader_word 11 p6.2 (Nat.le_of_ble_eq_true rfl) (ok_b h (fun p7 h => ?_)))
            refine ax_ifb_eq 299 253 d_Reader_statement_250 rfl rfl (fun hc => ?_) (fun hc => ?_)
            · have h := ok_f (bf hc) h
              refine ax_aload_n 1 d_Reader_statement_299 rfl rfl 300 rfl ?_
              refine ax_ldcS 15 (Nat.le_of_ble_eq_true rfl) rfl rfl d_Reader_statement_300 302 rfl ?_
              refine ax_callV mv_Reader_119 ⟨Nat.le_of_ble_eq_true rfl, Nat.le_of_ble_eq_true rfl⟩ ⟨rfl, rfl⟩ [.ref (1000 + 15)] [.ref (1000 + 15), .ref 65] rfl rfl (rc_x_65 _) (Nat.le_of_ble_eq_true rfl) d_Reader_statement_302 305 rfl (zc_Reader_word 15 p7.2 (Nat.le_of_ble_eq_true rfl) (ok_b h (fun p8 h => ?_)))
              refine ax_ifb_eq 354 308 d_Reader_statement_305 rfl rfl (fun hc => ?_) (fun hc => ?_)
              · have h := ok_f (bf hc) h
                refine ax_aload_n 1 d_Reader_statement_354 rfl rfl 355 rfl ?_
                refine ax_callV mv_Reader_67 ⟨Nat.le_of_ble_eq_true rfl, Nat.le_of_ble_eq_true rfl⟩ ⟨rfl, rfl⟩ [] [.ref 65] rfl rfl (rc_x_65 _) (Nat.le_of_ble_eq_true rfl) d_Reader_statement_355 358 rfl (zc_Reader_unexpected p8.2 (ok_b h (fun p9 h => ?_)))
                exact ax_zret (b := p9.1) rfl d_Reader_statement_358 (hR (p9.1, p9.2) (ok_some h))
              · have h := ok_t hc h
                refine ax_aload_n 1 d_Reader_statement_308 rfl rfl 309 rfl ?_
                refine ax_aload_n 1 d_Reader_statement_309 rfl rfl 310 rfl ?_
                refine ok_tb h (fun t10 ht10 et10 h => ?_)
                refine ax_getR fl_Reader_12 x_65 rfl (ry_1 et10) d_Reader_statement_310 313 rfl ?_
                refine ax_getI fl_Reader_198 (sx_Table ht10) rfl d_Reader_statement_313 316 rfl ?_
                refine ax_bipush 16 d_Reader_statement_316 bp_16 318 rfl ?_
                refine ax_icmp_ge 325 321 d_Reader_statement_318 rfl rfl (fun hc => ?_) (fun hc => ?_)
                · have h := ok_t hc h
                  refine ax_iconst 0 d_Reader_statement_325 ic_0 326 rfl ?_
                  exact ax_sub [1, 0] rfl (c_Reader_statement_J326 (m.1 90 i1) false p8.2 (fun p hp => hR p hp) h)
                · have h := ok_f hc h
                  refine ax_iconst 1 d_Reader_statement_321 ic_1 322 rfl ?_
                  refine ax_goto 326 d_Reader_statement_322 rfl ?_
                  exact ax_sub [1, 0] rfl (c_Reader_statement_J326 (m.1 90 i1) true p8.2 (fun p hp => hR p hp) h)
            · have h := ok_t hc h
              refine ax_aload_n 1 d_Reader_statement_253 rfl rfl 254 rfl ?_
              refine ax_aload_n 1 d_Reader_statement_254 rfl rfl 255 rfl ?_
              refine ok_tb h (fun t11 ht11 et11 h => ?_)
              refine ax_getR fl_Reader_12 x_65 rfl (ry_1 et11) d_Reader_statement_255 258 rfl ?_
              refine ax_getI fl_Reader_198 (sx_Table ht11) rfl d_Reader_statement_258 261 rfl ?_
              refine ax_bipush 16 d_Reader_statement_261 bp_16 263 rfl ?_
              refine ax_icmp_ge 270 266 d_Reader_statement_263 rfl rfl (fun hc => ?_) (fun hc => ?_)
              · have h := ok_t hc h
                refine ax_iconst 0 d_Reader_statement_270 ic_0 271 rfl ?_
                exact ax_sub [1, 0] rfl (c_Reader_statement_J271 (m.1 90 i1) false p7.2 (fun p hp => hR p hp) h)
              · have h := ok_f hc h
                refine ax_iconst 1 d_Reader_statement_266 ic_1 267 rfl ?_
                refine ax_goto 271 d_Reader_statement_267 rfl ?_
                exact ax_sub [1, 0] rfl (c_Reader_statement_J271 (m.1 90 i1) true p7.2 (fun p hp => hR p hp) h)
          · have h := ok_t hc h
            refine ax_aload_n 1 d_Reader_statement_207 rfl rfl 208 rfl ?_
            refine ax_aload_n 1 d_Reader_statement_208 rfl rfl 209 rfl ?_
            refine ok_tb h (fun t12 ht12 et12 h => ?_)
            refine ax_getR fl_Reader_12 x_65 rfl (ry_1 et12) d_Reader_statement_209 212 rfl ?_
            refine ax_getI fl_Reader_191 (sx_Table ht12) rfl d_Reader_statement_212 215 rfl ?_
            refine ax_iconst (-1) d_Reader_statement_215 ic_m1 216 rfl ?_
            refine ax_icmp_ne 223 219 d_Reader_statement_216 rfl rfl (fun hc => ?_) (fun hc => ?_)
            · have h := ok_f hc h
              refine ax_iconst 0 d_Reader_statement_223 ic_0 224 rfl ?_
              exact ax_sub [1, 0] rfl (c_Reader_statement_J224 (m.1 90 i1) false p6.2 (fun p hp => hR p hp) h)
            · have h := ok_t hc h
              refine ax_iconst 1 d_Reader_statement_219 ic_1 220 rfl ?_
              refine ax_goto 224 d_Reader_statement_220 rfl ?_
              exact ax_sub [1, 0] rfl (c_Reader_statement_J224 (m.1 90 i1) true p6.2 (fun p hp => hR p hp) h)
        · have h := ok_t hc h
          refine ax_aload_n 1 d_Reader_statement_161 rfl rfl 162 rfl ?_
          refine ax_aload_n 1 d_Reader_statement_162 rfl rfl 163 rfl ?_
          refine ok_tb h (fun t13 ht13 et13 h => ?_)
          refine ax_getR fl_Reader_12 x_65 rfl (ry_1 et13) d_Reader_statement_163 166 rfl ?_
          refine ax_getI fl_Reader_184 (sx_Table ht13) rfl d_Reader_statement_166 169 rfl ?_
          refine ax_iconst 4 d_Reader_statement_169 ic_4 170 rfl ?_
          refine ax_icmp_ge 177 173 d_Reader_statement_170 rfl rfl (fun hc => ?_) (fun hc => ?_)
          · have h := ok_t hc h
            refine ax_iconst 0 d_Reader_statement_177 ic_0 178 rfl ?_
            exact ax_sub [1, 0] rfl (c_Reader_statement_J178 (m.1 90 i1) false p5.2 (fun p hp => hR p hp) h)
          · have h := ok_f hc h
            refine ax_iconst 1 d_Reader_statement_173 ic_1 174 rfl ?_
            refine ax_goto 178 d_Reader_statement_174 rfl ?_
            exact ax_sub [1, 0] rfl (c_Reader_statement_J178 (m.1 90 i1) true p5.2 (fun p hp => hR p hp) h)
      · have h := ok_t hc h
        refine ax_aload_n 1 d_Reader_statement_115 rfl rfl 116 rfl ?_
        refine ok_tb h (fun t14 ht14 et14 h => ?_)
        refine ax_getR fl_Reader_12 x_65 rfl (ry_1 et14) d_Reader_statement_116 119 rfl ?_
        refine ax_aload_n 1 d_Reader_statement_119 rfl rfl 120 rfl ?_
        refine ax_ldcS 6 (Nat.le_of_ble_eq_true rfl) rfl rfl d_Reader_statement_120 122 rfl ?_
        refine ax_callV mv_Reader_115 ⟨Nat.le_of_ble_eq_true rfl, Nat.le_of_ble_eq_true rfl⟩ ⟨rfl, rfl⟩ [.ref (1000 + 6)] [.ref (1000 + 6), .ref 65, .ref t14] rfl rfl (rc_x_65 _) (Nat.le_of_ble_eq_true rfl) d_Reader_statement_122 125 rfl (zc_Reader_isNext 6 p4.2 (Nat.le_of_ble_eq_true rfl) (ok_b h (fun r15 h => ?_)))
        refine ax_putZ (K := K) fl_Reader_177 (sx_Table ht14) (b2i_01 _) rfl rfl rfl (Nat.le_of_ble_eq_true rfl) d_Reader_statement_125 128 rfl h (fun m16 h => ?_)
        refine ax_aload_n 1 d_Reader_statement_128 rfl rfl 129 rfl ?_
        refine ax_ldcS 6 (Nat.le_of_ble_eq_true rfl) rfl rfl d_Reader_statement_129 131 rfl ?_
        refine ax_callV mv_Reader_119 ⟨Nat.le_of_ble_eq_true rfl, Nat.le_of_ble_eq_true rfl⟩ ⟨rfl, rfl⟩ [.ref (1000 + 6)] [.ref (1000 + 6), .ref 65] rfl rfl (rc_x_65 _) (Nat.le_of_ble_eq_true rfl) d_Reader_statement_131 134 rfl (zc_Reader_word 6 m16 (Nat.le_of_ble_eq_true rfl) (ok_b h (fun p17 h => ?_)))
        refine ax_ifb_ne 146 137 d_Reader_statement_134 rfl rfl (fun hc => ?_) (fun hc => ?_)
        · have h := ok_t hc h
          exact ax_sub [] rfl (c_Reader_statement_J146 p17.2 (fun p hp => hR p hp) h)
        · have h := ok_f (bf hc) h
          refine ax_aload_n 1 d_Reader_statement_137 rfl rfl 138 rfl ?_
          refine ax_ldcS 7 (Nat.le_of_ble_eq_true rfl) rfl rfl d_Reader_statement_138 140 rfl ?_
          refine ax_callV mv_Reader_149 ⟨Nat.le_of_ble_eq_true rfl, Nat.le_of_ble_eq_true rfl⟩ ⟨rfl, rfl⟩ [.ref (1000 + 7)] [.ref (1000 + 7), .ref 65] rfl rfl (rc_x_65 _) (Nat.le_of_ble_eq_true rfl) d_Reader_statement_140 143 rfl (zc_Reader_ask 7 p17.2 (Nat.le_of_ble_eq_true rfl) (ok_b h (fun p18 h => ?_)))
          refine ax_ifb_eq 150 146 d_Reader_statement_143 rfl rfl (fun hc => ?_) (fun hc => ?_)
          · have h := ok_f (bf hc) h
            refine ax_iconst 0 d_Reader_statement_150 ic_0 151 rfl ?_
            exact ax_zret (b := false) rfl d_Reader_statement_151 (hR (false, p18.2) (ok_some h))
          · have h := ok_t hc h
            exact ax_sub [] rfl (c_Reader_statement_J146 p18.2 (fun p hp => hR p hp) h)
    · have h := ok_t hc h
      refine ax_aload_n 1 d_Reader_statement_67 rfl rfl 68 rfl ?_
      refine ax_aload_n 1 d_Reader_statement_68 rfl rfl 69 rfl ?_
      refine ok_tb h (fun t19 ht19 et19 h => ?_)
      refine ax_getR fl_Reader_12 x_65 rfl (ry_1 et19) d_Reader_statement_69 72 rfl ?_
      refine ax_getR fl_Reader_164 (sx_Table ht19) rfl (ro_Table_1 ht19 _) d_Reader_statement_72 75 rfl ?_
      refine ax_iconst 2 d_Reader_statement_75 ic_2 76 rfl ?_
      refine ax_iaload (sa_Table_1 ht19) d_Reader_statement_76 77 rfl h (fun i20 h => ?_)
      refine ax_if_ne 84 80 d_Reader_statement_77 rfl rfl (fun hc => ?_) (fun hc => ?_)
      · have h := ok_f hc h
        refine ax_iconst 0 d_Reader_statement_84 ic_0 85 rfl ?_
        exact ax_sub [1, 0] rfl (c_Reader_statement_J85 (m.1 90 i1) false p3.2 (fun p hp => hR p hp) h)
      · have h := ok_t hc h
        refine ax_iconst 1 d_Reader_statement_80 ic_1 81 rfl ?_
        refine ax_goto 85 d_Reader_statement_81 rfl ?_
        exact ax_sub [1, 0] rfl (c_Reader_statement_J85 (m.1 90 i1) true p3.2 (fun p hp => hR p hp) h)
  · have h := ok_t hc h
    refine ax_aload_n 1 d_Reader_statement_19 rfl rfl 20 rfl ?_
    refine ax_aload_n 1 d_Reader_statement_20 rfl rfl 21 rfl ?_
    refine ok_tb h (fun t21 ht21 et21 h => ?_)
    refine ax_getR fl_Reader_12 x_65 rfl (ry_1 et21) d_Reader_statement_21 24 rfl ?_
    refine ax_getR fl_Reader_164 (sx_Table ht21) rfl (ro_Table_1 ht21 _) d_Reader_statement_24 27 rfl ?_
    refine ax_iconst 1 d_Reader_statement_27 ic_1 28 rfl ?_
    refine ax_iaload (sa_Table_1 ht21) d_Reader_statement_28 29 rfl h (fun i22 h => ?_)
    refine ax_if_ne 36 32 d_Reader_statement_29 rfl rfl (fun hc => ?_) (fun hc => ?_)
    · have h := ok_f hc h
      refine ax_iconst 0 d_Reader_statement_36 ic_0 37 rfl ?_
      exact ax_sub [1, 0] rfl (c_Reader_statement_J37 (m.1 90 i1) false p2.2 (fun p hp => hR p hp) h)
    · have h := ok_t hc h
      refine ax_iconst 1 d_Reader_statement_32 ic_1 33 rfl ?_
      refine ax_goto 37 d_Reader_statement_33 rfl ?_
      exact ax_sub [1, 0] rfl (c_Reader_statement_J37 (m.1 90 i1) true p2.2 (fun p hp => hR p hp) h)
set_option maxRecDepth 4000 in
theorem c_Reader_sign_J28  (m : zM)  {Q : Option Value → zM → Prop} {K : (Bool × zM) → Prop} (hR : ∀ p : Bool × zM, K (p) → Q (some (.int (b2i p.1))) p.2)  (h : ok (f_Reader_sign_J28  m) K) : AX gX s_Reader_sign 28 [(0, .ref 65)] [] m Q := by
  unfold f_Reader_sign_J28 at h
  refine ax_aload_n 0 d_Reader_sign_28 rfl rfl 29 rfl ?_
  refine ax_callV mv_Reader_67 ⟨Nat.le_of_ble_eq_true rfl, Nat.le_of_ble_eq_true rfl⟩ ⟨rfl, rfl⟩ [] [.ref 65] rfl rfl (rc_x_65 _) (Nat.le_of_ble_eq_true rfl) d_Reader_sign_29 32 rfl (zc_Reader_unexpected m (ok_b h (fun p4 h => ?_)))
  exact ax_zret (b := p4.1) rfl d_Reader_sign_32 (hR (p4.1, p4.2) (ok_some h))
set_option maxRecDepth 4000 in
theorem zc_Reader_sign (v1 : Int32) (m : zM)  {Q : Option Value → zM → Prop} (h : ok (f_Reader_sign v1 m) (fun p => Q (some (.int (b2i p.1))) p.2)) : zc gX s_Reader_sign [.ref 65, .int v1] m Q := by
  refine zc_of rfl (Nat.le_of_ble_eq_true rfl) ?_
  show AX gX s_Reader_sign 0 [(0, .ref 65), (1, .int v1)] [] m Q
  obtain ⟨K, hK⟩ : ∃ K : (Bool × zM) → Prop, K = (fun p : Bool × zM => Q (some (.int (b2i p.1))) p.2) := ⟨_, rfl⟩
  have hR : ∀ p : Bool × zM, K p → Q (some (.int (b2i p.1))) p.2 := fun p hp => by rw [hK] at hp; exact hp
  replace h : ok (f_Reader_sign v1 m) (fun p : Bool × zM => Q (some (.int (b2i p.1))) p.2) := h
  rw [← hK] at h
  unfold f_Reader_sign at h
  refine ax_aload_n 0 d_Reader_sign_0 rfl rfl 1 rfl ?_
  refine ax_getR fl_Reader_18 x_65 rfl (rx_65_1 _) d_Reader_sign_1 4 rfl ?_
  refine ax_aload_n 0 d_Reader_sign_4 rfl rfl 5 rfl ?_
  refine ax_getI fl_Reader_32 x_65 rfl d_Reader_sign_5 8 rfl ?_
  refine ax_iaload x_89 d_Reader_sign_8 9 rfl h (fun i1 h => ?_)
  refine ax_iconst 4 d_Reader_sign_9 ic_4 10 rfl ?_
  refine ax_icmp_ne 28 13 d_Reader_sign_10 rfl rfl (fun hc => ?_) (fun hc => ?_)
  · have h := ok_f hc h
    exact ax_sub [0] rfl (c_Reader_sign_J28 m (fun p hp => hR p hp) h)
  · have h := ok_t hc h
    refine ax_aload_n 0 d_Reader_sign_13 rfl rfl 14 rfl ?_
    refine ax_getR fl_Reader_28 x_65 rfl (rx_65_4 _) d_Reader_sign_14 17 rfl ?_
    refine ax_aload_n 0 d_Reader_sign_17 rfl rfl 18 rfl ?_
    refine ax_getI fl_Reader_32 x_65 rfl d_Reader_sign_18 21 rfl ?_
    refine ax_laload x_92 d_Reader_sign_21 22 rfl h (fun i2 h => ?_)
    refine ax_iload_n 1 d_Reader_sign_22 rfl rfl 23 rfl ?_
    refine ax_i2l d_Reader_sign_23 24 rfl ?_
    refine ax_lcmp d_Reader_sign_24 25 rfl ?_
    refine ax_if_eq 33 28 d_Reader_sign_25 rfl rfl (fun hc => ?_) (fun hc => ?_)
    · have h := ok_t hc h
      refine ax_aload_n 0 d_Reader_sign_33 rfl rfl 34 rfl ?_
      refine ax_dup d_Reader_sign_34 rfl 35 rfl ?_
      refine ax_getI fl_Reader_32 x_65 rfl d_Reader_sign_35 38 rfl ?_
      refine ax_iconst 1 d_Reader_sign_38 ic_1 39 rfl ?_
      refine ax_iadd d_Reader_sign_39 40 rfl ?_
      refine ax_putI (K := K) fl_Reader_32 x_65 rfl rfl rfl (Nat.le_of_ble_eq_true rfl) d_Reader_sign_40 43 rfl h (fun m3 h => ?_)
      refine ax_iconst 1 d_Reader_sign_43 ic_1 44 rfl ?_
      exact ax_zret (b := true) rfl d_Reader_sign_44 (hR (true, m3) (ok_some h))
    · have h := ok_f hc h
      exact ax_sub [0] rfl (c_Reader_sign_J28 m (fun p hp => hR p hp) h)
set_option maxRecDepth 4000 in
theorem c_Reader_read_J113 (v2 : Int32) (m : zM)  {Q : Option Value → zM → Prop} {K : (Int32 × zM) → Prop} (hR : ∀ p : Int32 × zM, K (p) → Q (some (.int p.1)) p.2)  (h : ok (f_Reader_read_J113 v2 m) K) : AX gX s_Reader_read 113 [(0, .ref 65), (2, .int v2)] [] m Q := by
  unfold f_Reader_read_J113 at h
  refine ax_iload_n 1 d_Reader_read_113 rfl rfl 114 rfl ?_
  refine ax_if_ne 124 117 d_Reader_read_114 rfl rfl (fun hc => ?_) (fun hc => ?_)
  · have h := ok_f hc h
    refine ax_iload_n 1 d_Reader_read_124 rfl rfl 125 rfl ?_
    exact ax_iret rfl d_Reader_read_125 (hR (v2, m) (ok_some h))
  · have h := ok_t hc h
    refine ax_aload_n 0 d_Reader_read_117 rfl rfl 118 rfl ?_
    refine ax_callV mv_Reader_67 ⟨Nat.le_of_ble_eq_true rfl, Nat.le_of_ble_eq_true rfl⟩ ⟨rfl, rfl⟩ [] [.ref 65] rfl rfl (rc_x_65 _) (Nat.le_of_ble_eq_true rfl) d_Reader_read_118 121 rfl (zc_Reader_unexpected m (ok_b h (fun p10 h => ?_)))
    refine ax_pop d_Reader_read_121 rfl 122 rfl ?_
    refine ax_iconst (-1) d_Reader_read_122 ic_m1 123 rfl ?_
    exact ax_iret rfl d_Reader_read_123 (hR ((-1), p10.2) (ok_some h))
set_option maxRecDepth 4000 in
theorem c_Reader_read_J55  (m : zM)  {Q : Option Value → zM → Prop} {K : (Int32 × zM) → Prop} (hR : ∀ p : Int32 × zM, K (p) → Q (some (.int p.1)) p.2)  (h : ok (f_Reader_read_J55  m) K) : AX gX s_Reader_read 55 [(0, .ref 65)] [] m Q := by
  unfold f_Reader_read_J55 at h
  refine ax_aload_n 0 d_Reader_read_55 rfl rfl 56 rfl ?_
  refine ax_iconst 5 d_Reader_read_56 ic_5 57 rfl ?_
  refine ax_aload_n 0 d_Reader_read_57 rfl rfl 58 rfl ?_
  refine ax_getR fl_Reader_22 x_65 rfl (rx_65_2 _) d_Reader_read_58 61 rfl ?_
  refine ax_aload_n 0 d_Reader_read_61 rfl rfl 62 rfl ?_
  refine ax_getI fl_Reader_32 x_65 rfl d_Reader_read_62 65 rfl ?_
  refine ax_iaload x_90 d_Reader_read_65 66 rfl h (fun i11 h => ?_)
  refine ax_callV mv_Reader_52 ⟨Nat.le_of_ble_eq_true rfl, Nat.le_of_ble_eq_true rfl⟩ ⟨rfl, rfl⟩ [.int 5, .int (m.1 90 i11)] [.int (m.1 90 i11), .int 5, .ref 65] rfl rfl (rc_x_65 _) (Nat.le_of_ble_eq_true rfl) d_Reader_read_66 69 rfl (zc_Reader_refuse 5 (m.1 90 i11) m ?_)
  refine ok_l (G := fun p => AX gX s_Reader_read 69 [(0, .ref 65)] [.int (b2i p.1)] p.2 Q) h (fun p12 h => ?_)
  refine ax_pop d_Reader_read_69 rfl 70 rfl ?_
  refine ax_iconst (-1) d_Reader_read_70 ic_m1 71 rfl ?_
  exact ax_iret rfl d_Reader_read_71 (hR ((-1), p12.2) (ok_some h))
set_option maxRecDepth 4000 in
theorem c_Reader_read_J93 (v2 : Int32) (v3 : Int32) (m : zM)  {Q : Option Value → zM → Prop} {K : ((Int32 × zM) ⊕ (Int32 × Int32 × zM)) → Prop} (hR : ∀ p : Int32 × zM, K (.inl p) → Q (some (.int p.1)) p.2) (h0 : ∀ s : Int32 × Int32 × zM, K (.inr s) → AX gX s_Reader_read 31 [(0, .ref 65), (2, .int s.1), (3, .int s.2.1)] [] s.2.2 Q) (h : ok (f_Reader_read_J93 v2 v3 m) K) : AX gX s_Reader_read 93 [(0, .ref 65), (2, .int v2), (3, .int v3)] [] m Q := by
  unfold f_Reader_read_J93 at h
  refine ax_aload_n 0 d_Reader_read_93 rfl rfl 94 rfl ?_
  refine ax_bipush 59 d_Reader_read_94 bp_59 96 rfl ?_
  refine ax_callV mv_Reader_63 ⟨Nat.le_of_ble_eq_true rfl, Nat.le_of_ble_eq_true rfl⟩ ⟨rfl, rfl⟩ [.int 59] [.int 59, .ref 65] rfl rfl (rc_x_65 _) (Nat.le_of_ble_eq_true rfl) d_Reader_read_96 99 rfl (zc_Reader_sign 59 m (ok_b h (fun p13 h => ?_)))
  refine ax_ifb_ne 104 102 d_Reader_read_99 rfl rfl (fun hc => ?_) (fun hc => ?_)
  · have h := ok_t hc h
    refine ax_iinc (ls1 := [(2, .int (v2 + 1)), (0, .ref 65), (3, .int v3)]) 1 1 d_Reader_read_104 rfl ic_1 (Nat.le_of_ble_eq_true rfl) rfl 107 rfl ?_
    refine ax_iinc (ls1 := [(3, .int (v3 + 1)), (2, .int (v2 + 1)), (0, .ref 65)]) 2 1 d_Reader_read_107 rfl ic_1 (Nat.le_of_ble_eq_true rfl) rfl 110 rfl ?_
    refine ax_goto 31 d_Reader_read_110 rfl ?_
    exact ax_sub [2, 1, 0] rfl (h0 ((v2 + 1), (v3 + 1), p13.2) (ok_some h))
  · have h := ok_f (bf hc) h
    refine ax_iconst (-1) d_Reader_read_102 ic_m1 103 rfl ?_
    exact ax_iret rfl d_Reader_read_103 (hR ((-1), p13.2) (ok_some h))
set_option maxRecDepth 4000 in
theorem c_Reader_read_B31 (v2 : Int32) (v3 : Int32) (m : zM)  {Q : Option Value → zM → Prop} {K : ((Int32 × zM) ⊕ (Int32 × Int32 × zM)) → Prop} (hR : ∀ p : Int32 × zM, K (.inl p) → Q (some (.int p.1)) p.2) (h0 : ∀ s : Int32 × Int32 × zM, K (.inr s) → AX gX s_Reader_read 31 [(0, .ref 65), (2, .int s.1), (3, .int s.2.1)] [] s.2.2 Q) (h : ok (f_Reader_read_B31 v2 v3 m) K) : AX gX s_Reader_read 31 [(0, .ref 65), (2, .int v2), (3, .int v3)] [] m Q := by
  unfold f_Reader_read_B31 at h
  refine ax_iload_n 2 d_Reader_read_31 rfl rfl 32 rfl ?_
  refine ax_bipush 60 d_Reader_read_32 bp_60 34 rfl ?_
  refine ax_icmp_gt 113 37 d_Reader_read_34 rfl rfl (fun hc => ?_) (fun hc => ?_)
  · have h := ok_t hc h
    exact ax_sub [0, 1] rfl (c_Reader_read_J113 v2 m (fun p hp => hR p hp) (ok_z h))
  · have h := ok_f hc h
    refine ax_aload_n 0 d_Reader_read_37 rfl rfl 38 rfl ?_
    refine ax_getR fl_Reader_18 x_65 rfl (rx_65_1 _) d_Reader_read_38 41 rfl ?_
    refine ax_aload_n 0 d_Reader_read_41 rfl rfl 42 rfl ?_
    refine ax_getI fl_Reader_32 x_65 rfl d_Reader_read_42 45 rfl ?_
    refine ax_iaload x_89 d_Reader_read_45 46 rfl h (fun i7 h => ?_)
    refine ax_if_eq 113 49 d_Reader_read_46 rfl rfl (fun hc => ?_) (fun hc => ?_)
    · have h := ok_t hc h
      exact ax_sub [0, 1] rfl (c_Reader_read_J113 v2 m (fun p hp => hR p hp) (ok_z h))
    · have h := ok_f hc h
      refine ax_iload_n 2 d_Reader_read_49 rfl rfl 50 rfl ?_
      refine ax_bipush 60 d_Reader_read_50 bp_60 52 rfl ?_
      refine ax_icmp_ne 72 55 d_Reader_read_52 rfl rfl (fun hc => ?_) (fun hc => ?_)
      · have h := ok_f hc h
        refine ax_iload_n 2 d_Reader_read_72 rfl rfl 73 rfl ?_
        refine ax_if_ne 86 76 d_Reader_read_73 rfl rfl (fun hc => ?_) (fun hc => ?_)
        · have h := ok_f hc h
          refine ax_aload_n 0 d_Reader_read_86 rfl rfl 87 rfl ?_
          refine ax_callV mv_Reader_60 ⟨Nat.le_of_ble_eq_true rfl, Nat.le_of_ble_eq_true rfl⟩ ⟨rfl, rfl⟩ [] [.ref 65] rfl rfl (rc_x_65 _) (Nat.le_of_ble_eq_true rfl) d_Reader_read_87 90 rfl (zc_Reader_statement m (ok_b h (fun p8 h => ?_)))
          refine ax_ifb_eq 102 93 d_Reader_read_90 rfl rfl (fun hc => ?_) (fun hc => ?_)
          · have h := ok_f (bf hc) h
            refine ax_iconst (-1) d_Reader_read_102 ic_m1 103 rfl ?_
            exact ax_iret rfl d_Reader_read_103 (hR ((-1), p8.2) (ok_some h))
          · have h := ok_t hc h
            exact ax_sub [0, 1, 2] rfl (c_Reader_read_J93 v2 v3 p8.2 (fun p hp => hR p hp) (fun s hs => h0 s hs) h)
        · have h := ok_t hc h
          refine ax_aload_n 0 d_Reader_read_76 rfl rfl 77 rfl ?_
          refine ax_callV mv_Reader_56 ⟨Nat.le_of_ble_eq_true rfl, Nat.le_of_ble_eq_true rfl⟩ ⟨rfl, rfl⟩ [] [.ref 65] rfl rfl (rc_x_65 _) (Nat.le_of_ble_eq_true rfl) d_Reader_read_77 80 rfl (zc_Reader_opening m (ok_b h (fun p9 h => ?_)))
          refine ax_ifb_eq 102 83 d_Reader_read_80 rfl rfl (fun hc => ?_) (fun hc => ?_)
          · have h := ok_f (bf hc) h
            refine ax_iconst (-1) d_Reader_read_102 ic_m1 103 rfl ?_
            exact ax_iret rfl d_Reader_read_103 (hR ((-1), p9.2) (ok_some h))
          · have h := ok_t hc h
            refine ax_goto 93 d_Reader_read_83 rfl ?_
            exact ax_sub [0, 1, 2] rfl (c_Reader_read_J93 v2 v3 p9.2 (fun p hp => hR p hp) (fun s hs => h0 s hs) h)
      · have h := ok_t hc h
        exact ax_sub [0] rfl (c_Reader_read_J55 m (fun p hp => hR p hp) (ok_z h))
theorem c_Reader_read_L31 (v2 : Int32) (v3 : Int32) (m : zM)  {Q : Option Value → zM → Prop} {K : (Int32 × zM) → Prop} (hR : ∀ p : Int32 × zM, K (p) → Q (some (.int p.1)) p.2)  (h : ok (f_Reader_read_L31 v2 v3 m) K) : AX gX s_Reader_read 31 [(0, .ref 65), (2, .int v2), (3, .int v3)] [] m Q :=
  ok_lp (K := K) (G := fun s : Int32 × Int32 × zM => AX gX s_Reader_read 31 [(0, .ref 65), (2, .int s.1), (3, .int s.2.1)] [] s.2.2 Q) (fun s h => c_Reader_read_B31 s.1 s.2.1 s.2.2  (fun p hp => hR p hp) (fun s hs => hs) h) FU (v2, v3, m) h
set_option maxRecDepth 4000 in
theorem zc_Reader_read (v1 : Nat) (m : zM) (hv1 : v1 ∈ li_Bytes) {Q : Option Value → zM → Prop} (h : ok (f_Reader_read v1 m) (fun p => Q (some (.int p.1)) p.2)) : zc gX s_Reader_read [.ref 65, .ref v1] m Q := by
  refine zc_of rfl (Nat.le_of_ble_eq_true rfl) ?_
  show AX gX s_Reader_read 0 [(0, .ref 65), (1, .ref v1)] [] m Q
  obtain ⟨K, hK⟩ : ∃ K : (Int32 × zM) → Prop, K = (fun p : Int32 × zM => Q (some (.int p.1)) p.2) := ⟨_, rfl⟩
  have hR : ∀ p : Int32 × zM, K p → Q (some (.int p.1)) p.2 := fun p hp => by rw [hK] at hp; exact hp
  replace h : ok (f_Reader_read v1 m) (fun p : Int32 × zM => Q (some (.int p.1)) p.2) := h
  rw [← hK] at h
  unfold f_Reader_read at h
  refine ax_aload_n 0 d_Reader_read_0 rfl rfl 1 rfl ?_
  refine ok_tb h (fun t1 ht1 et1 h => ?_)
  refine ax_getR fl_Reader_12 x_65 rfl (ry_1 et1) d_Reader_read_1 4 rfl ?_
  refine ax_callV mv_Reader_45 ⟨Nat.le_of_ble_eq_true rfl, Nat.le_of_ble_eq_true rfl⟩ ⟨rfl, rfl⟩ [] [.ref t1] rfl rfl (rc_Table ht1 _) (Nat.le_of_ble_eq_true rfl) d_Reader_read_4 7 rfl (zc_Table_clear t1 m ht1 (ok_b h (fun p2 h => ?_)))
  refine ax_aload_n 0 d_Reader_read_7 rfl rfl 8 rfl ?_
  refine ax_iconst 0 d_Reader_read_8 ic_0 9 rfl ?_
  refine ax_putI (K := K) fl_Reader_39 x_65 rfl rfl rfl (Nat.le_of_ble_eq_true rfl) d_Reader_read_9 12 rfl h (fun m3 h => ?_)
  refine ax_aload_n 0 d_Reader_read_12 rfl rfl 13 rfl ?_
  refine ax_iconst (-1) d_Reader_read_13 ic_m1 14 rfl ?_
  refine ax_putI (K := K) fl_Reader_42 x_65 rfl rfl rfl (Nat.le_of_ble_eq_true rfl) d_Reader_read_14 17 rfl h (fun m4 h => ?_)
  refine ax_aload_n 0 d_Reader_read_17 rfl rfl 18 rfl ?_
  refine ax_iconst 0 d_Reader_read_18 ic_0 19 rfl ?_
  refine ax_putI (K := K) fl_Reader_32 x_65 rfl rfl rfl (Nat.le_of_ble_eq_true rfl) d_Reader_read_19 22 rfl h (fun m5 h => ?_)
  refine ax_aload_n 0 d_Reader_read_22 rfl rfl 23 rfl ?_
  refine ax_aload_n 1 d_Reader_read_23 rfl rfl 24 rfl ?_
  refine ax_callV mv_Reader_48 ⟨Nat.le_of_ble_eq_true rfl, Nat.le_of_ble_eq_true rfl⟩ ⟨rfl, rfl⟩ [.ref v1] [.ref v1, .ref 65] rfl rfl (rc_x_65 _) (Nat.le_of_ble_eq_true rfl) d_Reader_read_24 27 rfl (zc_Reader_scan v1 m5 hv1 (ok_b h (fun p6 h => ?_)))
  refine ax_iconst 0 d_Reader_read_27 ic_0 28 rfl ?_
  refine ax_istore_n (ls1 := [(2, .int 0), (0, .ref 65), (1, .ref v1)]) d_Reader_read_28 rfl (Nat.le_of_ble_eq_true rfl) rfl 29 rfl ?_
  refine ax_iconst 0 d_Reader_read_29 ic_0 30 rfl ?_
  refine ax_istore_n (ls1 := [(3, .int 0), (2, .int 0), (0, .ref 65), (1, .ref v1)]) d_Reader_read_30 rfl (Nat.le_of_ble_eq_true rfl) rfl 31 rfl ?_
  exact ax_sub [2, 1, 0] rfl (c_Reader_read_L31 0 0 p6 (fun p hp => hR p hp) h)
set_option maxRecDepth 4000 in
theorem zc_Index_clear (v0 : Nat) (m : zM) (hv0 : v0 ∈ li_Index) {Q : Option Value → zM → Prop} (h : ok (f_Index_clear v0 m) (fun p => Q none p)) : zc gX s_Index_clear [.ref v0] m Q := by
  refine zc_of rfl (Nat.le_of_ble_eq_true rfl) ?_
  show AX gX s_Index_clear 0 [(0, .ref v0)] [] m Q
  obtain ⟨K, hK⟩ : ∃ K : zM → Prop, K = (fun p : zM => Q none p) := ⟨_, rfl⟩
  have hR : ∀ p : zM, K p → Q none p := fun p hp => by rw [hK] at hp; exact hp
  replace h : ok (f_Index_clear v0 m) (fun p : zM => Q none p) := h
  rw [← hK] at h
  unfold f_Index_clear at h
  refine ax_aload_n 0 d_Index_clear_0 rfl rfl 1 rfl ?_
  refine ax_getR fl_Index_15 (sx_Index hv0) rfl (ro_Index_1 hv0 _) d_Index_clear_1 4 rfl ?_
  refine ax_iconst (-1) d_Index_clear_4 ic_m1 5 rfl ?_
  refine ax_callS mv_Index_19 ⟨Nat.le_of_ble_eq_true rfl, Nat.le_of_ble_eq_true rfl⟩ ⟨rfl, rfl⟩ [.ref (v0 + 2), .int (-1)] [.int (-1), .ref (v0 + 2)] rfl rfl (Nat.le_of_ble_eq_true rfl) d_Index_clear_5 8 rfl (zc_Arrays_fill (v0 + 2) (-1) m (sa_Index_1z hv0) (ok_b h (fun p1 h => ?_)))
  exact ax_vret rfl d_Index_clear_8 (hR p1 (ok_some h))
set_option maxRecDepth 4000 in
theorem zc_PA_codeOf (v0 : Int32) (v1 : Int32) (v2 : Int32) (v3 : Int32) (m : zM)  {Q : Option Value → zM → Prop} (h : Q (some (.int (f_PA_codeOf v0 v1 v2 v3))) m) : zc gX s_PA_codeOf [.int v0, .int v1, .int v2, .int v3] m Q := by
  refine zc_of rfl (Nat.le_of_ble_eq_true rfl) ?_
  show AX gX s_PA_codeOf 0 [(0, .int v0), (1, .int v1), (2, .int v2), (3, .int v3)] [] m Q
  obtain ⟨K, hK⟩ : ∃ K : Int32 → Prop, K = (fun p : Int32 => Q (some (.int p)) m) := ⟨_, rfl⟩
  have hR : ∀ p : Int32, K p → Q (some (.int p)) m := fun p hp => by rw [hK] at hp; exact hp
  replace h : (fun p : Int32 => Q (some (.int p)) m) (f_PA_codeOf v0 v1 v2 v3) := h
  rw [← hK] at h
  unfold f_PA_codeOf at h
  refine ax_iload_n 0 d_PA_codeOf_0 rfl rfl 1 rfl ?_
  refine ax_bipush 7 d_PA_codeOf_1 bp_7 3 rfl ?_
  refine ax_imul d_PA_codeOf_3 4 rfl ?_
  refine ax_iload_n 1 d_PA_codeOf_4 rfl rfl 5 rfl ?_
  refine ax_iadd d_PA_codeOf_5 6 rfl ?_
  refine ax_iconst 1 d_PA_codeOf_6 ic_1 7 rfl ?_
  refine ax_iadd d_PA_codeOf_7 8 rfl ?_
  refine ax_bipush 7 d_PA_codeOf_8 bp_7 10 rfl ?_
  refine ax_imul d_PA_codeOf_10 11 rfl ?_
  refine ax_iload_n 2 d_PA_codeOf_11 rfl rfl 12 rfl ?_
  refine ax_iadd d_PA_codeOf_12 13 rfl ?_
  refine ax_iconst 1 d_PA_codeOf_13 ic_1 14 rfl ?_
  refine ax_iadd d_PA_codeOf_14 15 rfl ?_
  refine ax_bipush 7 d_PA_codeOf_15 bp_7 17 rfl ?_
  refine ax_imul d_PA_codeOf_17 18 rfl ?_
  refine ax_iload_n 3 d_PA_codeOf_18 rfl rfl 19 rfl ?_
  refine ax_iadd d_PA_codeOf_19 20 rfl ?_
  refine ax_iconst 1 d_PA_codeOf_20 ic_1 21 rfl ?_
  refine ax_iadd d_PA_codeOf_21 22 rfl ?_
  exact ax_iret rfl d_PA_codeOf_22 (hR (((((((((v0 * 7) + v1) + 1) * 7) + v2) + 1) * 7) + v3) + 1) h)
set_option maxRecDepth 4000 in
theorem c_World_begin_J15 (v0 : Nat) (v1 : Nat) (t0 : Nat) (t1 : Int32) (m : zM) (hv0 : v0 ∈ li_World) (hv1 : v1 ∈ li_Table) (ht0 : t0 ∈ li_World) {Q : Option Value → zM → Prop} {K : zM → Prop} (hR : ∀ p : zM, K (p) → Q none p)  (h : ok (f_World_begin_J15 v0 v1 t0 t1 m) K) : AX gX s_World_begin 15 [(0, .ref v0), (1, .ref v1)] [.int t1, .ref t0] m Q := by
  unfold f_World_begin_J15 at h
  refine ax_putI (K := K) fl_World_9 (sx_World ht0) rfl rfl rfl (Nat.le_of_ble_eq_true rfl) d_World_begin_15 18 rfl h (fun m2 h => ?_)
  refine ax_aload_n 0 d_World_begin_18 rfl rfl 19 rfl ?_
  refine ax_aload_n 1 d_World_begin_19 rfl rfl 20 rfl ?_
  refine ax_getI fl_World_33 (sx_Table hv1) rfl d_World_begin_20 23 rfl ?_
  refine ax_putI (K := K) fl_World_15 (sx_World hv0) rfl rfl rfl (Nat.le_of_ble_eq_true rfl) d_World_begin_23 26 rfl h (fun m3 h => ?_)
  refine ax_aload_n 0 d_World_begin_26 rfl rfl 27 rfl ?_
  refine ax_getR fl_World_18 (sx_World hv0) rfl (ro_World_2 hv0 _) d_World_begin_27 30 rfl ?_
  refine ax_iconst 0 d_World_begin_30 ic_0 31 rfl ?_
  refine ax_iconst (-1) d_World_begin_31 ic_m1 32 rfl ?_
  refine ax_iconst (-1) d_World_begin_32 ic_m1 33 rfl ?_
  refine ax_iconst (-1) d_World_begin_33 ic_m1 34 rfl ?_
  refine ax_callS mv_World_34 ⟨Nat.le_of_ble_eq_true rfl, Nat.le_of_ble_eq_true rfl⟩ ⟨rfl, rfl⟩ [.int 0, .int (-1), .int (-1), .int (-1)] [.int (-1), .int (-1), .int (-1), .int 0, .ref (v0 + 1)] rfl rfl (Nat.le_of_ble_eq_true rfl) d_World_begin_34 37 rfl (zc_PA_codeOf 0 (-1) (-1) (-1) m3 ?_)
  refine ax_callS mv_World_38 ⟨Nat.le_of_ble_eq_true rfl, Nat.le_of_ble_eq_true rfl⟩ ⟨rfl, rfl⟩ [.ref (v0 + 1), .int (f_PA_codeOf 0 (-1) (-1) (-1))] [.int (f_PA_codeOf 0 (-1) (-1) (-1)), .ref (v0 + 1)] rfl rfl (Nat.le_of_ble_eq_true rfl) d_World_begin_37 40 rfl (zc_Arrays_fill (v0 + 1) (f_PA_codeOf 0 (-1) (-1) (-1)) m3 (sa_World_2z hv0) (ok_b h (fun p4 h => ?_)))
  exact ax_vret rfl d_World_begin_40 (hR p4 (ok_some h))
set_option maxRecDepth 4000 in
theorem zc_World_begin (v0 : Nat) (v1 : Nat) (m : zM) (hv0 : v0 ∈ li_World) (hv1 : v1 ∈ li_Table) {Q : Option Value → zM → Prop} (h : ok (f_World_begin v0 v1 m) (fun p => Q none p)) : zc gX s_World_begin [.ref v0, .ref v1] m Q := by
  refine zc_of rfl (Nat.le_of_ble_eq_true rfl) ?_
  show AX gX s_World_begin 0 [(0, .ref v0), (1, .ref v1)] [] m Q
  obtain ⟨K, hK⟩ : ∃ K : zM → Prop, K = (fun p : zM => Q none p) := ⟨_, rfl⟩
  have hR : ∀ p : zM, K p → Q none p := fun p hp => by rw [hK] at hp; exact hp
  replace h : ok (f_World_begin v0 v1 m) (fun p : zM => Q none p) := h
  rw [← hK] at h
  unfold f_World_begin at h
  refine ax_aload_n 0 d_World_begin_0 rfl rfl 1 rfl ?_
  refine ax_aload_n 1 d_World_begin_1 rfl rfl 2 rfl ?_
  refine ax_getR fl_World_28 (sx_Table hv1) rfl (ro_Table_1 hv1 _) d_World_begin_2 5 rfl ?_
  refine ax_iconst 1 d_World_begin_5 ic_1 6 rfl ?_
  refine ax_iaload (sa_Table_1 hv1) d_World_begin_6 7 rfl h (fun i1 h => ?_)
  refine ax_if_le 14 10 d_World_begin_7 rfl rfl (fun hc => ?_) (fun hc => ?_)
  · have h := ok_t hc h
    refine ax_iconst (-1) d_World_begin_14 ic_m1 15 rfl ?_
    exact ax_sub [0, 1] rfl (c_World_begin_J15 v0 v1 v0 (-1) m hv0 hv1 hv0 (fun p hp => hR p hp) h)
  · have h := ok_f hc h
    refine ax_iconst 0 d_World_begin_10 ic_0 11 rfl ?_
    refine ax_goto 15 d_World_begin_11 rfl ?_
    exact ax_sub [0, 1] rfl (c_World_begin_J15 v0 v1 v0 0 m hv0 hv1 hv0 (fun p hp => hR p hp) h)
set_option maxRecDepth 4000 in
theorem c_World_keyOf_B11 (v0 : Nat) (v1 : Nat) (v2 : Int64) (v4 : Int32) (m : zM) (hv0 : v0 ∈ li_World) (hv1 : gX.1[v1]? = some (.inr (0, zlen gX v1))) {Q : Option Value → zM → Prop} {K : ((Int64) ⊕ (Int64 × Int32)) → Prop} (hR : ∀ p : Int64, K (.inl p) → Q (some (.long p)) m) (h0 : ∀ s : Int64 × Int32, K (.inr s) → AX gX s_World_keyOf 11 [(0, .ref v0), (1, .ref v1), (2, .long s.1), (4, .int s.2)] [] m Q) (h : ok (f_World_keyOf_B11 v0 v1 v2 v4 m) K) : AX gX s_World_keyOf 11 [(0, .ref v0), (1, .ref v1), (2, .long v2), (4, .int v4)] [] m Q := by
  unfold f_World_keyOf_B11 at h
  refine ax_iload 3 d_World_keyOf_11 rfl 13 rfl ?_
  refine ax_aload_n 0 d_World_keyOf_13 rfl rfl 14 rfl ?_
  refine ax_getI fl_World_15 (sx_World hv0) rfl d_World_keyOf_14 17 rfl ?_
  refine ax_icmp_ge 38 20 d_World_keyOf_17 rfl rfl (fun hc => ?_) (fun hc => ?_)
  · have h := ok_t hc h
    refine ax_lload_n 2 d_World_keyOf_38 rfl rfl 39 rfl ?_
    exact ax_lret rfl d_World_keyOf_39 (hR v2 (ok_some h))
  · have h := ok_f hc h
    refine ax_lload_n 2 d_World_keyOf_20 rfl rfl 21 rfl ?_
    refine ax_ldc2 2058 wk_World_50 d_World_keyOf_21 24 rfl ?_
    refine ax_lmul d_World_keyOf_24 25 rfl ?_
    refine ax_aload_n 1 d_World_keyOf_25 rfl rfl 26 rfl ?_
    refine ax_iload 3 d_World_keyOf_26 rfl 28 rfl ?_
    refine ax_iaload hv1 d_World_keyOf_28 29 rfl h (fun i1 h => ?_)
    refine ax_i2l d_World_keyOf_29 30 rfl ?_
    refine ax_ladd d_World_keyOf_30 31 rfl ?_
    refine ax_lstore_n (ls1 := [(2, .long ((v2 * 2058) + ((m.1 v1 i1).toInt64))), (0, .ref v0), (1, .ref v1), (4, .int v4)]) d_World_keyOf_31 rfl (Nat.le_of_ble_eq_true rfl) rfl 32 rfl ?_
    refine ax_iinc (ls1 := [(4, .int (v4 + 1)), (2, .long ((v2 * 2058) + ((m.1 v1 i1).toInt64))), (0, .ref v0), (1, .ref v1)]) 3 1 d_World_keyOf_32 rfl ic_1 (Nat.le_of_ble_eq_true rfl) rfl 35 rfl ?_
    refine ax_goto 11 d_World_keyOf_35 rfl ?_
    exact ax_sub [2, 3, 1, 0] rfl (h0 (((v2 * 2058) + ((m.1 v1 i1).toInt64)), (v4 + 1)) (ok_some h))
theorem c_World_keyOf_L11 (v0 : Nat) (v1 : Nat) (v2 : Int64) (v4 : Int32) (m : zM) (hv0 : v0 ∈ li_World) (hv1 : gX.1[v1]? = some (.inr (0, zlen gX v1))) {Q : Option Value → zM → Prop} {K : Int64 → Prop} (hR : ∀ p : Int64, K (p) → Q (some (.long p)) m)  (h : ok (f_World_keyOf_L11 v0 v1 v2 v4 m) K) : AX gX s_World_keyOf 11 [(0, .ref v0), (1, .ref v1), (2, .long v2), (4, .int v4)] [] m Q :=
  ok_lp (K := K) (G := fun s : Int64 × Int32 => AX gX s_World_keyOf 11 [(0, .ref v0), (1, .ref v1), (2, .long s.1), (4, .int s.2)] [] m Q) (fun s h => c_World_keyOf_B11 v0 v1 s.1 s.2 m hv0 hv1 (fun p hp => hR p hp) (fun s hs => hs) h) FU (v2, v4) h
set_option maxRecDepth 4000 in
theorem zc_World_keyOf (v0 : Nat) (v1 : Nat) (m : zM) (hv0 : v0 ∈ li_World) (hv1 : gX.1[v1]? = some (.inr (0, zlen gX v1))) {Q : Option Value → zM → Prop} (h : ok (f_World_keyOf v0 v1 m) (fun p => Q (some (.long p)) m)) : zc gX s_World_keyOf [.ref v0, .ref v1] m Q := by
  refine zc_of rfl (Nat.le_of_ble_eq_true rfl) ?_
  show AX gX s_World_keyOf 0 [(0, .ref v0), (1, .ref v1)] [] m Q
  obtain ⟨K, hK⟩ : ∃ K : Int64 → Prop, K = (fun p : Int64 => Q (some (.long p)) m) := ⟨_, rfl⟩
  have hR : ∀ p : Int64, K p → Q (some (.long p)) m := fun p hp => by rw [hK] at hp; exact hp
  replace h : ok (f_World_keyOf v0 v1 m) (fun p : Int64 => Q (some (.long p)) m) := h
  rw [← hK] at h
  unfold f_World_keyOf at h
  refine ax_aload_n 0 d_World_keyOf_0 rfl rfl 1 rfl ?_
  refine ax_getI fl_World_9 (sx_World hv0) rfl d_World_keyOf_1 4 rfl ?_
  refine ax_iconst 1 d_World_keyOf_4 ic_1 5 rfl ?_
  refine ax_iadd d_World_keyOf_5 6 rfl ?_
  refine ax_i2l d_World_keyOf_6 7 rfl ?_
  refine ax_lstore_n (ls1 := [(2, .long (((m.1 v0 0) + 1).toInt64)), (0, .ref v0), (1, .ref v1)]) d_World_keyOf_7 rfl (Nat.le_of_ble_eq_true rfl) rfl 8 rfl ?_
  refine ax_iconst 0 d_World_keyOf_8 ic_0 9 rfl ?_
  refine ax_istore (ls1 := [(4, .int 0), (2, .long (((m.1 v0 0) + 1).toInt64)), (0, .ref v0), (1, .ref v1)]) d_World_keyOf_9 (Nat.le_of_ble_eq_true rfl) rfl 11 rfl ?_
  exact ax_sub [2, 3, 1, 0] rfl (c_World_keyOf_L11 v0 v1 (((m.1 v0 0) + 1).toInt64) 0 m hv0 hv1 (fun p hp => hR p hp) h)
set_option maxRecDepth 4000 in
theorem c_World_foldedKey_J91 (v0 : Nat) (m : zM) (hv0 : v0 ∈ li_World) {Q : Option Value → zM → Prop} {K : (Int64 × zM) → Prop} (hR : ∀ p : Int64 × zM, K (p) → Q (some (.long p.1)) p.2)  (h : ok (f_World_foldedKey_J91 v0 m) K) : AX gX s_World_foldedKey 91 [(0, .ref v0)] [] m Q := by
  unfold f_World_foldedKey_J91 at h
  refine ax_aload_n 0 d_World_foldedKey_91 rfl rfl 92 rfl ?_
  refine ax_aload_n 0 d_World_foldedKey_92 rfl rfl 93 rfl ?_
  refine ax_getR fl_World_25 (sx_World hv0) rfl (ro_World_4 hv0 _) d_World_foldedKey_93 96 rfl ?_
  refine ax_callV mv_World_52 ⟨Nat.le_of_ble_eq_true rfl, Nat.le_of_ble_eq_true rfl⟩ ⟨rfl, rfl⟩ [.ref (v0 + 3)] [.ref (v0 + 3), .ref v0] rfl rfl (rc_World hv0 _) (Nat.le_of_ble_eq_true rfl) d_World_foldedKey_96 99 rfl (zc_World_keyOf v0 (v0 + 3) m hv0 (sa_World_4z hv0) (ok_b h (fun r1 h => ?_)))
  exact ax_lret rfl d_World_foldedKey_99 (hR (r1, m) (ok_some h))
set_option maxRecDepth 4000 in
theorem c_World_foldedKey_J66 (v0 : Nat) (v1 : Int32) (v2 : Int32) (m : zM) (hv0 : v0 ∈ li_World) {Q : Option Value → zM → Prop} {K : ((Int64 × zM) ⊕ (Int32 × zM)) → Prop} (hR : ∀ p : Int64 × zM, K (.inl p) → Q (some (.long p.1)) p.2) (h0 : ∀ s : Int32 × zM, K (.inr s) → AX gX s_World_foldedKey 2 [(0, .ref v0), (1, .int s.1)] [] s.2 Q) (h : ok (f_World_foldedKey_J66 v0 v1 v2 m) K) : AX gX s_World_foldedKey 66 [(0, .ref v0), (1, .int v1), (2, .int v2)] [] m Q := by
  unfold f_World_foldedKey_J66 at h
  refine ax_aload_n 0 d_World_foldedKey_66 rfl rfl 67 rfl ?_
  refine ax_getR fl_World_22 (sx_World hv0) rfl (ro_World_3 hv0 _) d_World_foldedKey_67 70 rfl ?_
  refine ax_iload_n 1 d_World_foldedKey_70 rfl rfl 71 rfl ?_
  refine ax_iload_n 2 d_World_foldedKey_71 rfl rfl 72 rfl ?_
  refine ax_iastore (sa_World_3 hv0) d_World_foldedKey_72 73 rfl h (fun i6 m7 h => ?_)
  refine ax_aload_n 0 d_World_foldedKey_73 rfl rfl 74 rfl ?_
  refine ax_getR fl_World_25 (sx_World hv0) rfl (ro_World_4 hv0 _) d_World_foldedKey_74 77 rfl ?_
  refine ax_iload_n 2 d_World_foldedKey_77 rfl rfl 78 rfl ?_
  refine ax_aload_n 0 d_World_foldedKey_78 rfl rfl 79 rfl ?_
  refine ax_getR fl_World_18 (sx_World hv0) rfl (ro_World_2 hv0 _) d_World_foldedKey_79 82 rfl ?_
  refine ax_iload_n 1 d_World_foldedKey_82 rfl rfl 83 rfl ?_
  refine ax_iaload (sa_World_2 hv0) d_World_foldedKey_83 84 rfl h (fun i8 h => ?_)
  refine ax_iastore (sa_World_4 hv0) d_World_foldedKey_84 85 rfl h (fun i9 m10 h => ?_)
  refine ax_iinc (ls1 := [(1, .int (v1 + 1)), (0, .ref v0), (2, .int v2)]) 1 1 d_World_foldedKey_85 rfl ic_1 (Nat.le_of_ble_eq_true rfl) rfl 88 rfl ?_
  refine ax_goto 2 d_World_foldedKey_88 rfl ?_
  exact ax_sub [1, 0] rfl (h0 ((v1 + 1), m10) (ok_some h))
set_option maxRecDepth 4000 in
theorem c_World_foldedKey_J60 (v0 : Nat) (v1 : Int32) (v2 : Int32) (v3 : Int32) (m : zM) (hv0 : v0 ∈ li_World) {Q : Option Value → zM → Prop} {K : (((Int64 × zM) ⊕ (Int32 × zM)) ⊕ (Int32 × Int32)) → Prop} (hR : ∀ p : Int64 × zM, K (.inl (.inl p)) → Q (some (.long p.1)) p.2) (h0 : ∀ s : Int32 × zM, K (.inl (.inr s)) → AX gX s_World_foldedKey 2 [(0, .ref v0), (1, .int s.1)] [] s.2 Q) (h1 : ∀ s : Int32 × Int32, K (.inr s) → AX gX s_World_foldedKey 14 [(0, .ref v0), (1, .int v1), (2, .int s.1), (3, .int s.2)] [] m Q) (h : ok (f_World_foldedKey_J60 v0 v1 v2 v3 m) K) : AX gX s_World_foldedKey 60 [(0, .ref v0), (1, .int v1), (2, .int v2), (3, .int v3)] [] m Q := by
  unfold f_World_foldedKey_J60 at h
  refine ax_iinc (ls1 := [(3, .int (v3 + 1)), (0, .ref v0), (1, .int v1), (2, .int v2)]) 3 1 d_World_foldedKey_60 rfl ic_1 (Nat.le_of_ble_eq_true rfl) rfl 63 rfl ?_
  refine ax_goto 14 d_World_foldedKey_63 rfl ?_
  exact ax_sub [1, 2, 3, 0] rfl (h1 (v2, (v3 + 1)) (ok_some h))
set_option maxRecDepth 4000 in
theorem c_World_foldedKey_J57 (v0 : Nat) (v1 : Int32) (v2 : Int32) (v3 : Int32) (m : zM) (hv0 : v0 ∈ li_World) {Q : Option Value → zM → Prop} {K : (((Int64 × zM) ⊕ (Int32 × zM)) ⊕ (Int32 × Int32)) → Prop} (hR : ∀ p : Int64 × zM, K (.inl (.inl p)) → Q (some (.long p.1)) p.2) (h0 : ∀ s : Int32 × zM, K (.inl (.inr s)) → AX gX s_World_foldedKey 2 [(0, .ref v0), (1, .int s.1)] [] s.2 Q) (h1 : ∀ s : Int32 × Int32, K (.inr s) → AX gX s_World_foldedKey 14 [(0, .ref v0), (1, .int v1), (2, .int s.1), (3, .int s.2)] [] m Q) (h : ok (f_World_foldedKey_J57 v0 v1 v2 v3 m) K) : AX gX s_World_foldedKey 57 [(0, .ref v0), (1, .int v1), (2, .int v2), (3, .int v3)] [] m Q := by
  unfold f_World_foldedKey_J57 at h
  refine ax_iinc (ls1 := [(2, .int (v2 + 1)), (0, .ref v0), (1, .int v1), (3, .int v3)]) 2 1 d_World_foldedKey_57 rfl ic_1 (Nat.le_of_ble_eq_true rfl) rfl 60 rfl ?_
  exact ax_sub [1, 2, 0, 3] rfl (c_World_foldedKey_J60 v0 v1 (v2 + 1) v3 m hv0 (fun p hp => hR p hp) (fun s hs => h0 s hs) (fun s hs => h1 s hs) h)
set_option maxRecDepth 4000 in
theorem c_World_foldedKey_B14 (v0 : Nat) (v1 : Int32) (v2 : Int32) (v3 : Int32) (m : zM) (hv0 : v0 ∈ li_World) {Q : Option Value → zM → Prop} {K : (((Int64 × zM) ⊕ (Int32 × zM)) ⊕ (Int32 × Int32)) → Prop} (hR : ∀ p : Int64 × zM, K (.inl (.inl p)) → Q (some (.long p.1)) p.2) (h0 : ∀ s : Int32 × zM, K (.inl (.inr s)) → AX gX s_World_foldedKey 2 [(0, .ref v0), (1, .int s.1)] [] s.2 Q) (h1 : ∀ s : Int32 × Int32, K (.inr s) → AX gX s_World_foldedKey 14 [(0, .ref v0), (1, .int v1), (2, .int s.1), (3, .int s.2)] [] m Q) (h : ok (f_World_foldedKey_B14 v0 v1 v2 v3 m) K) : AX gX s_World_foldedKey 14 [(0, .ref v0), (1, .int v1), (2, .int v2), (3, .int v3)] [] m Q := by
  unfold f_World_foldedKey_B14 at h
  refine ax_iload_n 3 d_World_foldedKey_14 rfl rfl 15 rfl ?_
  refine ax_aload_n 0 d_World_foldedKey_15 rfl rfl 16 rfl ?_
  refine ax_getI fl_World_15 (sx_World hv0) rfl d_World_foldedKey_16 19 rfl ?_
  refine ax_icmp_ge 66 22 d_World_foldedKey_19 rfl rfl (fun hc => ?_) (fun hc => ?_)
  · have h := ok_t hc h
    exact ax_sub [0, 1, 2] rfl (c_World_foldedKey_J66 v0 v1 v2 m hv0 (fun p hp => hR p hp) (fun s hs => h0 s hs) (ok_z h))
  · have h := ok_f hc h
    refine ax_aload_n 0 d_World_foldedKey_22 rfl rfl 23 rfl ?_
    refine ax_getR fl_World_18 (sx_World hv0) rfl (ro_World_2 hv0 _) d_World_foldedKey_23 26 rfl ?_
    refine ax_iload_n 3 d_World_foldedKey_26 rfl rfl 27 rfl ?_
    refine ax_iaload (sa_World_2 hv0) d_World_foldedKey_27 28 rfl h (fun i2 h => ?_)
    refine ax_aload_n 0 d_World_foldedKey_28 rfl rfl 29 rfl ?_
    refine ax_getR fl_World_18 (sx_World hv0) rfl (ro_World_2 hv0 _) d_World_foldedKey_29 32 rfl ?_
    refine ax_iload_n 1 d_World_foldedKey_32 rfl rfl 33 rfl ?_
    refine ax_iaload (sa_World_2 hv0) d_World_foldedKey_33 34 rfl h (fun i3 h => ?_)
    refine ax_icmp_lt 57 37 d_World_foldedKey_34 rfl rfl (fun hc => ?_) (fun hc => ?_)
    · have h := ok_t hc h
      exact ax_sub [0, 1, 2, 3] rfl (c_World_foldedKey_J57 v0 v1 v2 v3 m hv0 (fun p hp => hR p hp) (fun s hs => h0 s hs) (fun s hs => h1 s hs) h)
    · have h := ok_f hc h
      refine ax_aload_n 0 d_World_foldedKey_37 rfl rfl 38 rfl ?_
      refine ax_getR fl_World_18 (sx_World hv0) rfl (ro_World_2 hv0 _) d_World_foldedKey_38 41 rfl ?_
      refine ax_iload_n 3 d_World_foldedKey_41 rfl rfl 42 rfl ?_
      refine ax_iaload (sa_World_2 hv0) d_World_foldedKey_42 43 rfl h (fun i4 h => ?_)
      refine ax_aload_n 0 d_World_foldedKey_43 rfl rfl 44 rfl ?_
      refine ax_getR fl_World_18 (sx_World hv0) rfl (ro_World_2 hv0 _) d_World_foldedKey_44 47 rfl ?_
      refine ax_iload_n 1 d_World_foldedKey_47 rfl rfl 48 rfl ?_
      refine ax_iaload (sa_World_2 hv0) d_World_foldedKey_48 49 rfl h (fun i5 h => ?_)
      refine ax_icmp_ne 60 52 d_World_foldedKey_49 rfl rfl (fun hc => ?_) (fun hc => ?_)
      · have h := ok_f hc h
        exact ax_sub [0, 1, 2, 3] rfl (c_World_foldedKey_J60 v0 v1 v2 v3 m hv0 (fun p hp => hR p hp) (fun s hs => h0 s hs) (fun s hs => h1 s hs) h)
      · have h := ok_t hc h
        refine ax_iload_n 3 d_World_foldedKey_52 rfl rfl 53 rfl ?_
        refine ax_iload_n 1 d_World_foldedKey_53 rfl rfl 54 rfl ?_
        refine ax_icmp_ge 60 57 d_World_foldedKey_54 rfl rfl (fun hc => ?_) (fun hc => ?_)
        · have h := ok_t hc h
          exact ax_sub [0, 1, 2, 3] rfl (c_World_foldedKey_J60 v0 v1 v2 v3 m hv0 (fun p hp => hR p hp) (fun s hs => h0 s hs) (fun s hs => h1 s hs) h)
        · have h := ok_f hc h
          exact ax_sub [0, 1, 2, 3] rfl (c_World_foldedKey_J57 v0 v1 v2 v3 m hv0 (fun p hp => hR p hp) (fun s hs => h0 s hs) (fun s hs => h1 s hs) h)
theorem c_World_foldedKey_L14 (v0 : Nat) (v1 : Int32) (v2 : Int32) (v3 : Int32) (m : zM) (hv0 : v0 ∈ li_World) {Q : Option Value → zM → Prop} {K : ((Int64 × zM) ⊕ (Int32 × zM)) → Prop} (hR : ∀ p : Int64 × zM, K (.inl p) → Q (some (.long p.1)) p.2) (h0 : ∀ s : Int32 × zM, K (.inr s) → AX gX s_World_foldedKey 2 [(0, .ref v0), (1, .int s.1)] [] s.2 Q) (h : ok (f_World_foldedKey_L14 v0 v1 v2 v3 m) K) : AX gX s_World_foldedKey 14 [(0, .ref v0), (1, .int v1), (2, .int v2), (3, .int v3)] [] m Q :=
  ok_lp (K := K) (G := fun s : Int32 × Int32 => AX gX s_World_foldedKey 14 [(0, .ref v0), (1, .int v1), (2, .int s.1), (3, .int s.2)] [] m Q) (fun s h => c_World_foldedKey_B14 v0 v1 s.1 s.2 m hv0 (fun p hp => hR p hp) (fun s hs => h0 s hs) (fun s hs => hs) h) FU (v2, v3) h
set_option maxRecDepth 4000 in
theorem c_World_foldedKey_B2 (v0 : Nat) (v1 : Int32) (m : zM) (hv0 : v0 ∈ li_World) {Q : Option Value → zM → Prop} {K : ((Int64 × zM) ⊕ (Int32 × zM)) → Prop} (hR : ∀ p : Int64 × zM, K (.inl p) → Q (some (.long p.1)) p.2) (h0 : ∀ s : Int32 × zM, K (.inr s) → AX gX s_World_foldedKey 2 [(0, .ref v0), (1, .int s.1)] [] s.2 Q) (h : ok (f_World_foldedKey_B2 v0 v1 m) K) : AX gX s_World_foldedKey 2 [(0, .ref v0), (1, .int v1)] [] m Q := by
  unfold f_World_foldedKey_B2 at h
  refine ax_iload_n 1 d_World_foldedKey_2 rfl rfl 3 rfl ?_
  refine ax_aload_n 0 d_World_foldedKey_3 rfl rfl 4 rfl ?_
  refine ax_getI fl_World_15 (sx_World hv0) rfl d_World_foldedKey_4 7 rfl ?_
  refine ax_icmp_ge 91 10 d_World_foldedKey_7 rfl rfl (fun hc => ?_) (fun hc => ?_)
  · have h := ok_t hc h
    exact ax_sub [0] rfl (c_World_foldedKey_J91 v0 m hv0 (fun p hp => hR p hp) (ok_z h))
  · have h := ok_f hc h
    refine ax_iconst 0 d_World_foldedKey_10 ic_0 11 rfl ?_
    refine ax_istore_n (ls1 := [(2, .int 0), (0, .ref v0), (1, .int v1)]) d_World_foldedKey_11 rfl (Nat.le_of_ble_eq_true rfl) rfl 12 rfl ?_
    refine ax_iconst 0 d_World_foldedKey_12 ic_0 13 rfl ?_
    refine ax_istore_n (ls1 := [(3, .int 0), (2, .int 0), (0, .ref v0), (1, .int v1)]) d_World_foldedKey_13 rfl (Nat.le_of_ble_eq_true rfl) rfl 14 rfl ?_
    exact ax_sub [2, 3, 1, 0] rfl (c_World_foldedKey_L14 v0 v1 0 0 m hv0 (fun p hp => hR p hp) (fun s hs => h0 s hs) h)
theorem c_World_foldedKey_L2 (v0 : Nat) (v1 : Int32) (m : zM) (hv0 : v0 ∈ li_World) {Q : Option Value → zM → Prop} {K : (Int64 × zM) → Prop} (hR : ∀ p : Int64 × zM, K (p) → Q (some (.long p.1)) p.2)  (h : ok (f_World_foldedKey_L2 v0 v1 m) K) : AX gX s_World_foldedKey 2 [(0, .ref v0), (1, .int v1)] [] m Q :=
  ok_lp (K := K) (G := fun s : Int32 × zM => AX gX s_World_foldedKey 2 [(0, .ref v0), (1, .int s.1)] [] s.2 Q) (fun s h => c_World_foldedKey_B2 v0 s.1 s.2 hv0 (fun p hp => hR p hp) (fun s hs => hs) h) FU (v1, m) h
set_option maxRecDepth 4000 in
theorem zc_World_foldedKey (v0 : Nat) (m : zM) (hv0 : v0 ∈ li_World) {Q : Option Value → zM → Prop} (h : ok (f_World_foldedKey v0 m) (fun p => Q (some (.long p.1)) p.2)) : zc gX s_World_foldedKey [.ref v0] m Q := by
  refine zc_of rfl (Nat.le_of_ble_eq_true rfl) ?_
  show AX gX s_World_foldedKey 0 [(0, .ref v0)] [] m Q
  obtain ⟨K, hK⟩ : ∃ K : (Int64 × zM) → Prop, K = (fun p : Int64 × zM => Q (some (.long p.1)) p.2) := ⟨_, rfl⟩
  have hR : ∀ p : Int64 × zM, K p → Q (some (.long p.1)) p.2 := fun p hp => by rw [hK] at hp; exact hp
  replace h : ok (f_World_foldedKey v0 m) (fun p : Int64 × zM => Q (some (.long p.1)) p.2) := h
  rw [← hK] at h
  unfold f_World_foldedKey at h
  refine ax_iconst 0 d_World_foldedKey_0 ic_0 1 rfl ?_
  refine ax_istore_n (ls1 := [(1, .int 0), (0, .ref v0)]) d_World_foldedKey_1 rfl (Nat.le_of_ble_eq_true rfl) rfl 2 rfl ?_
  exact ax_sub [1, 0] rfl (c_World_foldedKey_L2 v0 0 m hv0 (fun p hp => hR p hp) h)
set_option maxRecDepth 4000 in
theorem c_Index_slotOf_B13 (v0 : Nat) (v1 : Int64) (v3 : Int32) (v4 : Int32) (m : zM) (hv0 : v0 ∈ li_Index) {Q : Option Value → zM → Prop} {K : ((Int32) ⊕ (Int32)) → Prop} (hR : ∀ p : Int32, K (.inl p) → Q (some (.int p)) m) (h0 : ∀ s : Int32, K (.inr s) → AX gX s_Index_slotOf 13 [(0, .ref v0), (1, .long v1), (3, .int v3), (4, .int s)] [] m Q) (h : ok (f_Index_slotOf_B13 v0 v1 v3 v4 m) K) : AX gX s_Index_slotOf 13 [(0, .ref v0), (1, .long v1), (3, .int v3), (4, .int v4)] [] m Q := by
  unfold f_Index_slotOf_B13 at h
  refine ax_iload 3 d_Index_slotOf_13 rfl 15 rfl ?_
  refine ax_sipush 2048 d_Index_slotOf_15 sp_2048 18 rfl ?_
  refine ax_icmp_ge 63 21 d_Index_slotOf_18 rfl rfl (fun hc => ?_) (fun hc => ?_)
  · have h := ok_t hc h
    refine ax_iconst (-1) d_Index_slotOf_63 ic_m1 64 rfl ?_
    exact ax_iret rfl d_Index_slotOf_64 (hR (-1) (ok_some h))
  · have h := ok_f hc h
    refine ax_iload_n 2 d_Index_slotOf_21 rfl rfl 22 rfl ?_
    refine ax_iload 3 d_Index_slotOf_22 rfl 24 rfl ?_
    refine ax_iadd d_Index_slotOf_24 25 rfl ?_
    refine ax_sipush 2047 d_Index_slotOf_25 sp_2047 28 rfl ?_
    refine ax_iand d_Index_slotOf_28 29 rfl ?_
    refine ax_istore (ls1 := [(5, .int ((v3 + v4) &&& 2047)), (0, .ref v0), (1, .long v1), (3, .int v3), (4, .int v4)]) d_Index_slotOf_29 (Nat.le_of_ble_eq_true rfl) rfl 31 rfl ?_
    refine ax_aload_n 1 d_Index_slotOf_31 rfl rfl 32 rfl ?_
    refine ax_getR fl_Index_15 (sx_Index hv0) rfl (ro_Index_1 hv0 _) d_Index_slotOf_32 35 rfl ?_
    refine ax_iload 0 d_Index_slotOf_35 rfl 37 rfl ?_
    refine ax_iaload (sa_Index_1 hv0) d_Index_slotOf_37 38 rfl h (fun i1 h => ?_)
    refine ax_iconst (-1) d_Index_slotOf_38 ic_m1 39 rfl ?_
    refine ax_icmp_eq 54 42 d_Index_slotOf_39 rfl rfl (fun hc => ?_) (fun hc => ?_)
    · have h := ok_t hc h
      refine ax_iload 0 d_Index_slotOf_54 rfl 56 rfl ?_
      exact ax_iret rfl d_Index_slotOf_56 (hR ((v3 + v4) &&& 2047) (ok_some h))
    · have h := ok_f hc h
      refine ax_aload_n 1 d_Index_slotOf_42 rfl rfl 43 rfl ?_
      refine ax_getR fl_Index_11 (sx_Index hv0) rfl (ro_Index_0 hv0 _) d_Index_slotOf_43 46 rfl ?_
      refine ax_iload 0 d_Index_slotOf_46 rfl 48 rfl ?_
      refine ax_laload (sa_Index_0 hv0) d_Index_slotOf_48 49 rfl h (fun i2 h => ?_)
      refine ax_lload_n 2 d_Index_slotOf_49 rfl rfl 50 rfl ?_
      refine ax_lcmp d_Index_slotOf_50 51 rfl ?_
      refine ax_if_ne 57 54 d_Index_slotOf_51 rfl rfl (fun hc => ?_) (fun hc => ?_)
      · have h := ok_f hc h
        refine ax_iinc (ls1 := [(4, .int (v4 + 1)), (5, .int ((v3 + v4) &&& 2047)), (0, .ref v0), (1, .long v1), (3, .int v3)]) 4 1 d_Index_slotOf_57 rfl ic_1 (Nat.le_of_ble_eq_true rfl) rfl 60 rfl ?_
        refine ax_goto 13 d_Index_slotOf_60 rfl ?_
        exact ax_sub [2, 3, 4, 0] rfl (h0 (v4 + 1) (ok_some h))
      · have h := ok_t hc h
        refine ax_iload 0 d_Index_slotOf_54 rfl 56 rfl ?_
        exact ax_iret rfl d_Index_slotOf_56 (hR ((v3 + v4) &&& 2047) (ok_some h))
theorem c_Index_slotOf_L13 (v0 : Nat) (v1 : Int64) (v3 : Int32) (v4 : Int32) (m : zM) (hv0 : v0 ∈ li_Index) {Q : Option Value → zM → Prop} {K : Int32 → Prop} (hR : ∀ p : Int32, K (p) → Q (some (.int p)) m)  (h : ok (f_Index_slotOf_L13 v0 v1 v3 v4 m) K) : AX gX s_Index_slotOf 13 [(0, .ref v0), (1, .long v1), (3, .int v3), (4, .int v4)] [] m Q :=
  ok_lp (K := K) (G := fun s : Int32 => AX gX s_Index_slotOf 13 [(0, .ref v0), (1, .long v1), (3, .int v3), (4, .int s)] [] m Q) (fun s h => c_Index_slotOf_B13 v0 v1 v3 s m hv0 (fun p hp => hR p hp) (fun s hs => hs) h) FU v4 h
set_option maxRecDepth 4000 in
theorem zc_Index_slotOf (v0 : Nat) (v1 : Int64) (m : zM) (hv0 : v0 ∈ li_Index) {Q : Option Value → zM → Prop} (h : ok (f_Index_slotOf v0 v1 m) (fun p => Q (some (.int p)) m)) : zc gX s_Index_slotOf [.ref v0, .long v1] m Q := by
  refine zc_of rfl (Nat.le_of_ble_eq_true rfl) ?_
  show AX gX s_Index_slotOf 0 [(0, .ref v0), (1, .long v1)] [] m Q
  obtain ⟨K, hK⟩ : ∃ K : Int32 → Prop, K = (fun p : Int32 => Q (some (.int p)) m) := ⟨_, rfl⟩
  have hR : ∀ p : Int32, K p → Q (some (.int p)) m := fun p hp => by rw [hK] at hp; exact hp
  replace h : ok (f_Index_slotOf v0 v1 m) (fun p : Int32 => Q (some (.int p)) m) := h
  rw [← hK] at h
  unfold f_Index_slotOf at h
  refine ax_lload_n 1 d_Index_slotOf_0 rfl rfl 1 rfl ?_
  refine ax_ldc2 (-7046029254386353131) wk_Index_29 d_Index_slotOf_1 4 rfl ?_
  refine ax_lmul d_Index_slotOf_4 5 rfl ?_
  refine ax_bipush 53 d_Index_slotOf_5 bp_53 7 rfl ?_
  refine ax_lushr d_Index_slotOf_7 8 rfl ?_
  refine ax_l2i d_Index_slotOf_8 9 rfl ?_
  refine ax_istore_n (ls1 := [(3, .int ((lus (v1 * (-7046029254386353131)) 53).toInt32)), (0, .ref v0), (1, .long v1)]) d_Index_slotOf_9 rfl (Nat.le_of_ble_eq_true rfl) rfl 10 rfl ?_
  refine ax_iconst 0 d_Index_slotOf_10 ic_0 11 rfl ?_
  refine ax_istore (ls1 := [(4, .int 0), (3, .int ((lus (v1 * (-7046029254386353131)) 53).toInt32)), (0, .ref v0), (1, .long v1)]) d_Index_slotOf_11 (Nat.le_of_ble_eq_true rfl) rfl 13 rfl ?_
  exact ax_sub [2, 3, 1, 0] rfl (c_Index_slotOf_L13 v0 v1 ((lus (v1 * (-7046029254386353131)) 53).toInt32) 0 m hv0 (fun p hp => hR p hp) h)
set_option maxRecDepth 4000 in
theorem zc_Index_find (v0 : Nat) (v1 : Int64) (m : zM) (hv0 : v0 ∈ li_Index) {Q : Option Value → zM → Prop} (h : ok (f_Index_find v0 v1 m) (fun p => Q (some (.int p)) m)) : zc gX s_Index_find [.ref v0, .long v1] m Q := by
  refine zc_of rfl (Nat.le_of_ble_eq_true rfl) ?_
  show AX gX s_Index_find 0 [(0, .ref v0), (1, .long v1)] [] m Q
  obtain ⟨K, hK⟩ : ∃ K : Int32 → Prop, K = (fun p : Int32 => Q (some (.int p)) m) := ⟨_, rfl⟩
  have hR : ∀ p : Int32, K p → Q (some (.int p)) m := fun p hp => by rw [hK] at hp; exact hp
  replace h : ok (f_Index_find v0 v1 m) (fun p : Int32 => Q (some (.int p)) m) := h
  rw [← hK] at h
  unfold f_Index_find at h
  refine ax_aload_n 0 d_Index_find_0 rfl rfl 1 rfl ?_
  refine ax_lload_n 1 d_Index_find_1 rfl rfl 2 rfl ?_
  refine ax_callV mv_Index_25 ⟨Nat.le_of_ble_eq_true rfl, Nat.le_of_ble_eq_true rfl⟩ ⟨rfl, rfl⟩ [.long v1] [.long v1, .ref v0] rfl rfl (rc_Index hv0 _) (Nat.le_of_ble_eq_true rfl) d_Index_find_2 5 rfl (zc_Index_slotOf v0 v1 m hv0 (ok_b h (fun r1 h => ?_)))
  refine ax_istore_n (ls1 := [(3, .int r1), (0, .ref v0), (1, .long v1)]) d_Index_find_5 rfl (Nat.le_of_ble_eq_true rfl) rfl 6 rfl ?_
  refine ax_iload_n 0 d_Index_find_6 rfl rfl 7 rfl ?_
  refine ax_iconst (-1) d_Index_find_7 ic_m1 8 rfl ?_
  refine ax_icmp_ne 15 11 d_Index_find_8 rfl rfl (fun hc => ?_) (fun hc => ?_)
  · have h := ok_f hc h
    refine ax_aload_n 1 d_Index_find_15 rfl rfl 16 rfl ?_
    refine ax_getR fl_Index_15 (sx_Index hv0) rfl (ro_Index_1 hv0 _) d_Index_find_16 19 rfl ?_
    refine ax_iload_n 0 d_Index_find_19 rfl rfl 20 rfl ?_
    refine ax_iaload (sa_Index_1 hv0) d_Index_find_20 21 rfl h (fun i2 h => ?_)
    exact ax_iret rfl d_Index_find_21 (hR (m.1 (v0 + 2) i2) (ok_some h))
  · have h := ok_t hc h
    refine ax_iconst (-1) d_Index_find_11 ic_m1 12 rfl ?_
    refine ax_goto 21 d_Index_find_12 rfl ?_
    exact ax_iret rfl d_Index_find_21 (hR (-1) (ok_some h))
set_option maxRecDepth 4000 in
theorem zc_Index_put (v0 : Nat) (v1 : Int64) (v3 : Int32) (m : zM) (hv0 : v0 ∈ li_Index) {Q : Option Value → zM → Prop} (h : ok (f_Index_put v0 v1 v3 m) (fun p => Q none p)) : zc gX s_Index_put [.ref v0, .long v1, .int v3] m Q := by
  refine zc_of rfl (Nat.le_of_ble_eq_true rfl) ?_
  show AX gX s_Index_put 0 [(0, .ref v0), (1, .long v1), (3, .int v3)] [] m Q
  obtain ⟨K, hK⟩ : ∃ K : zM → Prop, K = (fun p : zM => Q none p) := ⟨_, rfl⟩
  have hR : ∀ p : zM, K p → Q none p := fun p hp => by rw [hK] at hp; exact hp
  replace h : ok (f_Index_put v0 v1 v3 m) (fun p : zM => Q none p) := h
  rw [← hK] at h
  unfold f_Index_put at h
  refine ax_aload_n 0 d_Index_put_0 rfl rfl 1 rfl ?_
  refine ax_lload_n 1 d_Index_put_1 rfl rfl 2 rfl ?_
  refine ax_callV mv_Index_25 ⟨Nat.le_of_ble_eq_true rfl, Nat.le_of_ble_eq_true rfl⟩ ⟨rfl, rfl⟩ [.long v1] [.long v1, .ref v0] rfl rfl (rc_Index hv0 _) (Nat.le_of_ble_eq_true rfl) d_Index_put_2 5 rfl (zc_Index_slotOf v0 v1 m hv0 (ok_b h (fun r1 h => ?_)))
  refine ax_istore (ls1 := [(4, .int r1), (0, .ref v0), (1, .long v1), (3, .int v3)]) d_Index_put_5 (Nat.le_of_ble_eq_true rfl) rfl 7 rfl ?_
  refine ax_iload 0 d_Index_put_7 rfl 9 rfl ?_
  refine ax_iconst (-1) d_Index_put_9 ic_m1 10 rfl ?_
  refine ax_icmp_eq 29 13 d_Index_put_10 rfl rfl (fun hc => ?_) (fun hc => ?_)
  · have h := ok_t hc h
    exact ax_vret rfl d_Index_put_29 (hR m (ok_some h))
  · have h := ok_f hc h
    refine ax_aload_n 1 d_Index_put_13 rfl rfl 14 rfl ?_
    refine ax_getR fl_Index_11 (sx_Index hv0) rfl (ro_Index_0 hv0 _) d_Index_put_14 17 rfl ?_
    refine ax_iload 0 d_Index_put_17 rfl 19 rfl ?_
    refine ax_lload_n 2 d_Index_put_19 rfl rfl 20 rfl ?_
    refine ax_lastore (sa_Index_0 hv0) d_Index_put_20 21 rfl h (fun i2 m3 h => ?_)
    refine ax_aload_n 1 d_Index_put_21 rfl rfl 22 rfl ?_
    refine ax_getR fl_Index_15 (sx_Index hv0) rfl (ro_Index_1 hv0 _) d_Index_put_22 25 rfl ?_
    refine ax_iload 0 d_Index_put_25 rfl 27 rfl ?_
    refine ax_iload_n 3 d_Index_put_27 rfl rfl 28 rfl ?_
    refine ax_iastore (sa_Index_1 hv0) d_Index_put_28 29 rfl h (fun i4 m5 h => ?_)
    exact ax_vret rfl d_Index_put_29 (hR m5 (ok_some h))
set_option maxRecDepth 4000 in
theorem zc_World_ownKey (v0 : Nat) (m : zM) (hv0 : v0 ∈ li_World) {Q : Option Value → zM → Prop} (h : ok (f_World_ownKey v0 m) (fun p => Q (some (.long p)) m)) : zc gX s_World_ownKey [.ref v0] m Q := by
  refine zc_of rfl (Nat.le_of_ble_eq_true rfl) ?_
  show AX gX s_World_ownKey 0 [(0, .ref v0)] [] m Q
  obtain ⟨K, hK⟩ : ∃ K : Int64 → Prop, K = (fun p : Int64 => Q (some (.long p)) m) := ⟨_, rfl⟩
  have hR : ∀ p : Int64, K p → Q (some (.long p)) m := fun p hp => by rw [hK] at hp; exact hp
  replace h : ok (f_World_ownKey v0 m) (fun p : Int64 => Q (some (.long p)) m) := h
  rw [← hK] at h
  unfold f_World_ownKey at h
  refine ax_aload_n 0 d_World_ownKey_0 rfl rfl 1 rfl ?_
  refine ax_aload_n 0 d_World_ownKey_1 rfl rfl 2 rfl ?_
  refine ax_getR fl_World_18 (sx_World hv0) rfl (ro_World_2 hv0 _) d_World_ownKey_2 5 rfl ?_
  refine ax_callV mv_World_52 ⟨Nat.le_of_ble_eq_true rfl, Nat.le_of_ble_eq_true rfl⟩ ⟨rfl, rfl⟩ [.ref (v0 + 1)] [.ref (v0 + 1), .ref v0] rfl rfl (rc_World hv0 _) (Nat.le_of_ble_eq_true rfl) d_World_ownKey_5 8 rfl (zc_World_keyOf v0 (v0 + 1) m hv0 (sa_World_2z hv0) (ok_b h (fun r1 h => ?_)))
  exact ax_lret rfl d_World_ownKey_8 (hR r1 (ok_some h))
set_option maxRecDepth 4000 in
theorem c_Search_meet_J97 (v1 : Int32) (v2 : Int32) (t0 : Nat) (t1 : Int32) (t2 : Int32) (m : zM) (ht0 : gX.1[t0]? = some (.inr (0, zlen gX t0))) {Q : Option Value → zM → Prop} {K : (Bool × zM) → Prop} (hR : ∀ p : Bool × zM, K (p) → Q (some (.int (b2i p.1))) p.2)  (h : ok (f_Search_meet_J97 v1 v2 t0 t1 t2 m) K) : AX gX s_Search_meet 97 [(0, .ref 7), (1, .int v1), (2, .int v2)] [.int t2, .int t1, .ref t0] m Q := by
  unfold f_Search_meet_J97 at h
  refine ax_iastore ht0 d_Search_meet_97 98 rfl h (fun i10 m11 h => ?_)
  refine ax_aload_n 0 d_Search_meet_98 rfl rfl 99 rfl ?_
  refine ax_getR fl_Search_29 x_7 rfl (rx_7_4 _) d_Search_meet_99 102 rfl ?_
  refine ax_aload_n 0 d_Search_meet_102 rfl rfl 103 rfl ?_
  refine ax_getI fl_Search_45 x_7 rfl d_Search_meet_103 106 rfl ?_
  refine ax_iload_n 1 d_Search_meet_106 rfl rfl 107 rfl ?_
  refine ax_iastore x_14 d_Search_meet_107 108 rfl h (fun i12 m13 h => ?_)
  refine ax_aload_n 0 d_Search_meet_108 rfl rfl 109 rfl ?_
  refine ax_getR fl_Search_32 x_7 rfl (rx_7_5 _) d_Search_meet_109 112 rfl ?_
  refine ax_aload_n 0 d_Search_meet_112 rfl rfl 113 rfl ?_
  refine ax_getI fl_Search_45 x_7 rfl d_Search_meet_113 116 rfl ?_
  refine ax_iload_n 2 d_Search_meet_116 rfl rfl 117 rfl ?_
  refine ax_iastore x_15 d_Search_meet_117 118 rfl h (fun i14 m15 h => ?_)
  refine ax_aload_n 0 d_Search_meet_118 rfl rfl 119 rfl ?_
  refine ax_dup d_Search_meet_119 rfl 120 rfl ?_
  refine ax_getI fl_Search_45 x_7 rfl d_Search_meet_120 123 rfl ?_
  refine ax_iconst 1 d_Search_meet_123 ic_1 124 rfl ?_
  refine ax_iadd d_Search_meet_124 125 rfl ?_
  refine ax_putI (K := K) fl_Search_45 x_7 rfl rfl rfl (Nat.le_of_ble_eq_true rfl) d_Search_meet_125 128 rfl h (fun m16 h => ?_)
  refine ax_iconst 1 d_Search_meet_128 ic_1 129 rfl ?_
  exact ax_zret (b := true) rfl d_Search_meet_129 (hR (true, m16) (ok_some h))
set_option maxRecDepth 4000 in
theorem zc_Search_meet (v1 : Int32) (v2 : Int32) (m : zM)  {Q : Option Value → zM → Prop} (h : ok (f_Search_meet v1 v2 m) (fun p => Q (some (.int (b2i p.1))) p.2)) : zc gX s_Search_meet [.ref 7, .int v1, .int v2] m Q := by
  refine zc_of rfl (Nat.le_of_ble_eq_true rfl) ?_
  show AX gX s_Search_meet 0 [(0, .ref 7), (1, .int v1), (2, .int v2)] [] m Q
  obtain ⟨K, hK⟩ : ∃ K : (Bool × zM) → Prop, K = (fun p : Bool × zM => Q (some (.int (b2i p.1))) p.2) := ⟨_, rfl⟩
  have hR : ∀ p : Bool × zM, K p → Q (some (.int (b2i p.1))) p.2 := fun p hp => by rw [hK] at hp; exact hp
  replace h : ok (f_Search_meet v1 v2 m) (fun p : Bool × zM => Q (some (.int (b2i p.1))) p.2) := h
  rw [← hK] at h
  unfold f_Search_meet at h
  refine ax_aload_n 0 d_Search_meet_0 rfl rfl 1 rfl ?_
  refine ax_getR fl_Search_42 x_7 rfl (rx_7_7 _) d_Search_meet_1 4 rfl ?_
  refine ax_callV mv_Search_80 ⟨Nat.le_of_ble_eq_true rfl, Nat.le_of_ble_eq_true rfl⟩ ⟨rfl, rfl⟩ [] [.ref 20] rfl rfl (rc_World in_20 _) (Nat.le_of_ble_eq_true rfl) d_Search_meet_4 7 rfl (zc_World_foldedKey 20 m in_20 (ok_b h (fun p1 h => ?_)))
  refine ax_lstore_n (ls1 := [(3, .long p1.1), (0, .ref 7), (1, .int v1), (2, .int v2)]) d_Search_meet_7 rfl (Nat.le_of_ble_eq_true rfl) rfl 8 rfl ?_
  refine ax_aload_n 1 d_Search_meet_8 rfl rfl 9 rfl ?_
  refine ax_getR fl_Search_12 x_7 rfl (rx_7_0 _) d_Search_meet_9 12 rfl ?_
  refine ax_lload_n 0 d_Search_meet_12 rfl rfl 13 rfl ?_
  refine ax_callV mv_Search_84 ⟨Nat.le_of_ble_eq_true rfl, Nat.le_of_ble_eq_true rfl⟩ ⟨rfl, rfl⟩ [.long p1.1] [.long p1.1, .ref 8] rfl rfl (rc_Index in_8 _) (Nat.le_of_ble_eq_true rfl) d_Search_meet_13 16 rfl (zc_Index_find 8 p1.1 p1.2 in_8 (ok_b h (fun r2 h => ?_)))
  refine ax_iconst (-1) d_Search_meet_16 ic_m1 17 rfl ?_
  refine ax_icmp_eq 22 20 d_Search_meet_17 rfl rfl (fun hc => ?_) (fun hc => ?_)
  · have h := ok_t hc h
    refine ax_aload_n 1 d_Search_meet_22 rfl rfl 23 rfl ?_
    refine ax_getI fl_Search_45 x_7 rfl d_Search_meet_23 26 rfl ?_
    refine ax_sipush 600 d_Search_meet_26 sp_600 29 rfl ?_
    refine ax_icmp_ne 34 32 d_Search_meet_29 rfl rfl (fun hc => ?_) (fun hc => ?_)
    · have h := ok_f hc h
      refine ax_aload_n 1 d_Search_meet_34 rfl rfl 35 rfl ?_
      refine ax_getR fl_Search_12 x_7 rfl (rx_7_0 _) d_Search_meet_35 38 rfl ?_
      refine ax_lload_n 0 d_Search_meet_38 rfl rfl 39 rfl ?_
      refine ax_aload_n 1 d_Search_meet_39 rfl rfl 40 rfl ?_
      refine ax_getI fl_Search_45 x_7 rfl d_Search_meet_40 43 rfl ?_
      refine ax_callV mv_Search_88 ⟨Nat.le_of_ble_eq_true rfl, Nat.le_of_ble_eq_true rfl⟩ ⟨rfl, rfl⟩ [.long p1.1, .int (p1.2.1 7 8)] [.int (p1.2.1 7 8), .long p1.1, .ref 8] rfl rfl (rc_Index in_8 _) (Nat.le_of_ble_eq_true rfl) d_Search_meet_43 46 rfl (zc_Index_put 8 p1.1 (p1.2.1 7 8) p1.2 in_8 (ok_b h (fun p3 h => ?_)))
      refine ax_aload_n 1 d_Search_meet_46 rfl rfl 47 rfl ?_
      refine ax_getR fl_Search_22 x_7 rfl (rx_7_2 _) d_Search_meet_47 50 rfl ?_
      refine ax_aload_n 1 d_Search_meet_50 rfl rfl 51 rfl ?_
      refine ax_getI fl_Search_45 x_7 rfl d_Search_meet_51 54 rfl ?_
      refine ax_lload_n 0 d_Search_meet_54 rfl rfl 55 rfl ?_
      refine ax_lastore x_12 d_Search_meet_55 56 rfl h (fun i4 m5 h => ?_)
      refine ax_aload_n 1 d_Search_meet_56 rfl rfl 57 rfl ?_
      refine ax_getR fl_Search_18 x_7 rfl (rx_7_1 _) d_Search_meet_57 60 rfl ?_
      refine ax_aload_n 1 d_Search_meet_60 rfl rfl 61 rfl ?_
      refine ax_getI fl_Search_45 x_7 rfl d_Search_meet_61 64 rfl ?_
      refine ax_aload_n 1 d_Search_meet_64 rfl rfl 65 rfl ?_
      refine ax_getR fl_Search_42 x_7 rfl (rx_7_7 _) d_Search_meet_65 68 rfl ?_
      refine ax_callV mv_Search_91 ⟨Nat.le_of_ble_eq_true rfl, Nat.le_of_ble_eq_true rfl⟩ ⟨rfl, rfl⟩ [] [.ref 20, .int (m5.1 7 8), .ref 11] rfl rfl (rc_World in_20 _) (Nat.le_of_ble_eq_true rfl) d_Search_meet_68 71 rfl (zc_World_ownKey 20 m5 in_20 (ok_b h (fun r6 h => ?_)))
      refine ax_lastore x_11 d_Search_meet_71 72 rfl h (fun i7 m8 h => ?_)
      refine ax_aload_n 1 d_Search_meet_72 rfl rfl 73 rfl ?_
      refine ax_getR fl_Search_25 x_7 rfl (rx_7_3 _) d_Search_meet_73 76 rfl ?_
      refine ax_aload_n 1 d_Search_meet_76 rfl rfl 77 rfl ?_
      refine ax_getI fl_Search_45 x_7 rfl d_Search_meet_77 80 rfl ?_
      refine ax_iload_n 2 d_Search_meet_80 rfl rfl 81 rfl ?_
      refine ax_iconst (-1) d_Search_meet_81 ic_m1 82 rfl ?_
      refine ax_icmp_ne 89 85 d_Search_meet_82 rfl rfl (fun hc => ?_) (fun hc => ?_)
      · have h := ok_f hc h
        refine ax_aload_n 1 d_Search_meet_89 rfl rfl 90 rfl ?_
        refine ax_getR fl_Search_25 x_7 rfl (rx_7_3 _) d_Search_meet_90 93 rfl ?_
        refine ax_iload_n 2 d_Search_meet_93 rfl rfl 94 rfl ?_
        refine ax_iaload x_13 d_Search_meet_94 95 rfl h (fun i9 h => ?_)
        refine ax_iconst 1 d_Search_meet_95 ic_1 96 rfl ?_
        refine ax_iadd d_Search_meet_96 97 rfl ?_
        exact ax_sub [1, 2, 3] rfl (c_Search_meet_J97 v1 v2 13 (m8.1 7 8) ((m8.1 13 i9) + 1) m8 x_13z (fun p hp => hR p hp) h)
      · have h := ok_t hc h
        refine ax_iconst 0 d_Search_meet_85 ic_0 86 rfl ?_
        refine ax_goto 97 d_Search_meet_86 rfl ?_
        exact ax_sub [1, 2, 3] rfl (c_Search_meet_J97 v1 v2 13 (m8.1 7 8) 0 m8 x_13z (fun p hp => hR p hp) h)
    · have h := ok_t hc h
      refine ax_iconst 0 d_Search_meet_32 ic_0 33 rfl ?_
      exact ax_zret (b := false) rfl d_Search_meet_33 (hR (false, p1.2) (ok_some h))
  · have h := ok_f hc h
    refine ax_iconst 1 d_Search_meet_20 ic_1 21 rfl ?_
    exact ax_zret (b := true) rfl d_Search_meet_21 (hR (true, p1.2) (ok_some h))
set_option maxRecDepth 4000 in
theorem c_World_load_J46 (v0 : Nat) (v4 : Int64) (m : zM) (hv0 : v0 ∈ li_World) {Q : Option Value → zM → Prop} {K : zM → Prop} (hR : ∀ p : zM, K (p) → Q none p)  (h : ok (f_World_load_J46 v0 v4 m) K) : AX gX s_World_load 46 [(0, .ref v0), (4, .long v4)] [] m Q := by
  unfold f_World_load_J46 at h
  refine ax_aload_n 0 d_World_load_46 rfl rfl 47 rfl ?_
  refine ax_lload 1 d_World_load_47 rfl 49 rfl ?_
  refine ax_l2i d_World_load_49 50 rfl ?_
  refine ax_iconst 1 d_World_load_50 ic_1 51 rfl ?_
  refine ax_isub d_World_load_51 52 rfl ?_
  refine ax_putI (K := K) fl_World_9 (sx_World hv0) rfl rfl rfl (Nat.le_of_ble_eq_true rfl) d_World_load_52 55 rfl h (fun m4 h => ?_)
  exact ax_vret rfl d_World_load_55 (hR m4 (ok_some h))
set_option maxRecDepth 4000 in
theorem c_World_load_B13 (v0 : Nat) (v4 : Int64) (v6 : Int32) (m : zM) (hv0 : v0 ∈ li_World) {Q : Option Value → zM → Prop} {K : ((zM) ⊕ (Int64 × Int32 × zM)) → Prop} (hR : ∀ p : zM, K (.inl p) → Q none p) (h0 : ∀ s : Int64 × Int32 × zM, K (.inr s) → AX gX s_World_load 13 [(0, .ref v0), (4, .long s.1), (6, .int s.2.1)] [] s.2.2 Q) (h : ok (f_World_load_B13 v0 v4 v6 m) K) : AX gX s_World_load 13 [(0, .ref v0), (4, .long v4), (6, .int v6)] [] m Q := by
  unfold f_World_load_B13 at h
  refine ax_iload 2 d_World_load_13 rfl 15 rfl ?_
  refine ax_if_lt 46 18 d_World_load_15 rfl rfl (fun hc => ?_) (fun hc => ?_)
  · have h := ok_t hc h
    exact ax_sub [0, 1] rfl (c_World_load_J46 v0 v4 m hv0 (fun p hp => hR p hp) (ok_z h))
  · have h := ok_f hc h
    refine ax_aload_n 0 d_World_load_18 rfl rfl 19 rfl ?_
    refine ax_getR fl_World_18 (sx_World hv0) rfl (ro_World_2 hv0 _) d_World_load_19 22 rfl ?_
    refine ax_iload 2 d_World_load_22 rfl 24 rfl ?_
    refine ax_lload 1 d_World_load_24 rfl 26 rfl ?_
    refine ax_ldc2 2058 wk_World_50 d_World_load_26 29 rfl ?_
    refine ax_lrem d_World_load_29 (by decide) 30 rfl ?_
    refine ax_l2i d_World_load_30 31 rfl ?_
    refine ax_iastore (sa_World_2 hv0) d_World_load_31 32 rfl h (fun i2 m3 h => ?_)
    refine ax_lload 1 d_World_load_32 rfl 34 rfl ?_
    refine ax_ldc2 2058 wk_World_50 d_World_load_34 37 rfl ?_
    refine ax_ldiv d_World_load_37 (by decide) 38 rfl ?_
    refine ax_lstore (ls1 := [(4, .long (v4 / 2058)), (0, .ref v0), (6, .int v6)]) d_World_load_38 (Nat.le_of_ble_eq_true rfl) rfl 40 rfl ?_
    refine ax_iinc (ls1 := [(6, .int (v6 + (-1))), (4, .long (v4 / 2058)), (0, .ref v0)]) 2 (-1) d_World_load_40 rfl ic_m1 (Nat.le_of_ble_eq_true rfl) rfl 43 rfl ?_
    refine ax_goto 13 d_World_load_43 rfl ?_
    exact ax_sub [2, 1, 0] rfl (h0 ((v4 / 2058), (v6 + (-1)), m3) (ok_some h))
theorem c_World_load_L13 (v0 : Nat) (v4 : Int64) (v6 : Int32) (m : zM) (hv0 : v0 ∈ li_World) {Q : Option Value → zM → Prop} {K : zM → Prop} (hR : ∀ p : zM, K (p) → Q none p)  (h : ok (f_World_load_L13 v0 v4 v6 m) K) : AX gX s_World_load 13 [(0, .ref v0), (4, .long v4), (6, .int v6)] [] m Q :=
  ok_lp (K := K) (G := fun s : Int64 × Int32 × zM => AX gX s_World_load 13 [(0, .ref v0), (4, .long s.1), (6, .int s.2.1)] [] s.2.2 Q) (fun s h => c_World_load_B13 v0 s.1 s.2.1 s.2.2 hv0 (fun p hp => hR p hp) (fun s hs => hs) h) FU (v4, v6, m) h
set_option maxRecDepth 4000 in
theorem zc_World_load (v0 : Nat) (v1 : Int64) (v3 : Int32) (m : zM) (hv0 : v0 ∈ li_World) {Q : Option Value → zM → Prop} (h : ok (f_World_load v0 v1 v3 m) (fun p => Q none p)) : zc gX s_World_load [.ref v0, .long v1, .int v3] m Q := by
  refine zc_of rfl (Nat.le_of_ble_eq_true rfl) ?_
  show AX gX s_World_load 0 [(0, .ref v0), (1, .long v1), (3, .int v3)] [] m Q
  obtain ⟨K, hK⟩ : ∃ K : zM → Prop, K = (fun p : zM => Q none p) := ⟨_, rfl⟩
  have hR : ∀ p : zM, K p → Q none p := fun p hp => by rw [hK] at hp; exact hp
  replace h : ok (f_World_load v0 v1 v3 m) (fun p : zM => Q none p) := h
  rw [← hK] at h
  unfold f_World_load at h
  refine ax_lload_n 1 d_World_load_0 rfl rfl 1 rfl ?_
  refine ax_lstore (ls1 := [(4, .long v1), (0, .ref v0), (1, .long v1), (3, .int v3)]) d_World_load_1 (Nat.le_of_ble_eq_true rfl) rfl 3 rfl ?_
  refine ax_aload_n 1 d_World_load_3 rfl rfl 4 rfl ?_
  refine ax_iload_n 3 d_World_load_4 rfl rfl 5 rfl ?_
  refine ax_putI (K := K) fl_World_15 (sx_World hv0) rfl rfl rfl (Nat.le_of_ble_eq_true rfl) d_World_load_5 8 rfl h (fun m1 h => ?_)
  refine ax_iload_n 3 d_World_load_8 rfl rfl 9 rfl ?_
  refine ax_iconst 1 d_World_load_9 ic_1 10 rfl ?_
  refine ax_isub d_World_load_10 11 rfl ?_
  refine ax_istore (ls1 := [(6, .int (v3 - 1)), (4, .long v1), (0, .ref v0), (1, .long v1), (3, .int v3)]) d_World_load_11 (Nat.le_of_ble_eq_true rfl) rfl 13 rfl ?_
  exact ax_sub [2, 1, 0] rfl (c_World_load_L13 v0 v1 (v3 - 1) m1 hv0 (fun p hp => hR p hp) h)
set_option maxRecDepth 4000 in
theorem zc_PA_held (v0 : Int32) (v1 : Int32) (m : zM)  {Q : Option Value → zM → Prop} (h : Q (some (.int (f_PA_held v0 v1))) m) : zc gX s_PA_held [.int v0, .int v1] m Q := by
  refine zc_of rfl (Nat.le_of_ble_eq_true rfl) ?_
  show AX gX s_PA_held 0 [(0, .int v0), (1, .int v1)] [] m Q
  obtain ⟨K, hK⟩ : ∃ K : Int32 → Prop, K = (fun p : Int32 => Q (some (.int p)) m) := ⟨_, rfl⟩
  have hR : ∀ p : Int32, K p → Q (some (.int p)) m := fun p hp => by rw [hK] at hp; exact hp
  replace h : (fun p : Int32 => Q (some (.int p)) m) (f_PA_held v0 v1) := h
  rw [← hK] at h
  unfold f_PA_held at h
  refine ax_iload_n 1 d_PA_held_0 rfl rfl 1 rfl ?_
  by_cases hc1_0 : v1 = 0
  · have h := kt_t (K := K) hc1_0 h
    refine ax_tableIn (off := 31) 32 d_PA_held_1 (by rw [hc1_0]; decide) (by rw [hc1_0]; decide) (by rw [hc1_0]; rfl) rfl ?_
    refine ax_iload_n 0 d_PA_held_32 rfl rfl 33 rfl ?_
    refine ax_sipush 343 d_PA_held_33 sp_343 36 rfl ?_
    refine ax_idiv d_PA_held_36 (by decide) 37 rfl ?_
    exact ax_iret rfl d_PA_held_37 (hR (v0 / 343) h)
  have h := kt_f (K := K) hc1_0 h
  by_cases hc1_1 : v1 = 1
  · have h := kt_t (K := K) hc1_1 h
    refine ax_tableIn (off := 37) 38 d_PA_held_1 (by rw [hc1_1]; decide) (by rw [hc1_1]; decide) (by rw [hc1_1]; rfl) rfl ?_
    refine ax_iload_n 0 d_PA_held_38 rfl rfl 39 rfl ?_
    refine ax_bipush 49 d_PA_held_39 bp_49 41 rfl ?_
    refine ax_idiv d_PA_held_41 (by decide) 42 rfl ?_
    refine ax_bipush 7 d_PA_held_42 bp_7 44 rfl ?_
    refine ax_irem d_PA_held_44 (by decide) 45 rfl ?_
    refine ax_iconst 1 d_PA_held_45 ic_1 46 rfl ?_
    refine ax_isub d_PA_held_46 47 rfl ?_
    exact ax_iret rfl d_PA_held_47 (hR ((ir (v0 / 49) 7) - 1) h)
  have h := kt_f (K := K) hc1_1 h
  by_cases hc1_2 : v1 = 2
  · have h := kt_t (K := K) hc1_2 h
    refine ax_tableIn (off := 47) 48 d_PA_held_1 (by rw [hc1_2]; decide) (by rw [hc1_2]; decide) (by rw [hc1_2]; rfl) rfl ?_
    refine ax_iload_n 0 d_PA_held_48 rfl rfl 49 rfl ?_
    refine ax_bipush 7 d_PA_held_49 bp_7 51 rfl ?_
    refine ax_idiv d_PA_held_51 (by decide) 52 rfl ?_
    refine ax_bipush 7 d_PA_held_52 bp_7 54 rfl ?_
    refine ax_irem d_PA_held_54 (by decide) 55 rfl ?_
    refine ax_iconst 1 d_PA_held_55 ic_1 56 rfl ?_
    refine ax_isub d_PA_held_56 57 rfl ?_
    exact ax_iret rfl d_PA_held_57 (hR ((ir (v0 / 7) 7) - 1) h)
  have h := kt_f (K := K) hc1_2 h
  by_cases hc1_3 : v1 = 3
  · have h := kt_t (K := K) hc1_3 h
    refine ax_tableIn (off := 57) 58 d_PA_held_1 (by rw [hc1_3]; decide) (by rw [hc1_3]; decide) (by rw [hc1_3]; rfl) rfl ?_
    refine ax_iload_n 0 d_PA_held_58 rfl rfl 59 rfl ?_
    refine ax_bipush 7 d_PA_held_59 bp_7 61 rfl ?_
    refine ax_irem d_PA_held_61 (by decide) 62 rfl ?_
    refine ax_iconst 1 d_PA_held_62 ic_1 63 rfl ?_
    refine ax_isub d_PA_held_63 64 rfl ?_
    exact ax_iret rfl d_PA_held_64 (hR ((ir v0 7) - 1) h)
  have h := kt_f (K := K) hc1_3 h
  have n0 := zne (n := 0) hc1_0 (by decide)
  have n1 := zne (n := 1) hc1_1 (by decide)
  have n2 := zne (n := 2) hc1_2 (by decide)
  have n3 := zne (n := 3) hc1_3 (by decide)
  refine ax_tableOut 65 d_PA_held_1 (by omega) rfl ?_
  refine ax_iconst (-1) d_PA_held_65 ic_m1 66 rfl ?_
  exact ax_iret rfl d_PA_held_66 (hR (-1) h)
set_option maxRecDepth 4000 in
theorem c_Row_isFor_J41  (m : zM)  {Q : Option Value → zM → Prop} {K : Bool → Prop} (hR : ∀ p : Bool, K (p) → Q (some (.int (b2i p))) m)  (h : ok (f_Row_isFor_J41  m) K) : AX gX s_Row_isFor 41 [] [] m Q := by
  unfold f_Row_isFor_J41 at h
  refine ax_iconst 0 d_Row_isFor_41 ic_0 42 rfl ?_
  refine ax_goto 62 d_Row_isFor_42 rfl ?_
  exact ax_zret (b := false) rfl d_Row_isFor_62 (hR false (ok_some h))
set_option maxRecDepth 4000 in
theorem zc_Row_isFor (v0 : Nat) (v1 : Nat) (v2 : Int32) (m : zM) (hv0 : v0 ∈ li_Row) (hv1 : v1 ∈ li_World) {Q : Option Value → zM → Prop} (h : ok (f_Row_isFor v0 v1 v2 m) (fun p => Q (some (.int (b2i p))) m)) : zc gX s_Row_isFor [.ref v0, .ref v1, .int v2] m Q := by
  refine zc_of rfl (Nat.le_of_ble_eq_true rfl) ?_
  show AX gX s_Row_isFor 0 [(0, .ref v0), (1, .ref v1), (2, .int v2)] [] m Q
  obtain ⟨K, hK⟩ : ∃ K : Bool → Prop, K = (fun p : Bool => Q (some (.int (b2i p))) m) := ⟨_, rfl⟩
  have hR : ∀ p : Bool, K p → Q (some (.int (b2i p))) m := fun p hp => by rw [hK] at hp; exact hp
  replace h : ok (f_Row_isFor v0 v1 v2 m) (fun p : Bool => Q (some (.int (b2i p))) m) := h
  rw [← hK] at h
  unfold f_Row_isFor at h
  refine ax_aload_n 1 d_Row_isFor_0 rfl rfl 1 rfl ?_
  refine ax_getR fl_Row_41 (sx_World hv1) rfl (ro_World_2 hv1 _) d_Row_isFor_1 4 rfl ?_
  refine ax_iload_n 2 d_Row_isFor_4 rfl rfl 5 rfl ?_
  refine ax_iaload (sa_World_2 hv1) d_Row_isFor_5 6 rfl h (fun i1 h => ?_)
  refine ax_istore_n (ls1 := [(3, .int (m.1 (v1 + 1) i1)), (0, .ref v0), (1, .ref v1), (2, .int v2)]) d_Row_isFor_6 rfl (Nat.le_of_ble_eq_true rfl) rfl 7 rfl ?_
  refine ax_aload_n 1 d_Row_isFor_7 rfl rfl 8 rfl ?_
  refine ax_getI fl_Row_9 (sx_Row hv0) rfl d_Row_isFor_8 11 rfl ?_
  refine ax_if_eq 45 14 d_Row_isFor_11 rfl rfl (fun hc => ?_) (fun hc => ?_)
  · have h := ok_t hc h
    refine ax_iload_n 0 d_Row_isFor_45 rfl rfl 46 rfl ?_
    refine ax_iconst 0 d_Row_isFor_46 ic_0 47 rfl ?_
    refine ax_callS mv_Row_50 ⟨Nat.le_of_ble_eq_true rfl, Nat.le_of_ble_eq_true rfl⟩ ⟨rfl, rfl⟩ [.int (m.1 (v1 + 1) i1), .int 0] [.int 0, .int (m.1 (v1 + 1) i1)] rfl rfl (Nat.le_of_ble_eq_true rfl) d_Row_isFor_47 50 rfl (zc_PA_held (m.1 (v1 + 1) i1) 0 m ?_)
    refine ax_aload_n 1 d_Row_isFor_50 rfl rfl 51 rfl ?_
    refine ax_getI fl_Row_15 (sx_Row hv0) rfl d_Row_isFor_51 54 rfl ?_
    refine ax_icmp_ne 61 57 d_Row_isFor_54 rfl rfl (fun hc => ?_) (fun hc => ?_)
    · have h := ok_f hc h
      refine ax_iconst 0 d_Row_isFor_61 ic_0 62 rfl ?_
      exact ax_zret (b := false) rfl d_Row_isFor_62 (hR false (ok_some h))
    · have h := ok_t hc h
      refine ax_iconst 1 d_Row_isFor_57 ic_1 58 rfl ?_
      refine ax_goto 62 d_Row_isFor_58 rfl ?_
      exact ax_zret (b := true) rfl d_Row_isFor_62 (hR true (ok_some h))
  · have h := ok_f hc h
    refine ax_aload_n 2 d_Row_isFor_14 rfl rfl 15 rfl ?_
    refine ax_getI fl_Row_47 (sx_World hv1) rfl d_Row_isFor_15 18 rfl ?_
    refine ax_aload_n 1 d_Row_isFor_18 rfl rfl 19 rfl ?_
    refine ax_getI fl_Row_15 (sx_Row hv0) rfl d_Row_isFor_19 22 rfl ?_
    refine ax_icmp_ne 41 25 d_Row_isFor_22 rfl rfl (fun hc => ?_) (fun hc => ?_)
    · have h := ok_f hc h
      exact ax_sub [] rfl (c_Row_isFor_J41 m (fun p hp => hR p hp) h)
    · have h := ok_t hc h
      refine ax_iload_n 0 d_Row_isFor_25 rfl rfl 26 rfl ?_
      refine ax_iconst 3 d_Row_isFor_26 ic_3 27 rfl ?_
      refine ax_callS mv_Row_50 ⟨Nat.le_of_ble_eq_true rfl, Nat.le_of_ble_eq_true rfl⟩ ⟨rfl, rfl⟩ [.int (m.1 (v1 + 1) i1), .int 3] [.int 3, .int (m.1 (v1 + 1) i1)] rfl rfl (Nat.le_of_ble_eq_true rfl) d_Row_isFor_27 30 rfl (zc_PA_held (m.1 (v1 + 1) i1) 3 m ?_)
      refine ax_aload_n 1 d_Row_isFor_30 rfl rfl 31 rfl ?_
      refine ax_getI fl_Row_19 (sx_Row hv0) rfl d_Row_isFor_31 34 rfl ?_
      refine ax_icmp_ne 41 37 d_Row_isFor_34 rfl rfl (fun hc => ?_) (fun hc => ?_)
      · have h := ok_f hc h
        exact ax_sub [] rfl (c_Row_isFor_J41 m (fun p hp => hR p hp) h)
      · have h := ok_t hc h
        refine ax_iconst 1 d_Row_isFor_37 ic_1 38 rfl ?_
        refine ax_goto 62 d_Row_isFor_38 rfl ?_
        exact ax_zret (b := true) rfl d_Row_isFor_62 (hR true (ok_some h))
set_option maxRecDepth 4000 in
theorem zc_World_copy (v0 : Nat) (v1 : Nat) (m : zM) (hv0 : v0 ∈ li_World) (hv1 : v1 ∈ li_World) {Q : Option Value → zM → Prop} (h : ok (f_World_copy v0 v1 m) (fun p => Q none p)) : zc gX s_World_copy [.ref v0, .ref v1] m Q := by
  refine zc_of rfl (Nat.le_of_ble_eq_true rfl) ?_
  show AX gX s_World_copy 0 [(0, .ref v0), (1, .ref v1)] [] m Q
  obtain ⟨K, hK⟩ : ∃ K : zM → Prop, K = (fun p : zM => Q none p) := ⟨_, rfl⟩
  have hR : ∀ p : zM, K p → Q none p := fun p hp => by rw [hK] at hp; exact hp
  replace h : ok (f_World_copy v0 v1 m) (fun p : zM => Q none p) := h
  rw [← hK] at h
  unfold f_World_copy at h
  refine ax_aload_n 0 d_World_copy_0 rfl rfl 1 rfl ?_
  refine ax_aload_n 1 d_World_copy_1 rfl rfl 2 rfl ?_
  refine ax_getI fl_World_9 (sx_World hv1) rfl d_World_copy_2 5 rfl ?_
  refine ax_putI (K := K) fl_World_9 (sx_World hv0) rfl rfl rfl (Nat.le_of_ble_eq_true rfl) d_World_copy_5 8 rfl h (fun m1 h => ?_)
  refine ax_aload_n 0 d_World_copy_8 rfl rfl 9 rfl ?_
  refine ax_aload_n 1 d_World_copy_9 rfl rfl 10 rfl ?_
  refine ax_getI fl_World_15 (sx_World hv1) rfl d_World_copy_10 13 rfl ?_
  refine ax_putI (K := K) fl_World_15 (sx_World hv0) rfl rfl rfl (Nat.le_of_ble_eq_true rfl) d_World_copy_13 16 rfl h (fun m2 h => ?_)
  refine ax_aload_n 1 d_World_copy_16 rfl rfl 17 rfl ?_
  refine ax_getR fl_World_18 (sx_World hv1) rfl (ro_World_2 hv1 _) d_World_copy_17 20 rfl ?_
  refine ax_iconst 0 d_World_copy_20 ic_0 21 rfl ?_
  refine ax_aload_n 0 d_World_copy_21 rfl rfl 22 rfl ?_
  refine ax_getR fl_World_18 (sx_World hv0) rfl (ro_World_2 hv0 _) d_World_copy_22 25 rfl ?_
  refine ax_iconst 0 d_World_copy_25 ic_0 26 rfl ?_
  refine ax_iconst 4 d_World_copy_26 ic_4 27 rfl ?_
  refine ax_copyI ac_World_44 ⟨Nat.le_of_ble_eq_true rfl, Nat.le_of_ble_eq_true rfl⟩ (sa_World_2 hv1) (sa_World_2 hv0) d_World_copy_27 30 rfl h (fun r3 m4 h => ?_)
  exact ax_vret rfl d_World_copy_30 (hR m4 (ok_some h))
set_option maxRecDepth 4000 in
theorem c_World_hasOther_J31 (v0 : Nat) (v1 : Int32) (v2 : Int32) (v3 : Int32) (m : zM) (hv0 : v0 ∈ li_World) {Q : Option Value → zM → Prop} {K : ((Bool) ⊕ (Int32)) → Prop} (hR : ∀ p : Bool, K (.inl p) → Q (some (.int (b2i p))) m) (h0 : ∀ s : Int32, K (.inr s) → AX gX s_World_hasOther 2 [(0, .ref v0), (1, .int v1), (2, .int v2), (3, .int s)] [] m Q) (h : ok (f_World_hasOther_J31 v0 v1 v2 v3 m) K) : AX gX s_World_hasOther 31 [(0, .ref v0), (1, .int v1), (2, .int v2), (3, .int v3)] [] m Q := by
  unfold f_World_hasOther_J31 at h
  refine ax_iinc (ls1 := [(3, .int (v3 + 1)), (0, .ref v0), (1, .int v1), (2, .int v2)]) 3 1 d_World_hasOther_31 rfl ic_1 (Nat.le_of_ble_eq_true rfl) rfl 34 rfl ?_
  refine ax_goto 2 d_World_hasOther_34 rfl ?_
  exact ax_sub [1, 2, 3, 0] rfl (h0 (v3 + 1) (ok_some h))
set_option maxRecDepth 4000 in
theorem c_World_hasOther_B2 (v0 : Nat) (v1 : Int32) (v2 : Int32) (v3 : Int32) (m : zM) (hv0 : v0 ∈ li_World) {Q : Option Value → zM → Prop} {K : ((Bool) ⊕ (Int32)) → Prop} (hR : ∀ p : Bool, K (.inl p) → Q (some (.int (b2i p))) m) (h0 : ∀ s : Int32, K (.inr s) → AX gX s_World_hasOther 2 [(0, .ref v0), (1, .int v1), (2, .int v2), (3, .int s)] [] m Q) (h : ok (f_World_hasOther_B2 v0 v1 v2 v3 m) K) : AX gX s_World_hasOther 2 [(0, .ref v0), (1, .int v1), (2, .int v2), (3, .int v3)] [] m Q := by
  unfold f_World_hasOther_B2 at h
  refine ax_iload_n 3 d_World_hasOther_2 rfl rfl 3 rfl ?_
  refine ax_aload_n 0 d_World_hasOther_3 rfl rfl 4 rfl ?_
  refine ax_getI fl_World_15 (sx_World hv0) rfl d_World_hasOther_4 7 rfl ?_
  refine ax_icmp_ge 37 10 d_World_hasOther_7 rfl rfl (fun hc => ?_) (fun hc => ?_)
  · have h := ok_t hc h
    refine ax_iconst 0 d_World_hasOther_37 ic_0 38 rfl ?_
    exact ax_zret (b := false) rfl d_World_hasOther_38 (hR false (ok_some h))
  · have h := ok_f hc h
    refine ax_iload_n 3 d_World_hasOther_10 rfl rfl 11 rfl ?_
    refine ax_iload_n 1 d_World_hasOther_11 rfl rfl 12 rfl ?_
    refine ax_icmp_eq 31 15 d_World_hasOther_12 rfl rfl (fun hc => ?_) (fun hc => ?_)
    · have h := ok_t hc h
      exact ax_sub [0, 1, 2, 3] rfl (c_World_hasOther_J31 v0 v1 v2 v3 m hv0 (fun p hp => hR p hp) (fun s hs => h0 s hs) h)
    · have h := ok_f hc h
      refine ax_aload_n 0 d_World_hasOther_15 rfl rfl 16 rfl ?_
      refine ax_getR fl_World_18 (sx_World hv0) rfl (ro_World_2 hv0 _) d_World_hasOther_16 19 rfl ?_
      refine ax_iload_n 3 d_World_hasOther_19 rfl rfl 20 rfl ?_
      refine ax_iaload (sa_World_2 hv0) d_World_hasOther_20 21 rfl h (fun i1 h => ?_)
      refine ax_iconst 0 d_World_hasOther_21 ic_0 22 rfl ?_
      refine ax_callS mv_World_56 ⟨Nat.le_of_ble_eq_true rfl, Nat.le_of_ble_eq_true rfl⟩ ⟨rfl, rfl⟩ [.int (m.1 (v0 + 1) i1), .int 0] [.int 0, .int (m.1 (v0 + 1) i1)] rfl rfl (Nat.le_of_ble_eq_true rfl) d_World_hasOther_22 25 rfl (zc_PA_held (m.1 (v0 + 1) i1) 0 m ?_)
      refine ax_iload_n 2 d_World_hasOther_25 rfl rfl 26 rfl ?_
      refine ax_icmp_ne 31 29 d_World_hasOther_26 rfl rfl (fun hc => ?_) (fun hc => ?_)
      · have h := ok_f hc h
        exact ax_sub [0, 1, 2, 3] rfl (c_World_hasOther_J31 v0 v1 v2 v3 m hv0 (fun p hp => hR p hp) (fun s hs => h0 s hs) h)
      · have h := ok_t hc h
        refine ax_iconst 1 d_World_hasOther_29 ic_1 30 rfl ?_
        exact ax_zret (b := true) rfl d_World_hasOther_30 (hR true (ok_some h))
theorem c_World_hasOther_L2 (v0 : Nat) (v1 : Int32) (v2 : Int32) (v3 : Int32) (m : zM) (hv0 : v0 ∈ li_World) {Q : Option Value → zM → Prop} {K : Bool → Prop} (hR : ∀ p : Bool, K (p) → Q (some (.int (b2i p))) m)  (h : ok (f_World_hasOther_L2 v0 v1 v2 v3 m) K) : AX gX s_World_hasOther 2 [(0, .ref v0), (1, .int v1), (2, .int v2), (3, .int v3)] [] m Q :=
  ok_lp (K := K) (G := fun s : Int32 => AX gX s_World_hasOther 2 [(0, .ref v0), (1, .int v1), (2, .int v2), (3, .int s)] [] m Q) (fun s h => c_World_hasOther_B2 v0 v1 v2 s m hv0 (fun p hp => hR p hp) (fun s hs => hs) h) FU v3 h
set_option maxRecDepth 4000 in
theorem zc_World_hasOther (v0 : Nat) (v1 : Int32) (v2 : Int32) (m : zM) (hv0 : v0 ∈ li_World) {Q : Option Value → zM → Prop} (h : ok (f_World_hasOther v0 v1 v2 m) (fun p => Q (some (.int (b2i p))) m)) : zc gX s_World_hasOther [.ref v0, .int v1, .int v2] m Q := by
  refine zc_of rfl (Nat.le_of_ble_eq_true rfl) ?_
  show AX gX s_World_hasOther 0 [(0, .ref v0), (1, .int v1), (2, .int v2)] [] m Q
  obtain ⟨K, hK⟩ : ∃ K : Bool → Prop, K = (fun p : Bool => Q (some (.int (b2i p))) m) := ⟨_, rfl⟩
  have hR : ∀ p : Bool, K p → Q (some (.int (b2i p))) m := fun p hp => by rw [hK] at hp; exact hp
  replace h : ok (f_World_hasOther v0 v1 v2 m) (fun p : Bool => Q (some (.int (b2i p))) m) := h
  rw [← hK] at h
  unfold f_World_hasOther at h
  refine ax_iconst 0 d_World_hasOther_0 ic_0 1 rfl ?_
  refine ax_istore_n (ls1 := [(3, .int 0), (0, .ref v0), (1, .int v1), (2, .int v2)]) d_World_hasOther_1 rfl (Nat.le_of_ble_eq_true rfl) rfl 2 rfl ?_
  exact ax_sub [1, 2, 3, 0] rfl (c_World_hasOther_L2 v0 v1 v2 0 m hv0 (fun p hp => hR p hp) h)
set_option maxRecDepth 4000 in
theorem c_World_receive_J67 (v0 : Nat) (v1 : Int32) (v4 : Int32) (v5 : Int32) (m : zM) (hv0 : v0 ∈ li_World) {Q : Option Value → zM → Prop} {K : (Bool × zM) → Prop} (hR : ∀ p : Bool × zM, K (p) → Q (some (.int (b2i p.1))) p.2)  (h : ok (f_World_receive_J67 v0 v1 v4 v5 m) K) : AX gX s_World_receive 67 [(0, .ref v0), (1, .int v1), (4, .int v4), (5, .int v5)] [] m Q := by
  unfold f_World_receive_J67 at h
  refine ax_aload_n 0 d_World_receive_67 rfl rfl 68 rfl ?_
  refine ax_getR fl_World_18 (sx_World hv0) rfl (ro_World_2 hv0 _) d_World_receive_68 71 rfl ?_
  refine ax_iload_n 1 d_World_receive_71 rfl rfl 72 rfl ?_
  refine ax_aload_n 0 d_World_receive_72 rfl rfl 73 rfl ?_
  refine ax_getR fl_World_18 (sx_World hv0) rfl (ro_World_2 hv0 _) d_World_receive_73 76 rfl ?_
  refine ax_iload_n 1 d_World_receive_76 rfl rfl 77 rfl ?_
  refine ax_iaload (sa_World_2 hv0) d_World_receive_77 78 rfl h (fun i3 h => ?_)
  refine ax_iconst 0 d_World_receive_78 ic_0 79 rfl ?_
  refine ax_callS mv_World_56 ⟨Nat.le_of_ble_eq_true rfl, Nat.le_of_ble_eq_true rfl⟩ ⟨rfl, rfl⟩ [.int (m.1 (v0 + 1) i3), .int 0] [.int 0, .int (m.1 (v0 + 1) i3), .int v1, .ref (v0 + 1)] rfl rfl (Nat.le_of_ble_eq_true rfl) d_World_receive_79 82 rfl (zc_PA_held (m.1 (v0 + 1) i3) 0 m ?_)
  refine ax_iload 2 d_World_receive_82 rfl 84 rfl ?_
  refine ax_iload 3 d_World_receive_84 rfl 86 rfl ?_
  refine ax_aload_n 0 d_World_receive_86 rfl rfl 87 rfl ?_
  refine ax_getR fl_World_18 (sx_World hv0) rfl (ro_World_2 hv0 _) d_World_receive_87 90 rfl ?_
  refine ax_iload_n 1 d_World_receive_90 rfl rfl 91 rfl ?_
  refine ax_iaload (sa_World_2 hv0) d_World_receive_91 92 rfl h (fun i4 h => ?_)
  refine ax_iconst 3 d_World_receive_92 ic_3 93 rfl ?_
  refine ax_callS mv_World_56 ⟨Nat.le_of_ble_eq_true rfl, Nat.le_of_ble_eq_true rfl⟩ ⟨rfl, rfl⟩ [.int (m.1 (v0 + 1) i4), .int 3] [.int 3, .int (m.1 (v0 + 1) i4), .int v5, .int v4, .int (f_PA_held (m.1 (v0 + 1) i3) 0), .int v1, .ref (v0 + 1)] rfl rfl (Nat.le_of_ble_eq_true rfl) d_World_receive_93 96 rfl (zc_PA_held (m.1 (v0 + 1) i4) 3 m ?_)
  refine ax_callS mv_World_34 ⟨Nat.le_of_ble_eq_true rfl, Nat.le_of_ble_eq_true rfl⟩ ⟨rfl, rfl⟩ [.int (f_PA_held (m.1 (v0 + 1) i3) 0), .int v4, .int v5, .int (f_PA_held (m.1 (v0 + 1) i4) 3)] [.int (f_PA_held (m.1 (v0 + 1) i4) 3), .int v5, .int v4, .int (f_PA_held (m.1 (v0 + 1) i3) 0), .int v1, .ref (v0 + 1)] rfl rfl (Nat.le_of_ble_eq_true rfl) d_World_receive_96 99 rfl (zc_PA_codeOf (f_PA_held (m.1 (v0 + 1) i3) 0) v4 v5 (f_PA_held (m.1 (v0 + 1) i4) 3) m ?_)
  refine ax_iastore (sa_World_2 hv0) d_World_receive_99 100 rfl h (fun i5 m6 h => ?_)
  refine ax_iconst 1 d_World_receive_100 ic_1 101 rfl ?_
  exact ax_zret (b := true) rfl d_World_receive_101 (hR (true, m6) (ok_some h))
set_option maxRecDepth 4000 in
theorem c_World_receive_J64 (v0 : Nat) (v1 : Int32) (v2 : Int32) (v4 : Int32) (m : zM) (hv0 : v0 ∈ li_World) {Q : Option Value → zM → Prop} {K : (Bool × zM) → Prop} (hR : ∀ p : Bool × zM, K (p) → Q (some (.int (b2i p.1))) p.2)  (h : ok (f_World_receive_J64 v0 v1 v2 v4 m) K) : AX gX s_World_receive 64 [(0, .ref v0), (1, .int v1), (2, .int v2), (4, .int v4)] [] m Q := by
  unfold f_World_receive_J64 at h
  refine ax_iload_n 2 d_World_receive_64 rfl rfl 65 rfl ?_
  refine ax_istore (ls1 := [(5, .int v2), (0, .ref v0), (1, .int v1), (2, .int v2), (4, .int v4)]) d_World_receive_65 (Nat.le_of_ble_eq_true rfl) rfl 67 rfl ?_
  exact ax_sub [1, 2, 4, 0] rfl (c_World_receive_J67 v0 v1 v4 v2 m hv0 (fun p hp => hR p hp) h)
set_option maxRecDepth 4000 in
theorem zc_World_receive (v0 : Nat) (v1 : Int32) (v2 : Int32) (v3 : Int32) (m : zM) (hv0 : v0 ∈ li_World) {Q : Option Value → zM → Prop} (h : ok (f_World_receive v0 v1 v2 v3 m) (fun p => Q (some (.int (b2i p.1))) p.2)) : zc gX s_World_receive [.ref v0, .int v1, .int v2, .int v3] m Q := by
  refine zc_of rfl (Nat.le_of_ble_eq_true rfl) ?_
  show AX gX s_World_receive 0 [(0, .ref v0), (1, .int v1), (2, .int v2), (3, .int v3)] [] m Q
  obtain ⟨K, hK⟩ : ∃ K : (Bool × zM) → Prop, K = (fun p : Bool × zM => Q (some (.int (b2i p.1))) p.2) := ⟨_, rfl⟩
  have hR : ∀ p : Bool × zM, K p → Q (some (.int (b2i p.1))) p.2 := fun p hp => by rw [hK] at hp; exact hp
  replace h : ok (f_World_receive v0 v1 v2 v3 m) (fun p : Bool × zM => Q (some (.int (b2i p.1))) p.2) := h
  rw [← hK] at h
  unfold f_World_receive at h
  refine ax_aload_n 0 d_World_receive_0 rfl rfl 1 rfl ?_
  refine ax_getR fl_World_18 (sx_World hv0) rfl (ro_World_2 hv0 _) d_World_receive_1 4 rfl ?_
  refine ax_iload_n 1 d_World_receive_4 rfl rfl 5 rfl ?_
  refine ax_iaload (sa_World_2 hv0) d_World_receive_5 6 rfl h (fun i1 h => ?_)
  refine ax_iconst 1 d_World_receive_6 ic_1 7 rfl ?_
  refine ax_callS mv_World_56 ⟨Nat.le_of_ble_eq_true rfl, Nat.le_of_ble_eq_true rfl⟩ ⟨rfl, rfl⟩ [.int (m.1 (v0 + 1) i1), .int 1] [.int 1, .int (m.1 (v0 + 1) i1)] rfl rfl (Nat.le_of_ble_eq_true rfl) d_World_receive_7 10 rfl (zc_PA_held (m.1 (v0 + 1) i1) 1 m ?_)
  refine ax_istore (ls1 := [(4, .int (f_PA_held (m.1 (v0 + 1) i1) 1)), (0, .ref v0), (1, .int v1), (2, .int v2), (3, .int v3)]) d_World_receive_10 (Nat.le_of_ble_eq_true rfl) rfl 12 rfl ?_
  refine ax_aload_n 1 d_World_receive_12 rfl rfl 13 rfl ?_
  refine ax_getR fl_World_18 (sx_World hv0) rfl (ro_World_2 hv0 _) d_World_receive_13 16 rfl ?_
  refine ax_iload_n 2 d_World_receive_16 rfl rfl 17 rfl ?_
  refine ax_iaload (sa_World_2 hv0) d_World_receive_17 18 rfl h (fun i2 h => ?_)
  refine ax_iconst 2 d_World_receive_18 ic_2 19 rfl ?_
  refine ax_callS mv_World_56 ⟨Nat.le_of_ble_eq_true rfl, Nat.le_of_ble_eq_true rfl⟩ ⟨rfl, rfl⟩ [.int (m.1 (v0 + 1) i2), .int 2] [.int 2, .int (m.1 (v0 + 1) i2)] rfl rfl (Nat.le_of_ble_eq_true rfl) d_World_receive_19 22 rfl (zc_PA_held (m.1 (v0 + 1) i2) 2 m ?_)
  refine ax_istore (ls1 := [(5, .int (f_PA_held (m.1 (v0 + 1) i2) 2)), (4, .int (f_PA_held (m.1 (v0 + 1) i1) 1)), (0, .ref v0), (1, .int v1), (2, .int v2), (3, .int v3)]) d_World_receive_22 (Nat.le_of_ble_eq_true rfl) rfl 24 rfl ?_
  refine ax_iload 0 d_World_receive_24 rfl 26 rfl ?_
  refine ax_iconst (-1) d_World_receive_26 ic_m1 27 rfl ?_
  refine ax_icmp_eq 32 30 d_World_receive_27 rfl rfl (fun hc => ?_) (fun hc => ?_)
  · have h := ok_t hc h
    refine ax_iload 1 d_World_receive_32 rfl 34 rfl ?_
    refine ax_iconst (-1) d_World_receive_34 ic_m1 35 rfl ?_
    refine ax_icmp_ne 44 38 d_World_receive_35 rfl rfl (fun hc => ?_) (fun hc => ?_)
    · have h := ok_f hc h
      refine ax_iload_n 5 d_World_receive_44 rfl rfl 45 rfl ?_
      refine ax_if_eq 64 48 d_World_receive_45 rfl rfl (fun hc => ?_) (fun hc => ?_)
      · have h := ok_t hc h
        exact ax_sub [2, 3, 4, 1] rfl (c_World_receive_J64 v0 v1 v2 (f_PA_held (m.1 (v0 + 1) i1) 1) m hv0 (fun p hp => hR p hp) h)
      · have h := ok_f hc h
        refine ax_iload_n 4 d_World_receive_48 rfl rfl 49 rfl ?_
        refine ax_iload 1 d_World_receive_49 rfl 51 rfl ?_
        refine ax_icmp_ge 64 54 d_World_receive_51 rfl rfl (fun hc => ?_) (fun hc => ?_)
        · have h := ok_t hc h
          exact ax_sub [2, 3, 4, 1] rfl (c_World_receive_J64 v0 v1 v2 (f_PA_held (m.1 (v0 + 1) i1) 1) m hv0 (fun p hp => hR p hp) h)
        · have h := ok_f hc h
          refine ax_iload 1 d_World_receive_54 rfl 56 rfl ?_
          refine ax_istore (ls1 := [(5, .int (f_PA_held (m.1 (v0 + 1) i1) 1)), (4, .int (f_PA_held (m.1 (v0 + 1) i1) 1)), (0, .ref v0), (1, .int v1), (2, .int v2), (3, .int v3)]) d_World_receive_56 (Nat.le_of_ble_eq_true rfl) rfl 58 rfl ?_
          refine ax_iload_n 4 d_World_receive_58 rfl rfl 59 rfl ?_
          refine ax_istore (ls1 := [(4, .int v2), (5, .int (f_PA_held (m.1 (v0 + 1) i1) 1)), (0, .ref v0), (1, .int v1), (2, .int v2), (3, .int v3)]) d_World_receive_59 (Nat.le_of_ble_eq_true rfl) rfl 61 rfl ?_
          refine ax_goto 67 d_World_receive_61 rfl ?_
          exact ax_sub [2, 3, 0, 1] rfl (c_World_receive_J67 v0 v1 v2 (f_PA_held (m.1 (v0 + 1) i1) 1) m hv0 (fun p hp => hR p hp) h)
    · have h := ok_t hc h
      refine ax_iload_n 4 d_World_receive_38 rfl rfl 39 rfl ?_
      refine ax_istore (ls1 := [(4, .int v2), (5, .int (f_PA_held (m.1 (v0 + 1) i2) 2)), (0, .ref v0), (1, .int v1), (2, .int v2), (3, .int v3)]) d_World_receive_39 (Nat.le_of_ble_eq_true rfl) rfl 41 rfl ?_
      refine ax_goto 67 d_World_receive_41 rfl ?_
      exact ax_sub [2, 3, 0, 1] rfl (c_World_receive_J67 v0 v1 v2 (f_PA_held (m.1 (v0 + 1) i2) 2) m hv0 (fun p hp => hR p hp) h)
  · have h := ok_f hc h
    refine ax_iconst 0 d_World_receive_30 ic_0 31 rfl ?_
    exact ax_zret (b := false) rfl d_World_receive_31 (hR (false, m) (ok_some h))
set_option maxRecDepth 4000 in
theorem c_Row_serve_J135 (v0 : Nat) (v1 : Nat) (v2 : Int32) (v3 : Int32) (v5 : Int32) (m : zM) (hv0 : v0 ∈ li_Row) (hv1 : v1 ∈ li_World) {Q : Option Value → zM → Prop} {K : ((Bool × zM) ⊕ (Int32 × zM)) → Prop} (hR : ∀ p : Bool × zM, K (.inl p) → Q (some (.int (b2i p.1))) p.2) (h0 : ∀ s : Int32 × zM, K (.inr s) → AX gX s_Row_serve 96 [(0, .ref v0), (1, .ref v1), (2, .int v2), (3, .int v3), (5, .int s.1)] [] s.2 Q) (h : ok (f_Row_serve_J135 v0 v1 v2 v3 v5 m) K) : AX gX s_Row_serve 135 [(0, .ref v0), (1, .ref v1), (2, .int v2), (3, .int v3), (5, .int v5)] [] m Q := by
  unfold f_Row_serve_J135 at h
  refine ax_iinc (ls1 := [(5, .int (v5 + 1)), (0, .ref v0), (1, .ref v1), (2, .int v2), (3, .int v3)]) 4 1 d_Row_serve_135 rfl ic_1 (Nat.le_of_ble_eq_true rfl) rfl 138 rfl ?_
  refine ax_goto 96 d_Row_serve_138 rfl ?_
  exact ax_sub [1, 2, 3, 4, 0] rfl (h0 ((v5 + 1), m) (ok_some h))
set_option maxRecDepth 4000 in
theorem c_Row_serve_B96 (v0 : Nat) (v1 : Nat) (v2 : Int32) (v3 : Int32) (v5 : Int32) (m : zM) (hv0 : v0 ∈ li_Row) (hv1 : v1 ∈ li_World) {Q : Option Value → zM → Prop} {K : ((Bool × zM) ⊕ (Int32 × zM)) → Prop} (hR : ∀ p : Bool × zM, K (.inl p) → Q (some (.int (b2i p.1))) p.2) (h0 : ∀ s : Int32 × zM, K (.inr s) → AX gX s_Row_serve 96 [(0, .ref v0), (1, .ref v1), (2, .int v2), (3, .int v3), (5, .int s.1)] [] s.2 Q) (h : ok (f_Row_serve_B96 v0 v1 v2 v3 v5 m) K) : AX gX s_Row_serve 96 [(0, .ref v0), (1, .ref v1), (2, .int v2), (3, .int v3), (5, .int v5)] [] m Q := by
  unfold f_Row_serve_B96 at h
  refine ax_aload_n 0 d_Row_serve_96 rfl rfl 97 rfl ?_
  refine ax_getI fl_Row_28 (sx_Row hv0) rfl d_Row_serve_97 100 rfl ?_
  refine ax_iconst (-1) d_Row_serve_100 ic_m1 101 rfl ?_
  refine ax_icmp_eq 141 104 d_Row_serve_101 rfl rfl (fun hc => ?_) (fun hc => ?_)
  · have h := ok_t hc h
    refine ax_iconst 1 d_Row_serve_141 ic_1 142 rfl ?_
    exact ax_zret (b := true) rfl d_Row_serve_142 (hR (true, m) (ok_some h))
  · have h := ok_f hc h
    refine ax_iload 4 d_Row_serve_104 rfl 106 rfl ?_
    refine ax_aload_n 1 d_Row_serve_106 rfl rfl 107 rfl ?_
    refine ax_getI fl_Row_73 (sx_World hv1) rfl d_Row_serve_107 110 rfl ?_
    refine ax_icmp_ge 141 113 d_Row_serve_110 rfl rfl (fun hc => ?_) (fun hc => ?_)
    · have h := ok_t hc h
      refine ax_iconst 1 d_Row_serve_141 ic_1 142 rfl ?_
      exact ax_zret (b := true) rfl d_Row_serve_142 (hR (true, m) (ok_some h))
    · have h := ok_f hc h
      refine ax_iload 4 d_Row_serve_113 rfl 115 rfl ?_
      refine ax_iload_n 2 d_Row_serve_115 rfl rfl 116 rfl ?_
      refine ax_icmp_eq 135 119 d_Row_serve_116 rfl rfl (fun hc => ?_) (fun hc => ?_)
      · have h := ok_t hc h
        exact ax_sub [0, 1, 2, 3, 4] rfl (c_Row_serve_J135 v0 v1 v2 v3 v5 m hv0 hv1 (fun p hp => hR p hp) (fun s hs => h0 s hs) h)
      · have h := ok_f hc h
        refine ax_aload_n 1 d_Row_serve_119 rfl rfl 120 rfl ?_
        refine ax_iload 4 d_Row_serve_120 rfl 122 rfl ?_
        refine ax_aload_n 0 d_Row_serve_122 rfl rfl 123 rfl ?_
        refine ax_getI fl_Row_28 (sx_Row hv0) rfl d_Row_serve_123 126 rfl ?_
        refine ax_iload_n 3 d_Row_serve_126 rfl rfl 127 rfl ?_
        refine ax_callV mv_Row_69 ⟨Nat.le_of_ble_eq_true rfl, Nat.le_of_ble_eq_true rfl⟩ ⟨rfl, rfl⟩ [.int v5, .int (m.1 v0 5), .int v3] [.int v3, .int (m.1 v0 5), .int v5, .ref v1] rfl rfl (rc_World hv1 _) (Nat.le_of_ble_eq_true rfl) d_Row_serve_127 130 rfl (zc_World_receive v1 v5 (m.1 v0 5) v3 m hv1 (ok_b h (fun p7 h => ?_)))
        refine ax_ifb_ne 135 133 d_Row_serve_130 rfl rfl (fun hc => ?_) (fun hc => ?_)
        · have h := ok_t hc h
          exact ax_sub [0, 1, 2, 3, 4] rfl (c_Row_serve_J135 v0 v1 v2 v3 v5 p7.2 hv0 hv1 (fun p hp => hR p hp) (fun s hs => h0 s hs) h)
        · have h := ok_f (bf hc) h
          refine ax_iconst 0 d_Row_serve_133 ic_0 134 rfl ?_
          exact ax_zret (b := false) rfl d_Row_serve_134 (hR (false, p7.2) (ok_some h))
theorem c_Row_serve_L96 (v0 : Nat) (v1 : Nat) (v2 : Int32) (v3 : Int32) (v5 : Int32) (m : zM) (hv0 : v0 ∈ li_Row) (hv1 : v1 ∈ li_World) {Q : Option Value → zM → Prop} {K : (Bool × zM) → Prop} (hR : ∀ p : Bool × zM, K (p) → Q (some (.int (b2i p.1))) p.2)  (h : ok (f_Row_serve_L96 v0 v1 v2 v3 v5 m) K) : AX gX s_Row_serve 96 [(0, .ref v0), (1, .ref v1), (2, .int v2), (3, .int v3), (5, .int v5)] [] m Q :=
  ok_lp (K := K) (G := fun s : Int32 × zM => AX gX s_Row_serve 96 [(0, .ref v0), (1, .ref v1), (2, .int v2), (3, .int v3), (5, .int s.1)] [] s.2 Q) (fun s h => c_Row_serve_B96 v0 v1 v2 v3 s.1 s.2 hv0 hv1 (fun p hp => hR p hp) (fun s hs => hs) h) FU (v5, m) h
set_option maxRecDepth 4000 in
theorem c_Row_serve_J93 (v0 : Nat) (v1 : Nat) (v2 : Int32) (v3 : Int32) (m : zM) (hv0 : v0 ∈ li_Row) (hv1 : v1 ∈ li_World) {Q : Option Value → zM → Prop} {K : (Bool × zM) → Prop} (hR : ∀ p : Bool × zM, K (p) → Q (some (.int (b2i p.1))) p.2)  (h : ok (f_Row_serve_J93 v0 v1 v2 v3 m) K) : AX gX s_Row_serve 93 [(0, .ref v0), (1, .ref v1), (2, .int v2), (3, .int v3)] [] m Q := by
  unfold f_Row_serve_J93 at h
  refine ax_iconst 0 d_Row_serve_93 ic_0 94 rfl ?_
  refine ax_istore (ls1 := [(5, .int 0), (0, .ref v0), (1, .ref v1), (2, .int v2), (3, .int v3)]) d_Row_serve_94 (Nat.le_of_ble_eq_true rfl) rfl 96 rfl ?_
  exact ax_sub [1, 2, 3, 4, 0] rfl (c_Row_serve_L96 v0 v1 v2 v3 0 m hv0 hv1 (fun p hp => hR p hp) h)
set_option maxRecDepth 4000 in
theorem c_Row_serve_J34 (v0 : Nat) (v1 : Nat) (v2 : Int32) (v3 : Int32) (v4 : Int32) (m : zM) (hv0 : v0 ∈ li_Row) (hv1 : v1 ∈ li_World) {Q : Option Value → zM → Prop} {K : (Bool × zM) → Prop} (hR : ∀ p : Bool × zM, K (p) → Q (some (.int (b2i p.1))) p.2)  (h : ok (f_Row_serve_J34 v0 v1 v2 v3 v4 m) K) : AX gX s_Row_serve 34 [(0, .ref v0), (1, .ref v1), (2, .int v2), (3, .int v3), (4, .int v4)] [] m Q := by
  unfold f_Row_serve_J34 at h
  refine ax_aload_n 1 d_Row_serve_34 rfl rfl 35 rfl ?_
  refine ax_aload_n 0 d_Row_serve_35 rfl rfl 36 rfl ?_
  refine ax_getI fl_Row_22 (sx_Row hv0) rfl d_Row_serve_36 39 rfl ?_
  refine ax_putI (K := K) fl_Row_47 (sx_World hv1) rfl rfl rfl (Nat.le_of_ble_eq_true rfl) d_Row_serve_39 42 rfl h (fun m3 h => ?_)
  refine ax_aload_n 1 d_Row_serve_42 rfl rfl 43 rfl ?_
  refine ax_getR fl_Row_41 (sx_World hv1) rfl (ro_World_2 hv1 _) d_Row_serve_43 46 rfl ?_
  refine ax_iload_n 2 d_Row_serve_46 rfl rfl 47 rfl ?_
  refine ax_iload 4 d_Row_serve_47 rfl 49 rfl ?_
  refine ax_iconst 0 d_Row_serve_49 ic_0 50 rfl ?_
  refine ax_callS mv_Row_50 ⟨Nat.le_of_ble_eq_true rfl, Nat.le_of_ble_eq_true rfl⟩ ⟨rfl, rfl⟩ [.int v4, .int 0] [.int 0, .int v4, .int v2, .ref (v1 + 1)] rfl rfl (Nat.le_of_ble_eq_true rfl) d_Row_serve_50 53 rfl (zc_PA_held v4 0 m3 ?_)
  refine ax_iload 4 d_Row_serve_53 rfl 55 rfl ?_
  refine ax_iconst 1 d_Row_serve_55 ic_1 56 rfl ?_
  refine ax_callS mv_Row_50 ⟨Nat.le_of_ble_eq_true rfl, Nat.le_of_ble_eq_true rfl⟩ ⟨rfl, rfl⟩ [.int v4, .int 1] [.int 1, .int v4, .int (f_PA_held v4 0), .int v2, .ref (v1 + 1)] rfl rfl (Nat.le_of_ble_eq_true rfl) d_Row_serve_56 59 rfl (zc_PA_held v4 1 m3 ?_)
  refine ax_iload 4 d_Row_serve_59 rfl 61 rfl ?_
  refine ax_iconst 2 d_Row_serve_61 ic_2 62 rfl ?_
  refine ax_callS mv_Row_50 ⟨Nat.le_of_ble_eq_true rfl, Nat.le_of_ble_eq_true rfl⟩ ⟨rfl, rfl⟩ [.int v4, .int 2] [.int 2, .int v4, .int (f_PA_held v4 1), .int (f_PA_held v4 0), .int v2, .ref (v1 + 1)] rfl rfl (Nat.le_of_ble_eq_true rfl) d_Row_serve_62 65 rfl (zc_PA_held v4 2 m3 ?_)
  refine ax_iconst (-1) d_Row_serve_65 ic_m1 66 rfl ?_
  refine ax_callS mv_Row_61 ⟨Nat.le_of_ble_eq_true rfl, Nat.le_of_ble_eq_true rfl⟩ ⟨rfl, rfl⟩ [.int (f_PA_held v4 0), .int (f_PA_held v4 1), .int (f_PA_held v4 2), .int (-1)] [.int (-1), .int (f_PA_held v4 2), .int (f_PA_held v4 1), .int (f_PA_held v4 0), .int v2, .ref (v1 + 1)] rfl rfl (Nat.le_of_ble_eq_true rfl) d_Row_serve_66 69 rfl (zc_PA_codeOf (f_PA_held v4 0) (f_PA_held v4 1) (f_PA_held v4 2) (-1) m3 ?_)
  refine ax_iastore (sa_World_2 hv1) d_Row_serve_69 70 rfl h (fun i4 m5 h => ?_)
  refine ax_aload_n 0 d_Row_serve_70 rfl rfl 71 rfl ?_
  refine ax_getI fl_Row_25 (sx_Row hv0) rfl d_Row_serve_71 74 rfl ?_
  refine ax_iconst (-1) d_Row_serve_74 ic_m1 75 rfl ?_
  refine ax_icmp_eq 93 78 d_Row_serve_75 rfl rfl (fun hc => ?_) (fun hc => ?_)
  · have h := ok_t hc h
    exact ax_sub [0, 1, 2, 3] rfl (c_Row_serve_J93 v0 v1 v2 v3 m5 hv0 hv1 (fun p hp => hR p hp) h)
  · have h := ok_f hc h
    refine ax_aload_n 1 d_Row_serve_78 rfl rfl 79 rfl ?_
    refine ax_iload_n 2 d_Row_serve_79 rfl rfl 80 rfl ?_
    refine ax_aload_n 0 d_Row_serve_80 rfl rfl 81 rfl ?_
    refine ax_getI fl_Row_25 (sx_Row hv0) rfl d_Row_serve_81 84 rfl ?_
    refine ax_iload_n 3 d_Row_serve_84 rfl rfl 85 rfl ?_
    refine ax_callV mv_Row_69 ⟨Nat.le_of_ble_eq_true rfl, Nat.le_of_ble_eq_true rfl⟩ ⟨rfl, rfl⟩ [.int v2, .int (m5.1 v0 4), .int v3] [.int v3, .int (m5.1 v0 4), .int v2, .ref v1] rfl rfl (rc_World hv1 _) (Nat.le_of_ble_eq_true rfl) d_Row_serve_85 88 rfl (zc_World_receive v1 v2 (m5.1 v0 4) v3 m5 hv1 (ok_b h (fun p6 h => ?_)))
    refine ax_ifb_ne 93 91 d_Row_serve_88 rfl rfl (fun hc => ?_) (fun hc => ?_)
    · have h := ok_t hc h
      exact ax_sub [0, 1, 2, 3] rfl (c_Row_serve_J93 v0 v1 v2 v3 p6.2 hv0 hv1 (fun p hp => hR p hp) h)
    · have h := ok_f (bf hc) h
      refine ax_iconst 0 d_Row_serve_91 ic_0 92 rfl ?_
      exact ax_zret (b := false) rfl d_Row_serve_92 (hR (false, p6.2) (ok_some h))
set_option maxRecDepth 4000 in
theorem zc_Row_serve (v0 : Nat) (v1 : Nat) (v2 : Int32) (v3 : Int32) (m : zM) (hv0 : v0 ∈ li_Row) (hv1 : v1 ∈ li_World) {Q : Option Value → zM → Prop} (h : ok (f_Row_serve v0 v1 v2 v3 m) (fun p => Q (some (.int (b2i p.1))) p.2)) : zc gX s_Row_serve [.ref v0, .ref v1, .int v2, .int v3] m Q := by
  refine zc_of rfl (Nat.le_of_ble_eq_true rfl) ?_
  show AX gX s_Row_serve 0 [(0, .ref v0), (1, .ref v1), (2, .int v2), (3, .int v3)] [] m Q
  obtain ⟨K, hK⟩ : ∃ K : (Bool × zM) → Prop, K = (fun p : Bool × zM => Q (some (.int (b2i p.1))) p.2) := ⟨_, rfl⟩
  have hR : ∀ p : Bool × zM, K p → Q (some (.int (b2i p.1))) p.2 := fun p hp => by rw [hK] at hp; exact hp
  replace h : ok (f_Row_serve v0 v1 v2 v3 m) (fun p : Bool × zM => Q (some (.int (b2i p.1))) p.2) := h
  rw [← hK] at h
  unfold f_Row_serve at h
  refine ax_aload_n 1 d_Row_serve_0 rfl rfl 1 rfl ?_
  refine ax_getR fl_Row_41 (sx_World hv1) rfl (ro_World_2 hv1 _) d_Row_serve_1 4 rfl ?_
  refine ax_iload_n 2 d_Row_serve_4 rfl rfl 5 rfl ?_
  refine ax_iaload (sa_World_2 hv1) d_Row_serve_5 6 rfl h (fun i1 h => ?_)
  refine ax_istore (ls1 := [(4, .int (m.1 (v1 + 1) i1)), (0, .ref v0), (1, .ref v1), (2, .int v2), (3, .int v3)]) d_Row_serve_6 (Nat.le_of_ble_eq_true rfl) rfl 8 rfl ?_
  refine ax_aload_n 1 d_Row_serve_8 rfl rfl 9 rfl ?_
  refine ax_getI fl_Row_31 (sx_Row hv0) rfl d_Row_serve_9 12 rfl ?_
  refine ax_iconst (-1) d_Row_serve_12 ic_m1 13 rfl ?_
  refine ax_icmp_eq 34 16 d_Row_serve_13 rfl rfl (fun hc => ?_) (fun hc => ?_)
  · have h := ok_t hc h
    exact ax_sub [1, 2, 3, 4, 0] rfl (c_Row_serve_J34 v0 v1 v2 v3 (m.1 (v1 + 1) i1) m hv0 hv1 (fun p hp => hR p hp) h)
  · have h := ok_f hc h
    refine ax_aload_n 2 d_Row_serve_16 rfl rfl 17 rfl ?_
    refine ax_iload_n 3 d_Row_serve_17 rfl rfl 18 rfl ?_
    refine ax_aload_n 1 d_Row_serve_18 rfl rfl 19 rfl ?_
    refine ax_getI fl_Row_31 (sx_Row hv0) rfl d_Row_serve_19 22 rfl ?_
    refine ax_callV mv_Row_65 ⟨Nat.le_of_ble_eq_true rfl, Nat.le_of_ble_eq_true rfl⟩ ⟨rfl, rfl⟩ [.int v2, .int (m.1 v0 6)] [.int (m.1 v0 6), .int v2, .ref v1] rfl rfl (rc_World hv1 _) (Nat.le_of_ble_eq_true rfl) d_Row_serve_22 25 rfl (zc_World_hasOther v1 v2 (m.1 v0 6) m hv1 (ok_b h (fun r2 h => ?_)))
    refine ax_aload_n 1 d_Row_serve_25 rfl rfl 26 rfl ?_
    refine ax_getI fl_Row_34 (sx_Row hv0) rfl d_Row_serve_26 29 rfl ?_
    refine ax_icmp_eq 34 32 d_Row_serve_29 rfl rfl (fun hc => ?_) (fun hc => ?_)
    · have h := ok_t hc h
      exact ax_sub [1, 2, 3, 4, 0] rfl (c_Row_serve_J34 v0 v1 v2 v3 (m.1 (v1 + 1) i1) m hv0 hv1 (fun p hp => hR p hp) h)
    · have h := ok_f hc h
      refine ax_iconst 0 d_Row_serve_32 ic_0 33 rfl ?_
      exact ax_zret (b := false) rfl d_Row_serve_33 (hR (false, m) (ok_some h))
set_option maxRecDepth 4000 in
theorem c_Row_step_J115 (v0 : Nat) (v1 : Nat) (v2 : Int32) (v5 : Int32) (v6 : Int32) (v7 : Int32) (m : zM) (hv0 : v0 ∈ li_Row) (hv1 : v1 ∈ li_World) {Q : Option Value → zM → Prop} {K : (Bool × zM) → Prop} (hR : ∀ p : Bool × zM, K (p) → Q (some (.int (b2i p.1))) p.2)  (h : ok (f_Row_step_J115 v0 v1 v2 v5 v6 v7 m) K) : AX gX s_Row_step 115 [(0, .ref v0), (1, .ref v1), (2, .int v2), (5, .int v5), (6, .int v6), (7, .int v7)] [] m Q := by
  unfold f_Row_step_J115 at h
  refine ax_aload_n 1 d_Row_step_115 rfl rfl 116 rfl ?_
  refine ax_getR fl_Row_41 (sx_World hv1) rfl (ro_World_2 hv1 _) d_Row_step_116 119 rfl ?_
  refine ax_iload_n 2 d_Row_step_119 rfl rfl 120 rfl ?_
  refine ax_aload_n 0 d_Row_step_120 rfl rfl 121 rfl ?_
  refine ax_getI fl_Row_22 (sx_Row hv0) rfl d_Row_step_121 124 rfl ?_
  refine ax_iload 3 d_Row_step_124 rfl 126 rfl ?_
  refine ax_iload 4 d_Row_step_126 rfl 128 rfl ?_
  refine ax_iload 5 d_Row_step_128 rfl 130 rfl ?_
  refine ax_callS mv_Row_61 ⟨Nat.le_of_ble_eq_true rfl, Nat.le_of_ble_eq_true rfl⟩ ⟨rfl, rfl⟩ [.int (m.1 v0 3), .int v5, .int v6, .int v7] [.int v7, .int v6, .int v5, .int (m.1 v0 3), .int v2, .ref (v1 + 1)] rfl rfl (Nat.le_of_ble_eq_true rfl) d_Row_step_130 133 rfl (zc_PA_codeOf (m.1 v0 3) v5 v6 v7 m ?_)
  refine ax_iastore (sa_World_2 hv1) d_Row_step_133 134 rfl h (fun i2 m3 h => ?_)
  refine ax_iconst 1 d_Row_step_134 ic_1 135 rfl ?_
  exact ax_zret (b := true) rfl d_Row_step_135 (hR (true, m3) (ok_some h))
set_option maxRecDepth 4000 in
theorem c_Row_step_J93 (v0 : Nat) (v1 : Nat) (v2 : Int32) (v5 : Int32) (v6 : Int32) (v7 : Int32) (m : zM) (hv0 : v0 ∈ li_Row) (hv1 : v1 ∈ li_World) {Q : Option Value → zM → Prop} {K : (Bool × zM) → Prop} (hR : ∀ p : Bool × zM, K (p) → Q (some (.int (b2i p.1))) p.2)  (h : ok (f_Row_step_J93 v0 v1 v2 v5 v6 v7 m) K) : AX gX s_Row_step 93 [(0, .ref v0), (1, .ref v1), (2, .int v2), (5, .int v5), (6, .int v6), (7, .int v7)] [] m Q := by
  unfold f_Row_step_J93 at h
  refine ax_aload_n 0 d_Row_step_93 rfl rfl 94 rfl ?_
  refine ax_getI fl_Row_25 (sx_Row hv0) rfl d_Row_step_94 97 rfl ?_
  refine ax_iconst (-1) d_Row_step_97 ic_m1 98 rfl ?_
  refine ax_icmp_eq 115 101 d_Row_step_98 rfl rfl (fun hc => ?_) (fun hc => ?_)
  · have h := ok_t hc h
    exact ax_sub [0, 1, 2, 3, 4, 5] rfl (c_Row_step_J115 v0 v1 v2 v5 v6 v7 m hv0 hv1 (fun p hp => hR p hp) h)
  · have h := ok_f hc h
    refine ax_iload 5 d_Row_step_101 rfl 103 rfl ?_
    refine ax_iconst (-1) d_Row_step_103 ic_m1 104 rfl ?_
    refine ax_icmp_eq 109 107 d_Row_step_104 rfl rfl (fun hc => ?_) (fun hc => ?_)
    · have h := ok_t hc h
      refine ax_aload_n 0 d_Row_step_109 rfl rfl 110 rfl ?_
      refine ax_getI fl_Row_25 (sx_Row hv0) rfl d_Row_step_110 113 rfl ?_
      refine ax_istore (ls1 := [(7, .int (m.1 v0 4)), (0, .ref v0), (1, .ref v1), (2, .int v2), (5, .int v5), (6, .int v6)]) d_Row_step_113 (Nat.le_of_ble_eq_true rfl) rfl 115 rfl ?_
      exact ax_sub [1, 2, 3, 4, 5, 0] rfl (c_Row_step_J115 v0 v1 v2 v5 v6 (m.1 v0 4) m hv0 hv1 (fun p hp => hR p hp) h)
    · have h := ok_f hc h
      refine ax_iconst 0 d_Row_step_107 ic_0 108 rfl ?_
      exact ax_zret (b := false) rfl d_Row_step_108 (hR (false, m) (ok_some h))
set_option maxRecDepth 4000 in
theorem c_Row_step_J88 (v0 : Nat) (v1 : Nat) (v2 : Int32) (v7 : Int32) (t0 : Int32) (m : zM) (hv0 : v0 ∈ li_Row) (hv1 : v1 ∈ li_World) {Q : Option Value → zM → Prop} {K : (Bool × zM) → Prop} (hR : ∀ p : Bool × zM, K (p) → Q (some (.int (b2i p.1))) p.2)  (h : ok (f_Row_step_J88 v0 v1 v2 v7 t0 m) K) : AX gX s_Row_step 88 [(0, .ref v0), (1, .ref v1), (2, .int v2), (7, .int v7)] [.int t0] m Q := by
  unfold f_Row_step_J88 at h
  refine ax_istore (ls1 := [(5, .int t0), (0, .ref v0), (1, .ref v1), (2, .int v2), (7, .int v7)]) d_Row_step_88 (Nat.le_of_ble_eq_true rfl) rfl 90 rfl ?_
  refine ax_iconst (-1) d_Row_step_90 ic_m1 91 rfl ?_
  refine ax_istore (ls1 := [(6, .int (-1)), (5, .int t0), (0, .ref v0), (1, .ref v1), (2, .int v2), (7, .int v7)]) d_Row_step_91 (Nat.le_of_ble_eq_true rfl) rfl 93 rfl ?_
  exact ax_sub [2, 3, 4, 1, 0, 5] rfl (c_Row_step_J93 v0 v1 v2 t0 (-1) v7 m hv0 hv1 (fun p hp => hR p hp) h)
set_option maxRecDepth 4000 in
theorem c_Row_step_J76 (v0 : Nat) (v1 : Nat) (v2 : Int32) (v5 : Int32) (v6 : Int32) (v7 : Int32) (v8 : Bool) (m : zM) (hv0 : v0 ∈ li_Row) (hv1 : v1 ∈ li_World) {Q : Option Value → zM → Prop} {K : (Bool × zM) → Prop} (hR : ∀ p : Bool × zM, K (p) → Q (some (.int (b2i p.1))) p.2)  (h : ok (f_Row_step_J76 v0 v1 v2 v5 v6 v7 v8 m) K) : AX gX s_Row_step 76 [(0, .ref v0), (1, .ref v1), (2, .int v2), (5, .int v5), (6, .int v6), (7, .int v7), (8, .int (b2i v8))] [] m Q := by
  unfold f_Row_step_J76 at h
  refine ax_iload 6 d_Row_step_76 rfl 78 rfl ?_
  refine ax_ifb_eq 86 81 d_Row_step_78 rfl rfl (fun hc => ?_) (fun hc => ?_)
  · have h := ok_f (bf hc) h
    refine ax_iload 3 d_Row_step_86 rfl 88 rfl ?_
    exact ax_sub [0, 1, 2, 5] rfl (c_Row_step_J88 v0 v1 v2 v7 v5 m hv0 hv1 (fun p hp => hR p hp) h)
  · have h := ok_t hc h
    refine ax_iload 4 d_Row_step_81 rfl 83 rfl ?_
    refine ax_goto 88 d_Row_step_83 rfl ?_
    exact ax_sub [0, 1, 2, 5] rfl (c_Row_step_J88 v0 v1 v2 v7 v6 m hv0 hv1 (fun p hp => hR p hp) h)
set_option maxRecDepth 4000 in
theorem c_Row_step_J54 (v0 : Nat) (v1 : Nat) (v2 : Int32) (v3 : Int32) (v5 : Int32) (v6 : Int32) (v7 : Int32) (t0 : Bool) (m : zM) (hv0 : v0 ∈ li_Row) (hv1 : v1 ∈ li_World) {Q : Option Value → zM → Prop} {K : (Bool × zM) → Prop} (hR : ∀ p : Bool × zM, K (p) → Q (some (.int (b2i p.1))) p.2)  (h : ok (f_Row_step_J54 v0 v1 v2 v3 v5 v6 v7 t0 m) K) : AX gX s_Row_step 54 [(0, .ref v0), (1, .ref v1), (2, .int v2), (3, .int v3), (5, .int v5), (6, .int v6), (7, .int v7)] [.int (b2i t0)] m Q := by
  unfold f_Row_step_J54 at h
  refine ax_istore (ls1 := [(8, .int (b2i t0)), (0, .ref v0), (1, .ref v1), (2, .int v2), (3, .int v3), (5, .int v5), (6, .int v6), (7, .int v7)]) d_Row_step_54 (Nat.le_of_ble_eq_true rfl) rfl 56 rfl ?_
  refine ax_iload 0 d_Row_step_56 rfl 58 rfl ?_
  refine ax_ifb_ne 76 61 d_Row_step_58 rfl rfl (fun hc => ?_) (fun hc => ?_)
  · have h := ok_t hc h
    exact ax_sub [1, 2, 3, 5, 6, 7, 0] rfl (c_Row_step_J76 v0 v1 v2 v5 v6 v7 t0 m hv0 hv1 (fun p hp => hR p hp) h)
  · have h := ok_f (bf hc) h
    refine ax_iload_n 4 d_Row_step_61 rfl rfl 62 rfl ?_
    refine ax_if_eq 74 65 d_Row_step_62 rfl rfl (fun hc => ?_) (fun hc => ?_)
    · have h := ok_t hc h
      refine ax_iconst 0 d_Row_step_74 ic_0 75 rfl ?_
      exact ax_zret (b := false) rfl d_Row_step_75 (hR (false, m) (ok_some h))
    · have h := ok_f hc h
      refine ax_iload 6 d_Row_step_65 rfl 67 rfl ?_
      refine ax_aload_n 1 d_Row_step_67 rfl rfl 68 rfl ?_
      refine ax_getI fl_Row_19 (sx_Row hv0) rfl d_Row_step_68 71 rfl ?_
      refine ax_icmp_eq 76 74 d_Row_step_71 rfl rfl (fun hc => ?_) (fun hc => ?_)
      · have h := ok_t hc h
        exact ax_sub [1, 2, 3, 5, 6, 7, 0] rfl (c_Row_step_J76 v0 v1 v2 v5 v6 v7 t0 m hv0 hv1 (fun p hp => hR p hp) h)
      · have h := ok_f hc h
        refine ax_iconst 0 d_Row_step_74 ic_0 75 rfl ?_
        exact ax_zret (b := false) rfl d_Row_step_75 (hR (false, m) (ok_some h))
