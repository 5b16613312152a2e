set_option maxRecDepth 4000 in
theorem zc_PA_letter (v1 : Int32) (v2 : Int32) (v3 : Int32) (m : zM)  {Q : Option Value → zM → Prop} (h : ok (f_PA_letter v1 v2 v3 m) (fun p => Q (some (.int p)) m)) : zc gX s_PA_letter [.ref 0, .int v1, .int v2, .int v3] m Q := by
  refine zc_of rfl (Nat.le_of_ble_eq_true rfl) ?_
  show AX gX s_PA_letter 0 [(0, .ref 0), (1, .int v1), (2, .int v2), (3, .int v3)] [] m Q
  obtain ⟨K, hK⟩ : ∃ K : Int32 → Prop, K = (fun p : Int32 => Q (some (.int p)) m) := ⟨_, rfl⟩
  have hR : ∀ p : Int32, K p → Q (some (.int p)) m := fun p hp => by rw [hK] at hp; exact hp
  replace h : ok (f_PA_letter v1 v2 v3 m) (fun p : Int32 => Q (some (.int p)) m) := h
  rw [← hK] at h
  unfold f_PA_letter at h
  refine ax_aload_n 0 d_PA_letter_0 rfl rfl 1 rfl ?_
  refine ax_getI fl_PA_84 x_0 rfl d_PA_letter_1 4 rfl ?_
  refine ax_if_eq 26 7 d_PA_letter_4 rfl rfl (fun hc => ?_) (fun hc => ?_)
  · have h := ok_t hc h
    refine ax_iconst (-1) d_PA_letter_26 ic_m1 27 rfl ?_
    exact ax_iret rfl d_PA_letter_27 (hR (-1) (ok_some h))
  · have h := ok_f hc h
    refine ax_iload_n 1 d_PA_letter_7 rfl rfl 8 rfl ?_
    refine ax_if_lt 26 11 d_PA_letter_8 rfl rfl (fun hc => ?_) (fun hc => ?_)
    · have h := ok_t hc h
      refine ax_iconst (-1) d_PA_letter_26 ic_m1 27 rfl ?_
      exact ax_iret rfl d_PA_letter_27 (hR (-1) (ok_some h))
    · have h := ok_f hc h
      refine ax_iload_n 1 d_PA_letter_11 rfl rfl 12 rfl ?_
      refine ax_iconst 3 d_PA_letter_12 ic_3 13 rfl ?_
      refine ax_icmp_ge 26 16 d_PA_letter_13 rfl rfl (fun hc => ?_) (fun hc => ?_)
      · have h := ok_t hc h
        refine ax_iconst (-1) d_PA_letter_26 ic_m1 27 rfl ?_
        exact ax_iret rfl d_PA_letter_27 (hR (-1) (ok_some h))
      · have h := ok_f hc h
        refine ax_iload_n 3 d_PA_letter_16 rfl rfl 17 rfl ?_
        refine ax_if_lt 26 20 d_PA_letter_17 rfl rfl (fun hc => ?_) (fun hc => ?_)
        · have h := ok_t hc h
          refine ax_iconst (-1) d_PA_letter_26 ic_m1 27 rfl ?_
          exact ax_iret rfl d_PA_letter_27 (hR (-1) (ok_some h))
        · have h := ok_f hc h
          refine ax_iload_n 3 d_PA_letter_20 rfl rfl 21 rfl ?_
          refine ax_bipush 6 d_PA_letter_21 bp_6 23 rfl ?_
          refine ax_icmp_lt 28 26 d_PA_letter_23 rfl rfl (fun hc => ?_) (fun hc => ?_)
          · have h := ok_t hc h
            refine ax_iload_n 2 d_PA_letter_28 rfl rfl 29 rfl ?_
            refine ax_if_lt 45 32 d_PA_letter_29 rfl rfl (fun hc => ?_) (fun hc => ?_)
            · have h := ok_t hc h
              refine ax_iconst (-1) d_PA_letter_45 ic_m1 46 rfl ?_
              exact ax_iret rfl d_PA_letter_46 (hR (-1) (ok_some h))
            · have h := ok_f hc h
              refine ax_iload_n 2 d_PA_letter_32 rfl rfl 33 rfl ?_
              refine ax_aload_n 0 d_PA_letter_33 rfl rfl 34 rfl ?_
              refine ok_tb h (fun t1 ht1 et1 h => ?_)
              refine ax_getR fl_PA_71 x_0 rfl (ry_0 et1) d_PA_letter_34 37 rfl ?_
              refine ax_getR fl_PA_146 (sx_Table ht1) rfl (ro_Table_1 ht1 _) d_PA_letter_37 40 rfl ?_
              refine ax_iload_n 1 d_PA_letter_40 rfl rfl 41 rfl ?_
              refine ax_iaload (sa_Table_1 ht1) d_PA_letter_41 42 rfl h (fun i2 h => ?_)
              refine ax_icmp_lt 47 45 d_PA_letter_42 rfl rfl (fun hc => ?_) (fun hc => ?_)
              · have h := ok_t hc h
                refine ax_aload_n 0 d_PA_letter_47 rfl rfl 48 rfl ?_
                refine ok_tb h (fun t3 ht3 et3 h => ?_)
                refine ax_getR fl_PA_71 x_0 rfl (ry_0 et3) d_PA_letter_48 51 rfl ?_
                refine ax_iload_n 1 d_PA_letter_51 rfl rfl 52 rfl ?_
                refine ax_iload_n 2 d_PA_letter_52 rfl rfl 53 rfl ?_
                refine ax_callV mv_PA_174 ⟨Nat.le_of_ble_eq_true rfl, Nat.le_of_ble_eq_true rfl⟩ ⟨rfl, rfl⟩ [.int v1, .int v2] [.int v2, .int v1, .ref t3] rfl rfl (rc_Table ht3 _) (Nat.le_of_ble_eq_true rfl) d_PA_letter_53 56 rfl (zc_Table_name t3 v1 v2 m ht3 (ok_b h (fun r4 h => ?_)))
                refine ax_iload_n 3 d_PA_letter_56 rfl rfl 57 rfl ?_
                refine ax_callS mv_PA_178 ⟨Nat.le_of_ble_eq_true rfl, Nat.le_of_ble_eq_true rfl⟩ ⟨rfl, rfl⟩ [.int r4, .int v3] [.int v3, .int r4] rfl rfl (Nat.le_of_ble_eq_true rfl) d_PA_letter_57 60 rfl (zc_PA_letterOf r4 v3 m ?_)
                exact ax_iret rfl d_PA_letter_60 (hR (f_PA_letterOf r4 v3) (ok_some h))
              · have h := ok_f hc h
                refine ax_iconst (-1) d_PA_letter_45 ic_m1 46 rfl ?_
                exact ax_iret rfl d_PA_letter_46 (hR (-1) (ok_some h))
          · have h := ok_f hc h
            refine ax_iconst (-1) d_PA_letter_26 ic_m1 27 rfl ?_
            exact ax_iret rfl d_PA_letter_27 (hR (-1) (ok_some h))
set_option maxRecDepth 4000 in
theorem zc_PA_isRule (v1 : Int32) (m : zM)  {Q : Option Value → zM → Prop} (h : ok (f_PA_isRule v1 m) (fun p => Q (some (.int (b2i p))) m)) : zc gX s_PA_isRule [.ref 0, .int v1] m Q := by
  refine zc_of rfl (Nat.le_of_ble_eq_true rfl) ?_
  show AX gX s_PA_isRule 0 [(0, .ref 0), (1, .int v1)] [] m Q
  obtain ⟨K, hK⟩ : ∃ K : Bool → Prop, K = (fun p : Bool => Q (some (.int (b2i p))) m) := ⟨_, rfl⟩
  have hR : ∀ p : Bool, K p → Q (some (.int (b2i p))) m := fun p hp => by rw [hK] at hp; exact hp
  replace h : ok (f_PA_isRule v1 m) (fun p : Bool => Q (some (.int (b2i p))) m) := h
  rw [← hK] at h
  unfold f_PA_isRule at h
  refine ax_aload_n 0 d_PA_isRule_0 rfl rfl 1 rfl ?_
  refine ax_getI fl_PA_84 x_0 rfl d_PA_isRule_1 4 rfl ?_
  refine ax_if_eq 26 7 d_PA_isRule_4 rfl rfl (fun hc => ?_) (fun hc => ?_)
  · have h := ok_t hc h
    refine ax_iconst 0 d_PA_isRule_26 ic_0 27 rfl ?_
    exact ax_zret (b := false) rfl d_PA_isRule_27 (hR false (ok_some h))
  · have h := ok_f hc h
    refine ax_iload_n 1 d_PA_isRule_7 rfl rfl 8 rfl ?_
    refine ax_if_lt 26 11 d_PA_isRule_8 rfl rfl (fun hc => ?_) (fun hc => ?_)
    · have h := ok_t hc h
      refine ax_iconst 0 d_PA_isRule_26 ic_0 27 rfl ?_
      exact ax_zret (b := false) rfl d_PA_isRule_27 (hR false (ok_some h))
    · have h := ok_f hc h
      refine ax_iload_n 1 d_PA_isRule_11 rfl rfl 12 rfl ?_
      refine ax_aload_n 0 d_PA_isRule_12 rfl rfl 13 rfl ?_
      refine ok_tb h (fun t1 ht1 et1 h => ?_)
      refine ax_getR fl_PA_71 x_0 rfl (ry_0 et1) d_PA_isRule_13 16 rfl ?_
      refine ax_getI fl_PA_149 (sx_Table ht1) rfl d_PA_isRule_16 19 rfl ?_
      refine ax_icmp_ge 26 22 d_PA_isRule_19 rfl rfl (fun hc => ?_) (fun hc => ?_)
      · have h := ok_t hc h
        refine ax_iconst 0 d_PA_isRule_26 ic_0 27 rfl ?_
        exact ax_zret (b := false) rfl d_PA_isRule_27 (hR false (ok_some h))
      · have h := ok_f hc h
        refine ax_iconst 1 d_PA_isRule_22 ic_1 23 rfl ?_
        refine ax_goto 27 d_PA_isRule_23 rfl ?_
        exact ax_zret (b := true) rfl d_PA_isRule_27 (hR true (ok_some h))
set_option maxRecDepth 4000 in
theorem zc_PA_asNumber (v0 : Int32) (m : zM)  {Q : Option Value → zM → Prop} (h : Q (some (.int (f_PA_asNumber v0))) m) : zc gX s_PA_asNumber [.int v0] m Q := by
  refine zc_of rfl (Nat.le_of_ble_eq_true rfl) ?_
  show AX gX s_PA_asNumber 0 [(0, .int v0)] [] m Q
  obtain ⟨K, hK⟩ : ∃ K : Int32 → Prop, K = (fun p : Int32 => Q (some (.int p)) m) := ⟨_, rfl⟩
  have hR : ∀ p : Int32, K p → Q (some (.int p)) m := fun p hp => by rw [hK] at hp; exact hp
  replace h : (fun p : Int32 => Q (some (.int p)) m) (f_PA_asNumber v0) := h
  rw [← hK] at h
  unfold f_PA_asNumber at h
  refine ax_iload_n 0 d_PA_asNumber_0 rfl rfl 1 rfl ?_
  refine ax_if_eq 8 4 d_PA_asNumber_1 rfl rfl (fun hc => ?_) (fun hc => ?_)
  · have h := kt_t (K := K) hc h
    refine ax_iconst 0 d_PA_asNumber_8 ic_0 9 rfl ?_
    exact ax_iret rfl d_PA_asNumber_9 (hR 0 h)
  · have h := kt_f (K := K) hc h
    refine ax_iconst 1 d_PA_asNumber_4 ic_1 5 rfl ?_
    refine ax_goto 9 d_PA_asNumber_5 rfl ?_
    exact ax_iret rfl d_PA_asNumber_9 (hR 1 h)
set_option maxRecDepth 4000 in
theorem zc_Row_told (v0 : Nat) (v1 : Int32) (m : zM) (hv0 : v0 ∈ li_Row) {Q : Option Value → zM → Prop} (h : Q (some (.int (f_Row_told v0 v1 m))) m) : zc gX s_Row_told [.ref v0, .int v1] m Q := by
  refine zc_of rfl (Nat.le_of_ble_eq_true rfl) ?_
  show AX gX s_Row_told 0 [(0, .ref v0), (1, .int v1)] [] m Q
  obtain ⟨K, hK⟩ : ∃ K : Int32 → Prop, K = (fun p : Int32 => Q (some (.int p)) m) := ⟨_, rfl⟩
  have hR : ∀ p : Int32, K p → Q (some (.int p)) m := fun p hp => by rw [hK] at hp; exact hp
  replace h : (fun p : Int32 => Q (some (.int p)) m) (f_Row_told v0 v1 m) := h
  rw [← hK] at h
  unfold f_Row_told at h
  refine ax_iload_n 1 d_Row_told_0 rfl rfl 1 rfl ?_
  by_cases hc1_0 : v1 = 0
  · have h := kt_t (K := K) hc1_0 h
    refine ax_tableIn (off := 47) 48 d_Row_told_1 (by rw [hc1_0]; decide) (by rw [hc1_0]; decide) (by rw [hc1_0]; rfl) rfl ?_
    refine ax_aload_n 0 d_Row_told_48 rfl rfl 49 rfl ?_
    refine ax_getI fl_Row_9 (sx_Row hv0) rfl d_Row_told_49 52 rfl ?_
    refine ax_callS mv_Row_37 ⟨Nat.le_of_ble_eq_true rfl, Nat.le_of_ble_eq_true rfl⟩ ⟨rfl, rfl⟩ [.int (m.1 v0 0)] [.int (m.1 v0 0)] rfl rfl (Nat.le_of_ble_eq_true rfl) d_Row_told_52 55 rfl (zc_PA_asNumber (m.1 v0 0) m ?_)
    exact ax_iret rfl d_Row_told_55 (hR (f_PA_asNumber (m.1 v0 0)) h)
  have h := kt_f (K := K) hc1_0 h
  by_cases hc1_1 : v1 = 1
  · have h := kt_t (K := K) hc1_1 h
    refine ax_tableIn (off := 55) 56 d_Row_told_1 (by rw [hc1_1]; decide) (by rw [hc1_1]; decide) (by rw [hc1_1]; rfl) rfl ?_
    refine ax_aload_n 0 d_Row_told_56 rfl rfl 57 rfl ?_
    refine ax_getI fl_Row_15 (sx_Row hv0) rfl d_Row_told_57 60 rfl ?_
    exact ax_iret rfl d_Row_told_60 (hR (m.1 v0 1) h)
  have h := kt_f (K := K) hc1_1 h
  by_cases hc1_2 : v1 = 2
  · have h := kt_t (K := K) hc1_2 h
    refine ax_tableIn (off := 60) 61 d_Row_told_1 (by rw [hc1_2]; decide) (by rw [hc1_2]; decide) (by rw [hc1_2]; rfl) rfl ?_
    refine ax_aload_n 0 d_Row_told_61 rfl rfl 62 rfl ?_
    refine ax_getI fl_Row_19 (sx_Row hv0) rfl d_Row_told_62 65 rfl ?_
    exact ax_iret rfl d_Row_told_65 (hR (m.1 v0 2) h)
  have h := kt_f (K := K) hc1_2 h
  by_cases hc1_3 : v1 = 3
  · have h := kt_t (K := K) hc1_3 h
    refine ax_tableIn (off := 65) 66 d_Row_told_1 (by rw [hc1_3]; decide) (by rw [hc1_3]; decide) (by rw [hc1_3]; rfl) rfl ?_
    refine ax_aload_n 0 d_Row_told_66 rfl rfl 67 rfl ?_
    refine ax_getI fl_Row_22 (sx_Row hv0) rfl d_Row_told_67 70 rfl ?_
    exact ax_iret rfl d_Row_told_70 (hR (m.1 v0 3) h)
  have h := kt_f (K := K) hc1_3 h
  by_cases hc1_4 : v1 = 4
  · have h := kt_t (K := K) hc1_4 h
    refine ax_tableIn (off := 70) 71 d_Row_told_1 (by rw [hc1_4]; decide) (by rw [hc1_4]; decide) (by rw [hc1_4]; rfl) rfl ?_
    refine ax_aload_n 0 d_Row_told_71 rfl rfl 72 rfl ?_
    refine ax_getI fl_Row_25 (sx_Row hv0) rfl d_Row_told_72 75 rfl ?_
    exact ax_iret rfl d_Row_told_75 (hR (m.1 v0 4) h)
  have h := kt_f (K := K) hc1_4 h
  by_cases hc1_5 : v1 = 5
  · have h := kt_t (K := K) hc1_5 h
    refine ax_tableIn (off := 75) 76 d_Row_told_1 (by rw [hc1_5]; decide) (by rw [hc1_5]; decide) (by rw [hc1_5]; rfl) rfl ?_
    refine ax_aload_n 0 d_Row_told_76 rfl rfl 77 rfl ?_
    refine ax_getI fl_Row_28 (sx_Row hv0) rfl d_Row_told_77 80 rfl ?_
    exact ax_iret rfl d_Row_told_80 (hR (m.1 v0 5) h)
  have h := kt_f (K := K) hc1_5 h
  by_cases hc1_6 : v1 = 6
  · have h := kt_t (K := K) hc1_6 h
    refine ax_tableIn (off := 80) 81 d_Row_told_1 (by rw [hc1_6]; decide) (by rw [hc1_6]; decide) (by rw [hc1_6]; rfl) rfl ?_
    refine ax_aload_n 0 d_Row_told_81 rfl rfl 82 rfl ?_
    refine ax_getI fl_Row_31 (sx_Row hv0) rfl d_Row_told_82 85 rfl ?_
    exact ax_iret rfl d_Row_told_85 (hR (m.1 v0 6) h)
  have h := kt_f (K := K) hc1_6 h
  by_cases hc1_7 : v1 = 7
  · have h := kt_t (K := K) hc1_7 h
    refine ax_tableIn (off := 85) 86 d_Row_told_1 (by rw [hc1_7]; decide) (by rw [hc1_7]; decide) (by rw [hc1_7]; rfl) rfl ?_
    refine ax_aload_n 0 d_Row_told_86 rfl rfl 87 rfl ?_
    refine ax_getI fl_Row_34 (sx_Row hv0) rfl d_Row_told_87 90 rfl ?_
    refine ax_callS mv_Row_37 ⟨Nat.le_of_ble_eq_true rfl, Nat.le_of_ble_eq_true rfl⟩ ⟨rfl, rfl⟩ [.int (m.1 v0 7)] [.int (m.1 v0 7)] rfl rfl (Nat.le_of_ble_eq_true rfl) d_Row_told_90 93 rfl (zc_PA_asNumber (m.1 v0 7) m ?_)
    exact ax_iret rfl d_Row_told_93 (hR (f_PA_asNumber (m.1 v0 7)) h)
  have h := kt_f (K := K) hc1_7 h
  have n0 := zne (n := 0) hc1_0 (by decide)
  have n1 := zne (n := 1) hc1_1 (by decide)
  have n2 := zne (n := 2) hc1_2 (by decide)
  have n3 := zne (n := 3) hc1_3 (by decide)
  have n4 := zne (n := 4) hc1_4 (by decide)
  have n5 := zne (n := 5) hc1_5 (by decide)
  have n6 := zne (n := 6) hc1_6 (by decide)
  have n7 := zne (n := 7) hc1_7 (by decide)
  refine ax_tableOut 94 d_Row_told_1 (by omega) rfl ?_
  refine ax_iconst (-1) d_Row_told_94 ic_m1 95 rfl ?_
  exact ax_iret rfl d_Row_told_95 (hR (-1) h)
set_option maxRecDepth 4000 in
theorem zc_PA_rule (v1 : Int32) (v2 : Int32) (m : zM)  {Q : Option Value → zM → Prop} (h : ok (f_PA_rule v1 v2 m) (fun p => Q (some (.int p)) m)) : zc gX s_PA_rule [.ref 0, .int v1, .int v2] m Q := by
  refine zc_of rfl (Nat.le_of_ble_eq_true rfl) ?_
  show AX gX s_PA_rule 0 [(0, .ref 0), (1, .int v1), (2, .int v2)] [] m Q
  obtain ⟨K, hK⟩ : ∃ K : Int32 → Prop, K = (fun p : Int32 => Q (some (.int p)) m) := ⟨_, rfl⟩
  have hR : ∀ p : Int32, K p → Q (some (.int p)) m := fun p hp => by rw [hK] at hp; exact hp
  replace h : ok (f_PA_rule v1 v2 m) (fun p : Int32 => Q (some (.int p)) m) := h
  rw [← hK] at h
  unfold f_PA_rule at h
  refine ax_aload_n 0 d_PA_rule_0 rfl rfl 1 rfl ?_
  refine ax_iload_n 1 d_PA_rule_1 rfl rfl 2 rfl ?_
  refine ax_callV mv_PA_181 ⟨Nat.le_of_ble_eq_true rfl, Nat.le_of_ble_eq_true rfl⟩ ⟨rfl, rfl⟩ [.int v1] [.int v1, .ref 0] rfl rfl (rc_x_0 _) (Nat.le_of_ble_eq_true rfl) d_PA_rule_2 5 rfl (zc_PA_isRule v1 m (ok_b h (fun r1 h => ?_)))
  refine ax_ifb_eq 24 8 d_PA_rule_5 rfl rfl (fun hc => ?_) (fun hc => ?_)
  · have h := ok_f (bf hc) h
    refine ax_iconst (-1) d_PA_rule_24 ic_m1 25 rfl ?_
    exact ax_iret rfl d_PA_rule_25 (hR (-1) (ok_some h))
  · have h := ok_t hc h
    refine ax_aload_n 0 d_PA_rule_8 rfl rfl 9 rfl ?_
    refine ok_tb h (fun t2 ht2 et2 h => ?_)
    refine ax_getR fl_PA_71 x_0 rfl (ry_0 et2) d_PA_rule_9 12 rfl ?_
    refine ax_getR fl_PA_185 (sx_Table ht2) rfl (ro_Table_5 ht2 _) d_PA_rule_12 15 rfl ?_
    refine ax_iload_n 1 d_PA_rule_15 rfl rfl 16 rfl ?_
    refine ax_aaload (fun i => t2 + 7 + i) (sa_Table_5 ht2) (ra_row ht2 _) d_PA_rule_16 17 rfl h (fun i3 hli3 h => ?_)
    refine ax_iload_n 2 d_PA_rule_17 rfl rfl 18 rfl ?_
    refine ax_callV mv_PA_189 ⟨Nat.le_of_ble_eq_true rfl, Nat.le_of_ble_eq_true rfl⟩ ⟨rfl, rfl⟩ [.int v2] [.int v2, .ref (t2 + 7 + i3)] rfl rfl (rc_Row (in_row ht2 hli3) _) (Nat.le_of_ble_eq_true rfl) d_PA_rule_18 21 rfl (zc_Row_told (t2 + 7 + i3) v2 m (in_row ht2 hli3) ?_)
    refine ax_goto 25 d_PA_rule_21 rfl ?_
    exact ax_iret rfl d_PA_rule_25 (hR (f_Row_told (t2 + 7 + i3) v2 m) (ok_some h))
set_option maxRecDepth 4000 in
theorem zc_PA_isWorld (v1 : Int32) (m : zM)  {Q : Option Value → zM → Prop} (h : Q (some (.int (b2i (f_PA_isWorld v1 m)))) m) : zc gX s_PA_isWorld [.ref 0, .int v1] m Q := by
  refine zc_of rfl (Nat.le_of_ble_eq_true rfl) ?_
  show AX gX s_PA_isWorld 0 [(0, .ref 0), (1, .int v1)] [] m Q
  obtain ⟨K, hK⟩ : ∃ K : Bool → Prop, K = (fun p : Bool => Q (some (.int (b2i p))) m) := ⟨_, rfl⟩
  have hR : ∀ p : Bool, K p → Q (some (.int (b2i p))) m := fun p hp => by rw [hK] at hp; exact hp
  replace h : (fun p : Bool => Q (some (.int (b2i p))) m) (f_PA_isWorld v1 m) := h
  rw [← hK] at h
  unfold f_PA_isWorld at h
  refine ax_aload_n 0 d_PA_isWorld_0 rfl rfl 1 rfl ?_
  refine ax_getI fl_PA_84 x_0 rfl d_PA_isWorld_1 4 rfl ?_
  refine ax_if_eq 26 7 d_PA_isWorld_4 rfl rfl (fun hc => ?_) (fun hc => ?_)
  · have h := kt_t (K := K) hc h
    refine ax_iconst 0 d_PA_isWorld_26 ic_0 27 rfl ?_
    exact ax_zret (b := false) rfl d_PA_isWorld_27 (hR false h)
  · have h := kt_f (K := K) hc h
    refine ax_iload_n 1 d_PA_isWorld_7 rfl rfl 8 rfl ?_
    refine ax_if_lt 26 11 d_PA_isWorld_8 rfl rfl (fun hc => ?_) (fun hc => ?_)
    · have h := kt_t (K := K) hc h
      refine ax_iconst 0 d_PA_isWorld_26 ic_0 27 rfl ?_
      exact ax_zret (b := false) rfl d_PA_isWorld_27 (hR false h)
    · have h := kt_f (K := K) hc h
      refine ax_iload_n 1 d_PA_isWorld_11 rfl rfl 12 rfl ?_
      refine ax_aload_n 0 d_PA_isWorld_12 rfl rfl 13 rfl ?_
      refine ax_getR fl_PA_32 x_0 rfl (rx_0_4 _) d_PA_isWorld_13 16 rfl ?_
      refine ax_getI fl_PA_152 x_24 rfl d_PA_isWorld_16 19 rfl ?_
      refine ax_icmp_ge 26 22 d_PA_isWorld_19 rfl rfl (fun hc => ?_) (fun hc => ?_)
      · have h := kt_t (K := K) hc h
        refine ax_iconst 0 d_PA_isWorld_26 ic_0 27 rfl ?_
        exact ax_zret (b := false) rfl d_PA_isWorld_27 (hR false h)
      · have h := kt_f (K := K) hc h
        refine ax_iconst 1 d_PA_isWorld_22 ic_1 23 rfl ?_
        refine ax_goto 27 d_PA_isWorld_23 rfl ?_
        exact ax_zret (b := true) rfl d_PA_isWorld_27 (hR true h)
set_option maxRecDepth 4000 in
theorem zc_Atlas_home (v1 : Int32) (m : zM)  {Q : Option Value → zM → Prop} (h : ok (f_Atlas_home v1 m) (fun p => Q (some (.int p.1)) p.2)) : zc gX s_Atlas_home [.ref 24, .int v1] m Q := by
  refine zc_of rfl (Nat.le_of_ble_eq_true rfl) ?_
  show AX gX s_Atlas_home 0 [(0, .ref 24), (1, .int v1)] [] m Q
  obtain ⟨K, hK⟩ : ∃ K : (Int32 × zM) → Prop, K = (fun p : Int32 × zM => Q (some (.int p.1)) p.2) := ⟨_, rfl⟩
  have hR : ∀ p : Int32 × zM, K p → Q (some (.int p.1)) p.2 := fun p hp => by rw [hK] at hp; exact hp
  replace h : ok (f_Atlas_home v1 m) (fun p : Int32 × zM => Q (some (.int p.1)) p.2) := h
  rw [← hK] at h
  unfold f_Atlas_home at h
  refine ax_aload_n 0 d_Atlas_home_0 rfl rfl 1 rfl ?_
  refine ax_getR fl_Atlas_68 x_24 rfl (rx_24_15 _) d_Atlas_home_1 4 rfl ?_
  refine ax_aload_n 0 d_Atlas_home_4 rfl rfl 5 rfl ?_
  refine ax_getR fl_Atlas_25 x_24 rfl (rx_24_3 _) d_Atlas_home_5 8 rfl ?_
  refine ax_iload_n 1 d_Atlas_home_8 rfl rfl 9 rfl ?_
  refine ax_laload x_28 d_Atlas_home_9 10 rfl h (fun i1 h => ?_)
  refine ax_aload_n 0 d_Atlas_home_10 rfl rfl 11 rfl ?_
  refine ax_getI fl_Atlas_15 x_24 rfl d_Atlas_home_11 14 rfl ?_
  refine ax_callV mv_Atlas_98 ⟨Nat.le_of_ble_eq_true rfl, Nat.le_of_ble_eq_true rfl⟩ ⟨rfl, rfl⟩ [.long (m.2.1 28 i1), .int (m.1 24 1)] [.int (m.1 24 1), .long (m.2.1 28 i1), .ref 40] rfl rfl (rc_World in_40 _) (Nat.le_of_ble_eq_true rfl) d_Atlas_home_14 17 rfl (zc_World_load 40 (m.2.1 28 i1) (m.1 24 1) m in_40 (ok_b h (fun p2 h => ?_)))
  refine ax_aload_n 0 d_Atlas_home_17 rfl rfl 18 rfl ?_
  refine ax_getR fl_Atlas_68 x_24 rfl (rx_24_15 _) d_Atlas_home_18 21 rfl ?_
  refine ax_getI fl_Atlas_144 (sx_World in_40) rfl d_Atlas_home_21 24 rfl ?_
  exact ax_iret rfl d_Atlas_home_24 (hR ((p2.1 40 0), p2) (ok_some h))
set_option maxRecDepth 4000 in
theorem c_PA_world_J110 (t0 : Bool) (m : zM)  {Q : Option Value → zM → Prop} {K : (Int32 × zM) → Prop} (hR : ∀ p : Int32 × zM, K (p) → Q (some (.int p.1)) p.2)  (h : ok (f_PA_world_J110 t0 m) K) : AX gX s_PA_world 110 [] [.int (b2i t0)] m Q := by
  unfold f_PA_world_J110 at h
  refine ax_callS mv_PA_207 ⟨Nat.le_of_ble_eq_true rfl, Nat.le_of_ble_eq_true rfl⟩ ⟨rfl, rfl⟩ [.int (b2i t0)] [.int (b2i t0)] rfl rfl (Nat.le_of_ble_eq_true rfl) d_PA_world_110 113 rfl (zc_PA_asNumber (b2i t0) m ?_)
  exact ax_iret rfl d_PA_world_113 (hR ((f_PA_asNumber (b2i t0)), m) (ok_some h))
set_option maxRecDepth 4000 in
theorem zc_PA_world (v1 : Int32) (v2 : Int32) (m : zM)  {Q : Option Value → zM → Prop} (h : ok (f_PA_world v1 v2 m) (fun p => Q (some (.int p.1)) p.2)) : zc gX s_PA_world [.ref 0, .int v1, .int v2] m Q := by
  refine zc_of rfl (Nat.le_of_ble_eq_true rfl) ?_
  show AX gX s_PA_world 0 [(0, .ref 0), (1, .int v1), (2, .int v2)] [] m Q
  obtain ⟨K, hK⟩ : ∃ K : (Int32 × zM) → Prop, K = (fun p : Int32 × zM => Q (some (.int p.1)) p.2) := ⟨_, rfl⟩
  have hR : ∀ p : Int32 × zM, K p → Q (some (.int p.1)) p.2 := fun p hp => by rw [hK] at hp; exact hp
  replace h : ok (f_PA_world v1 v2 m) (fun p : Int32 × zM => Q (some (.int p.1)) p.2) := h
  rw [← hK] at h
  unfold f_PA_world at h
  refine ax_aload_n 0 d_PA_world_0 rfl rfl 1 rfl ?_
  refine ax_iload_n 1 d_PA_world_1 rfl rfl 2 rfl ?_
  refine ax_callV mv_PA_194 ⟨Nat.le_of_ble_eq_true rfl, Nat.le_of_ble_eq_true rfl⟩ ⟨rfl, rfl⟩ [.int v1] [.int v1, .ref 0] rfl rfl (rc_x_0 _) (Nat.le_of_ble_eq_true rfl) d_PA_world_2 5 rfl (zc_PA_isWorld v1 m ?_)
  refine ax_ifb_ne 10 8 d_PA_world_5 rfl rfl (fun hc => ?_) (fun hc => ?_)
  · have h := ok_t hc h
    refine ax_iload_n 2 d_PA_world_10 rfl rfl 11 rfl ?_
    by_cases hc11_0 : v2 = 0
    · have h := ok_t hc11_0 h
      refine ax_tableIn (off := 41) 52 d_PA_world_11 (by rw [hc11_0]; decide) (by rw [hc11_0]; decide) (by rw [hc11_0]; rfl) rfl ?_
      refine ax_aload_n 0 d_PA_world_52 rfl rfl 53 rfl ?_
      refine ax_getR fl_PA_32 x_0 rfl (rx_0_4 _) d_PA_world_53 56 rfl ?_
      refine ax_getR fl_PA_158 x_24 rfl (rx_24_4 _) d_PA_world_56 59 rfl ?_
      refine ax_iload_n 1 d_PA_world_59 rfl rfl 60 rfl ?_
      refine ax_iaload x_29 d_PA_world_60 61 rfl h (fun i1 h => ?_)
      exact ax_iret rfl d_PA_world_61 (hR ((m.1 29 i1), m) (ok_some h))
    have h := ok_f hc11_0 h
    by_cases hc11_1 : v2 = 1
    · have h := ok_t hc11_1 h
      refine ax_tableIn (off := 51) 62 d_PA_world_11 (by rw [hc11_1]; decide) (by rw [hc11_1]; decide) (by rw [hc11_1]; rfl) rfl ?_
      refine ax_aload_n 0 d_PA_world_62 rfl rfl 63 rfl ?_
      refine ax_getR fl_PA_32 x_0 rfl (rx_0_4 _) d_PA_world_63 66 rfl ?_
      refine ax_getR fl_PA_197 x_24 rfl (rx_24_7 _) d_PA_world_66 69 rfl ?_
      refine ax_iload_n 1 d_PA_world_69 rfl rfl 70 rfl ?_
      refine ax_iaload x_32 d_PA_world_70 71 rfl h (fun i2 h => ?_)
      exact ax_iret rfl d_PA_world_71 (hR ((m.1 32 i2), m) (ok_some h))
    have h := ok_f hc11_1 h
    by_cases hc11_2 : v2 = 2
    · have h := ok_t hc11_2 h
      refine ax_tableIn (off := 61) 72 d_PA_world_11 (by rw [hc11_2]; decide) (by rw [hc11_2]; decide) (by rw [hc11_2]; rfl) rfl ?_
      refine ax_aload_n 0 d_PA_world_72 rfl rfl 73 rfl ?_
      refine ax_getR fl_PA_32 x_0 rfl (rx_0_4 _) d_PA_world_73 76 rfl ?_
      refine ax_iload_n 1 d_PA_world_76 rfl rfl 77 rfl ?_
      refine ax_callV mv_PA_200 ⟨Nat.le_of_ble_eq_true rfl, Nat.le_of_ble_eq_true rfl⟩ ⟨rfl, rfl⟩ [.int v1] [.int v1, .ref 24] rfl rfl (rc_x_24 _) (Nat.le_of_ble_eq_true rfl) d_PA_world_77 80 rfl (zc_Atlas_home v1 m (ok_b h (fun p3 h => ?_)))
      exact ax_iret rfl d_PA_world_80 (hR (p3.1, p3.2) (ok_some h))
    have h := ok_f hc11_2 h
    by_cases hc11_3 : v2 = 3
    · have h := ok_t hc11_3 h
      refine ax_tableIn (off := 70) 81 d_PA_world_11 (by rw [hc11_3]; decide) (by rw [hc11_3]; decide) (by rw [hc11_3]; rfl) rfl ?_
      refine ax_aload_n 0 d_PA_world_81 rfl rfl 82 rfl ?_
      refine ax_getR fl_PA_32 x_0 rfl (rx_0_4 _) d_PA_world_82 85 rfl ?_
      refine ax_getR fl_PA_203 x_24 rfl (rx_24_8 _) d_PA_world_85 88 rfl ?_
      refine ax_iload_n 1 d_PA_world_88 rfl rfl 89 rfl ?_
      refine ax_baload x_33 d_PA_world_89 90 rfl h (fun i4 h => ?_)
      refine ax_callS mv_PA_207 ⟨Nat.le_of_ble_eq_true rfl, Nat.le_of_ble_eq_true rfl⟩ ⟨rfl, rfl⟩ [.int (m.1 33 i4)] [.int (m.1 33 i4)] rfl rfl (Nat.le_of_ble_eq_true rfl) d_PA_world_90 93 rfl (zc_PA_asNumber (m.1 33 i4) m ?_)
      exact ax_iret rfl d_PA_world_93 (hR ((f_PA_asNumber (m.1 33 i4)), m) (ok_some h))
    have h := ok_f hc11_3 h
    by_cases hc11_4 : v2 = 4
    · have h := ok_t hc11_4 h
      refine ax_tableIn (off := 83) 94 d_PA_world_11 (by rw [hc11_4]; decide) (by rw [hc11_4]; decide) (by rw [hc11_4]; rfl) rfl ?_
      refine ax_aload_n 0 d_PA_world_94 rfl rfl 95 rfl ?_
      refine ax_getR fl_PA_32 x_0 rfl (rx_0_4 _) d_PA_world_95 98 rfl ?_
      refine ax_iload_n 1 d_PA_world_98 rfl rfl 99 rfl ?_
      refine ax_callV mv_PA_211 ⟨Nat.le_of_ble_eq_true rfl, Nat.le_of_ble_eq_true rfl⟩ ⟨rfl, rfl⟩ [.int v1] [.int v1, .ref 24] rfl rfl (rc_x_24 _) (Nat.le_of_ble_eq_true rfl) d_PA_world_99 102 rfl (zc_Atlas_movesFrom v1 m (ok_b h (fun r5 h => ?_)))
      refine ax_if_ne 109 105 d_PA_world_102 rfl rfl (fun hc => ?_) (fun hc => ?_)
      · have h := ok_f hc h
        refine ax_iconst 0 d_PA_world_109 ic_0 110 rfl ?_
        exact ax_sub [] rfl (c_PA_world_J110 false m (fun p hp => hR p hp) h)
      · have h := ok_t hc h
        refine ax_iconst 1 d_PA_world_105 ic_1 106 rfl ?_
        refine ax_goto 110 d_PA_world_106 rfl ?_
        exact ax_sub [] rfl (c_PA_world_J110 true m (fun p hp => hR p hp) h)
    have h := ok_f hc11_4 h
    by_cases hc11_5 : v2 = 5
    · have h := ok_t hc11_5 h
      refine ax_tableIn (off := 103) 114 d_PA_world_11 (by rw [hc11_5]; decide) (by rw [hc11_5]; decide) (by rw [hc11_5]; rfl) rfl ?_
      refine ax_aload_n 0 d_PA_world_114 rfl rfl 115 rfl ?_
      refine ax_getR fl_PA_32 x_0 rfl (rx_0_4 _) d_PA_world_115 118 rfl ?_
      refine ax_iload_n 1 d_PA_world_118 rfl rfl 119 rfl ?_
      refine ax_callV mv_PA_211 ⟨Nat.le_of_ble_eq_true rfl, Nat.le_of_ble_eq_true rfl⟩ ⟨rfl, rfl⟩ [.int v1] [.int v1, .ref 24] rfl rfl (rc_x_24 _) (Nat.le_of_ble_eq_true rfl) d_PA_world_119 122 rfl (zc_Atlas_movesFrom v1 m (ok_b h (fun r6 h => ?_)))
      exact ax_iret rfl d_PA_world_122 (hR (r6, m) (ok_some h))
    have h := ok_f hc11_5 h
    by_cases hc11_6 : v2 = 6
    · have h := ok_t hc11_6 h
      refine ax_tableIn (off := 112) 123 d_PA_world_11 (by rw [hc11_6]; decide) (by rw [hc11_6]; decide) (by rw [hc11_6]; rfl) rfl ?_
      refine ax_aload_n 0 d_PA_world_123 rfl rfl 124 rfl ?_
      refine ax_getR fl_PA_80 x_0 rfl (rx_0_12 _) d_PA_world_124 127 rfl ?_
      refine ax_getR fl_PA_214 x_116 rfl (rx_116_4 _) d_PA_world_127 130 rfl ?_
      refine ax_iload_n 1 d_PA_world_130 rfl rfl 131 rfl ?_
      refine ax_iaload x_117 d_PA_world_131 132 rfl h (fun i7 h => ?_)
      exact ax_iret rfl d_PA_world_132 (hR ((m.1 117 i7), m) (ok_some h))
    have h := ok_f hc11_6 h
    have n0 := zne (n := 0) hc11_0 (by decide)
    have n1 := zne (n := 1) hc11_1 (by decide)
    have n2 := zne (n := 2) hc11_2 (by decide)
    have n3 := zne (n := 3) hc11_3 (by decide)
    have n4 := zne (n := 4) hc11_4 (by decide)
    have n5 := zne (n := 5) hc11_5 (by decide)
    have n6 := zne (n := 6) hc11_6 (by decide)
    refine ax_tableOut 133 d_PA_world_11 (by omega) rfl ?_
    refine ax_iconst (-1) d_PA_world_133 ic_m1 134 rfl ?_
    exact ax_iret rfl d_PA_world_134 (hR ((-1), m) (ok_some h))
  · have h := ok_f (bf hc) h
    refine ax_iconst (-1) d_PA_world_8 ic_m1 9 rfl ?_
    exact ax_iret rfl d_PA_world_9 (hR ((-1), m) (ok_some h))
set_option maxRecDepth 4000 in
theorem zc_PA_isAgent (v1 : Int32) (m : zM)  {Q : Option Value → zM → Prop} (h : ok (f_PA_isAgent v1 m) (fun p => Q (some (.int (b2i p))) m)) : zc gX s_PA_isAgent [.ref 0, .int v1] m Q := by
  refine zc_of rfl (Nat.le_of_ble_eq_true rfl) ?_
  show AX gX s_PA_isAgent 0 [(0, .ref 0), (1, .int v1)] [] m Q
  obtain ⟨K, hK⟩ : ∃ K : Bool → Prop, K = (fun p : Bool => Q (some (.int (b2i p))) m) := ⟨_, rfl⟩
  have hR : ∀ p : Bool, K p → Q (some (.int (b2i p))) m := fun p hp => by rw [hK] at hp; exact hp
  replace h : ok (f_PA_isAgent v1 m) (fun p : Bool => Q (some (.int (b2i p))) m) := h
  rw [← hK] at h
  unfold f_PA_isAgent at h
  refine ax_aload_n 0 d_PA_isAgent_0 rfl rfl 1 rfl ?_
  refine ax_getI fl_PA_84 x_0 rfl d_PA_isAgent_1 4 rfl ?_
  refine ax_if_eq 26 7 d_PA_isAgent_4 rfl rfl (fun hc => ?_) (fun hc => ?_)
  · have h := ok_t hc h
    refine ax_iconst 0 d_PA_isAgent_26 ic_0 27 rfl ?_
    exact ax_zret (b := false) rfl d_PA_isAgent_27 (hR false (ok_some h))
  · have h := ok_f hc h
    refine ax_iload_n 1 d_PA_isAgent_7 rfl rfl 8 rfl ?_
    refine ax_if_lt 26 11 d_PA_isAgent_8 rfl rfl (fun hc => ?_) (fun hc => ?_)
    · have h := ok_t hc h
      refine ax_iconst 0 d_PA_isAgent_26 ic_0 27 rfl ?_
      exact ax_zret (b := false) rfl d_PA_isAgent_27 (hR false (ok_some h))
    · have h := ok_f hc h
      refine ax_iload_n 1 d_PA_isAgent_11 rfl rfl 12 rfl ?_
      refine ax_aload_n 0 d_PA_isAgent_12 rfl rfl 13 rfl ?_
      refine ok_tb h (fun t1 ht1 et1 h => ?_)
      refine ax_getR fl_PA_71 x_0 rfl (ry_0 et1) d_PA_isAgent_13 16 rfl ?_
      refine ax_getI fl_PA_143 (sx_Table ht1) rfl d_PA_isAgent_16 19 rfl ?_
      refine ax_icmp_ge 26 22 d_PA_isAgent_19 rfl rfl (fun hc => ?_) (fun hc => ?_)
      · have h := ok_t hc h
        refine ax_iconst 0 d_PA_isAgent_26 ic_0 27 rfl ?_
        exact ax_zret (b := false) rfl d_PA_isAgent_27 (hR false (ok_some h))
      · have h := ok_f hc h
        refine ax_iconst 1 d_PA_isAgent_22 ic_1 23 rfl ?_
        refine ax_goto 27 d_PA_isAgent_23 rfl ?_
        exact ax_zret (b := true) rfl d_PA_isAgent_27 (hR true (ok_some h))
set_option maxRecDepth 4000 in
theorem zc_PA_agent (v1 : Int32) (v2 : Int32) (v3 : Int32) (m : zM)  {Q : Option Value → zM → Prop} (h : ok (f_PA_agent v1 v2 v3 m) (fun p => Q (some (.int p)) m)) : zc gX s_PA_agent [.ref 0, .int v1, .int v2, .int v3] m Q := by
  refine zc_of rfl (Nat.le_of_ble_eq_true rfl) ?_
  show AX gX s_PA_agent 0 [(0, .ref 0), (1, .int v1), (2, .int v2), (3, .int v3)] [] m Q
  obtain ⟨K, hK⟩ : ∃ K : Int32 → Prop, K = (fun p : Int32 => Q (some (.int p)) m) := ⟨_, rfl⟩
  have hR : ∀ p : Int32, K p → Q (some (.int p)) m := fun p hp => by rw [hK] at hp; exact hp
  replace h : ok (f_PA_agent v1 v2 v3 m) (fun p : Int32 => Q (some (.int p)) m) := h
  rw [← hK] at h
  unfold f_PA_agent at h
  refine ax_aload_n 0 d_PA_agent_0 rfl rfl 1 rfl ?_
  refine ax_iload_n 1 d_PA_agent_1 rfl rfl 2 rfl ?_
  refine ax_callV mv_PA_194 ⟨Nat.le_of_ble_eq_true rfl, Nat.le_of_ble_eq_true rfl⟩ ⟨rfl, rfl⟩ [.int v1] [.int v1, .ref 0] rfl rfl (rc_x_0 _) (Nat.le_of_ble_eq_true rfl) d_PA_agent_2 5 rfl (zc_PA_isWorld v1 m ?_)
  refine ax_ifb_eq 16 8 d_PA_agent_5 rfl rfl (fun hc => ?_) (fun hc => ?_)
  · have h := ok_f (bf hc) h
    refine ax_iconst (-1) d_PA_agent_16 ic_m1 17 rfl ?_
    exact ax_iret rfl d_PA_agent_17 (hR (-1) (ok_some h))
  · have h := ok_t hc h
    refine ax_aload_n 0 d_PA_agent_8 rfl rfl 9 rfl ?_
    refine ax_iload_n 2 d_PA_agent_9 rfl rfl 10 rfl ?_
    refine ax_callV mv_PA_217 ⟨Nat.le_of_ble_eq_true rfl, Nat.le_of_ble_eq_true rfl⟩ ⟨rfl, rfl⟩ [.int v2] [.int v2, .ref 0] rfl rfl (rc_x_0 _) (Nat.le_of_ble_eq_true rfl) d_PA_agent_10 13 rfl (zc_PA_isAgent v2 m (ok_b h (fun r1 h => ?_)))
    refine ax_ifb_ne 18 16 d_PA_agent_13 rfl rfl (fun hc => ?_) (fun hc => ?_)
    · have h := ok_t hc h
      refine ax_iload_n 1 d_PA_agent_18 rfl rfl 19 rfl ?_
      refine ax_iconst 4 d_PA_agent_19 ic_4 20 rfl ?_
      refine ax_imul d_PA_agent_20 21 rfl ?_
      refine ax_iload_n 2 d_PA_agent_21 rfl rfl 22 rfl ?_
      refine ax_iadd d_PA_agent_22 23 rfl ?_
      refine ax_istore (ls1 := [(4, .int ((v1 * 4) + v2)), (0, .ref 0), (1, .int v1), (2, .int v2), (3, .int v3)]) d_PA_agent_23 (Nat.le_of_ble_eq_true rfl) rfl 25 rfl ?_
      refine ax_iload_n 4 d_PA_agent_25 rfl rfl 26 rfl ?_
      by_cases hc26_0 : v3 = 4
      · have h := ok_t hc26_0 h
        refine ax_lookup (off := 26) 52 d_PA_agent_26 (by decide) (by rw [hc26_0]; decide) rfl ?_
        refine ax_aload_n 1 d_PA_agent_52 rfl rfl 53 rfl ?_
        refine ax_getR fl_PA_80 x_0 rfl (rx_0_12 _) d_PA_agent_53 56 rfl ?_
        refine ax_getR fl_PA_220 x_116 rfl (rx_116_9 _) d_PA_agent_56 59 rfl ?_
        refine ax_iload 0 d_PA_agent_59 rfl 61 rfl ?_
        refine ax_baload x_122 d_PA_agent_61 62 rfl h (fun i2 h => ?_)
        refine ax_callS mv_PA_207 ⟨Nat.le_of_ble_eq_true rfl, Nat.le_of_ble_eq_true rfl⟩ ⟨rfl, rfl⟩ [.int (m.1 122 i2)] [.int (m.1 122 i2)] rfl rfl (Nat.le_of_ble_eq_true rfl) d_PA_agent_62 65 rfl (zc_PA_asNumber (m.1 122 i2) m ?_)
        exact ax_iret rfl d_PA_agent_65 (hR (f_PA_asNumber (m.1 122 i2)) (ok_some h))
      have h := ok_f hc26_0 h
      by_cases hc26_1 : v3 = 5
      · have h := ok_t hc26_1 h
        refine ax_lookup (off := 40) 66 d_PA_agent_26 (by decide) (by rw [hc26_1]; decide) rfl ?_
        refine ax_aload_n 1 d_PA_agent_66 rfl rfl 67 rfl ?_
        refine ax_getR fl_PA_80 x_0 rfl (rx_0_12 _) d_PA_agent_67 70 rfl ?_
        refine ax_getR fl_PA_223 x_116 rfl (rx_116_10 _) d_PA_agent_70 73 rfl ?_
        refine ax_iload 0 d_PA_agent_73 rfl 75 rfl ?_
        refine ax_baload x_123 d_PA_agent_75 76 rfl h (fun i3 h => ?_)
        refine ax_callS mv_PA_207 ⟨Nat.le_of_ble_eq_true rfl, Nat.le_of_ble_eq_true rfl⟩ ⟨rfl, rfl⟩ [.int (m.1 123 i3)] [.int (m.1 123 i3)] rfl rfl (Nat.le_of_ble_eq_true rfl) d_PA_agent_76 79 rfl (zc_PA_asNumber (m.1 123 i3) m ?_)
        exact ax_iret rfl d_PA_agent_79 (hR (f_PA_asNumber (m.1 123 i3)) (ok_some h))
      have h := ok_f hc26_1 h
      have n0 := zne (n := 4) hc26_0 (by decide)
      have n1 := zne (n := 5) hc26_1 (by decide)
      refine ax_lookup (off := 54) 80 d_PA_agent_26 (by decide) (by simp [Op.lookupswitch.offset, n0, Ne.symm n0, n1, Ne.symm n1]) rfl ?_
      refine ax_aload_n 1 d_PA_agent_80 rfl rfl 81 rfl ?_
      refine ax_getR fl_PA_32 x_0 rfl (rx_0_4 _) d_PA_agent_81 84 rfl ?_
      refine ax_getR fl_PA_226 x_24 rfl (rx_24_9 _) d_PA_agent_84 87 rfl ?_
      refine ax_iload 0 d_PA_agent_87 rfl 89 rfl ?_
      refine ax_iaload x_34 d_PA_agent_89 90 rfl h (fun i4 h => ?_)
      refine ax_iload_n 4 d_PA_agent_90 rfl rfl 91 rfl ?_
      refine ax_callS mv_PA_229 ⟨Nat.le_of_ble_eq_true rfl, Nat.le_of_ble_eq_true rfl⟩ ⟨rfl, rfl⟩ [.int (m.1 34 i4), .int v3] [.int v3, .int (m.1 34 i4)] rfl rfl (Nat.le_of_ble_eq_true rfl) d_PA_agent_91 94 rfl (zc_PA_held (m.1 34 i4) v3 m ?_)
      exact ax_iret rfl d_PA_agent_94 (hR (f_PA_held (m.1 34 i4) v3) (ok_some h))
    · have h := ok_f (bf hc) h
      refine ax_iconst (-1) d_PA_agent_16 ic_m1 17 rfl ?_
      exact ax_iret rfl d_PA_agent_17 (hR (-1) (ok_some h))
set_option maxRecDepth 4000 in
theorem c_Atlas_leading_J41 (v4 : Int32) (m : zM)  {Q : Option Value → zM → Prop} {K : Int32 → Prop} (hR : ∀ p : Int32, K (p) → Q (some (.int p)) m)  (h : ok (f_Atlas_leading_J41 v4 m) K) : AX gX s_Atlas_leading 41 [(0, .ref 24), (4, .int v4)] [] m Q := by
  unfold f_Atlas_leading_J41 at h
  refine ax_aload_n 0 d_Atlas_leading_41 rfl rfl 42 rfl ?_
  refine ax_iload 1 d_Atlas_leading_42 rfl 44 rfl ?_
  refine ax_callV mv_Atlas_154 ⟨Nat.le_of_ble_eq_true rfl, Nat.le_of_ble_eq_true rfl⟩ ⟨rfl, rfl⟩ [.int v4] [.int v4, .ref 24] rfl rfl (rc_x_24 _) (Nat.le_of_ble_eq_true rfl) d_Atlas_leading_44 47 rfl (zc_Atlas_target v4 m (ok_b h (fun r5 h => ?_)))
  exact ax_iret rfl d_Atlas_leading_47 (hR r5 (ok_some h))
set_option maxRecDepth 4000 in
theorem c_Atlas_leading_J48 (v1 : Int32) (v2 : Int32) (v3 : Int32) (v4 : Int32) (m : zM)  {Q : Option Value → zM → Prop} {K : ((Int32) ⊕ (Int32)) → Prop} (hR : ∀ p : Int32, K (.inl p) → Q (some (.int p)) m) (h0 : ∀ s : Int32, K (.inr s) → AX gX s_Atlas_leading 8 [(0, .ref 24), (1, .int v1), (2, .int v2), (3, .int v3), (4, .int s)] [] m Q) (h : ok (f_Atlas_leading_J48 v1 v2 v3 v4 m) K) : AX gX s_Atlas_leading 48 [(0, .ref 24), (1, .int v1), (2, .int v2), (3, .int v3), (4, .int v4)] [] m Q := by
  unfold f_Atlas_leading_J48 at h
  refine ax_iinc (ls1 := [(4, .int (v4 + 1)), (0, .ref 24), (1, .int v1), (2, .int v2), (3, .int v3)]) 4 1 d_Atlas_leading_48 rfl ic_1 (Nat.le_of_ble_eq_true rfl) rfl 51 rfl ?_
  refine ax_goto 8 d_Atlas_leading_51 rfl ?_
  exact ax_sub [1, 2, 3, 4, 0] rfl (h0 (v4 + 1) (ok_some h))
set_option maxRecDepth 4000 in
theorem c_Atlas_leading_B8 (v1 : Int32) (v2 : Int32) (v3 : Int32) (v4 : Int32) (m : zM)  {Q : Option Value → zM → Prop} {K : ((Int32) ⊕ (Int32)) → Prop} (hR : ∀ p : Int32, K (.inl p) → Q (some (.int p)) m) (h0 : ∀ s : Int32, K (.inr s) → AX gX s_Atlas_leading 8 [(0, .ref 24), (1, .int v1), (2, .int v2), (3, .int v3), (4, .int s)] [] m Q) (h : ok (f_Atlas_leading_B8 v1 v2 v3 v4 m) K) : AX gX s_Atlas_leading 8 [(0, .ref 24), (1, .int v1), (2, .int v2), (3, .int v3), (4, .int v4)] [] m Q := by
  unfold f_Atlas_leading_B8 at h
  refine ax_iload 4 d_Atlas_leading_8 rfl 10 rfl ?_
  refine ax_aload_n 0 d_Atlas_leading_10 rfl rfl 11 rfl ?_
  refine ax_getR fl_Atlas_52 x_24 rfl (rx_24_11 _) d_Atlas_leading_11 14 rfl ?_
  refine ax_iload_n 1 d_Atlas_leading_14 rfl rfl 15 rfl ?_
  refine ax_iconst 1 d_Atlas_leading_15 ic_1 16 rfl ?_
  refine ax_iadd d_Atlas_leading_16 17 rfl ?_
  refine ax_iaload x_36 d_Atlas_leading_17 18 rfl h (fun i2 h => ?_)
  refine ax_icmp_ge 54 21 d_Atlas_leading_18 rfl rfl (fun hc => ?_) (fun hc => ?_)
  · have h := ok_t hc h
    refine ax_iconst (-1) d_Atlas_leading_54 ic_m1 55 rfl ?_
    exact ax_iret rfl d_Atlas_leading_55 (hR (-1) (ok_some h))
  · have h := ok_f hc h
    refine ax_aload_n 0 d_Atlas_leading_21 rfl rfl 22 rfl ?_
    refine ax_iload 4 d_Atlas_leading_22 rfl 24 rfl ?_
    refine ax_callV mv_Atlas_147 ⟨Nat.le_of_ble_eq_true rfl, Nat.le_of_ble_eq_true rfl⟩ ⟨rfl, rfl⟩ [.int v4] [.int v4, .ref 24] rfl rfl (rc_x_24 _) (Nat.le_of_ble_eq_true rfl) d_Atlas_leading_24 27 rfl (zc_Atlas_by v4 m (ok_b h (fun r3 h => ?_)))
    refine ax_iload_n 2 d_Atlas_leading_27 rfl rfl 28 rfl ?_
    refine ax_icmp_ne 48 31 d_Atlas_leading_28 rfl rfl (fun hc => ?_) (fun hc => ?_)
    · have h := ok_f hc h
      exact ax_sub [0, 1, 2, 3, 4] rfl (c_Atlas_leading_J48 v1 v2 v3 v4 m (fun p hp => hR p hp) (fun s hs => h0 s hs) h)
    · have h := ok_t hc h
      refine ax_aload_n 0 d_Atlas_leading_31 rfl rfl 32 rfl ?_
      refine ax_iload 4 d_Atlas_leading_32 rfl 34 rfl ?_
      refine ax_callV mv_Atlas_151 ⟨Nat.le_of_ble_eq_true rfl, Nat.le_of_ble_eq_true rfl⟩ ⟨rfl, rfl⟩ [.int v4] [.int v4, .ref 24] rfl rfl (rc_x_24 _) (Nat.le_of_ble_eq_true rfl) d_Atlas_leading_34 37 rfl (zc_Atlas_mover v4 m (ok_b h (fun r4 h => ?_)))
      refine ax_iload_n 3 d_Atlas_leading_37 rfl rfl 38 rfl ?_
      refine ax_icmp_ne 48 41 d_Atlas_leading_38 rfl rfl (fun hc => ?_) (fun hc => ?_)
      · have h := ok_f hc h
        exact ax_sub [0, 1, 2, 3, 4] rfl (c_Atlas_leading_J48 v1 v2 v3 v4 m (fun p hp => hR p hp) (fun s hs => h0 s hs) h)
      · have h := ok_t hc h
        exact ax_sub [0, 4] rfl (c_Atlas_leading_J41 v4 m (fun p hp => hR p hp) (ok_z h))
theorem c_Atlas_leading_L8 (v1 : Int32) (v2 : Int32) (v3 : Int32) (v4 : Int32) (m : zM)  {Q : Option Value → zM → Prop} {K : Int32 → Prop} (hR : ∀ p : Int32, K (p) → Q (some (.int p)) m)  (h : ok (f_Atlas_leading_L8 v1 v2 v3 v4 m) K) : AX gX s_Atlas_leading 8 [(0, .ref 24), (1, .int v1), (2, .int v2), (3, .int v3), (4, .int v4)] [] m Q :=
  ok_lp (K := K) (G := fun s : Int32 => AX gX s_Atlas_leading 8 [(0, .ref 24), (1, .int v1), (2, .int v2), (3, .int v3), (4, .int s)] [] m Q) (fun s h => c_Atlas_leading_B8 v1 v2 v3 s m  (fun p hp => hR p hp) (fun s hs => hs) h) FU v4 h
set_option maxRecDepth 4000 in
theorem zc_Atlas_leading (v1 : Int32) (v2 : Int32) (v3 : Int32) (m : zM)  {Q : Option Value → zM → Prop} (h : ok (f_Atlas_leading v1 v2 v3 m) (fun p => Q (some (.int p)) m)) : zc gX s_Atlas_leading [.ref 24, .int v1, .int v2, .int v3] m Q := by
  refine zc_of rfl (Nat.le_of_ble_eq_true rfl) ?_
  show AX gX s_Atlas_leading 0 [(0, .ref 24), (1, .int v1), (2, .int v2), (3, .int v3)] [] m Q
  obtain ⟨K, hK⟩ : ∃ K : Int32 → Prop, K = (fun p : Int32 => Q (some (.int p)) m) := ⟨_, rfl⟩
  have hR : ∀ p : Int32, K p → Q (some (.int p)) m := fun p hp => by rw [hK] at hp; exact hp
  replace h : ok (f_Atlas_leading v1 v2 v3 m) (fun p : Int32 => Q (some (.int p)) m) := h
  rw [← hK] at h
  unfold f_Atlas_leading at h
  refine ax_aload_n 0 d_Atlas_leading_0 rfl rfl 1 rfl ?_
  refine ax_getR fl_Atlas_52 x_24 rfl (rx_24_11 _) d_Atlas_leading_1 4 rfl ?_
  refine ax_iload_n 1 d_Atlas_leading_4 rfl rfl 5 rfl ?_
  refine ax_iaload x_36 d_Atlas_leading_5 6 rfl h (fun i1 h => ?_)
  refine ax_istore (ls1 := [(4, .int (m.1 36 i1)), (0, .ref 24), (1, .int v1), (2, .int v2), (3, .int v3)]) d_Atlas_leading_6 (Nat.le_of_ble_eq_true rfl) rfl 8 rfl ?_
  exact ax_sub [1, 2, 3, 4, 0] rfl (c_Atlas_leading_L8 v1 v2 v3 (m.1 36 i1) m (fun p hp => hR p hp) h)
set_option maxRecDepth 4000 in
theorem zc_PA_leads (v1 : Int32) (v2 : Int32) (v3 : Int32) (m : zM)  {Q : Option Value → zM → Prop} (h : ok (f_PA_leads v1 v2 v3 m) (fun p => Q (some (.int p)) m)) : zc gX s_PA_leads [.ref 0, .int v1, .int v2, .int v3] m Q := by
  refine zc_of rfl (Nat.le_of_ble_eq_true rfl) ?_
  show AX gX s_PA_leads 0 [(0, .ref 0), (1, .int v1), (2, .int v2), (3, .int v3)] [] m Q
  obtain ⟨K, hK⟩ : ∃ K : Int32 → Prop, K = (fun p : Int32 => Q (some (.int p)) m) := ⟨_, rfl⟩
  have hR : ∀ p : Int32, K p → Q (some (.int p)) m := fun p hp => by rw [hK] at hp; exact hp
  replace h : ok (f_PA_leads v1 v2 v3 m) (fun p : Int32 => Q (some (.int p)) m) := h
  rw [← hK] at h
  unfold f_PA_leads at h
  refine ax_aload_n 0 d_PA_leads_0 rfl rfl 1 rfl ?_
  refine ax_iload_n 1 d_PA_leads_1 rfl rfl 2 rfl ?_
  refine ax_callV mv_PA_194 ⟨Nat.le_of_ble_eq_true rfl, Nat.le_of_ble_eq_true rfl⟩ ⟨rfl, rfl⟩ [.int v1] [.int v1, .ref 0] rfl rfl (rc_x_0 _) (Nat.le_of_ble_eq_true rfl) d_PA_leads_2 5 rfl (zc_PA_isWorld v1 m ?_)
  refine ax_ifb_eq 24 8 d_PA_leads_5 rfl rfl (fun hc => ?_) (fun hc => ?_)
  · have h := ok_f (bf hc) h
    refine ax_iconst (-1) d_PA_leads_24 ic_m1 25 rfl ?_
    exact ax_iret rfl d_PA_leads_25 (hR (-1) (ok_some h))
  · have h := ok_t hc h
    refine ax_aload_n 0 d_PA_leads_8 rfl rfl 9 rfl ?_
    refine ax_iload_n 2 d_PA_leads_9 rfl rfl 10 rfl ?_
    refine ax_callV mv_PA_181 ⟨Nat.le_of_ble_eq_true rfl, Nat.le_of_ble_eq_true rfl⟩ ⟨rfl, rfl⟩ [.int v2] [.int v2, .ref 0] rfl rfl (rc_x_0 _) (Nat.le_of_ble_eq_true rfl) d_PA_leads_10 13 rfl (zc_PA_isRule v2 m (ok_b h (fun r1 h => ?_)))
    refine ax_ifb_eq 24 16 d_PA_leads_13 rfl rfl (fun hc => ?_) (fun hc => ?_)
    · have h := ok_f (bf hc) h
      refine ax_iconst (-1) d_PA_leads_24 ic_m1 25 rfl ?_
      exact ax_iret rfl d_PA_leads_25 (hR (-1) (ok_some h))
    · have h := ok_t hc h
      refine ax_aload_n 0 d_PA_leads_16 rfl rfl 17 rfl ?_
      refine ax_iload_n 3 d_PA_leads_17 rfl rfl 18 rfl ?_
      refine ax_callV mv_PA_217 ⟨Nat.le_of_ble_eq_true rfl, Nat.le_of_ble_eq_true rfl⟩ ⟨rfl, rfl⟩ [.int v3] [.int v3, .ref 0] rfl rfl (rc_x_0 _) (Nat.le_of_ble_eq_true rfl) d_PA_leads_18 21 rfl (zc_PA_isAgent v3 m (ok_b h (fun r2 h => ?_)))
      refine ax_ifb_ne 26 24 d_PA_leads_21 rfl rfl (fun hc => ?_) (fun hc => ?_)
      · have h := ok_t hc h
        refine ax_aload_n 0 d_PA_leads_26 rfl rfl 27 rfl ?_
        refine ax_getR fl_PA_32 x_0 rfl (rx_0_4 _) d_PA_leads_27 30 rfl ?_
        refine ax_iload_n 1 d_PA_leads_30 rfl rfl 31 rfl ?_
        refine ax_iload_n 2 d_PA_leads_31 rfl rfl 32 rfl ?_
        refine ax_iload_n 3 d_PA_leads_32 rfl rfl 33 rfl ?_
        refine ax_callV mv_PA_232 ⟨Nat.le_of_ble_eq_true rfl, Nat.le_of_ble_eq_true rfl⟩ ⟨rfl, rfl⟩ [.int v1, .int v2, .int v3] [.int v3, .int v2, .int v1, .ref 24] rfl rfl (rc_x_24 _) (Nat.le_of_ble_eq_true rfl) d_PA_leads_33 36 rfl (zc_Atlas_leading v1 v2 v3 m (ok_b h (fun r3 h => ?_)))
        exact ax_iret rfl d_PA_leads_36 (hR r3 (ok_some h))
      · have h := ok_f (bf hc) h
        refine ax_iconst (-1) d_PA_leads_24 ic_m1 25 rfl ?_
        exact ax_iret rfl d_PA_leads_25 (hR (-1) (ok_some h))
set_option maxRecDepth 4000 in
theorem c_Atlas_stepTo_J34 (v3 : Int32) (m : zM)  {Q : Option Value → zM → Prop} {K : Int32 → Prop} (hR : ∀ p : Int32, K (p) → Q (some (.int p)) m)  (h : ok (f_Atlas_stepTo_J34 v3 m) K) : AX gX s_Atlas_stepTo 34 [(0, .ref 24), (3, .int v3)] [] m Q := by
  unfold f_Atlas_stepTo_J34 at h
  refine ax_aload_n 0 d_Atlas_stepTo_34 rfl rfl 35 rfl ?_
  refine ax_getR fl_Atlas_36 x_24 rfl (rx_24_6 _) d_Atlas_stepTo_35 38 rfl ?_
  refine ax_iload_n 1 d_Atlas_stepTo_38 rfl rfl 39 rfl ?_
  refine ax_iaload x_31 d_Atlas_stepTo_39 40 rfl h (fun i3 h => ?_)
  exact ax_iret rfl d_Atlas_stepTo_40 (hR (m.1 31 i3) (ok_some h))
set_option maxRecDepth 4000 in
theorem c_Atlas_stepTo_B5 (v2 : Int32) (v3 : Int32) (v4 : Int32) (m : zM)  {Q : Option Value → zM → Prop} {K : ((Int32) ⊕ (Int32 × Int32)) → Prop} (hR : ∀ p : Int32, K (.inl p) → Q (some (.int p)) m) (h0 : ∀ s : Int32 × Int32, K (.inr s) → AX gX s_Atlas_stepTo 5 [(0, .ref 24), (2, .int v2), (3, .int s.1), (4, .int s.2)] [] m Q) (h : ok (f_Atlas_stepTo_B5 v2 v3 v4 m) K) : AX gX s_Atlas_stepTo 5 [(0, .ref 24), (2, .int v2), (3, .int v3), (4, .int v4)] [] m Q := by
  unfold f_Atlas_stepTo_B5 at h
  refine ax_iload 3 d_Atlas_stepTo_5 rfl 7 rfl ?_
  refine ax_iload_n 1 d_Atlas_stepTo_7 rfl rfl 8 rfl ?_
  refine ax_icmp_ge 34 11 d_Atlas_stepTo_8 rfl rfl (fun hc => ?_) (fun hc => ?_)
  · have h := ok_t hc h
    exact ax_sub [0, 2] rfl (c_Atlas_stepTo_J34 v3 m (fun p hp => hR p hp) (ok_z h))
  · have h := ok_f hc h
    refine ax_aload_n 0 d_Atlas_stepTo_11 rfl rfl 12 rfl ?_
    refine ax_getR fl_Atlas_33 x_24 rfl (rx_24_5 _) d_Atlas_stepTo_12 15 rfl ?_
    refine ax_iload_n 2 d_Atlas_stepTo_15 rfl rfl 16 rfl ?_
    refine ax_iaload x_30 d_Atlas_stepTo_16 17 rfl h (fun i1 h => ?_)
    refine ax_iconst (-1) d_Atlas_stepTo_17 ic_m1 18 rfl ?_
    refine ax_icmp_eq 34 21 d_Atlas_stepTo_18 rfl rfl (fun hc => ?_) (fun hc => ?_)
    · have h := ok_t hc h
      exact ax_sub [0, 2] rfl (c_Atlas_stepTo_J34 v3 m (fun p hp => hR p hp) (ok_z h))
    · have h := ok_f hc h
      refine ax_aload_n 0 d_Atlas_stepTo_21 rfl rfl 22 rfl ?_
      refine ax_getR fl_Atlas_33 x_24 rfl (rx_24_5 _) d_Atlas_stepTo_22 25 rfl ?_
      refine ax_iload_n 2 d_Atlas_stepTo_25 rfl rfl 26 rfl ?_
      refine ax_iaload x_30 d_Atlas_stepTo_26 27 rfl h (fun i2 h => ?_)
      refine ax_istore_n (ls1 := [(3, .int (m.1 30 i2)), (0, .ref 24), (2, .int v2), (4, .int v4)]) d_Atlas_stepTo_27 rfl (Nat.le_of_ble_eq_true rfl) rfl 28 rfl ?_
      refine ax_iinc (ls1 := [(4, .int (v4 + 1)), (3, .int (m.1 30 i2)), (0, .ref 24), (2, .int v2)]) 3 1 d_Atlas_stepTo_28 rfl ic_1 (Nat.le_of_ble_eq_true rfl) rfl 31 rfl ?_
      refine ax_goto 5 d_Atlas_stepTo_31 rfl ?_
      exact ax_sub [2, 3, 1, 0] rfl (h0 ((m.1 30 i2), (v4 + 1)) (ok_some h))
theorem c_Atlas_stepTo_L5 (v2 : Int32) (v3 : Int32) (v4 : Int32) (m : zM)  {Q : Option Value → zM → Prop} {K : Int32 → Prop} (hR : ∀ p : Int32, K (p) → Q (some (.int p)) m)  (h : ok (f_Atlas_stepTo_L5 v2 v3 v4 m) K) : AX gX s_Atlas_stepTo 5 [(0, .ref 24), (2, .int v2), (3, .int v3), (4, .int v4)] [] m Q :=
  ok_lp (K := K) (G := fun s : Int32 × Int32 => AX gX s_Atlas_stepTo 5 [(0, .ref 24), (2, .int v2), (3, .int s.1), (4, .int s.2)] [] m Q) (fun s h => c_Atlas_stepTo_B5 v2 s.1 s.2 m  (fun p hp => hR p hp) (fun s hs => hs) h) FU (v3, v4) h
set_option maxRecDepth 4000 in
theorem zc_Atlas_stepTo (v1 : Int32) (v2 : Int32) (m : zM)  {Q : Option Value → zM → Prop} (h : ok (f_Atlas_stepTo v1 v2 m) (fun p => Q (some (.int p)) m)) : zc gX s_Atlas_stepTo [.ref 24, .int v1, .int v2] m Q := by
  refine zc_of rfl (Nat.le_of_ble_eq_true rfl) ?_
  show AX gX s_Atlas_stepTo 0 [(0, .ref 24), (1, .int v1), (2, .int v2)] [] m Q
  obtain ⟨K, hK⟩ : ∃ K : Int32 → Prop, K = (fun p : Int32 => Q (some (.int p)) m) := ⟨_, rfl⟩
  have hR : ∀ p : Int32, K p → Q (some (.int p)) m := fun p hp => by rw [hK] at hp; exact hp
  replace h : ok (f_Atlas_stepTo v1 v2 m) (fun p : Int32 => Q (some (.int p)) m) := h
  rw [← hK] at h
  unfold f_Atlas_stepTo at h
  refine ax_iload_n 1 d_Atlas_stepTo_0 rfl rfl 1 rfl ?_
  refine ax_istore_n (ls1 := [(3, .int v1), (0, .ref 24), (1, .int v1), (2, .int v2)]) d_Atlas_stepTo_1 rfl (Nat.le_of_ble_eq_true rfl) rfl 2 rfl ?_
  refine ax_iconst 0 d_Atlas_stepTo_2 ic_0 3 rfl ?_
  refine ax_istore (ls1 := [(4, .int 0), (3, .int v1), (0, .ref 24), (1, .int v1), (2, .int v2)]) d_Atlas_stepTo_3 (Nat.le_of_ble_eq_true rfl) rfl 5 rfl ?_
  exact ax_sub [2, 4, 1, 0] rfl (c_Atlas_stepTo_L5 v2 v1 0 m (fun p hp => hR p hp) h)
set_option maxRecDepth 4000 in
theorem zc_PA_way (v1 : Int32) (v2 : Int32) (v3 : Int32) (m : zM)  {Q : Option Value → zM → Prop} (h : ok (f_PA_way v1 v2 v3 m) (fun p => Q (some (.int p)) m)) : zc gX s_PA_way [.ref 0, .int v1, .int v2, .int v3] m Q := by
  refine zc_of rfl (Nat.le_of_ble_eq_true rfl) ?_
  show AX gX s_PA_way 0 [(0, .ref 0), (1, .int v1), (2, .int v2), (3, .int v3)] [] m Q
  obtain ⟨K, hK⟩ : ∃ K : Int32 → Prop, K = (fun p : Int32 => Q (some (.int p)) m) := ⟨_, rfl⟩
  have hR : ∀ p : Int32, K p → Q (some (.int p)) m := fun p hp => by rw [hK] at hp; exact hp
  replace h : ok (f_PA_way v1 v2 v3 m) (fun p : Int32 => Q (some (.int p)) m) := h
  rw [← hK] at h
  unfold f_PA_way at h
  refine ax_aload_n 0 d_PA_way_0 rfl rfl 1 rfl ?_
  refine ax_iload_n 1 d_PA_way_1 rfl rfl 2 rfl ?_
  refine ax_callV mv_PA_194 ⟨Nat.le_of_ble_eq_true rfl, Nat.le_of_ble_eq_true rfl⟩ ⟨rfl, rfl⟩ [.int v1] [.int v1, .ref 0] rfl rfl (rc_x_0 _) (Nat.le_of_ble_eq_true rfl) d_PA_way_2 5 rfl (zc_PA_isWorld v1 m ?_)
  refine ax_ifb_ne 10 8 d_PA_way_5 rfl rfl (fun hc => ?_) (fun hc => ?_)
  · have h := ok_t hc h
    refine ax_aload_n 0 d_PA_way_10 rfl rfl 11 rfl ?_
    refine ax_getR fl_PA_32 x_0 rfl (rx_0_4 _) d_PA_way_11 14 rfl ?_
    refine ax_getR fl_PA_158 x_24 rfl (rx_24_4 _) d_PA_way_14 17 rfl ?_
    refine ax_iload_n 1 d_PA_way_17 rfl rfl 18 rfl ?_
    refine ax_iaload x_29 d_PA_way_18 19 rfl h (fun i1 h => ?_)
    refine ax_istore (ls1 := [(4, .int (m.1 29 i1)), (0, .ref 0), (1, .int v1), (2, .int v2), (3, .int v3)]) d_PA_way_19 (Nat.le_of_ble_eq_true rfl) rfl 21 rfl ?_
    refine ax_iload_n 3 d_PA_way_21 rfl rfl 22 rfl ?_
    refine ax_iconst (-1) d_PA_way_22 ic_m1 23 rfl ?_
    refine ax_icmp_ne 37 26 d_PA_way_23 rfl rfl (fun hc => ?_) (fun hc => ?_)
    · have h := ok_f hc h
      refine ax_iload_n 3 d_PA_way_37 rfl rfl 38 rfl ?_
      refine ax_if_lt 47 41 d_PA_way_38 rfl rfl (fun hc => ?_) (fun hc => ?_)
      · have h := ok_t hc h
        refine ax_iconst (-1) d_PA_way_47 ic_m1 48 rfl ?_
        exact ax_iret rfl d_PA_way_48 (hR (-1) (ok_some h))
      · have h := ok_f hc h
        refine ax_iload_n 3 d_PA_way_41 rfl rfl 42 rfl ?_
        refine ax_iload 0 d_PA_way_42 rfl 44 rfl ?_
        refine ax_icmp_lt 49 47 d_PA_way_44 rfl rfl (fun hc => ?_) (fun hc => ?_)
        · have h := ok_t hc h
          refine ax_aload_n 1 d_PA_way_49 rfl rfl 50 rfl ?_
          refine ax_getR fl_PA_32 x_0 rfl (rx_0_4 _) d_PA_way_50 53 rfl ?_
          refine ax_iload_n 2 d_PA_way_53 rfl rfl 54 rfl ?_
          refine ax_iload 0 d_PA_way_54 rfl 56 rfl ?_
          refine ax_iconst 1 d_PA_way_56 ic_1 57 rfl ?_
          refine ax_isub d_PA_way_57 58 rfl ?_
          refine ax_iload_n 3 d_PA_way_58 rfl rfl 59 rfl ?_
          refine ax_isub d_PA_way_59 60 rfl ?_
          refine ax_callV mv_PA_236 ⟨Nat.le_of_ble_eq_true rfl, Nat.le_of_ble_eq_true rfl⟩ ⟨rfl, rfl⟩ [.int v1, .int (((m.1 29 i1) - 1) - v2)] [.int (((m.1 29 i1) - 1) - v2), .int v1, .ref 24] rfl rfl (rc_x_24 _) (Nat.le_of_ble_eq_true rfl) d_PA_way_60 63 rfl (zc_Atlas_stepTo v1 (((m.1 29 i1) - 1) - v2) m (ok_b h (fun r2 h => ?_)))
          refine ax_istore (ls1 := [(5, .int r2), (4, .int (m.1 29 i1)), (0, .ref 0), (1, .int v1), (2, .int v2), (3, .int v3)]) d_PA_way_63 (Nat.le_of_ble_eq_true rfl) rfl 65 rfl ?_
          refine ax_iload_n 5 d_PA_way_65 rfl rfl 66 rfl ?_
          refine ax_if_ne 74 69 d_PA_way_66 rfl rfl (fun hc => ?_) (fun hc => ?_)
          · have h := ok_f hc h
            refine ax_iload_n 5 d_PA_way_74 rfl rfl 75 rfl ?_
            refine ax_iconst 1 d_PA_way_75 ic_1 76 rfl ?_
            refine ax_icmp_ne 86 79 d_PA_way_76 rfl rfl (fun hc => ?_) (fun hc => ?_)
            · have h := ok_f hc h
              refine ax_iconst (-1) d_PA_way_86 ic_m1 87 rfl ?_
              exact ax_iret rfl d_PA_way_87 (hR (-1) (ok_some h))
            · have h := ok_t hc h
              refine ax_iload 0 d_PA_way_79 rfl 81 rfl ?_
              refine ax_iconst 4 d_PA_way_81 ic_4 82 rfl ?_
              refine ax_irem d_PA_way_82 (by decide) 83 rfl ?_
              refine ax_goto 87 d_PA_way_83 rfl ?_
              exact ax_iret rfl d_PA_way_87 (hR (ir r2 4) (ok_some h))
          · have h := ok_t hc h
            refine ax_iload 0 d_PA_way_69 rfl 71 rfl ?_
            refine ax_iconst 4 d_PA_way_71 ic_4 72 rfl ?_
            refine ax_idiv d_PA_way_72 (by decide) 73 rfl ?_
            exact ax_iret rfl d_PA_way_73 (hR (r2 / 4) (ok_some h))
        · have h := ok_f hc h
          refine ax_iconst (-1) d_PA_way_47 ic_m1 48 rfl ?_
          exact ax_iret rfl d_PA_way_48 (hR (-1) (ok_some h))
    · have h := ok_t hc h
      refine ax_iload_n 4 d_PA_way_26 rfl rfl 27 rfl ?_
      refine ax_if_ne 35 30 d_PA_way_27 rfl rfl (fun hc => ?_) (fun hc => ?_)
      · have h := ok_f hc h
        refine ax_iconst (-1) d_PA_way_35 ic_m1 36 rfl ?_
        exact ax_iret rfl d_PA_way_36 (hR (-1) (ok_some h))
      · have h := ok_t hc h
        refine ax_iload 0 d_PA_way_30 rfl 32 rfl ?_
        refine ax_goto 36 d_PA_way_32 rfl ?_
        exact ax_iret rfl d_PA_way_36 (hR (m.1 29 i1) (ok_some h))
  · have h := ok_f (bf hc) h
    refine ax_iconst (-1) d_PA_way_8 ic_m1 9 rfl ?_
    exact ax_iret rfl d_PA_way_9 (hR (-1) (ok_some h))
set_option maxRecDepth 4000 in
theorem c_Atlas_firstBad_B2 (v1 : Int32) (m : zM)  {Q : Option Value → zM → Prop} {K : ((Int32) ⊕ (Int32)) → Prop} (hR : ∀ p : Int32, K (.inl p) → Q (some (.int p)) m) (h0 : ∀ s : Int32, K (.inr s) → AX gX s_Atlas_firstBad 2 [(0, .ref 24), (1, .int s)] [] m Q) (h : ok (f_Atlas_firstBad_B2 v1 m) K) : AX gX s_Atlas_firstBad 2 [(0, .ref 24), (1, .int v1)] [] m Q := by
  unfold f_Atlas_firstBad_B2 at h
  refine ax_iload_n 1 d_Atlas_firstBad_2 rfl rfl 3 rfl ?_
  refine ax_aload_n 0 d_Atlas_firstBad_3 rfl rfl 4 rfl ?_
  refine ax_getI fl_Atlas_9 x_24 rfl d_Atlas_firstBad_4 7 rfl ?_
  refine ax_icmp_ge 27 10 d_Atlas_firstBad_7 rfl rfl (fun hc => ?_) (fun hc => ?_)
  · have h := ok_t hc h
    refine ax_iconst (-1) d_Atlas_firstBad_27 ic_m1 28 rfl ?_
    exact ax_iret rfl d_Atlas_firstBad_28 (hR (-1) (ok_some h))
  · have h := ok_f hc h
    refine ax_aload_n 0 d_Atlas_firstBad_10 rfl rfl 11 rfl ?_
    refine ax_getR fl_Atlas_42 x_24 rfl (rx_24_8 _) d_Atlas_firstBad_11 14 rfl ?_
    refine ax_iload_n 1 d_Atlas_firstBad_14 rfl rfl 15 rfl ?_
    refine ax_baload x_33 d_Atlas_firstBad_15 16 rfl h (fun i1 h => ?_)
    refine ax_if_eq 21 19 d_Atlas_firstBad_16 rfl rfl (fun hc => ?_) (fun hc => ?_)
    · have h := ok_t hc h
      refine ax_iinc (ls1 := [(1, .int (v1 + 1)), (0, .ref 24)]) 1 1 d_Atlas_firstBad_21 rfl ic_1 (Nat.le_of_ble_eq_true rfl) rfl 24 rfl ?_
      refine ax_goto 2 d_Atlas_firstBad_24 rfl ?_
      exact ax_sub [1, 0] rfl (h0 (v1 + 1) (ok_some h))
    · have h := ok_f hc h
      refine ax_iload_n 1 d_Atlas_firstBad_19 rfl rfl 20 rfl ?_
      exact ax_iret rfl d_Atlas_firstBad_20 (hR v1 (ok_some h))
theorem c_Atlas_firstBad_L2 (v1 : Int32) (m : zM)  {Q : Option Value → zM → Prop} {K : Int32 → Prop} (hR : ∀ p : Int32, K (p) → Q (some (.int p)) m)  (h : ok (f_Atlas_firstBad_L2 v1 m) K) : AX gX s_Atlas_firstBad 2 [(0, .ref 24), (1, .int v1)] [] m Q :=
  ok_lp (K := K) (G := fun s : Int32 => AX gX s_Atlas_firstBad 2 [(0, .ref 24), (1, .int s)] [] m Q) (fun s h => c_Atlas_firstBad_B2 s m  (fun p hp => hR p hp) (fun s hs => hs) h) FU v1 h
set_option maxRecDepth 4000 in
theorem zc_Atlas_firstBad  (m : zM)  {Q : Option Value → zM → Prop} (h : ok (f_Atlas_firstBad m) (fun p => Q (some (.int p)) m)) : zc gX s_Atlas_firstBad [.ref 24] m Q := by
  refine zc_of rfl (Nat.le_of_ble_eq_true rfl) ?_
  show AX gX s_Atlas_firstBad 0 [(0, .ref 24)] [] m Q
  obtain ⟨K, hK⟩ : ∃ K : Int32 → Prop, K = (fun p : Int32 => Q (some (.int p)) m) := ⟨_, rfl⟩
  have hR : ∀ p : Int32, K p → Q (some (.int p)) m := fun p hp => by rw [hK] at hp; exact hp
  replace h : ok (f_Atlas_firstBad m) (fun p : Int32 => Q (some (.int p)) m) := h
  rw [← hK] at h
  unfold f_Atlas_firstBad at h
  refine ax_iconst 0 d_Atlas_firstBad_0 ic_0 1 rfl ?_
  refine ax_istore_n (ls1 := [(1, .int 0), (0, .ref 24)]) d_Atlas_firstBad_1 rfl (Nat.le_of_ble_eq_true rfl) rfl 2 rfl ?_
  exact ax_sub [1, 0] rfl (c_Atlas_firstBad_L2 0 m (fun p hp => hR p hp) h)
set_option maxRecDepth 4000 in
theorem c_Atlas_firstStuck_B2 (v1 : Int32) (m : zM)  {Q : Option Value → zM → Prop} {K : ((Int32) ⊕ (Int32)) → Prop} (hR : ∀ p : Int32, K (.inl p) → Q (some (.int p)) m) (h0 : ∀ s : Int32, K (.inr s) → AX gX s_Atlas_firstStuck 2 [(0, .ref 24), (1, .int s)] [] m Q) (h : ok (f_Atlas_firstStuck_B2 v1 m) K) : AX gX s_Atlas_firstStuck 2 [(0, .ref 24), (1, .int v1)] [] m Q := by
  unfold f_Atlas_firstStuck_B2 at h
  refine ax_iload_n 1 d_Atlas_firstStuck_2 rfl rfl 3 rfl ?_
  refine ax_aload_n 0 d_Atlas_firstStuck_3 rfl rfl 4 rfl ?_
  refine ax_getI fl_Atlas_9 x_24 rfl d_Atlas_firstStuck_4 7 rfl ?_
  refine ax_icmp_ge 26 10 d_Atlas_firstStuck_7 rfl rfl (fun hc => ?_) (fun hc => ?_)
  · have h := ok_t hc h
    refine ax_iconst (-1) d_Atlas_firstStuck_26 ic_m1 27 rfl ?_
    exact ax_iret rfl d_Atlas_firstStuck_27 (hR (-1) (ok_some h))
  · have h := ok_f hc h
    refine ax_aload_n 0 d_Atlas_firstStuck_10 rfl rfl 11 rfl ?_
    refine ax_iload_n 1 d_Atlas_firstStuck_11 rfl rfl 12 rfl ?_
    refine ax_callV mv_Atlas_157 ⟨Nat.le_of_ble_eq_true rfl, Nat.le_of_ble_eq_true rfl⟩ ⟨rfl, rfl⟩ [.int v1] [.int v1, .ref 24] rfl rfl (rc_x_24 _) (Nat.le_of_ble_eq_true rfl) d_Atlas_firstStuck_12 15 rfl (zc_Atlas_movesFrom v1 m (ok_b h (fun r1 h => ?_)))
    refine ax_if_ne 20 18 d_Atlas_firstStuck_15 rfl rfl (fun hc => ?_) (fun hc => ?_)
    · have h := ok_f hc h
      refine ax_iinc (ls1 := [(1, .int (v1 + 1)), (0, .ref 24)]) 1 1 d_Atlas_firstStuck_20 rfl ic_1 (Nat.le_of_ble_eq_true rfl) rfl 23 rfl ?_
      refine ax_goto 2 d_Atlas_firstStuck_23 rfl ?_
      exact ax_sub [1, 0] rfl (h0 (v1 + 1) (ok_some h))
    · have h := ok_t hc h
      refine ax_iload_n 1 d_Atlas_firstStuck_18 rfl rfl 19 rfl ?_
      exact ax_iret rfl d_Atlas_firstStuck_19 (hR v1 (ok_some h))
theorem c_Atlas_firstStuck_L2 (v1 : Int32) (m : zM)  {Q : Option Value → zM → Prop} {K : Int32 → Prop} (hR : ∀ p : Int32, K (p) → Q (some (.int p)) m)  (h : ok (f_Atlas_firstStuck_L2 v1 m) K) : AX gX s_Atlas_firstStuck 2 [(0, .ref 24), (1, .int v1)] [] m Q :=
  ok_lp (K := K) (G := fun s : Int32 => AX gX s_Atlas_firstStuck 2 [(0, .ref 24), (1, .int s)] [] m Q) (fun s h => c_Atlas_firstStuck_B2 s m  (fun p hp => hR p hp) (fun s hs => hs) h) FU v1 h
set_option maxRecDepth 4000 in
theorem zc_Atlas_firstStuck  (m : zM)  {Q : Option Value → zM → Prop} (h : ok (f_Atlas_firstStuck m) (fun p => Q (some (.int p)) m)) : zc gX s_Atlas_firstStuck [.ref 24] m Q := by
  refine zc_of rfl (Nat.le_of_ble_eq_true rfl) ?_
  show AX gX s_Atlas_firstStuck 0 [(0, .ref 24)] [] m Q
  obtain ⟨K, hK⟩ : ∃ K : Int32 → Prop, K = (fun p : Int32 => Q (some (.int p)) m) := ⟨_, rfl⟩
  have hR : ∀ p : Int32, K p → Q (some (.int p)) m := fun p hp => by rw [hK] at hp; exact hp
  replace h : ok (f_Atlas_firstStuck m) (fun p : Int32 => Q (some (.int p)) m) := h
  rw [← hK] at h
  unfold f_Atlas_firstStuck at h
  refine ax_iconst 0 d_Atlas_firstStuck_0 ic_0 1 rfl ?_
  refine ax_istore_n (ls1 := [(1, .int 0), (0, .ref 24)]) d_Atlas_firstStuck_1 rfl (Nat.le_of_ble_eq_true rfl) rfl 2 rfl ?_
  exact ax_sub [1, 0] rfl (c_Atlas_firstStuck_L2 0 m (fun p hp => hR p hp) h)
set_option maxRecDepth 4000 in
theorem c_Study_firstWith_J21 (v2 : Int32) (m : zM)  {Q : Option Value → zM → Prop} {K : Int32 → Prop} (hR : ∀ p : Int32, K (p) → Q (some (.int p)) m)  (h : ok (f_Study_firstWith_J21 v2 m) K) : AX gX s_Study_firstWith 21 [(2, .int v2)] [] m Q := by
  unfold f_Study_firstWith_J21 at h
  refine ax_iload_n 0 d_Study_firstWith_21 rfl rfl 22 rfl ?_
  refine ax_iconst 4 d_Study_firstWith_22 ic_4 23 rfl ?_
  refine ax_idiv d_Study_firstWith_23 (by decide) 24 rfl ?_
  exact ax_iret rfl d_Study_firstWith_24 (hR (v2 / 4) (ok_some h))
set_option maxRecDepth 4000 in
theorem c_Study_firstWith_B2 (v1 : Nat) (v2 : Int32) (m : zM) (hv1 : gX.1[v1]? = some (.inr (1, zlen gX v1))) {Q : Option Value → zM → Prop} {K : ((Int32) ⊕ (Int32)) → Prop} (hR : ∀ p : Int32, K (.inl p) → Q (some (.int p)) m) (h0 : ∀ s : Int32, K (.inr s) → AX gX s_Study_firstWith 2 [(0, .ref 116), (1, .ref v1), (2, .int s)] [] m Q) (h : ok (f_Study_firstWith_B2 v1 v2 m) K) : AX gX s_Study_firstWith 2 [(0, .ref 116), (1, .ref v1), (2, .int v2)] [] m Q := by
  unfold f_Study_firstWith_B2 at h
  refine ax_iload_n 2 d_Study_firstWith_2 rfl rfl 3 rfl ?_
  refine ax_aload_n 0 d_Study_firstWith_3 rfl rfl 4 rfl ?_
  refine ax_getR fl_Study_53 x_116 rfl (rx_116_0 _) d_Study_firstWith_4 7 rfl ?_
  refine ax_getI fl_Study_103 x_24 rfl d_Study_firstWith_7 10 rfl ?_
  refine ax_iconst 4 d_Study_firstWith_10 ic_4 11 rfl ?_
  refine ax_imul d_Study_firstWith_11 12 rfl ?_
  refine ax_icmp_ge 31 15 d_Study_firstWith_12 rfl rfl (fun hc => ?_) (fun hc => ?_)
  · have h := ok_t hc h
    refine ax_iconst (-1) d_Study_firstWith_31 ic_m1 32 rfl ?_
    exact ax_iret rfl d_Study_firstWith_32 (hR (-1) (ok_some h))
  · have h := ok_f hc h
    refine ax_aload_n 1 d_Study_firstWith_15 rfl rfl 16 rfl ?_
    refine ax_iload_n 2 d_Study_firstWith_16 rfl rfl 17 rfl ?_
    refine ax_baload hv1 d_Study_firstWith_17 18 rfl h (fun i1 h => ?_)
    refine ax_if_eq 25 21 d_Study_firstWith_18 rfl rfl (fun hc => ?_) (fun hc => ?_)
    · have h := ok_t hc h
      refine ax_iinc (ls1 := [(2, .int (v2 + 1)), (0, .ref 116), (1, .ref v1)]) 2 1 d_Study_firstWith_25 rfl ic_1 (Nat.le_of_ble_eq_true rfl) rfl 28 rfl ?_
      refine ax_goto 2 d_Study_firstWith_28 rfl ?_
      exact ax_sub [1, 2, 0] rfl (h0 (v2 + 1) (ok_some h))
    · have h := ok_f hc h
      exact ax_sub [2] rfl (c_Study_firstWith_J21 v2 m (fun p hp => hR p hp) (ok_z h))
theorem c_Study_firstWith_L2 (v1 : Nat) (v2 : Int32) (m : zM) (hv1 : gX.1[v1]? = some (.inr (1, zlen gX v1))) {Q : Option Value → zM → Prop} {K : Int32 → Prop} (hR : ∀ p : Int32, K (p) → Q (some (.int p)) m)  (h : ok (f_Study_firstWith_L2 v1 v2 m) K) : AX gX s_Study_firstWith 2 [(0, .ref 116), (1, .ref v1), (2, .int v2)] [] m Q :=
  ok_lp (K := K) (G := fun s : Int32 => AX gX s_Study_firstWith 2 [(0, .ref 116), (1, .ref v1), (2, .int s)] [] m Q) (fun s h => c_Study_firstWith_B2 v1 s m hv1 (fun p hp => hR p hp) (fun s hs => hs) h) FU v2 h
set_option maxRecDepth 4000 in
theorem zc_Study_firstWith (v1 : Nat) (m : zM) (hv1 : gX.1[v1]? = some (.inr (1, zlen gX v1))) {Q : Option Value → zM → Prop} (h : ok (f_Study_firstWith v1 m) (fun p => Q (some (.int p)) m)) : zc gX s_Study_firstWith [.ref 116, .ref v1] m Q := by
  refine zc_of rfl (Nat.le_of_ble_eq_true rfl) ?_
  show AX gX s_Study_firstWith 0 [(0, .ref 116), (1, .ref v1)] [] m Q
  obtain ⟨K, hK⟩ : ∃ K : Int32 → Prop, K = (fun p : Int32 => Q (some (.int p)) m) := ⟨_, rfl⟩
  have hR : ∀ p : Int32, K p → Q (some (.int p)) m := fun p hp => by rw [hK] at hp; exact hp
  replace h : ok (f_Study_firstWith v1 m) (fun p : Int32 => Q (some (.int p)) m) := h
  rw [← hK] at h
  unfold f_Study_firstWith at h
  refine ax_iconst 0 d_Study_firstWith_0 ic_0 1 rfl ?_
  refine ax_istore_n (ls1 := [(2, .int 0), (0, .ref 116), (1, .ref v1)]) d_Study_firstWith_1 rfl (Nat.le_of_ble_eq_true rfl) rfl 2 rfl ?_
  exact ax_sub [1, 2, 0] rfl (c_Study_firstWith_L2 v1 0 m hv1 (fun p hp => hR p hp) h)
set_option maxRecDepth 4000 in
theorem zc_PA_first (v1 : Int32) (m : zM)  {Q : Option Value → zM → Prop} (h : ok (f_PA_first v1 m) (fun p => Q (some (.int p)) m)) : zc gX s_PA_first [.ref 0, .int v1] m Q := by
  refine zc_of rfl (Nat.le_of_ble_eq_true rfl) ?_
  show AX gX s_PA_first 0 [(0, .ref 0), (1, .int v1)] [] m Q
  obtain ⟨K, hK⟩ : ∃ K : Int32 → Prop, K = (fun p : Int32 => Q (some (.int p)) m) := ⟨_, rfl⟩
  have hR : ∀ p : Int32, K p → Q (some (.int p)) m := fun p hp => by rw [hK] at hp; exact hp
  replace h : ok (f_PA_first v1 m) (fun p : Int32 => Q (some (.int p)) m) := h
  rw [← hK] at h
  unfold f_PA_first at h
  refine ax_aload_n 0 d_PA_first_0 rfl rfl 1 rfl ?_
  refine ax_getI fl_PA_84 x_0 rfl d_PA_first_1 4 rfl ?_
  refine ax_if_ne 9 7 d_PA_first_4 rfl rfl (fun hc => ?_) (fun hc => ?_)
  · have h := ok_f hc h
    refine ax_iload_n 1 d_PA_first_9 rfl rfl 10 rfl ?_
    by_cases hc10_0 : v1 = 0
    · have h := ok_t hc10_0 h
      refine ax_tableIn (off := 30) 40 d_PA_first_10 (by rw [hc10_0]; decide) (by rw [hc10_0]; decide) (by rw [hc10_0]; rfl) rfl ?_
      refine ax_aload_n 0 d_PA_first_40 rfl rfl 41 rfl ?_
      refine ax_getR fl_PA_32 x_0 rfl (rx_0_4 _) d_PA_first_41 44 rfl ?_
      refine ax_callV mv_PA_239 ⟨Nat.le_of_ble_eq_true rfl, Nat.le_of_ble_eq_true rfl⟩ ⟨rfl, rfl⟩ [] [.ref 24] rfl rfl (rc_x_24 _) (Nat.le_of_ble_eq_true rfl) d_PA_first_44 47 rfl (zc_Atlas_firstBad m (ok_b h (fun r1 h => ?_)))
      exact ax_iret rfl d_PA_first_47 (hR r1 (ok_some h))
    have h := ok_f hc10_0 h
    by_cases hc10_1 : v1 = 1
    · have h := ok_t hc10_1 h
      refine ax_tableIn (off := 38) 48 d_PA_first_10 (by rw [hc10_1]; decide) (by rw [hc10_1]; decide) (by rw [hc10_1]; rfl) rfl ?_
      refine ax_aload_n 0 d_PA_first_48 rfl rfl 49 rfl ?_
      refine ax_getR fl_PA_32 x_0 rfl (rx_0_4 _) d_PA_first_49 52 rfl ?_
      refine ax_callV mv_PA_242 ⟨Nat.le_of_ble_eq_true rfl, Nat.le_of_ble_eq_true rfl⟩ ⟨rfl, rfl⟩ [] [.ref 24] rfl rfl (rc_x_24 _) (Nat.le_of_ble_eq_true rfl) d_PA_first_52 55 rfl (zc_Atlas_firstStuck m (ok_b h (fun r2 h => ?_)))
      exact ax_iret rfl d_PA_first_55 (hR r2 (ok_some h))
    have h := ok_f hc10_1 h
    by_cases hc10_2 : v1 = 2
    · have h := ok_t hc10_2 h
      refine ax_tableIn (off := 46) 56 d_PA_first_10 (by rw [hc10_2]; decide) (by rw [hc10_2]; decide) (by rw [hc10_2]; rfl) rfl ?_
      refine ax_aload_n 0 d_PA_first_56 rfl rfl 57 rfl ?_
      refine ax_getR fl_PA_80 x_0 rfl (rx_0_12 _) d_PA_first_57 60 rfl ?_
      refine ax_aload_n 0 d_PA_first_60 rfl rfl 61 rfl ?_
      refine ax_getR fl_PA_80 x_0 rfl (rx_0_12 _) d_PA_first_61 64 rfl ?_
      refine ax_getR fl_PA_220 x_116 rfl (rx_116_9 _) d_PA_first_64 67 rfl ?_
      refine ax_callV mv_PA_245 ⟨Nat.le_of_ble_eq_true rfl, Nat.le_of_ble_eq_true rfl⟩ ⟨rfl, rfl⟩ [.ref 122] [.ref 122, .ref 116] rfl rfl (rc_x_116 _) (Nat.le_of_ble_eq_true rfl) d_PA_first_67 70 rfl (zc_Study_firstWith 122 m x_122z (ok_b h (fun r3 h => ?_)))
      exact ax_iret rfl d_PA_first_70 (hR r3 (ok_some h))
    have h := ok_f hc10_2 h
    by_cases hc10_3 : v1 = 3
    · have h := ok_t hc10_3 h
      refine ax_tableIn (off := 61) 71 d_PA_first_10 (by rw [hc10_3]; decide) (by rw [hc10_3]; decide) (by rw [hc10_3]; rfl) rfl ?_
      refine ax_aload_n 0 d_PA_first_71 rfl rfl 72 rfl ?_
      refine ax_getR fl_PA_80 x_0 rfl (rx_0_12 _) d_PA_first_72 75 rfl ?_
      refine ax_aload_n 0 d_PA_first_75 rfl rfl 76 rfl ?_
      refine ax_getR fl_PA_80 x_0 rfl (rx_0_12 _) d_PA_first_76 79 rfl ?_
      refine ax_getR fl_PA_223 x_116 rfl (rx_116_10 _) d_PA_first_79 82 rfl ?_
      refine ax_callV mv_PA_245 ⟨Nat.le_of_ble_eq_true rfl, Nat.le_of_ble_eq_true rfl⟩ ⟨rfl, rfl⟩ [.ref 123] [.ref 123, .ref 116] rfl rfl (rc_x_116 _) (Nat.le_of_ble_eq_true rfl) d_PA_first_82 85 rfl (zc_Study_firstWith 123 m x_123z (ok_b h (fun r4 h => ?_)))
      exact ax_iret rfl d_PA_first_85 (hR r4 (ok_some h))
    have h := ok_f hc10_3 h
    have n0 := zne (n := 0) hc10_0 (by decide)
    have n1 := zne (n := 1) hc10_1 (by decide)
    have n2 := zne (n := 2) hc10_2 (by decide)
    have n3 := zne (n := 3) hc10_3 (by decide)
    refine ax_tableOut 86 d_PA_first_10 (by omega) rfl ?_
    refine ax_iconst (-1) d_PA_first_86 ic_m1 87 rfl ?_
    exact ax_iret rfl d_PA_first_87 (hR (-1) (ok_some h))
  · have h := ok_t hc h
    refine ax_iconst (-1) d_PA_first_7 ic_m1 8 rfl ?_
    exact ax_iret rfl d_PA_first_8 (hR (-1) (ok_some h))
set_option maxRecDepth 4000 in
theorem zc_PA_part (v1 : Int32) (v2 : Int32) (m : zM)  {Q : Option Value → zM → Prop} (h : ok (f_PA_part v1 v2 m) (fun p => Q (some (.int p)) m)) : zc gX s_PA_part [.ref 0, .int v1, .int v2] m Q := by
  refine zc_of rfl (Nat.le_of_ble_eq_true rfl) ?_
  show AX gX s_PA_part 0 [(0, .ref 0), (1, .int v1), (2, .int v2)] [] m Q
  obtain ⟨K, hK⟩ : ∃ K : Int32 → Prop, K = (fun p : Int32 => Q (some (.int p)) m) := ⟨_, rfl⟩
  have hR : ∀ p : Int32, K p → Q (some (.int p)) m := fun p hp => by rw [hK] at hp; exact hp
  replace h : ok (f_PA_part v1 v2 m) (fun p : Int32 => Q (some (.int p)) m) := h
  rw [← hK] at h
  unfold f_PA_part at h
  refine ax_aload_n 0 d_PA_part_0 rfl rfl 1 rfl ?_
  refine ax_getI fl_PA_84 x_0 rfl d_PA_part_1 4 rfl ?_
  refine ax_if_eq 22 7 d_PA_part_4 rfl rfl (fun hc => ?_) (fun hc => ?_)
  · have h := ok_t hc h
    refine ax_iconst (-1) d_PA_part_22 ic_m1 23 rfl ?_
    exact ax_iret rfl d_PA_part_23 (hR (-1) (ok_some h))
  · have h := ok_f hc h
    refine ax_iload_n 1 d_PA_part_7 rfl rfl 8 rfl ?_
    refine ax_if_lt 22 11 d_PA_part_8 rfl rfl (fun hc => ?_) (fun hc => ?_)
    · have h := ok_t hc h
      refine ax_iconst (-1) d_PA_part_22 ic_m1 23 rfl ?_
      exact ax_iret rfl d_PA_part_23 (hR (-1) (ok_some h))
    · have h := ok_f hc h
      refine ax_iload_n 1 d_PA_part_11 rfl rfl 12 rfl ?_
      refine ax_aload_n 0 d_PA_part_12 rfl rfl 13 rfl ?_
      refine ax_getR fl_PA_80 x_0 rfl (rx_0_12 _) d_PA_part_13 16 rfl ?_
      refine ax_getI fl_PA_170 x_116 rfl d_PA_part_16 19 rfl ?_
      refine ax_icmp_lt 24 22 d_PA_part_19 rfl rfl (fun hc => ?_) (fun hc => ?_)
      · have h := ok_t hc h
        refine ax_iload_n 2 d_PA_part_24 rfl rfl 25 rfl ?_
        by_cases hc25_0 : v2 = 0
        · have h := ok_t hc25_0 h
          refine ax_tableIn (off := 27) 52 d_PA_part_25 (by rw [hc25_0]; decide) (by rw [hc25_0]; decide) (by rw [hc25_0]; rfl) rfl ?_
          refine ax_aload_n 0 d_PA_part_52 rfl rfl 53 rfl ?_
          refine ax_getR fl_PA_80 x_0 rfl (rx_0_12 _) d_PA_part_53 56 rfl ?_
          refine ax_getR fl_PA_249 x_116 rfl (rx_116_5 _) d_PA_part_56 59 rfl ?_
          refine ax_iload_n 1 d_PA_part_59 rfl rfl 60 rfl ?_
          refine ax_iaload x_118 d_PA_part_60 61 rfl h (fun i1 h => ?_)
          exact ax_iret rfl d_PA_part_61 (hR (m.1 118 i1) (ok_some h))
        have h := ok_f hc25_0 h
        by_cases hc25_1 : v2 = 1
        · have h := ok_t hc25_1 h
          refine ax_tableIn (off := 37) 62 d_PA_part_25 (by rw [hc25_1]; decide) (by rw [hc25_1]; decide) (by rw [hc25_1]; rfl) rfl ?_
          refine ax_aload_n 0 d_PA_part_62 rfl rfl 63 rfl ?_
          refine ax_getR fl_PA_80 x_0 rfl (rx_0_12 _) d_PA_part_63 66 rfl ?_
          refine ax_getR fl_PA_252 x_116 rfl (rx_116_6 _) d_PA_part_66 69 rfl ?_
          refine ax_iload_n 1 d_PA_part_69 rfl rfl 70 rfl ?_
          refine ax_iaload x_119 d_PA_part_70 71 rfl h (fun i2 h => ?_)
          exact ax_iret rfl d_PA_part_71 (hR (m.1 119 i2) (ok_some h))
        have h := ok_f hc25_1 h
        by_cases hc25_2 : v2 = 2
        · have h := ok_t hc25_2 h
          refine ax_tableIn (off := 47) 72 d_PA_part_25 (by rw [hc25_2]; decide) (by rw [hc25_2]; decide) (by rw [hc25_2]; rfl) rfl ?_
          refine ax_aload_n 0 d_PA_part_72 rfl rfl 73 rfl ?_
          refine ax_getR fl_PA_80 x_0 rfl (rx_0_12 _) d_PA_part_73 76 rfl ?_
          refine ax_getR fl_PA_255 x_116 rfl (rx_116_7 _) d_PA_part_76 79 rfl ?_
          refine ax_iload_n 1 d_PA_part_79 rfl rfl 80 rfl ?_
          refine ax_baload x_120 d_PA_part_80 81 rfl h (fun i3 h => ?_)
          refine ax_callS mv_PA_207 ⟨Nat.le_of_ble_eq_true rfl, Nat.le_of_ble_eq_true rfl⟩ ⟨rfl, rfl⟩ [.int (m.1 120 i3)] [.int (m.1 120 i3)] rfl rfl (Nat.le_of_ble_eq_true rfl) d_PA_part_81 84 rfl (zc_PA_asNumber (m.1 120 i3) m ?_)
          exact ax_iret rfl d_PA_part_84 (hR (f_PA_asNumber (m.1 120 i3)) (ok_some h))
        have h := ok_f hc25_2 h
        have n0 := zne (n := 0) hc25_0 (by decide)
        have n1 := zne (n := 1) hc25_1 (by decide)
        have n2 := zne (n := 2) hc25_2 (by decide)
        refine ax_tableOut 85 d_PA_part_25 (by omega) rfl ?_
        refine ax_iconst (-1) d_PA_part_85 ic_m1 86 rfl ?_
        exact ax_iret rfl d_PA_part_86 (hR (-1) (ok_some h))
      · have h := ok_f hc h
        refine ax_iconst (-1) d_PA_part_22 ic_m1 23 rfl ?_
        exact ax_iret rfl d_PA_part_23 (hR (-1) (ok_some h))
set_option maxRecDepth 4000 in
theorem c_Study_worldsOfPart_J39 (v1 : Int32) (v3 : Int32) (t0 : Int32) (t1 : Int32) (m : zM)  {Q : Option Value → zM → Prop} {K : ((Int32) ⊕ (Int32 × Int32)) → Prop} (hR : ∀ p : Int32, K (.inl p) → Q (some (.int p)) m) (h0 : ∀ s : Int32 × Int32, K (.inr s) → AX gX s_Study_worldsOfPart 4 [(0, .ref 116), (1, .int v1), (2, .int s.1), (3, .int s.2)] [] m Q) (h : ok (f_Study_worldsOfPart_J39 v1 v3 t0 t1 m) K) : AX gX s_Study_worldsOfPart 39 [(0, .ref 116), (1, .int v1), (3, .int v3)] [.int t1, .int t0] m Q := by
  unfold f_Study_worldsOfPart_J39 at h
  refine ax_iadd d_Study_worldsOfPart_39 40 rfl ?_
  refine ax_istore_n (ls1 := [(2, .int (t0 + t1)), (0, .ref 116), (1, .int v1), (3, .int v3)]) d_Study_worldsOfPart_40 rfl (Nat.le_of_ble_eq_true rfl) rfl 41 rfl ?_
  refine ax_iinc (ls1 := [(3, .int (v3 + 1)), (2, .int (t0 + t1)), (0, .ref 116), (1, .int v1)]) 3 1 d_Study_worldsOfPart_41 rfl ic_1 (Nat.le_of_ble_eq_true rfl) rfl 44 rfl ?_
  refine ax_goto 4 d_Study_worldsOfPart_44 rfl ?_
  exact ax_sub [2, 3, 1, 0] rfl (h0 ((t0 + t1), (v3 + 1)) (ok_some h))
set_option maxRecDepth 4000 in
theorem c_Study_worldsOfPart_B4 (v1 : Int32) (v2 : Int32) (v3 : Int32) (m : zM)  {Q : Option Value → zM → Prop} {K : ((Int32) ⊕ (Int32 × Int32)) → Prop} (hR : ∀ p : Int32, K (.inl p) → Q (some (.int p)) m) (h0 : ∀ s : Int32 × Int32, K (.inr s) → AX gX s_Study_worldsOfPart 4 [(0, .ref 116), (1, .int v1), (2, .int s.1), (3, .int s.2)] [] m Q) (h : ok (f_Study_worldsOfPart_B4 v1 v2 v3 m) K) : AX gX s_Study_worldsOfPart 4 [(0, .ref 116), (1, .int v1), (2, .int v2), (3, .int v3)] [] m Q := by
  unfold f_Study_worldsOfPart_B4 at h
  refine ax_iload_n 3 d_Study_worldsOfPart_4 rfl rfl 5 rfl ?_
  refine ax_aload_n 0 d_Study_worldsOfPart_5 rfl rfl 6 rfl ?_
  refine ax_getR fl_Study_53 x_116 rfl (rx_116_0 _) d_Study_worldsOfPart_6 9 rfl ?_
  refine ax_getI fl_Study_103 x_24 rfl d_Study_worldsOfPart_9 12 rfl ?_
  refine ax_icmp_ge 47 15 d_Study_worldsOfPart_12 rfl rfl (fun hc => ?_) (fun hc => ?_)
  · have h := ok_t hc h
    refine ax_iload_n 2 d_Study_worldsOfPart_47 rfl rfl 48 rfl ?_
    exact ax_iret rfl d_Study_worldsOfPart_48 (hR v2 (ok_some h))
  · have h := ok_f hc h
    refine ax_iload_n 2 d_Study_worldsOfPart_15 rfl rfl 16 rfl ?_
    refine ax_aload_n 0 d_Study_worldsOfPart_16 rfl rfl 17 rfl ?_
    refine ax_getR fl_Study_15 x_116 rfl (rx_116_4 _) d_Study_worldsOfPart_17 20 rfl ?_
    refine ax_iload_n 3 d_Study_worldsOfPart_20 rfl rfl 21 rfl ?_
    refine ax_iaload x_117 d_Study_worldsOfPart_21 22 rfl h (fun i1 h => ?_)
    refine ax_iload_n 1 d_Study_worldsOfPart_22 rfl rfl 23 rfl ?_
    refine ax_icmp_ne 38 26 d_Study_worldsOfPart_23 rfl rfl (fun hc => ?_) (fun hc => ?_)
    · have h := ok_f hc h
      refine ax_iconst 0 d_Study_worldsOfPart_38 ic_0 39 rfl ?_
      exact ax_sub [0, 1, 3] rfl (c_Study_worldsOfPart_J39 v1 v3 v2 0 m (fun p hp => hR p hp) (fun s hs => h0 s hs) h)
    · have h := ok_t hc h
      refine ax_aload_n 0 d_Study_worldsOfPart_26 rfl rfl 27 rfl ?_
      refine ax_getR fl_Study_53 x_116 rfl (rx_116_0 _) d_Study_worldsOfPart_27 30 rfl ?_
      refine ax_getR fl_Study_157 x_24 rfl (rx_24_7 _) d_Study_worldsOfPart_30 33 rfl ?_
      refine ax_iload_n 3 d_Study_worldsOfPart_33 rfl rfl 34 rfl ?_
      refine ax_iaload x_32 d_Study_worldsOfPart_34 35 rfl h (fun i2 h => ?_)
      refine ax_goto 39 d_Study_worldsOfPart_35 rfl ?_
      exact ax_sub [0, 1, 3] rfl (c_Study_worldsOfPart_J39 v1 v3 v2 (m.1 32 i2) m (fun p hp => hR p hp) (fun s hs => h0 s hs) h)
theorem c_Study_worldsOfPart_L4 (v1 : Int32) (v2 : Int32) (v3 : Int32) (m : zM)  {Q : Option Value → zM → Prop} {K : Int32 → Prop} (hR : ∀ p : Int32, K (p) → Q (some (.int p)) m)  (h : ok (f_Study_worldsOfPart_L4 v1 v2 v3 m) K) : AX gX s_Study_worldsOfPart 4 [(0, .ref 116), (1, .int v1), (2, .int v2), (3, .int v3)] [] m Q :=
  ok_lp (K := K) (G := fun s : Int32 × Int32 => AX gX s_Study_worldsOfPart 4 [(0, .ref 116), (1, .int v1), (2, .int s.1), (3, .int s.2)] [] m Q) (fun s h => c_Study_worldsOfPart_B4 v1 s.1 s.2 m  (fun p hp => hR p hp) (fun s hs => hs) h) FU (v2, v3) h
set_option maxRecDepth 4000 in
theorem zc_Study_worldsOfPart (v1 : Int32) (m : zM)  {Q : Option Value → zM → Prop} (h : ok (f_Study_worldsOfPart v1 m) (fun p => Q (some (.int p)) m)) : zc gX s_Study_worldsOfPart [.ref 116, .int v1] m Q := by
  refine zc_of rfl (Nat.le_of_ble_eq_true rfl) ?_
  show AX gX s_Study_worldsOfPart 0 [(0, .ref 116), (1, .int v1)] [] m Q
  obtain ⟨K, hK⟩ : ∃ K : Int32 → Prop, K = (fun p : Int32 => Q (some (.int p)) m) := ⟨_, rfl⟩
  have hR : ∀ p : Int32, K p → Q (some (.int p)) m := fun p hp => by rw [hK] at hp; exact hp
  replace h : ok (f_Study_worldsOfPart v1 m) (fun p : Int32 => Q (some (.int p)) m) := h
  rw [← hK] at h
  unfold f_Study_worldsOfPart at h
  refine ax_iconst 0 d_Study_worldsOfPart_0 ic_0 1 rfl ?_
  refine ax_istore_n (ls1 := [(2, .int 0), (0, .ref 116), (1, .int v1)]) d_Study_worldsOfPart_1 rfl (Nat.le_of_ble_eq_true rfl) rfl 2 rfl ?_
  refine ax_iconst 0 d_Study_worldsOfPart_2 ic_0 3 rfl ?_
  refine ax_istore_n (ls1 := [(3, .int 0), (2, .int 0), (0, .ref 116), (1, .int v1)]) d_Study_worldsOfPart_3 rfl (Nat.le_of_ble_eq_true rfl) rfl 4 rfl ?_
  exact ax_sub [2, 3, 1, 0] rfl (c_Study_worldsOfPart_L4 v1 0 0 m (fun p hp => hR p hp) h)
set_option maxRecDepth 4000 in
theorem zc_PA_returns  (m : zM)  {Q : Option Value → zM → Prop} (h : ok (f_PA_returns m) (fun p => Q (some (.int p)) m)) : zc gX s_PA_returns [.ref 0] m Q := by
  refine zc_of rfl (Nat.le_of_ble_eq_true rfl) ?_
  show AX gX s_PA_returns 0 [(0, .ref 0)] [] m Q
  obtain ⟨K, hK⟩ : ∃ K : Int32 → Prop, K = (fun p : Int32 => Q (some (.int p)) m) := ⟨_, rfl⟩
  have hR : ∀ p : Int32, K p → Q (some (.int p)) m := fun p hp => by rw [hK] at hp; exact hp
  replace h : ok (f_PA_returns m) (fun p : Int32 => Q (some (.int p)) m) := h
  rw [← hK] at h
  unfold f_PA_returns at h
  refine ax_aload_n 0 d_PA_returns_0 rfl rfl 1 rfl ?_
  refine ax_getI fl_PA_84 x_0 rfl d_PA_returns_1 4 rfl ?_
  refine ax_if_eq 18 7 d_PA_returns_4 rfl rfl (fun hc => ?_) (fun hc => ?_)
  · have h := ok_t hc h
    refine ax_iconst (-1) d_PA_returns_18 ic_m1 19 rfl ?_
    exact ax_iret rfl d_PA_returns_19 (hR (-1) (ok_some h))
  · have h := ok_f hc h
    refine ax_aload_n 0 d_PA_returns_7 rfl rfl 8 rfl ?_
    refine ax_getR fl_PA_80 x_0 rfl (rx_0_12 _) d_PA_returns_8 11 rfl ?_
    refine ax_iconst 0 d_PA_returns_11 ic_0 12 rfl ?_
    refine ax_callV mv_PA_258 ⟨Nat.le_of_ble_eq_true rfl, Nat.le_of_ble_eq_true rfl⟩ ⟨rfl, rfl⟩ [.int 0] [.int 0, .ref 116] rfl rfl (rc_x_116 _) (Nat.le_of_ble_eq_true rfl) d_PA_returns_12 15 rfl (zc_Study_worldsOfPart 0 m (ok_b h (fun r1 h => ?_)))
    refine ax_goto 19 d_PA_returns_15 rfl ?_
    exact ax_iret rfl d_PA_returns_19 (hR r1 (ok_some h))
set_option maxRecDepth 4000 in
theorem c_Study_agentsWith_J39 (v1 : Nat) (v3 : Int32) (t0 : Int32) (t1 : Int32) (m : zM) (hv1 : gX.1[v1]? = some (.inr (1, zlen gX v1))) {Q : Option Value → zM → Prop} {K : ((Int32) ⊕ (Int32 × Int32)) → Prop} (hR : ∀ p : Int32, K (.inl p) → Q (some (.int p)) m) (h0 : ∀ s : Int32 × Int32, K (.inr s) → AX gX s_Study_agentsWith 4 [(0, .ref 116), (1, .ref v1), (2, .int s.1), (3, .int s.2)] [] m Q) (h : ok (f_Study_agentsWith_J39 v1 v3 t0 t1 m) K) : AX gX s_Study_agentsWith 39 [(0, .ref 116), (1, .ref v1), (3, .int v3)] [.int t1, .int t0] m Q := by
  unfold f_Study_agentsWith_J39 at h
  refine ax_iadd d_Study_agentsWith_39 40 rfl ?_
  refine ax_istore_n (ls1 := [(2, .int (t0 + t1)), (0, .ref 116), (1, .ref v1), (3, .int v3)]) d_Study_agentsWith_40 rfl (Nat.le_of_ble_eq_true rfl) rfl 41 rfl ?_
  refine ax_iinc (ls1 := [(3, .int (v3 + 1)), (2, .int (t0 + t1)), (0, .ref 116), (1, .ref v1)]) 3 1 d_Study_agentsWith_41 rfl ic_1 (Nat.le_of_ble_eq_true rfl) rfl 44 rfl ?_
  refine ax_goto 4 d_Study_agentsWith_44 rfl ?_
  exact ax_sub [2, 3, 1, 0] rfl (h0 ((t0 + t1), (v3 + 1)) (ok_some h))
set_option maxRecDepth 4000 in
theorem c_Study_agentsWith_B4 (v1 : Nat) (v2 : Int32) (v3 : Int32) (m : zM) (hv1 : gX.1[v1]? = some (.inr (1, zlen gX v1))) {Q : Option Value → zM → Prop} {K : ((Int32) ⊕ (Int32 × Int32)) → Prop} (hR : ∀ p : Int32, K (.inl p) → Q (some (.int p)) m) (h0 : ∀ s : Int32 × Int32, K (.inr s) → AX gX s_Study_agentsWith 4 [(0, .ref 116), (1, .ref v1), (2, .int s.1), (3, .int s.2)] [] m Q) (h : ok (f_Study_agentsWith_B4 v1 v2 v3 m) K) : AX gX s_Study_agentsWith 4 [(0, .ref 116), (1, .ref v1), (2, .int v2), (3, .int v3)] [] m Q := by
  unfold f_Study_agentsWith_B4 at h
  refine ax_iload_n 3 d_Study_agentsWith_4 rfl rfl 5 rfl ?_
  refine ax_aload_n 0 d_Study_agentsWith_5 rfl rfl 6 rfl ?_
  refine ax_getR fl_Study_53 x_116 rfl (rx_116_0 _) d_Study_agentsWith_6 9 rfl ?_
  refine ax_getI fl_Study_103 x_24 rfl d_Study_agentsWith_9 12 rfl ?_
  refine ax_iconst 4 d_Study_agentsWith_12 ic_4 13 rfl ?_
  refine ax_imul d_Study_agentsWith_13 14 rfl ?_
  refine ax_icmp_ge 47 17 d_Study_agentsWith_14 rfl rfl (fun hc => ?_) (fun hc => ?_)
  · have h := ok_t hc h
    refine ax_iload_n 2 d_Study_agentsWith_47 rfl rfl 48 rfl ?_
    exact ax_iret rfl d_Study_agentsWith_48 (hR v2 (ok_some h))
  · have h := ok_f hc h
    refine ax_iload_n 2 d_Study_agentsWith_17 rfl rfl 18 rfl ?_
    refine ax_aload_n 1 d_Study_agentsWith_18 rfl rfl 19 rfl ?_
    refine ax_iload_n 3 d_Study_agentsWith_19 rfl rfl 20 rfl ?_
    refine ax_baload hv1 d_Study_agentsWith_20 21 rfl h (fun i1 h => ?_)
    refine ax_if_eq 38 24 d_Study_agentsWith_21 rfl rfl (fun hc => ?_) (fun hc => ?_)
    · have h := ok_t hc h
      refine ax_iconst 0 d_Study_agentsWith_38 ic_0 39 rfl ?_
      exact ax_sub [0, 1, 3] rfl (c_Study_agentsWith_J39 v1 v3 v2 0 m hv1 (fun p hp => hR p hp) (fun s hs => h0 s hs) h)
    · have h := ok_f hc h
      refine ax_aload_n 0 d_Study_agentsWith_24 rfl rfl 25 rfl ?_
      refine ax_getR fl_Study_53 x_116 rfl (rx_116_0 _) d_Study_agentsWith_25 28 rfl ?_
      refine ax_getR fl_Study_157 x_24 rfl (rx_24_7 _) d_Study_agentsWith_28 31 rfl ?_
      refine ax_iload_n 3 d_Study_agentsWith_31 rfl rfl 32 rfl ?_
      refine ax_iconst 4 d_Study_agentsWith_32 ic_4 33 rfl ?_
      refine ax_idiv d_Study_agentsWith_33 (by decide) 34 rfl ?_
      refine ax_iaload x_32 d_Study_agentsWith_34 35 rfl h (fun i2 h => ?_)
      refine ax_goto 39 d_Study_agentsWith_35 rfl ?_
      exact ax_sub [0, 1, 3] rfl (c_Study_agentsWith_J39 v1 v3 v2 (m.1 32 i2) m hv1 (fun p hp => hR p hp) (fun s hs => h0 s hs) h)
theorem c_Study_agentsWith_L4 (v1 : Nat) (v2 : Int32) (v3 : Int32) (m : zM) (hv1 : gX.1[v1]? = some (.inr (1, zlen gX v1))) {Q : Option Value → zM → Prop} {K : Int32 → Prop} (hR : ∀ p : Int32, K (p) → Q (some (.int p)) m)  (h : ok (f_Study_agentsWith_L4 v1 v2 v3 m) K) : AX gX s_Study_agentsWith 4 [(0, .ref 116), (1, .ref v1), (2, .int v2), (3, .int v3)] [] m Q :=
  ok_lp (K := K) (G := fun s : Int32 × Int32 => AX gX s_Study_agentsWith 4 [(0, .ref 116), (1, .ref v1), (2, .int s.1), (3, .int s.2)] [] m Q) (fun s h => c_Study_agentsWith_B4 v1 s.1 s.2 m hv1 (fun p hp => hR p hp) (fun s hs => hs) h) FU (v2, v3) h
set_option maxRecDepth 4000 in
theorem zc_Study_agentsWith (v1 : Nat) (m : zM) (hv1 : gX.1[v1]? = some (.inr (1, zlen gX v1))) {Q : Option Value → zM → Prop} (h : ok (f_Study_agentsWith v1 m) (fun p => Q (some (.int p)) m)) : zc gX s_Study_agentsWith [.ref 116, .ref v1] m Q := by
  refine zc_of rfl (Nat.le_of_ble_eq_true rfl) ?_
  show AX gX s_Study_agentsWith 0 [(0, .ref 116), (1, .ref v1)] [] m Q
  obtain ⟨K, hK⟩ : ∃ K : Int32 → Prop, K = (fun p : Int32 => Q (some (.int p)) m) := ⟨_, rfl⟩
  have hR : ∀ p : Int32, K p → Q (some (.int p)) m := fun p hp => by rw [hK] at hp; exact hp
  replace h : ok (f_Study_agentsWith v1 m) (fun p : Int32 => Q (some (.int p)) m) := h
  rw [← hK] at h
  unfold f_Study_agentsWith at h
  refine ax_iconst 0 d_Study_agentsWith_0 ic_0 1 rfl ?_
  refine ax_istore_n (ls1 := [(2, .int 0), (0, .ref 116), (1, .ref v1)]) d_Study_agentsWith_1 rfl (Nat.le_of_ble_eq_true rfl) rfl 2 rfl ?_
  refine ax_iconst 0 d_Study_agentsWith_2 ic_0 3 rfl ?_
  refine ax_istore_n (ls1 := [(3, .int 0), (2, .int 0), (0, .ref 116), (1, .ref v1)]) d_Study_agentsWith_3 rfl (Nat.le_of_ble_eq_true rfl) rfl 4 rfl ?_
  exact ax_sub [2, 3, 1, 0] rfl (c_Study_agentsWith_L4 v1 0 0 m hv1 (fun p hp => hR p hp) h)
set_option maxRecDepth 4000 in
theorem zc_PA_starving (v1 : Int32) (m : zM)  {Q : Option Value → zM → Prop} (h : ok (f_PA_starving v1 m) (fun p => Q (some (.int p)) m)) : zc gX s_PA_starving [.ref 0, .int v1] m Q := by
  refine zc_of rfl (Nat.le_of_ble_eq_true rfl) ?_
  show AX gX s_PA_starving 0 [(0, .ref 0), (1, .int v1)] [] m Q
  obtain ⟨K, hK⟩ : ∃ K : Int32 → Prop, K = (fun p : Int32 => Q (some (.int p)) m) := ⟨_, rfl⟩
  have hR : ∀ p : Int32, K p → Q (some (.int p)) m := fun p hp => by rw [hK] at hp; exact hp
  replace h : ok (f_PA_starving v1 m) (fun p : Int32 => Q (some (.int p)) m) := h
  rw [← hK] at h
  unfold f_PA_starving at h
  refine ax_aload_n 0 d_PA_starving_0 rfl rfl 1 rfl ?_
  refine ax_getI fl_PA_84 x_0 rfl d_PA_starving_1 4 rfl ?_
  refine ax_if_ne 9 7 d_PA_starving_4 rfl rfl (fun hc => ?_) (fun hc => ?_)
  · have h := ok_f hc h
    refine ax_iload_n 1 d_PA_starving_9 rfl rfl 10 rfl ?_
    refine ax_if_ne 28 13 d_PA_starving_10 rfl rfl (fun hc => ?_) (fun hc => ?_)
    · have h := ok_f hc h
      refine ax_iload_n 1 d_PA_starving_28 rfl rfl 29 rfl ?_
      refine ax_iconst 1 d_PA_starving_29 ic_1 30 rfl ?_
      refine ax_icmp_ne 50 33 d_PA_starving_30 rfl rfl (fun hc => ?_) (fun hc => ?_)
      · have h := ok_f hc h
        refine ax_iconst (-1) d_PA_starving_50 ic_m1 51 rfl ?_
        exact ax_iret rfl d_PA_starving_51 (hR (-1) (ok_some h))
      · have h := ok_t hc h
        refine ax_aload_n 0 d_PA_starving_33 rfl rfl 34 rfl ?_
        refine ax_getR fl_PA_80 x_0 rfl (rx_0_12 _) d_PA_starving_34 37 rfl ?_
        refine ax_aload_n 0 d_PA_starving_37 rfl rfl 38 rfl ?_
        refine ax_getR fl_PA_80 x_0 rfl (rx_0_12 _) d_PA_starving_38 41 rfl ?_
        refine ax_getR fl_PA_223 x_116 rfl (rx_116_10 _) d_PA_starving_41 44 rfl ?_
        refine ax_callV mv_PA_261 ⟨Nat.le_of_ble_eq_true rfl, Nat.le_of_ble_eq_true rfl⟩ ⟨rfl, rfl⟩ [.ref 123] [.ref 123, .ref 116] rfl rfl (rc_x_116 _) (Nat.le_of_ble_eq_true rfl) d_PA_starving_44 47 rfl (zc_Study_agentsWith 123 m x_123z (ok_b h (fun r1 h => ?_)))
        refine ax_goto 51 d_PA_starving_47 rfl ?_
        exact ax_iret rfl d_PA_starving_51 (hR r1 (ok_some h))
    · have h := ok_t hc h
      refine ax_aload_n 0 d_PA_starving_13 rfl rfl 14 rfl ?_
      refine ax_getR fl_PA_80 x_0 rfl (rx_0_12 _) d_PA_starving_14 17 rfl ?_
      refine ax_aload_n 0 d_PA_starving_17 rfl rfl 18 rfl ?_
      refine ax_getR fl_PA_80 x_0 rfl (rx_0_12 _) d_PA_starving_18 21 rfl ?_
      refine ax_getR fl_PA_220 x_116 rfl (rx_116_9 _) d_PA_starving_21 24 rfl ?_
      refine ax_callV mv_PA_261 ⟨Nat.le_of_ble_eq_true rfl, Nat.le_of_ble_eq_true rfl⟩ ⟨rfl, rfl⟩ [.ref 122] [.ref 122, .ref 116] rfl rfl (rc_x_116 _) (Nat.le_of_ble_eq_true rfl) d_PA_starving_24 27 rfl (zc_Study_agentsWith 122 m x_122z (ok_b h (fun r2 h => ?_)))
      exact ax_iret rfl d_PA_starving_27 (hR r2 (ok_some h))
  · have h := ok_t hc h
    refine ax_iconst (-1) d_PA_starving_7 ic_m1 8 rfl ?_
    exact ax_iret rfl d_PA_starving_8 (hR (-1) (ok_some h))
set_option maxRecDepth 4000 in
theorem zc_PA_uses (v1 : Int32) (m : zM)  {Q : Option Value → zM → Prop} (h : ok (f_PA_uses v1 m) (fun p => Q (some (.int p)) m)) : zc gX s_PA_uses [.ref 0, .int v1] m Q := by
  refine zc_of rfl (Nat.le_of_ble_eq_true rfl) ?_
  show AX gX s_PA_uses 0 [(0, .ref 0), (1, .int v1)] [] m Q
  obtain ⟨K, hK⟩ : ∃ K : Int32 → Prop, K = (fun p : Int32 => Q (some (.int p)) m) := ⟨_, rfl⟩
  have hR : ∀ p : Int32, K p → Q (some (.int p)) m := fun p hp => by rw [hK] at hp; exact hp
  replace h : ok (f_PA_uses v1 m) (fun p : Int32 => Q (some (.int p)) m) := h
  rw [← hK] at h
  unfold f_PA_uses at h
  refine ax_aload_n 0 d_PA_uses_0 rfl rfl 1 rfl ?_
  refine ax_iload_n 1 d_PA_uses_1 rfl rfl 2 rfl ?_
  refine ax_callV mv_PA_181 ⟨Nat.le_of_ble_eq_true rfl, Nat.le_of_ble_eq_true rfl⟩ ⟨rfl, rfl⟩ [.int v1] [.int v1, .ref 0] rfl rfl (rc_x_0 _) (Nat.le_of_ble_eq_true rfl) d_PA_uses_2 5 rfl (zc_PA_isRule v1 m (ok_b h (fun r1 h => ?_)))
  refine ax_ifb_eq 19 8 d_PA_uses_5 rfl rfl (fun hc => ?_) (fun hc => ?_)
  · have h := ok_f (bf hc) h
    refine ax_iconst (-1) d_PA_uses_19 ic_m1 20 rfl ?_
    exact ax_iret rfl d_PA_uses_20 (hR (-1) (ok_some h))
  · have h := ok_t hc h
    refine ax_aload_n 0 d_PA_uses_8 rfl rfl 9 rfl ?_
    refine ax_getR fl_PA_32 x_0 rfl (rx_0_4 _) d_PA_uses_9 12 rfl ?_
    refine ax_iload_n 1 d_PA_uses_12 rfl rfl 13 rfl ?_
    refine ax_callV mv_PA_161 ⟨Nat.le_of_ble_eq_true rfl, Nat.le_of_ble_eq_true rfl⟩ ⟨rfl, rfl⟩ [.int v1] [.int v1, .ref 24] rfl rfl (rc_x_24 _) (Nat.le_of_ble_eq_true rfl) d_PA_uses_13 16 rfl (zc_Atlas_allMoves v1 m (ok_b h (fun r2 h => ?_)))
    refine ax_goto 20 d_PA_uses_16 rfl ?_
    exact ax_iret rfl d_PA_uses_20 (hR r2 (ok_some h))
set_option maxRecDepth 4000 in
theorem c_Study_reach_J133 (v1 : Int32) (v2 : Int32) (v3 : Int32) (m : zM)  {Q : Option Value → zM → Prop} {K : ((Int32 × zM) ⊕ (Int32 × Int32 × zM)) → Prop} (hR : ∀ p : Int32 × zM, K (.inl p) → Q (some (.int p.1)) p.2) (h0 : ∀ s : Int32 × Int32 × zM, K (.inr s) → AX gX s_Study_reach 25 [(0, .ref 116), (1, .int v1), (2, .int s.1), (3, .int s.2.1)] [] s.2.2 Q) (h : ok (f_Study_reach_J133 v1 v2 v3 m) K) : AX gX s_Study_reach 133 [(0, .ref 116), (1, .int v1), (2, .int v2), (3, .int v3)] [] m Q := by
  unfold f_Study_reach_J133 at h
  refine ax_iinc (ls1 := [(3, .int (v3 + 1)), (0, .ref 116), (1, .int v1), (2, .int v2)]) 3 1 d_Study_reach_133 rfl ic_1 (Nat.le_of_ble_eq_true rfl) rfl 136 rfl ?_
  refine ax_goto 25 d_Study_reach_136 rfl ?_
  exact ax_sub [1, 2, 3, 0] rfl (h0 (v2, (v3 + 1), m) (ok_some h))
set_option maxRecDepth 4000 in
theorem c_Study_reach_J127 (v1 : Int32) (v2 : Int32) (v3 : Int32) (v4 : Int32) (v5 : Int32) (m : zM)  {Q : Option Value → zM → Prop} {K : (((Int32 × zM) ⊕ (Int32 × Int32 × zM)) ⊕ (Int32 × Int32 × zM)) → Prop} (hR : ∀ p : Int32 × zM, K (.inl (.inl p)) → Q (some (.int p.1)) p.2) (h0 : ∀ s : Int32 × Int32 × zM, K (.inl (.inr s)) → AX gX s_Study_reach 25 [(0, .ref 116), (1, .int v1), (2, .int s.1), (3, .int s.2.1)] [] s.2.2 Q) (h1 : ∀ s : Int32 × Int32 × zM, K (.inr s) → AX gX s_Study_reach 57 [(0, .ref 116), (1, .int v1), (2, .int s.1), (3, .int v3), (4, .int v4), (5, .int s.2.1)] [] s.2.2 Q) (h : ok (f_Study_reach_J127 v1 v2 v3 v4 v5 m) K) : AX gX s_Study_reach 127 [(0, .ref 116), (1, .int v1), (2, .int v2), (3, .int v3), (4, .int v4), (5, .int v5)] [] m Q := by
  unfold f_Study_reach_J127 at h
  refine ax_iinc (ls1 := [(5, .int (v5 + 1)), (0, .ref 116), (1, .int v1), (2, .int v2), (3, .int v3), (4, .int v4)]) 5 1 d_Study_reach_127 rfl ic_1 (Nat.le_of_ble_eq_true rfl) rfl 130 rfl ?_
  refine ax_goto 57 d_Study_reach_130 rfl ?_
  exact ax_sub [1, 2, 3, 4, 5, 0] rfl (h1 (v2, (v5 + 1), m) (ok_some h))
set_option maxRecDepth 4000 in
theorem c_Study_reach_B57 (v1 : Int32) (v2 : Int32) (v3 : Int32) (v4 : Int32) (v5 : Int32) (m : zM)  {Q : Option Value → zM → Prop} {K : (((Int32 × zM) ⊕ (Int32 × Int32 × zM)) ⊕ (Int32 × Int32 × zM)) → Prop} (hR : ∀ p : Int32 × zM, K (.inl (.inl p)) → Q (some (.int p.1)) p.2) (h0 : ∀ s : Int32 × Int32 × zM, K (.inl (.inr s)) → AX gX s_Study_reach 25 [(0, .ref 116), (1, .int v1), (2, .int s.1), (3, .int s.2.1)] [] s.2.2 Q) (h1 : ∀ s : Int32 × Int32 × zM, K (.inr s) → AX gX s_Study_reach 57 [(0, .ref 116), (1, .int v1), (2, .int s.1), (3, .int v3), (4, .int v4), (5, .int s.2.1)] [] s.2.2 Q) (h : ok (f_Study_reach_B57 v1 v2 v3 v4 v5 m) K) : AX gX s_Study_reach 57 [(0, .ref 116), (1, .int v1), (2, .int v2), (3, .int v3), (4, .int v4), (5, .int v5)] [] m Q := by
  unfold f_Study_reach_B57 at h
  refine ax_iload 5 d_Study_reach_57 rfl 59 rfl ?_
  refine ax_aload_n 0 d_Study_reach_59 rfl rfl 60 rfl ?_
  refine ax_getR fl_Study_53 x_116 rfl (rx_116_0 _) d_Study_reach_60 63 rfl ?_
  refine ax_getR fl_Study_111 x_24 rfl (rx_24_11 _) d_Study_reach_63 66 rfl ?_
  refine ax_iload 4 d_Study_reach_66 rfl 68 rfl ?_
  refine ax_iconst 1 d_Study_reach_68 ic_1 69 rfl ?_
  refine ax_iadd d_Study_reach_69 70 rfl ?_
  refine ax_iaload x_36 d_Study_reach_70 71 rfl h (fun i8 h => ?_)
  refine ax_icmp_ge 133 74 d_Study_reach_71 rfl rfl (fun hc => ?_) (fun hc => ?_)
  · have h := ok_t hc h
    exact ax_sub [0, 1, 2, 3] rfl (c_Study_reach_J133 v1 v2 v3 m (fun p hp => hR p hp) (fun s hs => h0 s hs) (ok_z h))
  · have h := ok_f hc h
    refine ax_aload_n 0 d_Study_reach_74 rfl rfl 75 rfl ?_
    refine ax_getR fl_Study_53 x_116 rfl (rx_116_0 _) d_Study_reach_75 78 rfl ?_
    refine ax_iload 5 d_Study_reach_78 rfl 80 rfl ?_
    refine ax_callV mv_Study_114 ⟨Nat.le_of_ble_eq_true rfl, Nat.le_of_ble_eq_true rfl⟩ ⟨rfl, rfl⟩ [.int v5] [.int v5, .ref 24] rfl rfl (rc_x_24 _) (Nat.le_of_ble_eq_true rfl) d_Study_reach_80 83 rfl (zc_Atlas_target v5 m (ok_b h (fun r9 h => ?_)))
    refine ax_istore (ls1 := [(6, .int r9), (0, .ref 116), (1, .int v1), (2, .int v2), (3, .int v3), (4, .int v4), (5, .int v5)]) d_Study_reach_83 (Nat.le_of_ble_eq_true rfl) rfl 85 rfl ?_
    refine ax_aload_n 1 d_Study_reach_85 rfl rfl 86 rfl ?_
    refine ax_getR fl_Study_53 x_116 rfl (rx_116_0 _) d_Study_reach_86 89 rfl ?_
    refine ax_iload 6 d_Study_reach_89 rfl 91 rfl ?_
    refine ax_callV mv_Study_175 ⟨Nat.le_of_ble_eq_true rfl, Nat.le_of_ble_eq_true rfl⟩ ⟨rfl, rfl⟩ [.int v5] [.int v5, .ref 24] rfl rfl (rc_x_24 _) (Nat.le_of_ble_eq_true rfl) d_Study_reach_91 94 rfl (zc_Atlas_by v5 m (ok_b h (fun r10 h => ?_)))
    refine ax_iload_n 2 d_Study_reach_94 rfl rfl 95 rfl ?_
    refine ax_icmp_eq 127 98 d_Study_reach_95 rfl rfl (fun hc => ?_) (fun hc => ?_)
    · have h := ok_t hc h
      exact ax_sub [1, 2, 3, 4, 5, 6] rfl (c_Study_reach_J127 v1 v2 v3 v4 v5 m (fun p hp => hR p hp) (fun s hs => h0 s hs) (fun s hs => h1 s hs) h)
    · have h := ok_f hc h
      refine ax_aload_n 1 d_Study_reach_98 rfl rfl 99 rfl ?_
      refine ax_getR fl_Study_41 x_116 rfl (rx_116_12 _) d_Study_reach_99 102 rfl ?_
      refine ax_iload 0 d_Study_reach_102 rfl 104 rfl ?_
      refine ax_baload x_125 d_Study_reach_104 105 rfl h (fun i11 h => ?_)
      refine ax_if_ne 127 108 d_Study_reach_105 rfl rfl (fun hc => ?_) (fun hc => ?_)
      · have h := ok_f hc h
        exact ax_sub [1, 2, 3, 4, 5, 6] rfl (c_Study_reach_J127 v1 v2 v3 v4 v5 m (fun p hp => hR p hp) (fun s hs => h0 s hs) (fun s hs => h1 s hs) h)
      · have h := ok_t hc h
        refine ax_aload_n 1 d_Study_reach_108 rfl rfl 109 rfl ?_
        refine ax_getR fl_Study_41 x_116 rfl (rx_116_12 _) d_Study_reach_109 112 rfl ?_
        refine ax_iload 0 d_Study_reach_112 rfl 114 rfl ?_
        refine ax_iconst 1 d_Study_reach_114 ic_1 115 rfl ?_
        refine ax_zastore (y := true) x_125 d_Study_reach_115 116 rfl h (fun i12 m13 h => ?_)
        refine ax_aload_n 1 d_Study_reach_116 rfl rfl 117 rfl ?_
        refine ax_getR fl_Study_44 x_116 rfl (rx_116_13 _) d_Study_reach_117 120 rfl ?_
        refine ax_iload_n 3 d_Study_reach_120 rfl rfl 121 rfl ?_
        refine ax_iload 0 d_Study_reach_121 rfl 123 rfl ?_
        refine ax_iastore x_126 d_Study_reach_123 124 rfl h (fun i14 m15 h => ?_)
        refine ax_iinc (ls1 := [(2, .int (v2 + 1)), (6, .int r9), (0, .ref 116), (1, .int v1), (3, .int v3), (4, .int v4), (5, .int v5)]) 3 1 d_Study_reach_124 rfl ic_1 (Nat.le_of_ble_eq_true rfl) rfl 127 rfl ?_
        exact ax_sub [2, 3, 0, 4, 5, 6] rfl (c_Study_reach_J127 v1 (v2 + 1) v3 v4 v5 m15 (fun p hp => hR p hp) (fun s hs => h0 s hs) (fun s hs => h1 s hs) h)
theorem c_Study_reach_L57 (v1 : Int32) (v2 : Int32) (v3 : Int32) (v4 : Int32) (v5 : Int32) (m : zM)  {Q : Option Value → zM → Prop} {K : ((Int32 × zM) ⊕ (Int32 × Int32 × zM)) → Prop} (hR : ∀ p : Int32 × zM, K (.inl p) → Q (some (.int p.1)) p.2) (h0 : ∀ s : Int32 × Int32 × zM, K (.inr s) → AX gX s_Study_reach 25 [(0, .ref 116), (1, .int v1), (2, .int s.1), (3, .int s.2.1)] [] s.2.2 Q) (h : ok (f_Study_reach_L57 v1 v2 v3 v4 v5 m) K) : AX gX s_Study_reach 57 [(0, .ref 116), (1, .int v1), (2, .int v2), (3, .int v3), (4, .int v4), (5, .int v5)] [] m Q :=
  ok_lp (K := K) (G := fun s : Int32 × Int32 × zM => AX gX s_Study_reach 57 [(0, .ref 116), (1, .int v1), (2, .int s.1), (3, .int v3), (4, .int v4), (5, .int s.2.1)] [] s.2.2 Q) (fun s h => c_Study_reach_B57 v1 s.1 v3 v4 s.2.1 s.2.2  (fun p hp => hR p hp) (fun s hs => h0 s hs) (fun s hs => hs) h) FU (v2, v5, m) h
set_option maxRecDepth 4000 in
theorem c_Study_reach_B25 (v1 : Int32) (v2 : Int32) (v3 : Int32) (m : zM)  {Q : Option Value → zM → Prop} {K : ((Int32 × zM) ⊕ (Int32 × Int32 × zM)) → Prop} (hR : ∀ p : Int32 × zM, K (.inl p) → Q (some (.int p.1)) p.2) (h0 : ∀ s : Int32 × Int32 × zM, K (.inr s) → AX gX s_Study_reach 25 [(0, .ref 116), (1, .int v1), (2, .int s.1), (3, .int s.2.1)] [] s.2.2 Q) (h : ok (f_Study_reach_B25 v1 v2 v3 m) K) : AX gX s_Study_reach 25 [(0, .ref 116), (1, .int v1), (2, .int v2), (3, .int v3)] [] m Q := by
  unfold f_Study_reach_B25 at h
  refine ax_iload_n 3 d_Study_reach_25 rfl rfl 26 rfl ?_
  refine ax_iload_n 2 d_Study_reach_26 rfl rfl 27 rfl ?_
  refine ax_icmp_ge 139 30 d_Study_reach_27 rfl rfl (fun hc => ?_) (fun hc => ?_)
  · have h := ok_t hc h
    refine ax_iload_n 2 d_Study_reach_139 rfl rfl 140 rfl ?_
    exact ax_iret rfl d_Study_reach_140 (hR (v2, m) (ok_some h))
  · have h := ok_f hc h
    refine ax_iload_n 3 d_Study_reach_30 rfl rfl 31 rfl ?_
    refine ax_sipush 600 d_Study_reach_31 sp_600 34 rfl ?_
    refine ax_icmp_ge 139 37 d_Study_reach_34 rfl rfl (fun hc => ?_) (fun hc => ?_)
    · have h := ok_t hc h
      refine ax_iload_n 2 d_Study_reach_139 rfl rfl 140 rfl ?_
      exact ax_iret rfl d_Study_reach_140 (hR (v2, m) (ok_some h))
    · have h := ok_f hc h
      refine ax_aload_n 0 d_Study_reach_37 rfl rfl 38 rfl ?_
      refine ax_getR fl_Study_44 x_116 rfl (rx_116_13 _) d_Study_reach_38 41 rfl ?_
      refine ax_iload_n 3 d_Study_reach_41 rfl rfl 42 rfl ?_
      refine ax_iaload x_126 d_Study_reach_42 43 rfl h (fun i6 h => ?_)
      refine ax_istore (ls1 := [(4, .int (m.1 126 i6)), (0, .ref 116), (1, .int v1), (2, .int v2), (3, .int v3)]) d_Study_reach_43 (Nat.le_of_ble_eq_true rfl) rfl 45 rfl ?_
      refine ax_aload_n 1 d_Study_reach_45 rfl rfl 46 rfl ?_
      refine ax_getR fl_Study_53 x_116 rfl (rx_116_0 _) d_Study_reach_46 49 rfl ?_
      refine ax_getR fl_Study_111 x_24 rfl (rx_24_11 _) d_Study_reach_49 52 rfl ?_
      refine ax_iload 0 d_Study_reach_52 rfl 54 rfl ?_
      refine ax_iaload x_36 d_Study_reach_54 55 rfl h (fun i7 h => ?_)
      refine ax_istore (ls1 := [(5, .int (m.1 36 i7)), (4, .int (m.1 126 i6)), (0, .ref 116), (1, .int v1), (2, .int v2), (3, .int v3)]) d_Study_reach_55 (Nat.le_of_ble_eq_true rfl) rfl 57 rfl ?_
      exact ax_sub [2, 3, 4, 5, 1, 0] rfl (c_Study_reach_L57 v1 v2 v3 (m.1 126 i6) (m.1 36 i7) m (fun p hp => hR p hp) (fun s hs => h0 s hs) h)
theorem c_Study_reach_L25 (v1 : Int32) (v2 : Int32) (v3 : Int32) (m : zM)  {Q : Option Value → zM → Prop} {K : (Int32 × zM) → Prop} (hR : ∀ p : Int32 × zM, K (p) → Q (some (.int p.1)) p.2)  (h : ok (f_Study_reach_L25 v1 v2 v3 m) K) : AX gX s_Study_reach 25 [(0, .ref 116), (1, .int v1), (2, .int v2), (3, .int v3)] [] m Q :=
  ok_lp (K := K) (G := fun s : Int32 × Int32 × zM => AX gX s_Study_reach 25 [(0, .ref 116), (1, .int v1), (2, .int s.1), (3, .int s.2.1)] [] s.2.2 Q) (fun s h => c_Study_reach_B25 v1 s.1 s.2.1 s.2.2  (fun p hp => hR p hp) (fun s hs => hs) h) FU (v2, v3, m) h
set_option maxRecDepth 4000 in
theorem zc_Study_reach (v1 : Int32) (m : zM)  {Q : Option Value → zM → Prop} (h : ok (f_Study_reach v1 m) (fun p => Q (some (.int p.1)) p.2)) : zc gX s_Study_reach [.ref 116, .int v1] m Q := by
  refine zc_of rfl (Nat.le_of_ble_eq_true rfl) ?_
  show AX gX s_Study_reach 0 [(0, .ref 116), (1, .int v1)] [] m Q
  obtain ⟨K, hK⟩ : ∃ K : (Int32 × zM) → Prop, K = (fun p : Int32 × zM => Q (some (.int p.1)) p.2) := ⟨_, rfl⟩
  have hR : ∀ p : Int32 × zM, K p → Q (some (.int p.1)) p.2 := fun p hp => by rw [hK] at hp; exact hp
  replace h : ok (f_Study_reach v1 m) (fun p : Int32 × zM => Q (some (.int p.1)) p.2) := h
  rw [← hK] at h
  unfold f_Study_reach at h
  refine ax_aload_n 0 d_Study_reach_0 rfl rfl 1 rfl ?_
  refine ax_getR fl_Study_41 x_116 rfl (rx_116_12 _) d_Study_reach_1 4 rfl ?_
  refine ax_callS mv_Study_73 ⟨Nat.le_of_ble_eq_true rfl, Nat.le_of_ble_eq_true rfl⟩ ⟨rfl, rfl⟩ [.ref 125] [.ref 125] rfl rfl (Nat.le_of_ble_eq_true rfl) d_Study_reach_4 7 rfl (zc_Study_clear 125 m x_125z (ok_b h (fun p1 h => ?_)))
  refine ax_aload_n 0 d_Study_reach_7 rfl rfl 8 rfl ?_
  refine ax_getR fl_Study_44 x_116 rfl (rx_116_13 _) d_Study_reach_8 11 rfl ?_
  refine ax_iconst 0 d_Study_reach_11 ic_0 12 rfl ?_
  refine ax_iconst 0 d_Study_reach_12 ic_0 13 rfl ?_
  refine ax_iastore x_126 d_Study_reach_13 14 rfl h (fun i2 m3 h => ?_)
  refine ax_aload_n 0 d_Study_reach_14 rfl rfl 15 rfl ?_
  refine ax_getR fl_Study_41 x_116 rfl (rx_116_12 _) d_Study_reach_15 18 rfl ?_
  refine ax_iconst 0 d_Study_reach_18 ic_0 19 rfl ?_
  refine ax_iconst 1 d_Study_reach_19 ic_1 20 rfl ?_
  refine ax_zastore (y := true) x_125 d_Study_reach_20 21 rfl h (fun i4 m5 h => ?_)
  refine ax_iconst 1 d_Study_reach_21 ic_1 22 rfl ?_
  refine ax_istore_n (ls1 := [(2, .int 1), (0, .ref 116), (1, .int v1)]) d_Study_reach_22 rfl (Nat.le_of_ble_eq_true rfl) rfl 23 rfl ?_
  refine ax_iconst 0 d_Study_reach_23 ic_0 24 rfl ?_
  refine ax_istore_n (ls1 := [(3, .int 0), (2, .int 1), (0, .ref 116), (1, .int v1)]) d_Study_reach_24 rfl (Nat.le_of_ble_eq_true rfl) rfl 25 rfl ?_
  exact ax_sub [2, 3, 1, 0] rfl (c_Study_reach_L25 v1 1 0 m5 (fun p hp => hR p hp) h)
set_option maxRecDepth 4000 in
theorem c_Study_isStuckWithout_B10 (v1 : Int32) (v2 : Int32) (v3 : Int32) (m : zM)  {Q : Option Value → zM → Prop} {K : ((Bool) ⊕ (Int32)) → Prop} (hR : ∀ p : Bool, K (.inl p) → Q (some (.int (b2i p))) m) (h0 : ∀ s : Int32, K (.inr s) → AX gX s_Study_isStuckWithout 10 [(0, .ref 116), (1, .int v1), (2, .int v2), (3, .int s)] [] m Q) (h : ok (f_Study_isStuckWithout_B10 v1 v2 v3 m) K) : AX gX s_Study_isStuckWithout 10 [(0, .ref 116), (1, .int v1), (2, .int v2), (3, .int v3)] [] m Q := by
  unfold f_Study_isStuckWithout_B10 at h
  refine ax_iload_n 3 d_Study_isStuckWithout_10 rfl rfl 11 rfl ?_
  refine ax_aload_n 0 d_Study_isStuckWithout_11 rfl rfl 12 rfl ?_
  refine ax_getR fl_Study_53 x_116 rfl (rx_116_0 _) d_Study_isStuckWithout_12 15 rfl ?_
  refine ax_getR fl_Study_111 x_24 rfl (rx_24_11 _) d_Study_isStuckWithout_15 18 rfl ?_
  refine ax_iload_n 1 d_Study_isStuckWithout_18 rfl rfl 19 rfl ?_
  refine ax_iconst 1 d_Study_isStuckWithout_19 ic_1 20 rfl ?_
  refine ax_iadd d_Study_isStuckWithout_20 21 rfl ?_
  refine ax_iaload x_36 d_Study_isStuckWithout_21 22 rfl h (fun i2 h => ?_)
  refine ax_icmp_ge 45 25 d_Study_isStuckWithout_22 rfl rfl (fun hc => ?_) (fun hc => ?_)
  · have h := ok_t hc h
    refine ax_iconst 1 d_Study_isStuckWithout_45 ic_1 46 rfl ?_
    exact ax_zret (b := true) rfl d_Study_isStuckWithout_46 (hR true (ok_some h))
  · have h := ok_f hc h
    refine ax_aload_n 0 d_Study_isStuckWithout_25 rfl rfl 26 rfl ?_
    refine ax_getR fl_Study_53 x_116 rfl (rx_116_0 _) d_Study_isStuckWithout_26 29 rfl ?_
    refine ax_iload_n 3 d_Study_isStuckWithout_29 rfl rfl 30 rfl ?_
    refine ax_callV mv_Study_175 ⟨Nat.le_of_ble_eq_true rfl, Nat.le_of_ble_eq_true rfl⟩ ⟨rfl, rfl⟩ [.int v3] [.int v3, .ref 24] rfl rfl (rc_x_24 _) (Nat.le_of_ble_eq_true rfl) d_Study_isStuckWithout_30 33 rfl (zc_Atlas_by v3 m (ok_b h (fun r3 h => ?_)))
    refine ax_iload_n 2 d_Study_isStuckWithout_33 rfl rfl 34 rfl ?_
    refine ax_icmp_eq 39 37 d_Study_isStuckWithout_34 rfl rfl (fun hc => ?_) (fun hc => ?_)
    · have h := ok_t hc h
      refine ax_iinc (ls1 := [(3, .int (v3 + 1)), (0, .ref 116), (1, .int v1), (2, .int v2)]) 3 1 d_Study_isStuckWithout_39 rfl ic_1 (Nat.le_of_ble_eq_true rfl) rfl 42 rfl ?_
      refine ax_goto 10 d_Study_isStuckWithout_42 rfl ?_
      exact ax_sub [1, 2, 3, 0] rfl (h0 (v3 + 1) (ok_some h))
    · have h := ok_f hc h
      refine ax_iconst 0 d_Study_isStuckWithout_37 ic_0 38 rfl ?_
      exact ax_zret (b := false) rfl d_Study_isStuckWithout_38 (hR false (ok_some h))
theorem c_Study_isStuckWithout_L10 (v1 : Int32) (v2 : Int32) (v3 : Int32) (m : zM)  {Q : Option Value → zM → Prop} {K : Bool → Prop} (hR : ∀ p : Bool, K (p) → Q (some (.int (b2i p))) m)  (h : ok (f_Study_isStuckWithout_L10 v1 v2 v3 m) K) : AX gX s_Study_isStuckWithout 10 [(0, .ref 116), (1, .int v1), (2, .int v2), (3, .int v3)] [] m Q :=
  ok_lp (K := K) (G := fun s : Int32 => AX gX s_Study_isStuckWithout 10 [(0, .ref 116), (1, .int v1), (2, .int v2), (3, .int s)] [] m Q) (fun s h => c_Study_isStuckWithout_B10 v1 v2 s m  (fun p hp => hR p hp) (fun s hs => hs) h) FU v3 h
set_option maxRecDepth 4000 in
theorem zc_Study_isStuckWithout (v1 : Int32) (v2 : Int32) (m : zM)  {Q : Option Value → zM → Prop} (h : ok (f_Study_isStuckWithout v1 v2 m) (fun p => Q (some (.int (b2i p))) m)) : zc gX s_Study_isStuckWithout [.ref 116, .int v1, .int v2] m Q := by
  refine zc_of rfl (Nat.le_of_ble_eq_true rfl) ?_
  show AX gX s_Study_isStuckWithout 0 [(0, .ref 116), (1, .int v1), (2, .int v2)] [] m Q
  obtain ⟨K, hK⟩ : ∃ K : Bool → Prop, K = (fun p : Bool => Q (some (.int (b2i p))) m) := ⟨_, rfl⟩
  have hR : ∀ p : Bool, K p → Q (some (.int (b2i p))) m := fun p hp => by rw [hK] at hp; exact hp
  replace h : ok (f_Study_isStuckWithout v1 v2 m) (fun p : Bool => Q (some (.int (b2i p))) m) := h
  rw [← hK] at h
  unfold f_Study_isStuckWithout at h
  refine ax_aload_n 0 d_Study_isStuckWithout_0 rfl rfl 1 rfl ?_
  refine ax_getR fl_Study_53 x_116 rfl (rx_116_0 _) d_Study_isStuckWithout_1 4 rfl ?_
  refine ax_getR fl_Study_111 x_24 rfl (rx_24_11 _) d_Study_isStuckWithout_4 7 rfl ?_
  refine ax_iload_n 1 d_Study_isStuckWithout_7 rfl rfl 8 rfl ?_
  refine ax_iaload x_36 d_Study_isStuckWithout_8 9 rfl h (fun i1 h => ?_)
  refine ax_istore_n (ls1 := [(3, .int (m.1 36 i1)), (0, .ref 116), (1, .int v1), (2, .int v2)]) d_Study_isStuckWithout_9 rfl (Nat.le_of_ble_eq_true rfl) rfl 10 rfl ?_
  exact ax_sub [1, 2, 3, 0] rfl (c_Study_isStuckWithout_L10 v1 v2 (m.1 36 i1) m (fun p hp => hR p hp) h)
set_option maxRecDepth 4000 in
theorem c_Study_hopeless_J58 (v1 : Int32) (v3 : Int32) (t0 : Int32) (t1 : Bool) (m : zM)  {Q : Option Value → zM → Prop} {K : ((Int32) ⊕ (Int32 × Int32)) → Prop} (hR : ∀ p : Int32, K (.inl p) → Q (some (.int p)) m) (h0 : ∀ s : Int32 × Int32, K (.inr s) → AX gX s_Study_hopeless 4 [(0, .ref 116), (1, .int v1), (2, .int s.1), (3, .int s.2)] [] m Q) (h : ok (f_Study_hopeless_J58 v1 v3 t0 t1 m) K) : AX gX s_Study_hopeless 58 [(0, .ref 116), (1, .int v1), (3, .int v3)] [.int (b2i t1), .int t0] m Q := by
  unfold f_Study_hopeless_J58 at h
  refine ax_iadd d_Study_hopeless_58 59 rfl ?_
  refine ax_istore_n (ls1 := [(2, .int (t0 + (b2i t1))), (0, .ref 116), (1, .int v1), (3, .int v3)]) d_Study_hopeless_59 rfl (Nat.le_of_ble_eq_true rfl) rfl 60 rfl ?_
  refine ax_iinc (ls1 := [(3, .int (v3 + 1)), (2, .int (t0 + (b2i t1))), (0, .ref 116), (1, .int v1)]) 3 1 d_Study_hopeless_60 rfl ic_1 (Nat.le_of_ble_eq_true rfl) rfl 63 rfl ?_
  refine ax_goto 4 d_Study_hopeless_63 rfl ?_
  exact ax_sub [2, 3, 1, 0] rfl (h0 ((t0 + (b2i t1)), (v3 + 1)) (ok_some h))
set_option maxRecDepth 4000 in
theorem c_Study_hopeless_J57 (v1 : Int32) (v3 : Int32) (t0 : Int32) (m : zM)  {Q : Option Value → zM → Prop} {K : ((Int32) ⊕ (Int32 × Int32)) → Prop} (hR : ∀ p : Int32, K (.inl p) → Q (some (.int p)) m) (h0 : ∀ s : Int32 × Int32, K (.inr s) → AX gX s_Study_hopeless 4 [(0, .ref 116), (1, .int v1), (2, .int s.1), (3, .int s.2)] [] m Q) (h : ok (f_Study_hopeless_J57 v1 v3 t0 m) K) : AX gX s_Study_hopeless 57 [(0, .ref 116), (1, .int v1), (3, .int v3)] [.int t0] m Q := by
  unfold f_Study_hopeless_J57 at h
  refine ax_iconst 0 d_Study_hopeless_57 ic_0 58 rfl ?_
  exact ax_sub [0, 1, 2] rfl (c_Study_hopeless_J58 v1 v3 t0 false m (fun p hp => hR p hp) (fun s hs => h0 s hs) h)
set_option maxRecDepth 4000 in
theorem c_Study_hopeless_B4 (v1 : Int32) (v2 : Int32) (v3 : Int32) (m : zM)  {Q : Option Value → zM → Prop} {K : ((Int32) ⊕ (Int32 × Int32)) → Prop} (hR : ∀ p : Int32, K (.inl p) → Q (some (.int p)) m) (h0 : ∀ s : Int32 × Int32, K (.inr s) → AX gX s_Study_hopeless 4 [(0, .ref 116), (1, .int v1), (2, .int s.1), (3, .int s.2)] [] m Q) (h : ok (f_Study_hopeless_B4 v1 v2 v3 m) K) : AX gX s_Study_hopeless 4 [(0, .ref 116), (1, .int v1), (2, .int v2), (3, .int v3)] [] m Q := by
  unfold f_Study_hopeless_B4 at h
  refine ax_iload_n 3 d_Study_hopeless_4 rfl rfl 5 rfl ?_
  refine ax_aload_n 0 d_Study_hopeless_5 rfl rfl 6 rfl ?_
  refine ax_getR fl_Study_53 x_116 rfl (rx_116_0 _) d_Study_hopeless_6 9 rfl ?_
  refine ax_getI fl_Study_144 x_24 rfl d_Study_hopeless_9 12 rfl ?_
  refine ax_icmp_ge 66 15 d_Study_hopeless_12 rfl rfl (fun hc => ?_) (fun hc => ?_)
  · have h := ok_t hc h
    refine ax_iload_n 2 d_Study_hopeless_66 rfl rfl 67 rfl ?_
    exact ax_iret rfl d_Study_hopeless_67 (hR v2 (ok_some h))
  · have h := ok_f hc h
    refine ax_iload_n 1 d_Study_hopeless_15 rfl rfl 16 rfl ?_
    refine ax_iconst 4 d_Study_hopeless_16 ic_4 17 rfl ?_
    refine ax_imul d_Study_hopeless_17 18 rfl ?_
    refine ax_iload_n 3 d_Study_hopeless_18 rfl rfl 19 rfl ?_
    refine ax_iadd d_Study_hopeless_19 20 rfl ?_
    refine ax_istore (ls1 := [(4, .int ((v1 * 4) + v3)), (0, .ref 116), (1, .int v1), (2, .int v2), (3, .int v3)]) d_Study_hopeless_20 (Nat.le_of_ble_eq_true rfl) rfl 22 rfl ?_
    refine ax_iload_n 3 d_Study_hopeless_22 rfl rfl 23 rfl ?_
    refine ax_aload_n 1 d_Study_hopeless_23 rfl rfl 24 rfl ?_
    refine ax_iload 0 d_Study_hopeless_24 rfl 26 rfl ?_
    refine ax_aload_n 1 d_Study_hopeless_26 rfl rfl 27 rfl ?_
    refine ok_tb h (fun t1 ht1 et1 h => ?_)
    refine ax_getR fl_Study_66 x_116 rfl (ry_2 et1) d_Study_hopeless_27 30 rfl ?_
    refine ax_getI fl_Study_77 (sx_Table ht1) rfl d_Study_hopeless_30 33 rfl ?_
    refine ax_callV mv_Study_121 ⟨Nat.le_of_ble_eq_true rfl, Nat.le_of_ble_eq_true rfl⟩ ⟨rfl, rfl⟩ [.int ((v1 * 4) + v3), .int (m.1 t1 10)] [.int (m.1 t1 10), .int ((v1 * 4) + v3), .ref 116, .int v2] rfl rfl (rc_x_116 _) (Nat.le_of_ble_eq_true rfl) d_Study_hopeless_33 36 rfl (zc_Study_isAgentIn ((v1 * 4) + v3) (m.1 t1 10) m (ok_b h (fun r2 h => ?_)))
    refine ax_ifb_eq 57 39 d_Study_hopeless_36 rfl rfl (fun hc => ?_) (fun hc => ?_)
    · have h := ok_f (bf hc) h
      exact ax_sub [1, 2, 4] rfl (c_Study_hopeless_J57 v1 v3 v2 m (fun p hp => hR p hp) (fun s hs => h0 s hs) h)
    · have h := ok_t hc h
      refine ax_aload_n 1 d_Study_hopeless_39 rfl rfl 40 rfl ?_
      refine ax_getR fl_Study_38 x_116 rfl (rx_116_11 _) d_Study_hopeless_40 43 rfl ?_
      refine ax_aload_n 1 d_Study_hopeless_43 rfl rfl 44 rfl ?_
      refine ax_iload 0 d_Study_hopeless_44 rfl 46 rfl ?_
      refine ax_callV mv_Study_141 ⟨Nat.le_of_ble_eq_true rfl, Nat.le_of_ble_eq_true rfl⟩ ⟨rfl, rfl⟩ [.int ((v1 * 4) + v3)] [.int ((v1 * 4) + v3), .ref 116, .ref 124, .int v2] rfl rfl (rc_x_116 _) (Nat.le_of_ble_eq_true rfl) d_Study_hopeless_46 49 rfl (zc_Study_firstLike ((v1 * 4) + v3) m (ok_b h (fun r3 h => ?_)))
      refine ax_baload x_124 d_Study_hopeless_49 50 rfl h (fun i4 h => ?_)
      refine ax_if_ne 57 53 d_Study_hopeless_50 rfl rfl (fun hc => ?_) (fun hc => ?_)
      · have h := ok_f hc h
        exact ax_sub [1, 2, 4] rfl (c_Study_hopeless_J57 v1 v3 v2 m (fun p hp => hR p hp) (fun s hs => h0 s hs) h)
      · have h := ok_t hc h
        refine ax_iconst 1 d_Study_hopeless_53 ic_1 54 rfl ?_
        refine ax_goto 58 d_Study_hopeless_54 rfl ?_
        exact ax_sub [1, 2, 4] rfl (c_Study_hopeless_J58 v1 v3 v2 true m (fun p hp => hR p hp) (fun s hs => h0 s hs) h)
theorem c_Study_hopeless_L4 (v1 : Int32) (v2 : Int32) (v3 : Int32) (m : zM)  {Q : Option Value → zM → Prop} {K : Int32 → Prop} (hR : ∀ p : Int32, K (p) → Q (some (.int p)) m)  (h : ok (f_Study_hopeless_L4 v1 v2 v3 m) K) : AX gX s_Study_hopeless 4 [(0, .ref 116), (1, .int v1), (2, .int v2), (3, .int v3)] [] m Q :=
  ok_lp (K := K) (G := fun s : Int32 × Int32 => AX gX s_Study_hopeless 4 [(0, .ref 116), (1, .int v1), (2, .int s.1), (3, .int s.2)] [] m Q) (fun s h => c_Study_hopeless_B4 v1 s.1 s.2 m  (fun p hp => hR p hp) (fun s hs => hs) h) FU (v2, v3) h
set_option maxRecDepth 4000 in
theorem zc_Study_hopeless (v1 : Int32) (m : zM)  {Q : Option Value → zM → Prop} (h : ok (f_Study_hopeless v1 m) (fun p => Q (some (.int p)) m)) : zc gX s_Study_hopeless [.ref 116, .int v1] m Q := by
  refine zc_of rfl (Nat.le_of_ble_eq_true rfl) ?_
  show AX gX s_Study_hopeless 0 [(0, .ref 116), (1, .int v1)] [] m Q
  obtain ⟨K, hK⟩ : ∃ K : Int32 → Prop, K = (fun p : Int32 => Q (some (.int p)) m) := ⟨_, rfl⟩
  have hR : ∀ p : Int32, K p → Q (some (.int p)) m := fun p hp => by rw [hK] at hp; exact hp
  replace h : ok (f_Study_hopeless v1 m) (fun p : Int32 => Q (some (.int p)) m) := h
  rw [← hK] at h
  unfold f_Study_hopeless at h
  refine ax_iconst 0 d_Study_hopeless_0 ic_0 1 rfl ?_
  refine ax_istore_n (ls1 := [(2, .int 0), (0, .ref 116), (1, .int v1)]) d_Study_hopeless_1 rfl (Nat.le_of_ble_eq_true rfl) rfl 2 rfl ?_
  refine ax_iconst 0 d_Study_hopeless_2 ic_0 3 rfl ?_
  refine ax_istore_n (ls1 := [(3, .int 0), (2, .int 0), (0, .ref 116), (1, .int v1)]) d_Study_hopeless_3 rfl (Nat.le_of_ble_eq_true rfl) rfl 4 rfl ?_
  exact ax_sub [2, 3, 1, 0] rfl (c_Study_hopeless_L4 v1 0 0 m (fun p hp => hR p hp) h)
set_option maxRecDepth 4000 in
theorem c_Study_figure_J234 (v1 : Int32) (v2 : Int32) (v3 : Int32) (v4 : Bool) (v5 : Int32) (t0 : Nat) (t1 : Int32) (t2 : Int32) (t3 : Int32) (m : zM) (ht0 : gX.1[t0]? = some (.inr (0, zlen gX t0))) {Q : Option Value → zM → Prop} {K : ((zM) ⊕ (Int32 × zM)) → Prop} (hR : ∀ p : zM, K (.inl p) → Q none p) (h0 : ∀ s : Int32 × zM, K (.inr s) → AX gX s_Study_figure 90 [(0, .ref 116), (1, .int v1), (2, .int v2), (3, .int v3), (4, .int (b2i v4)), (5, .int s.1)] [] s.2 Q) (h : ok (f_Study_figure_J234 v1 v2 v3 v4 v5 t0 t1 t2 t3 m) K) : AX gX s_Study_figure 234 [(0, .ref 116), (1, .int v1), (2, .int v2), (3, .int v3), (4, .int (b2i v4)), (5, .int v5)] [.int t3, .int t2, .int t1, .ref t0] m Q := by
  unfold f_Study_figure_J234 at h
  refine ax_iadd d_Study_figure_234 235 rfl ?_
  refine ax_iastore ht0 d_Study_figure_235 236 rfl h (fun i29 m30 h => ?_)
  refine ax_iinc (ls1 := [(5, .int (v5 + 1)), (0, .ref 116), (1, .int v1), (2, .int v2), (3, .int v3), (4, .int (b2i v4))]) 5 1 d_Study_figure_236 rfl ic_1 (Nat.le_of_ble_eq_true rfl) rfl 239 rfl ?_
  refine ax_goto 90 d_Study_figure_239 rfl ?_
  exact ax_sub [1, 2, 3, 4, 5, 0] rfl (h0 ((v5 + 1), m30) (ok_some h))
set_option maxRecDepth 4000 in
theorem c_Study_figure_J197 (v1 : Int32) (v2 : Int32) (v3 : Int32) (v4 : Bool) (v5 : Int32) (v6 : Int32) (t0 : Nat) (t1 : Int32) (t2 : Int32) (t3 : Int32) (m : zM) (ht0 : gX.1[t0]? = some (.inr (0, zlen gX t0))) {Q : Option Value → zM → Prop} {K : ((zM) ⊕ (Int32 × zM)) → Prop} (hR : ∀ p : zM, K (.inl p) → Q none p) (h0 : ∀ s : Int32 × zM, K (.inr s) → AX gX s_Study_figure 90 [(0, .ref 116), (1, .int v1), (2, .int v2), (3, .int v3), (4, .int (b2i v4)), (5, .int s.1)] [] s.2 Q) (h : ok (f_Study_figure_J197 v1 v2 v3 v4 v5 v6 t0 t1 t2 t3 m) K) : AX gX s_Study_figure 197 [(0, .ref 116), (1, .int v1), (2, .int v2), (3, .int v3), (4, .int (b2i v4)), (5, .int v5), (6, .int v6)] [.int t3, .int t2, .int t1, .ref t0] m Q := by
  unfold f_Study_figure_J197 at h
  refine ax_iadd d_Study_figure_197 198 rfl ?_
  refine ax_iastore ht0 d_Study_figure_198 199 rfl h (fun i24 m25 h => ?_)
  refine ax_aload_n 0 d_Study_figure_199 rfl rfl 200 rfl ?_
  refine ax_getR fl_Study_50 x_116 rfl (rx_116_15 _) d_Study_figure_200 203 rfl ?_
  refine ax_iload_n 2 d_Study_figure_203 rfl rfl 204 rfl ?_
  refine ax_iconst 4 d_Study_figure_204 ic_4 205 rfl ?_
  refine ax_iadd d_Study_figure_205 206 rfl ?_
  refine ax_dup2 d_Study_figure_206 rfl rfl 207 rfl ?_
  refine ax_iaload x_128 d_Study_figure_207 208 rfl h (fun i26 h => ?_)
  refine ax_iload 4 d_Study_figure_208 rfl 210 rfl ?_
  refine ax_ifb_eq 233 213 d_Study_figure_210 rfl rfl (fun hc => ?_) (fun hc => ?_)
  · have h := ok_f (bf hc) h
    refine ax_iconst 0 d_Study_figure_233 ic_0 234 rfl ?_
    exact ax_sub [0, 1, 2, 3, 4, 5] rfl (c_Study_figure_J234 v1 v2 v3 v4 v5 128 (v2 + 4) (m25.1 128 i26) 0 m25 x_128z (fun p hp => hR p hp) (fun s hs => h0 s hs) h)
  · have h := ok_t hc h
    refine ax_aload_n 0 d_Study_figure_213 rfl rfl 214 rfl ?_
    refine ax_getR fl_Study_53 x_116 rfl (rx_116_0 _) d_Study_figure_214 217 rfl ?_
    refine ax_getR fl_Study_157 x_24 rfl (rx_24_7 _) d_Study_figure_217 220 rfl ?_
    refine ax_iload 6 d_Study_figure_220 rfl 222 rfl ?_
    refine ax_iaload x_32 d_Study_figure_222 223 rfl h (fun i27 h => ?_)
    refine ax_aload_n 0 d_Study_figure_223 rfl rfl 224 rfl ?_
    refine ax_iload 6 d_Study_figure_224 rfl 226 rfl ?_
    refine ax_callV mv_Study_172 ⟨Nat.le_of_ble_eq_true rfl, Nat.le_of_ble_eq_true rfl⟩ ⟨rfl, rfl⟩ [.int v6] [.int v6, .ref 116, .int (m25.1 32 i27), .int (m25.1 128 i26), .int (v2 + 4), .ref 128] rfl rfl (rc_x_116 _) (Nat.le_of_ble_eq_true rfl) d_Study_figure_226 229 rfl (zc_Study_hopeless v6 m25 (ok_b h (fun r28 h => ?_)))
    refine ax_imul d_Study_figure_229 230 rfl ?_
    refine ax_goto 234 d_Study_figure_230 rfl ?_
    exact ax_sub [0, 1, 2, 3, 4, 5] rfl (c_Study_figure_J234 v1 v2 v3 v4 v5 128 (v2 + 4) (m25.1 128 i26) ((m25.1 32 i27) * r28) m25 x_128z (fun p hp => hR p hp) (fun s hs => h0 s hs) h)
set_option maxRecDepth 4000 in
theorem c_Study_figure_J162 (v1 : Int32) (v2 : Int32) (v3 : Int32) (v4 : Bool) (v5 : Int32) (v6 : Int32) (t0 : Nat) (t1 : Int32) (t2 : Int32) (t3 : Int32) (m : zM) (ht0 : gX.1[t0]? = some (.inr (0, zlen gX t0))) {Q : Option Value → zM → Prop} {K : ((zM) ⊕ (Int32 × zM)) → Prop} (hR : ∀ p : zM, K (.inl p) → Q none p) (h0 : ∀ s : Int32 × zM, K (.inr s) → AX gX s_Study_figure 90 [(0, .ref 116), (1, .int v1), (2, .int v2), (3, .int v3), (4, .int (b2i v4)), (5, .int s.1)] [] s.2 Q) (h : ok (f_Study_figure_J162 v1 v2 v3 v4 v5 v6 t0 t1 t2 t3 m) K) : AX gX s_Study_figure 162 [(0, .ref 116), (1, .int v1), (2, .int v2), (3, .int v3), (4, .int (b2i v4)), (5, .int v5), (6, .int v6)] [.int t3, .int t2, .int t1, .ref t0] m Q := by
  unfold f_Study_figure_J162 at h
  refine ax_iadd d_Study_figure_162 163 rfl ?_
  refine ax_iastore ht0 d_Study_figure_163 164 rfl h (fun i19 m20 h => ?_)
  refine ax_aload_n 0 d_Study_figure_164 rfl rfl 165 rfl ?_
  refine ax_getR fl_Study_50 x_116 rfl (rx_116_15 _) d_Study_figure_165 168 rfl ?_
  refine ax_iload_n 2 d_Study_figure_168 rfl rfl 169 rfl ?_
  refine ax_iconst 3 d_Study_figure_169 ic_3 170 rfl ?_
  refine ax_iadd d_Study_figure_170 171 rfl ?_
  refine ax_dup2 d_Study_figure_171 rfl rfl 172 rfl ?_
  refine ax_iaload x_128 d_Study_figure_172 173 rfl h (fun i21 h => ?_)
  refine ax_aload_n 0 d_Study_figure_173 rfl rfl 174 rfl ?_
  refine ax_iload 6 d_Study_figure_174 rfl 176 rfl ?_
  refine ax_iload_n 1 d_Study_figure_176 rfl rfl 177 rfl ?_
  refine ax_callV mv_Study_169 ⟨Nat.le_of_ble_eq_true rfl, Nat.le_of_ble_eq_true rfl⟩ ⟨rfl, rfl⟩ [.int v6, .int v1] [.int v1, .int v6, .ref 116, .int (m20.1 128 i21), .int (v2 + 3), .ref 128] rfl rfl (rc_x_116 _) (Nat.le_of_ble_eq_true rfl) d_Study_figure_177 180 rfl (zc_Study_isStuckWithout v6 v1 m20 (ok_b h (fun r22 h => ?_)))
  refine ax_ifb_eq 196 183 d_Study_figure_180 rfl rfl (fun hc => ?_) (fun hc => ?_)
  · have h := ok_f (bf hc) h
    refine ax_iconst 0 d_Study_figure_196 ic_0 197 rfl ?_
    exact ax_sub [0, 1, 2, 3, 4, 5, 6] rfl (c_Study_figure_J197 v1 v2 v3 v4 v5 v6 128 (v2 + 3) (m20.1 128 i21) 0 m20 x_128z (fun p hp => hR p hp) (fun s hs => h0 s hs) h)
  · have h := ok_t hc h
    refine ax_aload_n 0 d_Study_figure_183 rfl rfl 184 rfl ?_
    refine ax_getR fl_Study_53 x_116 rfl (rx_116_0 _) d_Study_figure_184 187 rfl ?_
    refine ax_getR fl_Study_157 x_24 rfl (rx_24_7 _) d_Study_figure_187 190 rfl ?_
    refine ax_iload 6 d_Study_figure_190 rfl 192 rfl ?_
    refine ax_iaload x_32 d_Study_figure_192 193 rfl h (fun i23 h => ?_)
    refine ax_goto 197 d_Study_figure_193 rfl ?_
    exact ax_sub [0, 1, 2, 3, 4, 5, 6] rfl (c_Study_figure_J197 v1 v2 v3 v4 v5 v6 128 (v2 + 3) (m20.1 128 i21) (m20.1 32 i23) m20 x_128z (fun p hp => hR p hp) (fun s hs => h0 s hs) h)
set_option maxRecDepth 4000 in
theorem c_Study_figure_B90 (v1 : Int32) (v2 : Int32) (v3 : Int32) (v4 : Bool) (v5 : Int32) (m : zM)  {Q : Option Value → zM → Prop} {K : ((zM) ⊕ (Int32 × zM)) → Prop} (hR : ∀ p : zM, K (.inl p) → Q none p) (h0 : ∀ s : Int32 × zM, K (.inr s) → AX gX s_Study_figure 90 [(0, .ref 116), (1, .int v1), (2, .int v2), (3, .int v3), (4, .int (b2i v4)), (5, .int s.1)] [] s.2 Q) (h : ok (f_Study_figure_B90 v1 v2 v3 v4 v5 m) K) : AX gX s_Study_figure 90 [(0, .ref 116), (1, .int v1), (2, .int v2), (3, .int v3), (4, .int (b2i v4)), (5, .int v5)] [] m Q := by
  unfold f_Study_figure_B90 at h
  refine ax_iload 5 d_Study_figure_90 rfl 92 rfl ?_
  refine ax_iload_n 3 d_Study_figure_92 rfl rfl 93 rfl ?_
  refine ax_icmp_ge 242 96 d_Study_figure_93 rfl rfl (fun hc => ?_) (fun hc => ?_)
  · have h := ok_t hc h
    exact ax_vret rfl d_Study_figure_242 (hR m (ok_some h))
  · have h := ok_f hc h
    refine ax_aload_n 0 d_Study_figure_96 rfl rfl 97 rfl ?_
    refine ax_getR fl_Study_44 x_116 rfl (rx_116_13 _) d_Study_figure_97 100 rfl ?_
    refine ax_iload 5 d_Study_figure_100 rfl 102 rfl ?_
    refine ax_iaload x_126 d_Study_figure_102 103 rfl h (fun i11 h => ?_)
    refine ax_istore (ls1 := [(6, .int (m.1 126 i11)), (0, .ref 116), (1, .int v1), (2, .int v2), (3, .int v3), (4, .int (b2i v4)), (5, .int v5)]) d_Study_figure_103 (Nat.le_of_ble_eq_true rfl) rfl 105 rfl ?_
    refine ax_aload_n 1 d_Study_figure_105 rfl rfl 106 rfl ?_
    refine ax_getR fl_Study_50 x_116 rfl (rx_116_15 _) d_Study_figure_106 109 rfl ?_
    refine ax_iload_n 3 d_Study_figure_109 rfl rfl 110 rfl ?_
    refine ax_iconst 1 d_Study_figure_110 ic_1 111 rfl ?_
    refine ax_iadd d_Study_figure_111 112 rfl ?_
    refine ax_dup2 d_Study_figure_112 rfl rfl 113 rfl ?_
    refine ax_iaload x_128 d_Study_figure_113 114 rfl h (fun i12 h => ?_)
    refine ax_aload_n 1 d_Study_figure_114 rfl rfl 115 rfl ?_
    refine ax_getR fl_Study_53 x_116 rfl (rx_116_0 _) d_Study_figure_115 118 rfl ?_
    refine ax_getR fl_Study_157 x_24 rfl (rx_24_7 _) d_Study_figure_118 121 rfl ?_
    refine ax_iload 0 d_Study_figure_121 rfl 123 rfl ?_
    refine ax_iaload x_32 d_Study_figure_123 124 rfl h (fun i13 h => ?_)
    refine ax_iadd d_Study_figure_124 125 rfl ?_
    refine ax_iastore x_128 d_Study_figure_125 126 rfl h (fun i14 m15 h => ?_)
    refine ax_aload_n 1 d_Study_figure_126 rfl rfl 127 rfl ?_
    refine ax_getR fl_Study_50 x_116 rfl (rx_116_15 _) d_Study_figure_127 130 rfl ?_
    refine ax_iload_n 3 d_Study_figure_130 rfl rfl 131 rfl ?_
    refine ax_iconst 2 d_Study_figure_131 ic_2 132 rfl ?_
    refine ax_iadd d_Study_figure_132 133 rfl ?_
    refine ax_dup2 d_Study_figure_133 rfl rfl 134 rfl ?_
    refine ax_iaload x_128 d_Study_figure_134 135 rfl h (fun i16 h => ?_)
    refine ax_aload_n 1 d_Study_figure_135 rfl rfl 136 rfl ?_
    refine ax_getR fl_Study_53 x_116 rfl (rx_116_0 _) d_Study_figure_136 139 rfl ?_
    refine ax_getR fl_Study_166 x_24 rfl (rx_24_8 _) d_Study_figure_139 142 rfl ?_
    refine ax_iload 0 d_Study_figure_142 rfl 144 rfl ?_
    refine ax_baload x_33 d_Study_figure_144 145 rfl h (fun i17 h => ?_)
    refine ax_if_eq 161 148 d_Study_figure_145 rfl rfl (fun hc => ?_) (fun hc => ?_)
    · have h := ok_t hc h
      refine ax_iconst 0 d_Study_figure_161 ic_0 162 rfl ?_
      exact ax_sub [1, 2, 3, 4, 5, 6, 0] rfl (c_Study_figure_J162 v1 v2 v3 v4 v5 (m.1 126 i11) 128 (v2 + 2) (m15.1 128 i16) 0 m15 x_128z (fun p hp => hR p hp) (fun s hs => h0 s hs) h)
    · have h := ok_f hc h
      refine ax_aload_n 1 d_Study_figure_148 rfl rfl 149 rfl ?_
      refine ax_getR fl_Study_53 x_116 rfl (rx_116_0 _) d_Study_figure_149 152 rfl ?_
      refine ax_getR fl_Study_157 x_24 rfl (rx_24_7 _) d_Study_figure_152 155 rfl ?_
      refine ax_iload 0 d_Study_figure_155 rfl 157 rfl ?_
      refine ax_iaload x_32 d_Study_figure_157 158 rfl h (fun i18 h => ?_)
      refine ax_goto 162 d_Study_figure_158 rfl ?_
      exact ax_sub [1, 2, 3, 4, 5, 6, 0] rfl (c_Study_figure_J162 v1 v2 v3 v4 v5 (m.1 126 i11) 128 (v2 + 2) (m15.1 128 i16) (m15.1 32 i18) m15 x_128z (fun p hp => hR p hp) (fun s hs => h0 s hs) h)
theorem c_Study_figure_L90 (v1 : Int32) (v2 : Int32) (v3 : Int32) (v4 : Bool) (v5 : Int32) (m : zM)  {Q : Option Value → zM → Prop} {K : zM → Prop} (hR : ∀ p : zM, K (p) → Q none p)  (h : ok (f_Study_figure_L90 v1 v2 v3 v4 v5 m) K) : AX gX s_Study_figure 90 [(0, .ref 116), (1, .int v1), (2, .int v2), (3, .int v3), (4, .int (b2i v4)), (5, .int v5)] [] m Q :=
  ok_lp (K := K) (G := fun s : Int32 × zM => AX gX s_Study_figure 90 [(0, .ref 116), (1, .int v1), (2, .int v2), (3, .int v3), (4, .int (b2i v4)), (5, .int s.1)] [] s.2 Q) (fun s h => c_Study_figure_B90 v1 v2 v3 v4 s.1 s.2  (fun p hp => hR p hp) (fun s hs => hs) h) FU (v5, m) h
set_option maxRecDepth 4000 in
theorem c_Study_figure_J87 (v1 : Int32) (v2 : Int32) (v3 : Int32) (v4 : Bool) (m : zM)  {Q : Option Value → zM → Prop} {K : zM → Prop} (hR : ∀ p : zM, K (p) → Q none p)  (h : ok (f_Study_figure_J87 v1 v2 v3 v4 m) K) : AX gX s_Study_figure 87 [(0, .ref 116), (1, .int v1), (2, .int v2), (3, .int v3), (4, .int (b2i v4))] [] m Q := by
  unfold f_Study_figure_J87 at h
  refine ax_iconst 0 d_Study_figure_87 ic_0 88 rfl ?_
  refine ax_istore (ls1 := [(5, .int 0), (0, .ref 116), (1, .int v1), (2, .int v2), (3, .int v3), (4, .int (b2i v4))]) d_Study_figure_88 (Nat.le_of_ble_eq_true rfl) rfl 90 rfl ?_
  exact ax_sub [1, 2, 3, 4, 5, 0] rfl (c_Study_figure_L90 v1 v2 v3 v4 0 m (fun p hp => hR p hp) h)
set_option maxRecDepth 4000 in
theorem c_Study_figure_J75 (v1 : Int32) (v2 : Int32) (v3 : Int32) (t0 : Bool) (m : zM)  {Q : Option Value → zM → Prop} {K : zM → Prop} (hR : ∀ p : zM, K (p) → Q none p)  (h : ok (f_Study_figure_J75 v1 v2 v3 t0 m) K) : AX gX s_Study_figure 75 [(0, .ref 116), (1, .int v1), (2, .int v2), (3, .int v3)] [.int (b2i t0)] m Q := by
  unfold f_Study_figure_J75 at h
  refine ax_istore (ls1 := [(4, .int (b2i t0)), (0, .ref 116), (1, .int v1), (2, .int v2), (3, .int v3)]) d_Study_figure_75 (Nat.le_of_ble_eq_true rfl) rfl 77 rfl ?_
  refine ax_iload 0 d_Study_figure_77 rfl 79 rfl ?_
  refine ax_ifb_eq 87 82 d_Study_figure_79 rfl rfl (fun hc => ?_) (fun hc => ?_)
  · have h := ok_f (bf hc) h
    exact ax_sub [1, 2, 3, 4, 0] rfl (c_Study_figure_J87 v1 v2 v3 t0 m (fun p hp => hR p hp) h)
  · have h := ok_t hc h
    refine ax_aload_n 1 d_Study_figure_82 rfl rfl 83 rfl ?_
    refine ax_iload_n 2 d_Study_figure_83 rfl rfl 84 rfl ?_
    refine ax_callV mv_Study_82 ⟨Nat.le_of_ble_eq_true rfl, Nat.le_of_ble_eq_true rfl⟩ ⟨rfl, rfl⟩ [.int v1] [.int v1, .ref 116] rfl rfl (rc_x_116 _) (Nat.le_of_ble_eq_true rfl) d_Study_figure_84 87 rfl (zc_Study_markHoping v1 m (ok_b h (fun p10 h => ?_)))
    exact ax_sub [1, 2, 3, 4, 0] rfl (c_Study_figure_J87 v1 v2 v3 t0 p10 (fun p hp => hR p hp) h)
set_option maxRecDepth 4000 in
theorem c_Study_figure_J52 (v1 : Int32) (v2 : Int32) (v3 : Int32) (m : zM)  {Q : Option Value → zM → Prop} {K : zM → Prop} (hR : ∀ p : zM, K (p) → Q none p)  (h : ok (f_Study_figure_J52 v1 v2 v3 m) K) : AX gX s_Study_figure 52 [(0, .ref 116), (1, .int v1), (2, .int v2), (3, .int v3)] [] m Q := by
  unfold f_Study_figure_J52 at h
  refine ax_aload_n 0 d_Study_figure_52 rfl rfl 53 rfl ?_
  refine ax_getR fl_Study_50 x_116 rfl (rx_116_15 _) d_Study_figure_53 56 rfl ?_
  refine ax_iload_n 2 d_Study_figure_56 rfl rfl 57 rfl ?_
  refine ax_iload_n 3 d_Study_figure_57 rfl rfl 58 rfl ?_
  refine ax_iastore x_128 d_Study_figure_58 59 rfl h (fun i7 m8 h => ?_)
  refine ax_aload_n 0 d_Study_figure_59 rfl rfl 60 rfl ?_
  refine ok_tb h (fun t9 ht9 et9 h => ?_)
  refine ax_getR fl_Study_66 x_116 rfl (ry_2 et9) d_Study_figure_60 63 rfl ?_
  refine ax_getI fl_Study_77 (sx_Table ht9) rfl d_Study_figure_63 66 rfl ?_
  refine ax_iconst (-1) d_Study_figure_66 ic_m1 67 rfl ?_
  refine ax_icmp_eq 74 70 d_Study_figure_67 rfl rfl (fun hc => ?_) (fun hc => ?_)
  · have h := ok_t hc h
    refine ax_iconst 0 d_Study_figure_74 ic_0 75 rfl ?_
    exact ax_sub [0, 1, 2, 3] rfl (c_Study_figure_J75 v1 v2 v3 false m8 (fun p hp => hR p hp) h)
  · have h := ok_f hc h
    refine ax_iconst 1 d_Study_figure_70 ic_1 71 rfl ?_
    refine ax_goto 75 d_Study_figure_71 rfl ?_
    exact ax_sub [0, 1, 2, 3] rfl (c_Study_figure_J75 v1 v2 v3 true m8 (fun p hp => hR p hp) h)
set_option maxRecDepth 4000 in
theorem c_Study_figure_B30 (v1 : Int32) (v2 : Int32) (v3 : Int32) (v4 : Int32) (m : zM)  {Q : Option Value → zM → Prop} {K : ((zM) ⊕ (Int32 × zM)) → Prop} (hR : ∀ p : zM, K (.inl p) → Q none p) (h0 : ∀ s : Int32 × zM, K (.inr s) → AX gX s_Study_figure 30 [(0, .ref 116), (1, .int v1), (2, .int v2), (3, .int v3), (4, .int s.1)] [] s.2 Q) (h : ok (f_Study_figure_B30 v1 v2 v3 v4 m) K) : AX gX s_Study_figure 30 [(0, .ref 116), (1, .int v1), (2, .int v2), (3, .int v3), (4, .int v4)] [] m Q := by
  unfold f_Study_figure_B30 at h
  refine ax_iload 4 d_Study_figure_30 rfl 32 rfl ?_
  refine ax_iconst 5 d_Study_figure_32 ic_5 33 rfl ?_
  refine ax_icmp_ge 52 36 d_Study_figure_33 rfl rfl (fun hc => ?_) (fun hc => ?_)
  · have h := ok_t hc h
    exact ax_sub [0, 1, 2, 3] rfl (c_Study_figure_J52 v1 v2 v3 m (fun p hp => hR p hp) (ok_z h))
  · have h := ok_f hc h
    refine ax_aload_n 0 d_Study_figure_36 rfl rfl 37 rfl ?_
    refine ax_getR fl_Study_50 x_116 rfl (rx_116_15 _) d_Study_figure_37 40 rfl ?_
    refine ax_iload_n 2 d_Study_figure_40 rfl rfl 41 rfl ?_
    refine ax_iload 4 d_Study_figure_41 rfl 43 rfl ?_
    refine ax_iadd d_Study_figure_43 44 rfl ?_
    refine ax_iconst 0 d_Study_figure_44 ic_0 45 rfl ?_
    refine ax_iastore x_128 d_Study_figure_45 46 rfl h (fun i5 m6 h => ?_)
    refine ax_iinc (ls1 := [(4, .int (v4 + 1)), (0, .ref 116), (1, .int v1), (2, .int v2), (3, .int v3)]) 4 1 d_Study_figure_46 rfl ic_1 (Nat.le_of_ble_eq_true rfl) rfl 49 rfl ?_
    refine ax_goto 30 d_Study_figure_49 rfl ?_
    exact ax_sub [1, 2, 3, 4, 0] rfl (h0 ((v4 + 1), m6) (ok_some h))
theorem c_Study_figure_L30 (v1 : Int32) (v2 : Int32) (v3 : Int32) (v4 : Int32) (m : zM)  {Q : Option Value → zM → Prop} {K : zM → Prop} (hR : ∀ p : zM, K (p) → Q none p)  (h : ok (f_Study_figure_L30 v1 v2 v3 v4 m) K) : AX gX s_Study_figure 30 [(0, .ref 116), (1, .int v1), (2, .int v2), (3, .int v3), (4, .int v4)] [] m Q :=
  ok_lp (K := K) (G := fun s : Int32 × zM => AX gX s_Study_figure 30 [(0, .ref 116), (1, .int v1), (2, .int v2), (3, .int v3), (4, .int s.1)] [] s.2 Q) (fun s h => c_Study_figure_B30 v1 v2 v3 s.1 s.2  (fun p hp => hR p hp) (fun s hs => hs) h) FU (v4, m) h
set_option maxRecDepth 4000 in
theorem zc_Study_figure (v1 : Int32) (m : zM)  {Q : Option Value → zM → Prop} (h : ok (f_Study_figure v1 m) (fun p => Q none p)) : zc gX s_Study_figure [.ref 116, .int v1] m Q := by
  refine zc_of rfl (Nat.le_of_ble_eq_true rfl) ?_
  show AX gX s_Study_figure 0 [(0, .ref 116), (1, .int v1)] [] m Q
  obtain ⟨K, hK⟩ : ∃ K : zM → Prop, K = (fun p : zM => Q none p) := ⟨_, rfl⟩
  have hR : ∀ p : zM, K p → Q none p := fun p hp => by rw [hK] at hp; exact hp
  replace h : ok (f_Study_figure v1 m) (fun p : zM => Q none p) := h
  rw [← hK] at h
  unfold f_Study_figure at h
  refine ax_aload_n 0 d_Study_figure_0 rfl rfl 1 rfl ?_
  refine ax_getR fl_Study_47 x_116 rfl (rx_116_14 _) d_Study_figure_1 4 rfl ?_
  refine ax_iload_n 1 d_Study_figure_4 rfl rfl 5 rfl ?_
  refine ax_baload x_127 d_Study_figure_5 6 rfl h (fun i1 h => ?_)
  refine ax_if_eq 10 9 d_Study_figure_6 rfl rfl (fun hc => ?_) (fun hc => ?_)
  · have h := ok_t hc h
    refine ax_aload_n 0 d_Study_figure_10 rfl rfl 11 rfl ?_
    refine ax_getR fl_Study_47 x_116 rfl (rx_116_14 _) d_Study_figure_11 14 rfl ?_
    refine ax_iload_n 1 d_Study_figure_14 rfl rfl 15 rfl ?_
    refine ax_iconst 1 d_Study_figure_15 ic_1 16 rfl ?_
    refine ax_zastore (y := true) x_127 d_Study_figure_16 17 rfl h (fun i2 m3 h => ?_)
    refine ax_iload_n 1 d_Study_figure_17 rfl rfl 18 rfl ?_
    refine ax_iconst 5 d_Study_figure_18 ic_5 19 rfl ?_
    refine ax_imul d_Study_figure_19 20 rfl ?_
    refine ax_istore_n (ls1 := [(2, .int (v1 * 5)), (0, .ref 116), (1, .int v1)]) d_Study_figure_20 rfl (Nat.le_of_ble_eq_true rfl) rfl 21 rfl ?_
    refine ax_aload_n 1 d_Study_figure_21 rfl rfl 22 rfl ?_
    refine ax_iload_n 2 d_Study_figure_22 rfl rfl 23 rfl ?_
    refine ax_callV mv_Study_163 ⟨Nat.le_of_ble_eq_true rfl, Nat.le_of_ble_eq_true rfl⟩ ⟨rfl, rfl⟩ [.int v1] [.int v1, .ref 116] rfl rfl (rc_x_116 _) (Nat.le_of_ble_eq_true rfl) d_Study_figure_23 26 rfl (zc_Study_reach v1 m3 (ok_b h (fun p4 h => ?_)))
    refine ax_istore_n (ls1 := [(3, .int p4.1), (2, .int (v1 * 5)), (0, .ref 116), (1, .int v1)]) d_Study_figure_26 rfl (Nat.le_of_ble_eq_true rfl) rfl 27 rfl ?_
    refine ax_iconst 0 d_Study_figure_27 ic_0 28 rfl ?_
    refine ax_istore (ls1 := [(4, .int 0), (3, .int p4.1), (2, .int (v1 * 5)), (0, .ref 116), (1, .int v1)]) d_Study_figure_28 (Nat.le_of_ble_eq_true rfl) rfl 30 rfl ?_
    exact ax_sub [3, 4, 2, 1, 0] rfl (c_Study_figure_L30 v1 (v1 * 5) p4.1 0 p4.2 (fun p hp => hR p hp) h)
  · have h := ok_f hc h
    exact ax_vret rfl d_Study_figure_9 (hR m (ok_some h))
set_option maxRecDepth 4000 in
theorem zc_Study_lacking (v1 : Int32) (v2 : Int32) (m : zM)  {Q : Option Value → zM → Prop} (h : ok (f_Study_lacking v1 v2 m) (fun p => Q (some (.int p.1)) p.2)) : zc gX s_Study_lacking [.ref 116, .int v1, .int v2] m Q := by
  refine zc_of rfl (Nat.le_of_ble_eq_true rfl) ?_
  show AX gX s_Study_lacking 0 [(0, .ref 116), (1, .int v1), (2, .int v2)] [] m Q
  obtain ⟨K, hK⟩ : ∃ K : (Int32 × zM) → Prop, K = (fun p : Int32 × zM => Q (some (.int p.1)) p.2) := ⟨_, rfl⟩
  have hR : ∀ p : Int32 × zM, K p → Q (some (.int p.1)) p.2 := fun p hp => by rw [hK] at hp; exact hp
  replace h : ok (f_Study_lacking v1 v2 m) (fun p : Int32 × zM => Q (some (.int p.1)) p.2) := h
  rw [← hK] at h
  unfold f_Study_lacking at h
  refine ax_aload_n 0 d_Study_lacking_0 rfl rfl 1 rfl ?_
  refine ax_iload_n 1 d_Study_lacking_1 rfl rfl 2 rfl ?_
  refine ax_callV mv_Study_160 ⟨Nat.le_of_ble_eq_true rfl, Nat.le_of_ble_eq_true rfl⟩ ⟨rfl, rfl⟩ [.int v1] [.int v1, .ref 116] rfl rfl (rc_x_116 _) (Nat.le_of_ble_eq_true rfl) d_Study_lacking_2 5 rfl (zc_Study_figure v1 m (ok_b h (fun p1 h => ?_)))
  refine ax_aload_n 0 d_Study_lacking_5 rfl rfl 6 rfl ?_
  refine ax_getR fl_Study_50 x_116 rfl (rx_116_15 _) d_Study_lacking_6 9 rfl ?_
  refine ax_iload_n 1 d_Study_lacking_9 rfl rfl 10 rfl ?_
  refine ax_iconst 5 d_Study_lacking_10 ic_5 11 rfl ?_
  refine ax_imul d_Study_lacking_11 12 rfl ?_
  refine ax_iload_n 2 d_Study_lacking_12 rfl rfl 13 rfl ?_
  refine ax_iadd d_Study_lacking_13 14 rfl ?_
  refine ax_iaload x_128 d_Study_lacking_14 15 rfl h (fun i2 h => ?_)
  exact ax_iret rfl d_Study_lacking_15 (hR ((p1.1 128 i2), p1) (ok_some h))
set_option maxRecDepth 4000 in
theorem zc_PA_without (v1 : Int32) (v2 : Int32) (m : zM)  {Q : Option Value → zM → Prop} (h : ok (f_PA_without v1 v2 m) (fun p => Q (some (.int p.1)) p.2)) : zc gX s_PA_without [.ref 0, .int v1, .int v2] m Q := by
  refine zc_of rfl (Nat.le_of_ble_eq_true rfl) ?_
  show AX gX s_PA_without 0 [(0, .ref 0), (1, .int v1), (2, .int v2)] [] m Q
  obtain ⟨K, hK⟩ : ∃ K : (Int32 × zM) → Prop, K = (fun p : Int32 × zM => Q (some (.int p.1)) p.2) := ⟨_, rfl⟩
  have hR : ∀ p : Int32 × zM, K p → Q (some (.int p.1)) p.2 := fun p hp => by rw [hK] at hp; exact hp
  replace h : ok (f_PA_without v1 v2 m) (fun p : Int32 × zM => Q (some (.int p.1)) p.2) := h
  rw [← hK] at h
  unfold f_PA_without at h
  refine ax_aload_n 0 d_PA_without_0 rfl rfl 1 rfl ?_
  refine ax_iload_n 1 d_PA_without_1 rfl rfl 2 rfl ?_
  refine ax_callV mv_PA_181 ⟨Nat.le_of_ble_eq_true rfl, Nat.le_of_ble_eq_true rfl⟩ ⟨rfl, rfl⟩ [.int v1] [.int v1, .ref 0] rfl rfl (rc_x_0 _) (Nat.le_of_ble_eq_true rfl) d_PA_without_2 5 rfl (zc_PA_isRule v1 m (ok_b h (fun r1 h => ?_)))
  refine ax_ifb_eq 17 8 d_PA_without_5 rfl rfl (fun hc => ?_) (fun hc => ?_)
  · have h := ok_f (bf hc) h
    refine ax_iconst (-1) d_PA_without_17 ic_m1 18 rfl ?_
    exact ax_iret rfl d_PA_without_18 (hR ((-1), m) (ok_some h))
  · have h := ok_t hc h
    refine ax_iload_n 2 d_PA_without_8 rfl rfl 9 rfl ?_
    refine ax_if_lt 17 12 d_PA_without_9 rfl rfl (fun hc => ?_) (fun hc => ?_)
    · have h := ok_t hc h
      refine ax_iconst (-1) d_PA_without_17 ic_m1 18 rfl ?_
      exact ax_iret rfl d_PA_without_18 (hR ((-1), m) (ok_some h))
    · have h := ok_f hc h
      refine ax_iload_n 2 d_PA_without_12 rfl rfl 13 rfl ?_
      refine ax_iconst 5 d_PA_without_13 ic_5 14 rfl ?_
      refine ax_icmp_lt 19 17 d_PA_without_14 rfl rfl (fun hc => ?_) (fun hc => ?_)
      · have h := ok_t hc h
        refine ax_aload_n 0 d_PA_without_19 rfl rfl 20 rfl ?_
        refine ax_getR fl_PA_80 x_0 rfl (rx_0_12 _) d_PA_without_20 23 rfl ?_
        refine ax_iload_n 1 d_PA_without_23 rfl rfl 24 rfl ?_
        refine ax_iload_n 2 d_PA_without_24 rfl rfl 25 rfl ?_
        refine ax_callV mv_PA_264 ⟨Nat.le_of_ble_eq_true rfl, Nat.le_of_ble_eq_true rfl⟩ ⟨rfl, rfl⟩ [.int v1, .int v2] [.int v2, .int v1, .ref 116] rfl rfl (rc_x_116 _) (Nat.le_of_ble_eq_true rfl) d_PA_without_25 28 rfl (zc_Study_lacking v1 v2 m (ok_b h (fun p2 h => ?_)))
        exact ax_iret rfl d_PA_without_28 (hR (p2.1, p2.2) (ok_some h))
      · have h := ok_f hc h
        refine ax_iconst (-1) d_PA_without_17 ic_m1 18 rfl ?_
        exact ax_iret rfl d_PA_without_18 (hR ((-1), m) (ok_some h))
set_option maxRecDepth 4000 in
theorem c_Study_isBetter_J38 (v4 : Int32) (v5 : Int32) (m : zM)  {Q : Option Value → zM → Prop} {K : Bool → Prop} (hR : ∀ p : Bool, K (p) → Q (some (.int (b2i p))) m)  (h : ok (f_Study_isBetter_J38 v4 v5 m) K) : AX gX s_Study_isBetter 38 [(4, .int v4), (5, .int v5)] [] m Q := by
  unfold f_Study_isBetter_J38 at h
  refine ax_iload 0 d_Study_isBetter_38 rfl 40 rfl ?_
  refine ax_iload 1 d_Study_isBetter_40 rfl 42 rfl ?_
  refine ax_icmp_ge 49 45 d_Study_isBetter_42 rfl rfl (fun hc => ?_) (fun hc => ?_)
  · have h := ok_t hc h
    refine ax_iconst 0 d_Study_isBetter_49 ic_0 50 rfl ?_
    exact ax_zret (b := false) rfl d_Study_isBetter_50 (hR false (ok_some h))
  · have h := ok_f hc h
    refine ax_iconst 1 d_Study_isBetter_45 ic_1 46 rfl ?_
    refine ax_goto 50 d_Study_isBetter_46 rfl ?_
    exact ax_zret (b := true) rfl d_Study_isBetter_50 (hR true (ok_some h))
set_option maxRecDepth 4000 in
theorem c_Study_isBetter_B2 (v1 : Int32) (v2 : Int32) (v3 : Int32) (m : zM)  {Q : Option Value → zM → Prop} {K : ((Bool) ⊕ (Int32)) → Prop} (hR : ∀ p : Bool, K (.inl p) → Q (some (.int (b2i p))) m) (h0 : ∀ s : Int32, K (.inr s) → AX gX s_Study_isBetter 2 [(0, .ref 116), (1, .int v1), (2, .int v2), (3, .int s)] [] m Q) (h : ok (f_Study_isBetter_B2 v1 v2 v3 m) K) : AX gX s_Study_isBetter 2 [(0, .ref 116), (1, .int v1), (2, .int v2), (3, .int v3)] [] m Q := by
  unfold f_Study_isBetter_B2 at h
  refine ax_iload_n 3 d_Study_isBetter_2 rfl rfl 3 rfl ?_
  refine ax_iconst 5 d_Study_isBetter_3 ic_5 4 rfl ?_
  refine ax_icmp_ge 57 7 d_Study_isBetter_4 rfl rfl (fun hc => ?_) (fun hc => ?_)
  · have h := ok_t hc h
    refine ax_iconst 0 d_Study_isBetter_57 ic_0 58 rfl ?_
    exact ax_zret (b := false) rfl d_Study_isBetter_58 (hR false (ok_some h))
  · have h := ok_f hc h
    refine ax_aload_n 0 d_Study_isBetter_7 rfl rfl 8 rfl ?_
    refine ax_getR fl_Study_50 x_116 rfl (rx_116_15 _) d_Study_isBetter_8 11 rfl ?_
    refine ax_iload_n 1 d_Study_isBetter_11 rfl rfl 12 rfl ?_
    refine ax_iconst 5 d_Study_isBetter_12 ic_5 13 rfl ?_
    refine ax_imul d_Study_isBetter_13 14 rfl ?_
    refine ax_iload_n 3 d_Study_isBetter_14 rfl rfl 15 rfl ?_
    refine ax_iadd d_Study_isBetter_15 16 rfl ?_
    refine ax_iaload x_128 d_Study_isBetter_16 17 rfl h (fun i1 h => ?_)
    refine ax_istore (ls1 := [(4, .int (m.1 128 i1)), (0, .ref 116), (1, .int v1), (2, .int v2), (3, .int v3)]) d_Study_isBetter_17 (Nat.le_of_ble_eq_true rfl) rfl 19 rfl ?_
    refine ax_aload_n 1 d_Study_isBetter_19 rfl rfl 20 rfl ?_
    refine ax_getR fl_Study_50 x_116 rfl (rx_116_15 _) d_Study_isBetter_20 23 rfl ?_
    refine ax_iload_n 3 d_Study_isBetter_23 rfl rfl 24 rfl ?_
    refine ax_iconst 5 d_Study_isBetter_24 ic_5 25 rfl ?_
    refine ax_imul d_Study_isBetter_25 26 rfl ?_
    refine ax_iload_n 4 d_Study_isBetter_26 rfl rfl 27 rfl ?_
    refine ax_iadd d_Study_isBetter_27 28 rfl ?_
    refine ax_iaload x_128 d_Study_isBetter_28 29 rfl h (fun i2 h => ?_)
    refine ax_istore (ls1 := [(5, .int (m.1 128 i2)), (4, .int (m.1 128 i1)), (0, .ref 116), (1, .int v1), (2, .int v2), (3, .int v3)]) d_Study_isBetter_29 (Nat.le_of_ble_eq_true rfl) rfl 31 rfl ?_
    refine ax_iload 1 d_Study_isBetter_31 rfl 33 rfl ?_
    refine ax_iload 0 d_Study_isBetter_33 rfl 35 rfl ?_
    refine ax_icmp_eq 51 38 d_Study_isBetter_35 rfl rfl (fun hc => ?_) (fun hc => ?_)
    · have h := ok_t hc h
      refine ax_iinc (ls1 := [(3, .int (v3 + 1)), (5, .int (m.1 128 i2)), (4, .int (m.1 128 i1)), (0, .ref 116), (1, .int v1), (2, .int v2)]) 5 1 d_Study_isBetter_51 rfl ic_1 (Nat.le_of_ble_eq_true rfl) rfl 54 rfl ?_
      refine ax_goto 2 d_Study_isBetter_54 rfl ?_
      exact ax_sub [3, 4, 5, 0] rfl (h0 (v3 + 1) (ok_some h))
    · have h := ok_f hc h
      exact ax_sub [1, 0] rfl (c_Study_isBetter_J38 (m.1 128 i1) (m.1 128 i2) m (fun p hp => hR p hp) (ok_z h))
theorem c_Study_isBetter_L2 (v1 : Int32) (v2 : Int32) (v3 : Int32) (m : zM)  {Q : Option Value → zM → Prop} {K : Bool → Prop} (hR : ∀ p : Bool, K (p) → Q (some (.int (b2i p))) m)  (h : ok (f_Study_isBetter_L2 v1 v2 v3 m) K) : AX gX s_Study_isBetter 2 [(0, .ref 116), (1, .int v1), (2, .int v2), (3, .int v3)] [] m Q :=
  ok_lp (K := K) (G := fun s : Int32 => AX gX s_Study_isBetter 2 [(0, .ref 116), (1, .int v1), (2, .int v2), (3, .int s)] [] m Q) (fun s h => c_Study_isBetter_B2 v1 v2 s m  (fun p hp => hR p hp) (fun s hs => hs) h) FU v3 h
set_option maxRecDepth 4000 in
theorem zc_Study_isBetter (v1 : Int32) (v2 : Int32) (m : zM)  {Q : Option Value → zM → Prop} (h : ok (f_Study_isBetter v1 v2 m) (fun p => Q (some (.int (b2i p))) m)) : zc gX s_Study_isBetter [.ref 116, .int v1, .int v2] m Q := by
  refine zc_of rfl (Nat.le_of_ble_eq_true rfl) ?_
  show AX gX s_Study_isBetter 0 [(0, .ref 116), (1, .int v1), (2, .int v2)] [] m Q
  obtain ⟨K, hK⟩ : ∃ K : Bool → Prop, K = (fun p : Bool => Q (some (.int (b2i p))) m) := ⟨_, rfl⟩
  have hR : ∀ p : Bool, K p → Q (some (.int (b2i p))) m := fun p hp => by rw [hK] at hp; exact hp
  replace h : ok (f_Study_isBetter v1 v2 m) (fun p : Bool => Q (some (.int (b2i p))) m) := h
  rw [← hK] at h
  unfold f_Study_isBetter at h
  refine ax_iconst 2 d_Study_isBetter_0 ic_2 1 rfl ?_
  refine ax_istore_n (ls1 := [(3, .int 2), (0, .ref 116), (1, .int v1), (2, .int v2)]) d_Study_isBetter_1 rfl (Nat.le_of_ble_eq_true rfl) rfl 2 rfl ?_
  exact ax_sub [1, 2, 3, 0] rfl (c_Study_isBetter_L2 v1 v2 2 m (fun p hp => hR p hp) h)
set_option maxRecDepth 4000 in
theorem c_Study_bestLeftOut_J45 (v1 : Int32) (v2 : Int32) (m : zM)  {Q : Option Value → zM → Prop} {K : ((Int32 × zM) ⊕ (Int32 × Int32 × zM)) → Prop} (hR : ∀ p : Int32 × zM, K (.inl p) → Q (some (.int p.1)) p.2) (h0 : ∀ s : Int32 × Int32 × zM, K (.inr s) → AX gX s_Study_bestLeftOut 18 [(0, .ref 116), (1, .int s.1), (2, .int s.2.1)] [] s.2.2 Q) (h : ok (f_Study_bestLeftOut_J45 v1 v2 m) K) : AX gX s_Study_bestLeftOut 45 [(0, .ref 116), (1, .int v1), (2, .int v2)] [] m Q := by
  unfold f_Study_bestLeftOut_J45 at h
  refine ax_iinc (ls1 := [(2, .int (v2 + 1)), (0, .ref 116), (1, .int v1)]) 2 1 d_Study_bestLeftOut_45 rfl ic_1 (Nat.le_of_ble_eq_true rfl) rfl 48 rfl ?_
  refine ax_goto 18 d_Study_bestLeftOut_48 rfl ?_
  exact ax_sub [1, 2, 0] rfl (h0 (v1, (v2 + 1), m) (ok_some h))
set_option maxRecDepth 4000 in
theorem c_Study_bestLeftOut_B18 (v1 : Int32) (v2 : Int32) (m : zM)  {Q : Option Value → zM → Prop} {K : ((Int32 × zM) ⊕ (Int32 × Int32 × zM)) → Prop} (hR : ∀ p : Int32 × zM, K (.inl p) → Q (some (.int p.1)) p.2) (h0 : ∀ s : Int32 × Int32 × zM, K (.inr s) → AX gX s_Study_bestLeftOut 18 [(0, .ref 116), (1, .int s.1), (2, .int s.2.1)] [] s.2.2 Q) (h : ok (f_Study_bestLeftOut_B18 v1 v2 m) K) : AX gX s_Study_bestLeftOut 18 [(0, .ref 116), (1, .int v1), (2, .int v2)] [] m Q := by
  unfold f_Study_bestLeftOut_B18 at h
  refine ax_iload_n 2 d_Study_bestLeftOut_18 rfl rfl 19 rfl ?_
  refine ax_aload_n 0 d_Study_bestLeftOut_19 rfl rfl 20 rfl ?_
  refine ok_tb h (fun t2 ht2 et2 h => ?_)
  refine ax_getR fl_Study_66 x_116 rfl (ry_2 et2) d_Study_bestLeftOut_20 23 rfl ?_
  refine ax_getI fl_Study_178 (sx_Table ht2) rfl d_Study_bestLeftOut_23 26 rfl ?_
  refine ax_icmp_ge 51 29 d_Study_bestLeftOut_26 rfl rfl (fun hc => ?_) (fun hc => ?_)
  · have h := ok_t hc h
    refine ax_iload_n 1 d_Study_bestLeftOut_51 rfl rfl 52 rfl ?_
    exact ax_iret rfl d_Study_bestLeftOut_52 (hR (v1, m) (ok_some h))
  · have h := ok_f hc h
    refine ax_aload_n 0 d_Study_bestLeftOut_29 rfl rfl 30 rfl ?_
    refine ax_iload_n 2 d_Study_bestLeftOut_30 rfl rfl 31 rfl ?_
    refine ax_callV mv_Study_160 ⟨Nat.le_of_ble_eq_true rfl, Nat.le_of_ble_eq_true rfl⟩ ⟨rfl, rfl⟩ [.int v2] [.int v2, .ref 116] rfl rfl (rc_x_116 _) (Nat.le_of_ble_eq_true rfl) d_Study_bestLeftOut_31 34 rfl (zc_Study_figure v2 m (ok_b h (fun p3 h => ?_)))
    refine ax_aload_n 0 d_Study_bestLeftOut_34 rfl rfl 35 rfl ?_
    refine ax_iload_n 2 d_Study_bestLeftOut_35 rfl rfl 36 rfl ?_
    refine ax_iload_n 1 d_Study_bestLeftOut_36 rfl rfl 37 rfl ?_
    refine ax_callV mv_Study_181 ⟨Nat.le_of_ble_eq_true rfl, Nat.le_of_ble_eq_true rfl⟩ ⟨rfl, rfl⟩ [.int v2, .int v1] [.int v1, .int v2, .ref 116] rfl rfl (rc_x_116 _) (Nat.le_of_ble_eq_true rfl) d_Study_bestLeftOut_37 40 rfl (zc_Study_isBetter v2 v1 p3 (ok_b h (fun r4 h => ?_)))
    refine ax_ifb_eq 45 43 d_Study_bestLeftOut_40 rfl rfl (fun hc => ?_) (fun hc => ?_)
    · have h := ok_f (bf hc) h
      exact ax_sub [0, 1, 2] rfl (c_Study_bestLeftOut_J45 v1 v2 p3 (fun p hp => hR p hp) (fun s hs => h0 s hs) h)
    · have h := ok_t hc h
      refine ax_iload_n 2 d_Study_bestLeftOut_43 rfl rfl 44 rfl ?_
      refine ax_istore_n (ls1 := [(1, .int v2), (0, .ref 116), (2, .int v2)]) d_Study_bestLeftOut_44 rfl (Nat.le_of_ble_eq_true rfl) rfl 45 rfl ?_
      exact ax_sub [1, 0, 2] rfl (c_Study_bestLeftOut_J45 v2 v2 p3 (fun p hp => hR p hp) (fun s hs => h0 s hs) h)
theorem c_Study_bestLeftOut_L18 (v1 : Int32) (v2 : Int32) (m : zM)  {Q : Option Value → zM → Prop} {K : (Int32 × zM) → Prop} (hR : ∀ p : Int32 × zM, K (p) → Q (some (.int p.1)) p.2)  (h : ok (f_Study_bestLeftOut_L18 v1 v2 m) K) : AX gX s_Study_bestLeftOut 18 [(0, .ref 116), (1, .int v1), (2, .int v2)] [] m Q :=
  ok_lp (K := K) (G := fun s : Int32 × Int32 × zM => AX gX s_Study_bestLeftOut 18 [(0, .ref 116), (1, .int s.1), (2, .int s.2.1)] [] s.2.2 Q) (fun s h => c_Study_bestLeftOut_B18 s.1 s.2.1 s.2.2  (fun p hp => hR p hp) (fun s hs => hs) h) FU (v1, v2, m) h
set_option maxRecDepth 4000 in
theorem c_Study_bestLeftOut_J15 (t0 : Int32) (m : zM)  {Q : Option Value → zM → Prop} {K : (Int32 × zM) → Prop} (hR : ∀ p : Int32 × zM, K (p) → Q (some (.int p.1)) p.2)  (h : ok (f_Study_bestLeftOut_J15 t0 m) K) : AX gX s_Study_bestLeftOut 15 [(0, .ref 116)] [.int t0] m Q := by
  unfold f_Study_bestLeftOut_J15 at h
  refine ax_istore_n (ls1 := [(1, .int t0), (0, .ref 116)]) d_Study_bestLeftOut_15 rfl (Nat.le_of_ble_eq_true rfl) rfl 16 rfl ?_
  refine ax_iconst 0 d_Study_bestLeftOut_16 ic_0 17 rfl ?_
  refine ax_istore_n (ls1 := [(2, .int 0), (1, .int t0), (0, .ref 116)]) d_Study_bestLeftOut_17 rfl (Nat.le_of_ble_eq_true rfl) rfl 18 rfl ?_
  exact ax_sub [2, 1, 0] rfl (c_Study_bestLeftOut_L18 t0 0 m (fun p hp => hR p hp) h)
set_option maxRecDepth 4000 in
theorem zc_Study_bestLeftOut  (m : zM)  {Q : Option Value → zM → Prop} (h : ok (f_Study_bestLeftOut m) (fun p => Q (some (.int p.1)) p.2)) : zc gX s_Study_bestLeftOut [.ref 116] m Q := by
  refine zc_of rfl (Nat.le_of_ble_eq_true rfl) ?_
  show AX gX s_Study_bestLeftOut 0 [(0, .ref 116)] [] m Q
  obtain ⟨K, hK⟩ : ∃ K : (Int32 × zM) → Prop, K = (fun p : Int32 × zM => Q (some (.int p.1)) p.2) := ⟨_, rfl⟩
  have hR : ∀ p : Int32 × zM, K p → Q (some (.int p.1)) p.2 := fun p hp => by rw [hK] at hp; exact hp
  replace h : ok (f_Study_bestLeftOut m) (fun p : Int32 × zM => Q (some (.int p.1)) p.2) := h
  rw [← hK] at h
  unfold f_Study_bestLeftOut at h
  refine ax_aload_n 0 d_Study_bestLeftOut_0 rfl rfl 1 rfl ?_
  refine ok_tb h (fun t1 ht1 et1 h => ?_)
  refine ax_getR fl_Study_66 x_116 rfl (ry_2 et1) d_Study_bestLeftOut_1 4 rfl ?_
  refine ax_getI fl_Study_178 (sx_Table ht1) rfl d_Study_bestLeftOut_4 7 rfl ?_
  refine ax_if_le 14 10 d_Study_bestLeftOut_7 rfl rfl (fun hc => ?_) (fun hc => ?_)
  · have h := ok_t hc h
    refine ax_iconst (-1) d_Study_bestLeftOut_14 ic_m1 15 rfl ?_
    exact ax_sub [0] rfl (c_Study_bestLeftOut_J15 (-1) m (fun p hp => hR p hp) h)
  · have h := ok_f hc h
    refine ax_iconst 0 d_Study_bestLeftOut_10 ic_0 11 rfl ?_
    refine ax_goto 15 d_Study_bestLeftOut_11 rfl ?_
    exact ax_sub [0] rfl (c_Study_bestLeftOut_J15 0 m (fun p hp => hR p hp) h)
