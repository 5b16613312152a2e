abbrev zW : Type := (Nat → Nat → Int32) × (Nat → Nat → Int64) × (Nat → Nat → Option Nat)
def wadd (w : zW) (n : Nat) : zW := ((fun k j => if k = n then 0 else w.1 k j), (fun k j => if k = n then 0 else w.2.1 k j), (fun k j => if k = n then none else w.2.2 k j))
def wI (w : zW) (a i : Nat) (x : Int32) : zW := ((fun k j => if k = a ∧ j = i then x else w.1 k j), w.2)
def wJ (w : zW) (a i : Nat) (x : Int64) : zW := (w.1, (fun k j => if k = a ∧ j = i then x else w.2.1 k j), w.2.2)
def wR (w : zW) (a i x : Nat) : zW := (w.1, w.2.1, (fun k j => if k = a ∧ j = i then some x else w.2.2 k j))
abbrev zQs : Type := Nat ⊕ (Nat × Nat)
theorem sh_l {s L : List zQs} {a : Nat} {q : zQs} (h : s[a]? = some q) : (s ++ L)[a]? = some q := by rw [List.getElem?_append_left (List.getElem?_eq_some_iff.mp h).1]; exact h
theorem sh_r {s L : List zQs} {n j : Nat} {q : zQs} (hn : s.length = n) (h : L[j]? = some q) : (s ++ L)[n + j]? = some q := by
  subst hn
  rw [List.getElem?_append_right (Nat.le_add_right _ _), Nat.add_sub_cancel_left]
  exact h
theorem ln {s L : List zQs} {n : Nat} (hn : s.length = n) (k : Nat) (hk : L.length = k) : (s ++ L).length = n + k := by rw [List.length_append, hn, hk]
theorem wadd_r {w : zW} {n k j : Nat} (h : ¬ k = n) : (wadd w n).2.2 k j = w.2.2 k j := if_neg h
theorem wR_r1 {w : zW} {a i x : Nat} : (wR w a i x).2.2 a i = some x := if_pos ⟨rfl, rfl⟩
theorem wR_r2 {w : zW} {a i x k j : Nat} (h : ¬ (k = a ∧ j = i)) : (wR w a i x).2.2 k j = w.2.2 k j := if_neg h
theorem wI_r {w : zW} {a i k j : Nat} {x : Int32} : (wI w a i x).2.2 k j = w.2.2 k j := rfl
theorem wJ_r {w : zW} {a i k j : Nat} {x : Int64} : (wJ w a i x).2.2 k j = w.2.2 k j := rfl
theorem vpd {j : Int32} {n : Nat} (h : decide (¬ (j < 0 ∨ n ≤ j.toNatClampNeg)) = true) : vp_in j n := (of_decide_eq_true h : ¬ (j < 0 ∨ n ≤ j.toNatClampNeg))
theorem ay_newa {S : zS} {kc ks pc : Nat} {ls : List (Nat × Value)} {st : List Value} {s' : List zQs} {w : zW} {Q : Option Value → zH → Prop} {at_ : ArrayType} {t n : Nat} {x : Int32} (a : Nat) (ha : s'.length = a) (h9 : a < 900) (s2 : List zQs) (hs2 : s' ++ [.inr (t, n)] = s2) (hty : newarray.typeOf at_ = zty t) (ht : t < 4) (hac : Cond.arrayClass (zty t) ∈ ztb) (hx : ¬ x < 0) (hn : x.toNatClampNeg = n) (hby : n * componentBytes (zty t) ≤ 536870912) (hkc : kc + 1 ≤ S.2.2.2.2.cells) (hks : ks + n ≤ S.2.2.2.2.slots) (hd : decode S.2.1 pc = .ok (.newarray at_, 2))
    (k : AW S true (kc + 1) (ks + n) (pc + 2) ls (.ref a :: st) (s2, wadd w a) Q) : AW S true kc ks pc ls (.int x :: st) (s', w) Q := by
  subst ha
  subst hs2
  exact aw_newa (h := (s', w)) h9 hty ht hac hx hn hby hkc hks hd k
theorem ay_newq {S : zS} {kc ks pc : Nat} {ls : List (Nat × Value)} {st : List Value} {s' : List zQs} {w : zW} {Q : Option Value → zH → Prop} {ix n : Nat} {x : Int32} (a : Nat) (ha : s'.length = a) (h9 : a < 900) (s2 : List zQs) (hs2 : s' ++ [.inr (4, n)] = s2) (hcl : Cond.classLink S.1.cls ix "ProtocolAtlas$Row" ∈ ztb) (hx : ¬ x < 0) (hn : x.toNatClampNeg = n) (hby : n * 4 ≤ 536870912) (hkc : kc + 1 ≤ S.2.2.2.2.cells) (hks : ks + n ≤ S.2.2.2.2.slots) (hd : decode S.2.1 pc = .ok (.anewarray ix, 3))
    (k : AW S true (kc + 1) (ks + n) (pc + 3) ls (.ref a :: st) (s2, wadd w a) Q) : AW S true kc ks pc ls (.int x :: st) (s', w) Q := by
  subst ha
  subst hs2
  exact aw_newq (h := (s', w)) h9 hcl hx hn hby hkc hks hd k
theorem ay_new {S : zS} {kc ks pc : Nat} {ls : List (Nat × Value)} {st : List Value} {s' : List zQs} {w : zW} {Q : Option Value → zH → Prop} {ix ci : Nat} {C : String} {T : u_T} {N : Nat} {ty : Nat → FieldType} (a : Nat) (ha : s'.length = a) (h9 : a < 900) (s2 : List zQs) (hs2 : s' ++ [.inl ci] = s2) (hk : zcls ci C T N ty) (hty2 : ∀ k, k < N → (ty k = .int ∨ ty k = .boolean ∨ ty k = .long ∨ (∃ cn, ty k = .object cn) ∨ ∃ t, ty k = .array t)) (hcl : Cond.classLink S.1.cls ix C ∈ ztb) (hins : Cond.instantiable C N ∈ ztb) (hini : Cond.initialized C ∈ ztb) (hkc : kc + 1 ≤ S.2.2.2.2.cells) (hks : ks + N ≤ S.2.2.2.2.slots) (hd : decode S.2.1 pc = .ok (.new ix, 3))
    (k : AW S true (kc + 1) (ks + N) (pc + 3) ls (.ref a :: st) (s2, wadd w a) Q) : AW S true kc ks pc ls st (s', w) Q := by
  subst ha
  subst hs2
  exact aw_new (h := (s', w)) h9 hk hty2 hcl hins hini hkc hks hd k
theorem ay_putI {S : zS} {kc ks pc : Nat} {ls : List (Nat × Value)} {st : List Value} {s' : List zQs} {w : zW} {Q : Option Value → zH → Prop} {ix ci i : Nat} {C : String} {T : u_T} {N : Nat} {ty : Nat → FieldType} (hk : zFL S.1.cls ix ci i C T N ty) {a : Nat} (ha : s'[a]? = some (.inl ci)) {x : Int32} (hfin : (T i).2.2.2 = false) (hty : ty i = .int) (hkd : (zkd ci).getD i 9 = 0) (hi : i < (zkd ci).length) (hd : decode S.2.1 pc = .ok (.putfield ix, 3)) (k : AW S true kc ks (pc + 3) ls st (s', wI w a i x) Q) : AW S true kc ks pc ls (.int x :: .ref a :: st) (s', w) Q := aw_putI (h := (s', w)) hk ha hfin hty hkd hi hd k
theorem ay_putZ {S : zS} {kc ks pc : Nat} {ls : List (Nat × Value)} {st : List Value} {s' : List zQs} {w : zW} {Q : Option Value → zH → Prop} {ix ci i : Nat} {C : String} {T : u_T} {N : Nat} {ty : Nat → FieldType} (hk : zFL S.1.cls ix ci i C T N ty) {a : Nat} (ha : s'[a]? = some (.inl ci)) {x : Int32} (hx : x = 0 ∨ x = 1) (hfin : (T i).2.2.2 = false) (hty : ty i = .boolean) (hkd : (zkd ci).getD i 9 = 0) (hi : i < (zkd ci).length) (hd : decode S.2.1 pc = .ok (.putfield ix, 3)) (k : AW S true kc ks (pc + 3) ls st (s', wI w a i x) Q) : AW S true kc ks pc ls (.int x :: .ref a :: st) (s', w) Q := aw_putZ (h := (s', w)) hk ha hfin hty hkd hi hx hd k
theorem ay_putJ {S : zS} {kc ks pc : Nat} {ls : List (Nat × Value)} {st : List Value} {s' : List zQs} {w : zW} {Q : Option Value → zH → Prop} {ix ci i : Nat} {C : String} {T : u_T} {N : Nat} {ty : Nat → FieldType} (hk : zFL S.1.cls ix ci i C T N ty) {a : Nat} (ha : s'[a]? = some (.inl ci)) {x : Int64} (hfin : (T i).2.2.2 = false) (hty : ty i = .long) (hkd : (zkd ci).getD i 9 = 1) (hi : i < (zkd ci).length) (hd : decode S.2.1 pc = .ok (.putfield ix, 3)) (k : AW S true kc ks (pc + 3) ls st (s', wJ w a i x) Q) : AW S true kc ks pc ls (.long x :: .ref a :: st) (s', w) Q := aw_putJ (h := (s', w)) hk ha hfin hty hkd hi hd k
theorem ay_putR {S : zS} {kc ks pc : Nat} {ls : List (Nat × Value)} {st : List Value} {s' : List zQs} {w : zW} {Q : Option Value → zH → Prop} {ix ci i : Nat} {C : String} {T : u_T} {N : Nat} {ty : Nat → FieldType} (hk : zFL S.1.cls ix ci i C T N ty) {a : Nat} (ha : s'[a]? = some (.inl ci)) {x : Nat} {cn : String} (hfin : (T i).2.2.2 = false) (hty : ty i = .object cn) (hkd : (zkd ci).getD i 9 = 2) (hi : i < (zkd ci).length) (hd : decode S.2.1 pc = .ok (.putfield ix, 3)) (k : AW S true kc ks (pc + 3) ls st (s', wR w a i x) Q) : AW S true kc ks pc ls (.ref x :: .ref a :: st) (s', w) Q := aw_putR (h := (s', w)) hk ha hfin hty hkd hi hd k
theorem ay_putFR {S : zS} {kc ks pc : Nat} {ls : List (Nat × Value)} {st : List Value} {s' : List zQs} {w : zW} {Q : Option Value → zH → Prop} {ix ci i : Nat} {C : String} {T : u_T} {N : Nat} {ty : Nat → FieldType} (hk : zFL S.1.cls ix ci i C T N ty) {a : Nat} (ha : s'[a]? = some (.inl ci)) {x : Nat} (hnl : Cond.fieldLink S.1.cls ix C (T i).2.1 (T i).2.2.1 ∈ ztb) (hfin : (T i).2.2.2 = true) (hin2 : S.1.name = "<init>") (hdc : C = S.1.cls) (hty : (∃ cn, ty i = .object cn) ∨ ∃ t, ty i = .array t) (hkd : (zkd ci).getD i 9 = 2) (hi : i < (zkd ci).length) (hd : decode S.2.1 pc = .ok (.putfield ix, 3)) (k : AW S true kc ks (pc + 3) ls st (s', wR w a i x) Q) : AW S true kc ks pc ls (.ref x :: .ref a :: st) (s', w) Q := aw_putFR (h := (s', w)) hk ha hnl hfin hin2 hdc hty hkd hi hd k
theorem ay_getR {S : zS} {kc ks pc : Nat} {ls : List (Nat × Value)} {st : List Value} {s' : List zQs} {w : zW} {Q : Option Value → zH → Prop} {ix ci i : Nat} {C : String} {T : u_T} {N : Nat} {ty : Nat → FieldType} (hk : zFL S.1.cls ix ci i C T N ty) {a : Nat} (ha : s'[a]? = some (.inl ci)) (hkd : (zkd ci).getD i 9 = 2) (b : Nat) (hr : w.2.2 a i = some b) (hd : decode S.2.1 pc = .ok (.getfield ix, 3)) (k : AW S true kc ks (pc + 3) ls (.ref b :: st) (s', w) Q) : AW S true kc ks pc ls (.ref a :: st) (s', w) Q := aw_getR (h := (s', w)) hk ha hkd hr hd k
theorem ay_castore {S : zS} {kc ks pc : Nat} {ls : List (Nat × Value)} {st : List Value} {s' : List zQs} {w : zW} {Q : Option Value → zH → Prop} {a n i : Nat} {j x : Int32} (ha : s'[a]? = some (.inr (2, n))) (hin : vp_in j n) (hi : j.toNatClampNeg = i) (hx : vp_nar .char x = x) (hd : decode S.2.1 pc = .ok (.castore, 1)) (k : AW S true kc ks (pc + 1) ls st (s', wI w a i x) Q) : AW S true kc ks pc ls (.int x :: .int j :: .ref a :: st) (s', w) Q := by
  subst hi
  refine aw_castore (h := (s', w)) ha hin hd ?_
  rw [hx]
  exact k
theorem ay_aastore {S : zS} {kc ks pc : Nat} {ls : List (Nat × Value)} {st : List Value} {s' : List zQs} {w : zW} {Q : Option Value → zH → Prop} {a n v i : Nat} {j : Int32} (ha : s'[a]? = some (.inr (4, n))) (hv : s'[v]? = some (.inl 5)) (hin : vp_in j n) (hi : j.toNatClampNeg = i) (hd : decode S.2.1 pc = .ok (.aastore, 1))
    (k : AW S true kc ks (pc + 1) ls st (s', wR w a i v) Q) : AW S true kc ks pc ls (.ref v :: .int j :: .ref a :: st) (s', w) Q := by
  subst hi
  intro l p e s m args below meth c D cA ad A H locs lv hC hH hl
  have hlt : j.toNatClampNeg < n := Nat.not_le.mp fun q => hin (Or.inr q)
  have h0 : ¬ j < 0 := fun q => hin (Or.inl q)
  have hK := hC.2.2.2.2.2.2.2.2.1
  have ha' := zws_at (cA := cA) (ad := ad) (h := (s', w)) ha
  have hv' := zws_at (cA := cA) (ad := ad) (h := (s', w)) hv
  obtain ⟨r', hr', cellV, g1, g2, g3, -⟩ := hH.1 v _ hv'
  have hcls := (hK.1 5 (R_Row, F_Row, 8) rfl).2
  obtain ⟨kA, comp, k1, k2, k3, -⟩ := (hK.2 4 _ rfl).2
  have hcomp : comp = D.1 5 := Option.some.inj (k3.symm.trans hcls.1)
  subst hcomp
  obtain ⟨kC, hkC, -⟩ := hcls.2
  refine W.aast hC.1 hC.2.1 (hH.1 a _ ha') (fun q h => by cases h) (fun h => by cases h) k1 k2 rfl hkC ⟨h0, by show _ < (arrV _ _ _).slots.size; rw [arrV_size]; exact hlt⟩ g1 (fun q h => by rw [g3] at h; cases h) (by rw [g2]; exact hkC) (by rw [g2]; exact va_assign hcls) rfl rfl hd fun H1 e1 z oq => ?_
  have e2 : va_at D zcl (ad a, .inl (cA 4, n, .inr (.inr (.inr (.inr (va_up (fun x => ((s', w) : zH).2.2.2 a x |>.map ad) j.toNatClampNeg (some (ad v)))))))) H1 := by
    show H1[ad a]? = some (vp_cell _ _)
    rw [e1]
    show some (Cell.setSlot (vp_cell _ (n, .inr (.inr (.inr (.inr (fun x => (((s', w) : zH).2.2.2 a x).map ad)))))) _ _) = _
    rw [vp_cell_q, vp_cell_q, arrV_store]
    congr 2
    funext q
    by_cases hq : q = j.toNatClampNeg
    · subst hq
      simp [updV, va_up, va_rf]
    · simp [updV, va_up, hq]
  have hP1 := hH.1.set hH.2.1 ha' e2 oq
  have hD1 := hH.2.1.set (e := .inl (cA 4, n, .inr (.inr (.inr (.inr (va_up (fun x => (((s', w) : zH).2.2.2 a x).map ad) j.toNatClampNeg (some (ad v)))))))) ha'
  rw [zws_astR (h := (s', w)) ha] at hP1 hD1
  exact k l p e s m args below meth c D cA ad A H1 _ lv hC ⟨hP1, hD1, hH.2.2.1.put z oq (hH.2.1.2 a _ ha'), fun q => by rw [z]; exact hH.2.2.2 q⟩ hl

theorem fl_MO_117 : zFL R_MO 117 12 49 R_MO F_MO 85 t_MO := ⟨zk_MO, Nat.le_of_ble_eq_true rfl, Or.inl (ztb_7 (i := 38) rfl rfl)⟩
def F_Bytes_init (n a : Nat)  (w : zW) : zW := (wI (wR (wadd w (n + 0)) a 0 (n + 0)) a 1 0)
set_option maxRecDepth 100000 in
set_option maxHeartbeats 4000000 in
theorem zi_Bytes_init {s : List zQs} {n : Nat} (a : Nat) (w : zW) (hn : s.length = n) (h9 : n + 1 ≤ 900) (ha : s[a]? = some (.inl 1))  {Q : Option Value → zH → Prop} (hq : Q none (s ++ [.inr (0, 1600)], F_Bytes_init n a  w)) : zCall s_Bytes_init true [.ref a] (s, w) Q := by
  refine zcall_of rfl (Nat.le_of_ble_eq_true rfl) ?_
  show AW s_Bytes_init true 0 0 0 [(0, .ref a)] [] (s, w) _
  rw [← List.append_nil s]
  have hlt : a < n := by rw [← hn]; exact (List.getElem?_eq_some_iff.mp ha).1
  refine aw_aload_n 0 d_Bytes_init_0 rfl rfl ?_
  refine aw_objInit (st := []) (ztb_1 (i := 34) rfl rfl) (ztb_1 (i := 27) rfl rfl) (ztb_1 (i := 28) rfl rfl) (Nat.le_of_ble_eq_true rfl) (Nat.le_of_ble_eq_true rfl) d_Bytes_init_1 ?_
  refine aw_aload_n 0 d_Bytes_init_4 rfl rfl ?_
  refine aw_sipush 1600 d_Bytes_init_5 (by decide) ?_
  refine ay_newa (t := 0) (n := 1600) (n + 0) (ln hn 0 rfl) (by omega) (s ++ [.inr (0, 1600)]) (List.append_assoc s _ _) rfl (by decide) (ztb_1 (i := 42) rfl rfl) (by decide) (by decide) (Nat.le_of_ble_eq_true rfl) (Nat.le_of_ble_eq_true rfl) (Nat.le_of_ble_eq_true rfl) d_Bytes_init_8 ?_
  refine ay_putFR fl_Bytes_9 (sh_l ha) (ztb_1 (i := 35) rfl rfl) rfl rfl rfl (Or.inr ⟨_, rfl⟩) rfl (Nat.le_of_ble_eq_true rfl) d_Bytes_init_10 ?_
  refine aw_aload_n 0 d_Bytes_init_13 rfl rfl ?_
  refine aw_iconst 0 d_Bytes_init_14 (by decide) ?_
  refine ay_putI fl_Bytes_15 (sh_l ha) rfl rfl rfl (Nat.le_of_ble_eq_true rfl) d_Bytes_init_15 ?_
  exact aw_vret (st := []) (Nat.le_of_ble_eq_true rfl) (Nat.le_of_ble_eq_true rfl) rfl d_Bytes_init_18 hq
def F_Index_init (n a : Nat)  (w : zW) : zW := (wR (wadd (wR (wadd w (n + 0)) a 0 (n + 0)) (n + 1)) a 1 (n + 1))
set_option maxRecDepth 100000 in
set_option maxHeartbeats 4000000 in
theorem zi_Index_init {s : List zQs} {n : Nat} (a : Nat) (w : zW) (hn : s.length = n) (h9 : n + 2 ≤ 900) (ha : s[a]? = some (.inl 2))  {Q : Option Value → zH → Prop} (hq : Q none (s ++ [.inr (3, 2048), .inr (0, 2048)], F_Index_init n a  w)) : zCall s_Index_init true [.ref a] (s, w) Q := by
  refine zcall_of rfl (Nat.le_of_ble_eq_true rfl) ?_
  show AW s_Index_init true 0 0 0 [(0, .ref a)] [] (s, w) _
  rw [← List.append_nil s]
  have hlt : a < n := by rw [← hn]; exact (List.getElem?_eq_some_iff.mp ha).1
  refine aw_aload_n 0 d_Index_init_0 rfl rfl ?_
  refine aw_objInit (st := []) (ztb_1 (i := 54) rfl rfl) (ztb_1 (i := 27) rfl rfl) (ztb_1 (i := 28) rfl rfl) (Nat.le_of_ble_eq_true rfl) (Nat.le_of_ble_eq_true rfl) d_Index_init_1 ?_
  refine aw_aload_n 0 d_Index_init_4 rfl rfl ?_
  refine aw_sipush 2048 d_Index_init_5 (by decide) ?_
  refine ay_newa (t := 3) (n := 2048) (n + 0) (ln hn 0 rfl) (by omega) (s ++ [.inr (3, 2048)]) (List.append_assoc s _ _) rfl (by decide) (ztb_1 (i := 62) rfl rfl) (by decide) (by decide) (Nat.le_of_ble_eq_true rfl) (Nat.le_of_ble_eq_true rfl) (Nat.le_of_ble_eq_true rfl) d_Index_init_8 ?_
  refine ay_putFR fl_Index_11 (sh_l ha) (ztb_1 (i := 55) rfl rfl) rfl rfl rfl (Or.inr ⟨_, rfl⟩) rfl (Nat.le_of_ble_eq_true rfl) d_Index_init_10 ?_
  refine aw_aload_n 0 d_Index_init_13 rfl rfl ?_
  refine aw_sipush 2048 d_Index_init_14 (by decide) ?_
  refine ay_newa (t := 0) (n := 2048) (n + 1) (ln hn 1 rfl) (by omega) (s ++ [.inr (3, 2048), .inr (0, 2048)]) (List.append_assoc s _ _) rfl (by decide) (ztb_1 (i := 42) rfl rfl) (by decide) (by decide) (Nat.le_of_ble_eq_true rfl) (Nat.le_of_ble_eq_true rfl) (Nat.le_of_ble_eq_true rfl) d_Index_init_17 ?_
  refine ay_putFR fl_Index_15 (sh_l ha) (ztb_1 (i := 56) rfl rfl) rfl rfl rfl (Or.inr ⟨_, rfl⟩) rfl (Nat.le_of_ble_eq_true rfl) d_Index_init_19 ?_
  exact aw_vret (st := []) (Nat.le_of_ble_eq_true rfl) (Nat.le_of_ble_eq_true rfl) rfl d_Index_init_22 hq
def F_World_init (n a : Nat)  (w : zW) : zW := (wR (wadd (wR (wadd (wR (wadd (wI (wI w a 0 (-1)) a 1 0) (n + 0)) a 2 (n + 0)) (n + 1)) a 3 (n + 1)) (n + 2)) a 4 (n + 2))
set_option maxRecDepth 100000 in
set_option maxHeartbeats 4000000 in
theorem zi_World_init {s : List zQs} {n : Nat} (a : Nat) (w : zW) (hn : s.length = n) (h9 : n + 3 ≤ 900) (ha : s[a]? = some (.inl 10))  {Q : Option Value → zH → Prop} (hq : Q none (s ++ [.inr (0, 4), .inr (0, 4), .inr (0, 4)], F_World_init n a  w)) : zCall s_World_init true [.ref a] (s, w) Q := by
  refine zcall_of rfl (Nat.le_of_ble_eq_true rfl) ?_
  show AW s_World_init true 0 0 0 [(0, .ref a)] [] (s, w) _
  rw [← List.append_nil s]
  have hlt : a < n := by rw [← hn]; exact (List.getElem?_eq_some_iff.mp ha).1
  refine aw_aload_n 0 d_World_init_0 rfl rfl ?_
  refine aw_objInit (st := []) (ztb_1 (i := 68) rfl rfl) (ztb_1 (i := 27) rfl rfl) (ztb_1 (i := 28) rfl rfl) (Nat.le_of_ble_eq_true rfl) (Nat.le_of_ble_eq_true rfl) d_World_init_1 ?_
  refine aw_aload_n 0 d_World_init_4 rfl rfl ?_
  refine aw_iconst (-1) d_World_init_5 (by decide) ?_
  refine ay_putI fl_World_9 (sh_l ha) rfl rfl rfl (Nat.le_of_ble_eq_true rfl) d_World_init_6 ?_
  refine aw_aload_n 0 d_World_init_9 rfl rfl ?_
  refine aw_iconst 0 d_World_init_10 (by decide) ?_
  refine ay_putI fl_World_15 (sh_l ha) rfl rfl rfl (Nat.le_of_ble_eq_true rfl) d_World_init_11 ?_
  refine aw_aload_n 0 d_World_init_14 rfl rfl ?_
  refine aw_iconst 4 d_World_init_15 (by decide) ?_
  refine ay_newa (t := 0) (n := 4) (n + 0) (ln hn 0 rfl) (by omega) (s ++ [.inr (0, 4)]) (List.append_assoc s _ _) rfl (by decide) (ztb_1 (i := 42) rfl rfl) (by decide) (by decide) (Nat.le_of_ble_eq_true rfl) (Nat.le_of_ble_eq_true rfl) (Nat.le_of_ble_eq_true rfl) d_World_init_16 ?_
  refine ay_putFR fl_World_18 (sh_l ha) (ztb_1 (i := 77) rfl rfl) rfl rfl rfl (Or.inr ⟨_, rfl⟩) rfl (Nat.le_of_ble_eq_true rfl) d_World_init_18 ?_
  refine aw_aload_n 0 d_World_init_21 rfl rfl ?_
  refine aw_iconst 4 d_World_init_22 (by decide) ?_
  refine ay_newa (t := 0) (n := 4) (n + 1) (ln hn 1 rfl) (by omega) (s ++ [.inr (0, 4), .inr (0, 4)]) (List.append_assoc s _ _) rfl (by decide) (ztb_1 (i := 42) rfl rfl) (by decide) (by decide) (Nat.le_of_ble_eq_true rfl) (Nat.le_of_ble_eq_true rfl) (Nat.le_of_ble_eq_true rfl) d_World_init_23 ?_
  refine ay_putFR fl_World_22 (sh_l ha) (ztb_1 (i := 82) rfl rfl) rfl rfl rfl (Or.inr ⟨_, rfl⟩) rfl (Nat.le_of_ble_eq_true rfl) d_World_init_25 ?_
  refine aw_aload_n 0 d_World_init_28 rfl rfl ?_
  refine aw_iconst 4 d_World_init_29 (by decide) ?_
  refine ay_newa (t := 0) (n := 4) (n + 2) (ln hn 2 rfl) (by omega) (s ++ [.inr (0, 4), .inr (0, 4), .inr (0, 4)]) (List.append_assoc s _ _) rfl (by decide) (ztb_1 (i := 42) rfl rfl) (by decide) (by decide) (Nat.le_of_ble_eq_true rfl) (Nat.le_of_ble_eq_true rfl) (Nat.le_of_ble_eq_true rfl) d_World_init_30 ?_
  refine ay_putFR fl_World_25 (sh_l ha) (ztb_1 (i := 84) rfl rfl) rfl rfl rfl (Or.inr ⟨_, rfl⟩) rfl (Nat.le_of_ble_eq_true rfl) d_World_init_32 ?_
  exact aw_vret (st := []) (Nat.le_of_ble_eq_true rfl) (Nat.le_of_ble_eq_true rfl) rfl d_World_init_35 hq
theorem mi_Search_11 : zLI R_Search 11 s_Index_init 0 := ⟨⟨by decide, by decide, by decide +kernel⟩, rfl, rfl, (ztb_1 (i := 53) rfl rfl), (ztb_1 (i := 52) rfl rfl), (ztb_1 (i := 4) rfl rfl), Or.inr ⟨"ProtocolAtlas", znw_at (i := 2) rfl⟩⟩
theorem mi_Search_37 : zLI R_Search 37 s_World_init 0 := ⟨⟨by decide, by decide, by decide +kernel⟩, rfl, rfl, (ztb_1 (i := 67) rfl rfl), (ztb_1 (i := 66) rfl rfl), (ztb_1 (i := 5) rfl rfl), Or.inr ⟨"ProtocolAtlas", znw_at (i := 3) rfl⟩⟩
def F_Search_init (n a : Nat)  (w : zW) : zW := (wI (wR (F_World_init (n + 13) (n + 12) (wadd (wR (F_World_init (n + 9) (n + 8) (wadd (wR (wadd (wR (wadd (wR (wadd (wR (wadd (wR (wadd (wR (F_Index_init (n + 1) (n + 0) (wadd w (n + 0))) a 0 (n + 0)) (n + 3)) a 1 (n + 3)) (n + 4)) a 2 (n + 4)) (n + 5)) a 3 (n + 5)) (n + 6)) a 4 (n + 6)) (n + 7)) a 5 (n + 7)) (n + 8))) a 6 (n + 8)) (n + 12))) a 7 (n + 12)) a 8 0)
set_option maxRecDepth 100000 in
set_option maxHeartbeats 4000000 in
theorem zi_Search_init {s : List zQs} {n : Nat} (a : Nat) (w : zW) (hn : s.length = n) (h9 : n + 16 ≤ 900) (ha : s[a]? = some (.inl 6))  {Q : Option Value → zH → Prop} (hq : Q none (s ++ [.inl 2, .inr (3, 2048), .inr (0, 2048), .inr (3, 600), .inr (3, 600), .inr (0, 600), .inr (0, 600), .inr (0, 600), .inl 10, .inr (0, 4), .inr (0, 4), .inr (0, 4), .inl 10, .inr (0, 4), .inr (0, 4), .inr (0, 4)], F_Search_init n a  w)) : zCall s_Search_init true [.ref a] (s, w) Q := by
  refine zcall_of rfl (Nat.le_of_ble_eq_true rfl) ?_
  show AW s_Search_init true 0 0 0 [(0, .ref a)] [] (s, w) _
  rw [← List.append_nil s]
  have hlt : a < n := by rw [← hn]; exact (List.getElem?_eq_some_iff.mp ha).1
  refine aw_aload_n 0 d_Search_init_0 rfl rfl ?_
  refine aw_objInit (st := []) (ztb_1 (i := 48) rfl rfl) (ztb_1 (i := 27) rfl rfl) (ztb_1 (i := 28) rfl rfl) (Nat.le_of_ble_eq_true rfl) (Nat.le_of_ble_eq_true rfl) d_Search_init_1 ?_
  refine aw_aload_n 0 d_Search_init_4 rfl rfl ?_
  refine ay_new (n + 0) (ln hn 0 rfl) (by omega) (s ++ [.inl 2]) (List.append_assoc s _ _) zk_Index ty2_Index (ztb_1 (i := 49) rfl rfl) (ztb_1 (i := 50) rfl rfl) (ztb_1 (i := 4) rfl rfl) (Nat.le_of_ble_eq_true rfl) (Nat.le_of_ble_eq_true rfl) d_Search_init_5 ?_
  refine aw_dup d_Search_init_8 rfl ?_
  refine aw_callI mi_Search_11 ⟨Nat.le_of_ble_eq_true rfl, Nat.le_of_ble_eq_true rfl⟩ [] [.ref (n + 0), .ref (n + 0), .ref a] rfl rfl (Nat.le_of_ble_eq_true rfl) d_Search_init_9 ⟨Nat.le_of_ble_eq_true rfl, Nat.le_of_ble_eq_true rfl⟩ (zi_Index_init _ _ (ln hn 1 rfl) (by omega) (sh_r hn (j := 0) rfl)  ?_)
  rw [List.append_assoc]
  show AW _ true _ _ _ _ _ (s ++ [.inl 2, .inr (3, 2048), .inr (0, 2048)], _) _
  refine ay_putFR fl_Search_12 (sh_l ha) (ztb_1 (i := 96) rfl rfl) rfl rfl rfl (Or.inl ⟨_, rfl⟩) rfl (Nat.le_of_ble_eq_true rfl) d_Search_init_12 ?_
  refine aw_aload_n 0 d_Search_init_15 rfl rfl ?_
  refine aw_sipush 600 d_Search_init_16 (by decide) ?_
  refine ay_newa (t := 3) (n := 600) (n + 3) (ln hn 3 rfl) (by omega) (s ++ [.inl 2, .inr (3, 2048), .inr (0, 2048), .inr (3, 600)]) (List.append_assoc s _ _) rfl (by decide) (ztb_1 (i := 62) rfl rfl) (by decide) (by decide) (Nat.le_of_ble_eq_true rfl) (Nat.le_of_ble_eq_true rfl) (Nat.le_of_ble_eq_true rfl) d_Search_init_19 ?_
  refine ay_putFR fl_Search_18 (sh_l ha) (ztb_1 (i := 97) rfl rfl) rfl rfl rfl (Or.inr ⟨_, rfl⟩) rfl (Nat.le_of_ble_eq_true rfl) d_Search_init_21 ?_
  refine aw_aload_n 0 d_Search_init_24 rfl rfl ?_
  refine aw_sipush 600 d_Search_init_25 (by decide) ?_
  refine ay_newa (t := 3) (n := 600) (n + 4) (ln hn 4 rfl) (by omega) (s ++ [.inl 2, .inr (3, 2048), .inr (0, 2048), .inr (3, 600), .inr (3, 600)]) (List.append_assoc s _ _) rfl (by decide) (ztb_1 (i := 62) rfl rfl) (by decide) (by decide) (Nat.le_of_ble_eq_true rfl) (Nat.le_of_ble_eq_true rfl) (Nat.le_of_ble_eq_true rfl) d_Search_init_28 ?_
  refine ay_putFR fl_Search_22 (sh_l ha) (ztb_1 (i := 98) rfl rfl) rfl rfl rfl (Or.inr ⟨_, rfl⟩) rfl (Nat.le_of_ble_eq_true rfl) d_Search_init_30 ?_
  refine aw_aload_n 0 d_Search_init_33 rfl rfl ?_
  refine aw_sipush 600 d_Search_init_34 (by decide) ?_
  refine ay_newa (t := 0) (n := 600) (n + 5) (ln hn 5 rfl) (by omega) (s ++ [.inl 2, .inr (3, 2048), .inr (0, 2048), .inr (3, 600), .inr (3, 600), .inr (0, 600)]) (List.append_assoc s _ _) rfl (by decide) (ztb_1 (i := 42) rfl rfl) (by decide) (by decide) (Nat.le_of_ble_eq_true rfl) (Nat.le_of_ble_eq_true rfl) (Nat.le_of_ble_eq_true rfl) d_Search_init_37 ?_
  refine ay_putFR fl_Search_25 (sh_l ha) (ztb_1 (i := 100) rfl rfl) rfl rfl rfl (Or.inr ⟨_, rfl⟩) rfl (Nat.le_of_ble_eq_true rfl) d_Search_init_39 ?_
  refine aw_aload_n 0 d_Search_init_42 rfl rfl ?_
  refine aw_sipush 600 d_Search_init_43 (by decide) ?_
  refine ay_newa (t := 0) (n := 600) (n + 6) (ln hn 6 rfl) (by omega) (s ++ [.inl 2, .inr (3, 2048), .inr (0, 2048), .inr (3, 600), .inr (3, 600), .inr (0, 600), .inr (0, 600)]) (List.append_assoc s _ _) rfl (by decide) (ztb_1 (i := 42) rfl rfl) (by decide) (by decide) (Nat.le_of_ble_eq_true rfl) (Nat.le_of_ble_eq_true rfl) (Nat.le_of_ble_eq_true rfl) d_Search_init_46 ?_
  refine ay_putFR fl_Search_29 (sh_l ha) (ztb_1 (i := 102) rfl rfl) rfl rfl rfl (Or.inr ⟨_, rfl⟩) rfl (Nat.le_of_ble_eq_true rfl) d_Search_init_48 ?_
  refine aw_aload_n 0 d_Search_init_51 rfl rfl ?_
  refine aw_sipush 600 d_Search_init_52 (by decide) ?_
  refine ay_newa (t := 0) (n := 600) (n + 7) (ln hn 7 rfl) (by omega) (s ++ [.inl 2, .inr (3, 2048), .inr (0, 2048), .inr (3, 600), .inr (3, 600), .inr (0, 600), .inr (0, 600), .inr (0, 600)]) (List.append_assoc s _ _) rfl (by decide) (ztb_1 (i := 42) rfl rfl) (by decide) (by decide) (Nat.le_of_ble_eq_true rfl) (Nat.le_of_ble_eq_true rfl) (Nat.le_of_ble_eq_true rfl) d_Search_init_55 ?_
  refine ay_putFR fl_Search_32 (sh_l ha) (ztb_1 (i := 104) rfl rfl) rfl rfl rfl (Or.inr ⟨_, rfl⟩) rfl (Nat.le_of_ble_eq_true rfl) d_Search_init_57 ?_
  refine aw_aload_n 0 d_Search_init_60 rfl rfl ?_
  refine ay_new (n + 8) (ln hn 8 rfl) (by omega) (s ++ [.inl 2, .inr (3, 2048), .inr (0, 2048), .inr (3, 600), .inr (3, 600), .inr (0, 600), .inr (0, 600), .inr (0, 600), .inl 10]) (List.append_assoc s _ _) zk_World ty2_World (ztb_1 (i := 63) rfl rfl) (ztb_1 (i := 64) rfl rfl) (ztb_1 (i := 5) rfl rfl) (Nat.le_of_ble_eq_true rfl) (Nat.le_of_ble_eq_true rfl) d_Search_init_61 ?_
  refine aw_dup d_Search_init_64 rfl ?_
  refine aw_callI mi_Search_37 ⟨Nat.le_of_ble_eq_true rfl, Nat.le_of_ble_eq_true rfl⟩ [] [.ref (n + 8), .ref (n + 8), .ref a] rfl rfl (Nat.le_of_ble_eq_true rfl) d_Search_init_65 ⟨Nat.le_of_ble_eq_true rfl, Nat.le_of_ble_eq_true rfl⟩ (zi_World_init _ _ (ln hn 9 rfl) (by omega) (sh_r hn (j := 8) rfl)  ?_)
  rw [List.append_assoc]
  show AW _ true _ _ _ _ _ (s ++ [.inl 2, .inr (3, 2048), .inr (0, 2048), .inr (3, 600), .inr (3, 600), .inr (0, 600), .inr (0, 600), .inr (0, 600), .inl 10, .inr (0, 4), .inr (0, 4), .inr (0, 4)], _) _
  refine ay_putFR fl_Search_38 (sh_l ha) (ztb_1 (i := 106) rfl rfl) rfl rfl rfl (Or.inl ⟨_, rfl⟩) rfl (Nat.le_of_ble_eq_true rfl) d_Search_init_68 ?_
  refine aw_aload_n 0 d_Search_init_71 rfl rfl ?_
  refine ay_new (n + 12) (ln hn 12 rfl) (by omega) (s ++ [.inl 2, .inr (3, 2048), .inr (0, 2048), .inr (3, 600), .inr (3, 600), .inr (0, 600), .inr (0, 600), .inr (0, 600), .inl 10, .inr (0, 4), .inr (0, 4), .inr (0, 4), .inl 10]) (List.append_assoc s _ _) zk_World ty2_World (ztb_1 (i := 63) rfl rfl) (ztb_1 (i := 64) rfl rfl) (ztb_1 (i := 5) rfl rfl) (Nat.le_of_ble_eq_true rfl) (Nat.le_of_ble_eq_true rfl) d_Search_init_72 ?_
  refine aw_dup d_Search_init_75 rfl ?_
  refine aw_callI mi_Search_37 ⟨Nat.le_of_ble_eq_true rfl, Nat.le_of_ble_eq_true rfl⟩ [] [.ref (n + 12), .ref (n + 12), .ref a] rfl rfl (Nat.le_of_ble_eq_true rfl) d_Search_init_76 ⟨Nat.le_of_ble_eq_true rfl, Nat.le_of_ble_eq_true rfl⟩ (zi_World_init _ _ (ln hn 13 rfl) (by omega) (sh_r hn (j := 12) rfl)  ?_)
  rw [List.append_assoc]
  show AW _ true _ _ _ _ _ (s ++ [.inl 2, .inr (3, 2048), .inr (0, 2048), .inr (3, 600), .inr (3, 600), .inr (0, 600), .inr (0, 600), .inr (0, 600), .inl 10, .inr (0, 4), .inr (0, 4), .inr (0, 4), .inl 10, .inr (0, 4), .inr (0, 4), .inr (0, 4)], _) _
  refine ay_putFR fl_Search_42 (sh_l ha) (ztb_1 (i := 107) rfl rfl) rfl rfl rfl (Or.inl ⟨_, rfl⟩) rfl (Nat.le_of_ble_eq_true rfl) d_Search_init_79 ?_
  refine aw_aload_n 0 d_Search_init_82 rfl rfl ?_
  refine aw_iconst 0 d_Search_init_83 (by decide) ?_
  refine ay_putI fl_Search_45 (sh_l ha) rfl rfl rfl (Nat.le_of_ble_eq_true rfl) d_Search_init_84 ?_
  exact aw_vret (st := []) (Nat.le_of_ble_eq_true rfl) (Nat.le_of_ble_eq_true rfl) rfl d_Search_init_87 hq
theorem mi_Atlas_20 : zLI R_Atlas 20 s_Index_init 0 := ⟨⟨by decide, by decide, by decide +kernel⟩, rfl, rfl, (ztb_1 (i := 53) rfl rfl), (ztb_1 (i := 52) rfl rfl), (ztb_1 (i := 4) rfl rfl), Or.inr ⟨"ProtocolAtlas", znw_at (i := 21) rfl⟩⟩
theorem mi_Atlas_67 : zLI R_Atlas 67 s_World_init 0 := ⟨⟨by decide, by decide, by decide +kernel⟩, rfl, rfl, (ztb_1 (i := 67) rfl rfl), (ztb_1 (i := 66) rfl rfl), (ztb_1 (i := 5) rfl rfl), Or.inr ⟨"ProtocolAtlas", znw_at (i := 22) rfl⟩⟩
def F_Atlas_init (n a : Nat)  (w : zW) : zW := (wR (F_World_init (n + 20) (n + 19) (wadd (wR (F_World_init (n + 16) (n + 15) (wadd (wR (wadd (wR (wadd (wR (wadd (wR (wadd (wR (wadd (wR (wadd (wR (wadd (wR (wadd (wR (wadd (wR (wadd (wR (wadd (wR (wadd (wR (F_Index_init (n + 1) (n + 0) (wadd (wI (wI w a 0 0) a 1 0) (n + 0))) a 2 (n + 0)) (n + 3)) a 3 (n + 3)) (n + 4)) a 4 (n + 4)) (n + 5)) a 5 (n + 5)) (n + 6)) a 6 (n + 6)) (n + 7)) a 7 (n + 7)) (n + 8)) a 8 (n + 8)) (n + 9)) a 9 (n + 9)) (n + 10)) a 10 (n + 10)) (n + 11)) a 11 (n + 11)) (n + 12)) a 12 (n + 12)) (n + 13)) a 13 (n + 13)) (n + 14)) a 14 (n + 14)) (n + 15))) a 15 (n + 15)) (n + 19))) a 16 (n + 19))
set_option maxRecDepth 100000 in
set_option maxHeartbeats 4000000 in
theorem zi_Atlas_init {s : List zQs} {n : Nat} (a : Nat) (w : zW) (hn : s.length = n) (h9 : n + 23 ≤ 900) (ha : s[a]? = some (.inl 0))  {Q : Option Value → zH → Prop} (hq : Q none (s ++ [.inl 2, .inr (3, 2048), .inr (0, 2048), .inr (3, 600), .inr (0, 600), .inr (0, 600), .inr (0, 600), .inr (0, 600), .inr (1, 600), .inr (0, 2400), .inr (0, 2400), .inr (0, 601), .inr (0, 38400), .inr (0, 600), .inr (0, 600), .inl 10, .inr (0, 4), .inr (0, 4), .inr (0, 4), .inl 10, .inr (0, 4), .inr (0, 4), .inr (0, 4)], F_Atlas_init n a  w)) : zCall s_Atlas_init true [.ref a] (s, w) Q := by
  refine zcall_of rfl (Nat.le_of_ble_eq_true rfl) ?_
  show AW s_Atlas_init true 0 0 0 [(0, .ref a)] [] (s, w) _
  rw [← List.append_nil s]
  have hlt : a < n := by rw [← hn]; exact (List.getElem?_eq_some_iff.mp ha).1
  refine aw_aload_n 0 d_Atlas_init_0 rfl rfl ?_
  refine aw_objInit (st := []) (ztb_1 (i := 134) rfl rfl) (ztb_1 (i := 27) rfl rfl) (ztb_1 (i := 28) rfl rfl) (Nat.le_of_ble_eq_true rfl) (Nat.le_of_ble_eq_true rfl) d_Atlas_init_1 ?_
  refine aw_aload_n 0 d_Atlas_init_4 rfl rfl ?_
  refine aw_iconst 0 d_Atlas_init_5 (by decide) ?_
  refine ay_putI fl_Atlas_9 (sh_l ha) rfl rfl rfl (Nat.le_of_ble_eq_true rfl) d_Atlas_init_6 ?_
  refine aw_aload_n 0 d_Atlas_init_9 rfl rfl ?_
  refine aw_iconst 0 d_Atlas_init_10 (by decide) ?_
  refine ay_putI fl_Atlas_15 (sh_l ha) rfl rfl rfl (Nat.le_of_ble_eq_true rfl) d_Atlas_init_11 ?_
  refine aw_aload_n 0 d_Atlas_init_14 rfl rfl ?_
  refine ay_new (n + 0) (ln hn 0 rfl) (by omega) (s ++ [.inl 2]) (List.append_assoc s _ _) zk_Index ty2_Index (ztb_1 (i := 135) rfl rfl) (ztb_1 (i := 50) rfl rfl) (ztb_1 (i := 4) rfl rfl) (Nat.le_of_ble_eq_true rfl) (Nat.le_of_ble_eq_true rfl) d_Atlas_init_15 ?_
  refine aw_dup d_Atlas_init_18 rfl ?_
  refine aw_callI mi_Atlas_20 ⟨Nat.le_of_ble_eq_true rfl, Nat.le_of_ble_eq_true rfl⟩ [] [.ref (n + 0), .ref (n + 0), .ref a] rfl rfl (Nat.le_of_ble_eq_true rfl) d_Atlas_init_19 ⟨Nat.le_of_ble_eq_true rfl, Nat.le_of_ble_eq_true rfl⟩ (zi_Index_init _ _ (ln hn 1 rfl) (by omega) (sh_r hn (j := 0) rfl)  ?_)
  rw [List.append_assoc]
  show AW _ true _ _ _ _ _ (s ++ [.inl 2, .inr (3, 2048), .inr (0, 2048)], _) _
  refine ay_putFR fl_Atlas_21 (sh_l ha) (ztb_1 (i := 148) rfl rfl) rfl rfl rfl (Or.inl ⟨_, rfl⟩) rfl (Nat.le_of_ble_eq_true rfl) d_Atlas_init_22 ?_
  refine aw_aload_n 0 d_Atlas_init_25 rfl rfl ?_
  refine aw_sipush 600 d_Atlas_init_26 (by decide) ?_
  refine ay_newa (t := 3) (n := 600) (n + 3) (ln hn 3 rfl) (by omega) (s ++ [.inl 2, .inr (3, 2048), .inr (0, 2048), .inr (3, 600)]) (List.append_assoc s _ _) rfl (by decide) (ztb_1 (i := 62) rfl rfl) (by decide) (by decide) (Nat.le_of_ble_eq_true rfl) (Nat.le_of_ble_eq_true rfl) (Nat.le_of_ble_eq_true rfl) d_Atlas_init_29 ?_
  refine ay_putFR fl_Atlas_25 (sh_l ha) (ztb_1 (i := 149) rfl rfl) rfl rfl rfl (Or.inr ⟨_, rfl⟩) rfl (Nat.le_of_ble_eq_true rfl) d_Atlas_init_31 ?_
  refine aw_aload_n 0 d_Atlas_init_34 rfl rfl ?_
  refine aw_sipush 600 d_Atlas_init_35 (by decide) ?_
  refine ay_newa (t := 0) (n := 600) (n + 4) (ln hn 4 rfl) (by omega) (s ++ [.inl 2, .inr (3, 2048), .inr (0, 2048), .inr (3, 600), .inr (0, 600)]) (List.append_assoc s _ _) rfl (by decide) (ztb_1 (i := 42) rfl rfl) (by decide) (by decide) (Nat.le_of_ble_eq_true rfl) (Nat.le_of_ble_eq_true rfl) (Nat.le_of_ble_eq_true rfl) d_Atlas_init_38 ?_
  refine ay_putFR fl_Atlas_29 (sh_l ha) (ztb_1 (i := 151) rfl rfl) rfl rfl rfl (Or.inr ⟨_, rfl⟩) rfl (Nat.le_of_ble_eq_true rfl) d_Atlas_init_40 ?_
  refine aw_aload_n 0 d_Atlas_init_43 rfl rfl ?_
  refine aw_sipush 600 d_Atlas_init_44 (by decide) ?_
  refine ay_newa (t := 0) (n := 600) (n + 5) (ln hn 5 rfl) (by omega) (s ++ [.inl 2, .inr (3, 2048), .inr (0, 2048), .inr (3, 600), .inr (0, 600), .inr (0, 600)]) (List.append_assoc s _ _) rfl (by decide) (ztb_1 (i := 42) rfl rfl) (by decide) (by decide) (Nat.le_of_ble_eq_true rfl) (Nat.le_of_ble_eq_true rfl) (Nat.le_of_ble_eq_true rfl) d_Atlas_init_47 ?_
  refine ay_putFR fl_Atlas_33 (sh_l ha) (ztb_1 (i := 153) rfl rfl) rfl rfl rfl (Or.inr ⟨_, rfl⟩) rfl (Nat.le_of_ble_eq_true rfl) d_Atlas_init_49 ?_
  refine aw_aload_n 0 d_Atlas_init_52 rfl rfl ?_
  refine aw_sipush 600 d_Atlas_init_53 (by decide) ?_
  refine ay_newa (t := 0) (n := 600) (n + 6) (ln hn 6 rfl) (by omega) (s ++ [.inl 2, .inr (3, 2048), .inr (0, 2048), .inr (3, 600), .inr (0, 600), .inr (0, 600), .inr (0, 600)]) (List.append_assoc s _ _) rfl (by decide) (ztb_1 (i := 42) rfl rfl) (by decide) (by decide) (Nat.le_of_ble_eq_true rfl) (Nat.le_of_ble_eq_true rfl) (Nat.le_of_ble_eq_true rfl) d_Atlas_init_56 ?_
  refine ay_putFR fl_Atlas_36 (sh_l ha) (ztb_1 (i := 154) rfl rfl) rfl rfl rfl (Or.inr ⟨_, rfl⟩) rfl (Nat.le_of_ble_eq_true rfl) d_Atlas_init_58 ?_
  refine aw_aload_n 0 d_Atlas_init_61 rfl rfl ?_
  refine aw_sipush 600 d_Atlas_init_62 (by decide) ?_
  refine ay_newa (t := 0) (n := 600) (n + 7) (ln hn 7 rfl) (by omega) (s ++ [.inl 2, .inr (3, 2048), .inr (0, 2048), .inr (3, 600), .inr (0, 600), .inr (0, 600), .inr (0, 600), .inr (0, 600)]) (List.append_assoc s _ _) rfl (by decide) (ztb_1 (i := 42) rfl rfl) (by decide) (by decide) (Nat.le_of_ble_eq_true rfl) (Nat.le_of_ble_eq_true rfl) (Nat.le_of_ble_eq_true rfl) d_Atlas_init_65 ?_
  refine ay_putFR fl_Atlas_39 (sh_l ha) (ztb_1 (i := 155) rfl rfl) rfl rfl rfl (Or.inr ⟨_, rfl⟩) rfl (Nat.le_of_ble_eq_true rfl) d_Atlas_init_67 ?_
  refine aw_aload_n 0 d_Atlas_init_70 rfl rfl ?_
  refine aw_sipush 600 d_Atlas_init_71 (by decide) ?_
  refine ay_newa (t := 1) (n := 600) (n + 8) (ln hn 8 rfl) (by omega) (s ++ [.inl 2, .inr (3, 2048), .inr (0, 2048), .inr (3, 600), .inr (0, 600), .inr (0, 600), .inr (0, 600), .inr (0, 600), .inr (1, 600)]) (List.append_assoc s _ _) rfl (by decide) (ztb_1 (i := 212) rfl rfl) (by decide) (by decide) (Nat.le_of_ble_eq_true rfl) (Nat.le_of_ble_eq_true rfl) (Nat.le_of_ble_eq_true rfl) d_Atlas_init_74 ?_
  refine ay_putFR fl_Atlas_42 (sh_l ha) (ztb_1 (i := 158) rfl rfl) rfl rfl rfl (Or.inr ⟨_, rfl⟩) rfl (Nat.le_of_ble_eq_true rfl) d_Atlas_init_76 ?_
  refine aw_aload_n 0 d_Atlas_init_79 rfl rfl ?_
  refine aw_sipush 2400 d_Atlas_init_80 (by decide) ?_
  refine ay_newa (t := 0) (n := 2400) (n + 9) (ln hn 9 rfl) (by omega) (s ++ [.inl 2, .inr (3, 2048), .inr (0, 2048), .inr (3, 600), .inr (0, 600), .inr (0, 600), .inr (0, 600), .inr (0, 600), .inr (1, 600), .inr (0, 2400)]) (List.append_assoc s _ _) rfl (by decide) (ztb_1 (i := 42) rfl rfl) (by decide) (by decide) (Nat.le_of_ble_eq_true rfl) (Nat.le_of_ble_eq_true rfl) (Nat.le_of_ble_eq_true rfl) d_Atlas_init_83 ?_
  refine ay_putFR fl_Atlas_46 (sh_l ha) (ztb_1 (i := 161) rfl rfl) rfl rfl rfl (Or.inr ⟨_, rfl⟩) rfl (Nat.le_of_ble_eq_true rfl) d_Atlas_init_85 ?_
  refine aw_aload_n 0 d_Atlas_init_88 rfl rfl ?_
  refine aw_sipush 2400 d_Atlas_init_89 (by decide) ?_
  refine ay_newa (t := 0) (n := 2400) (n + 10) (ln hn 10 rfl) (by omega) (s ++ [.inl 2, .inr (3, 2048), .inr (0, 2048), .inr (3, 600), .inr (0, 600), .inr (0, 600), .inr (0, 600), .inr (0, 600), .inr (1, 600), .inr (0, 2400), .inr (0, 2400)]) (List.append_assoc s _ _) rfl (by decide) (ztb_1 (i := 42) rfl rfl) (by decide) (by decide) (Nat.le_of_ble_eq_true rfl) (Nat.le_of_ble_eq_true rfl) (Nat.le_of_ble_eq_true rfl) d_Atlas_init_92 ?_
  refine ay_putFR fl_Atlas_49 (sh_l ha) (ztb_1 (i := 165) rfl rfl) rfl rfl rfl (Or.inr ⟨_, rfl⟩) rfl (Nat.le_of_ble_eq_true rfl) d_Atlas_init_94 ?_
  refine aw_aload_n 0 d_Atlas_init_97 rfl rfl ?_
  refine aw_sipush 601 d_Atlas_init_98 (by decide) ?_
  refine ay_newa (t := 0) (n := 601) (n + 11) (ln hn 11 rfl) (by omega) (s ++ [.inl 2, .inr (3, 2048), .inr (0, 2048), .inr (3, 600), .inr (0, 600), .inr (0, 600), .inr (0, 600), .inr (0, 600), .inr (1, 600), .inr (0, 2400), .inr (0, 2400), .inr (0, 601)]) (List.append_assoc s _ _) rfl (by decide) (ztb_1 (i := 42) rfl rfl) (by decide) (by decide) (Nat.le_of_ble_eq_true rfl) (Nat.le_of_ble_eq_true rfl) (Nat.le_of_ble_eq_true rfl) d_Atlas_init_101 ?_
  refine ay_putFR fl_Atlas_52 (sh_l ha) (ztb_1 (i := 168) rfl rfl) rfl rfl rfl (Or.inr ⟨_, rfl⟩) rfl (Nat.le_of_ble_eq_true rfl) d_Atlas_init_103 ?_
  refine aw_aload_n 0 d_Atlas_init_106 rfl rfl ?_
  refine aw_ldc 38400 (ztb_1 (i := 137) rfl rfl) d_Atlas_init_107 ?_
  refine ay_newa (t := 0) (n := 38400) (n + 12) (ln hn 12 rfl) (by omega) (s ++ [.inl 2, .inr (3, 2048), .inr (0, 2048), .inr (3, 600), .inr (0, 600), .inr (0, 600), .inr (0, 600), .inr (0, 600), .inr (1, 600), .inr (0, 2400), .inr (0, 2400), .inr (0, 601), .inr (0, 38400)]) (List.append_assoc s _ _) rfl (by decide) (ztb_1 (i := 42) rfl rfl) (by decide) (by decide) (Nat.le_of_ble_eq_true rfl) (Nat.le_of_ble_eq_true rfl) (Nat.le_of_ble_eq_true rfl) d_Atlas_init_109 ?_
  refine ay_putFR fl_Atlas_56 (sh_l ha) (ztb_1 (i := 172) rfl rfl) rfl rfl rfl (Or.inr ⟨_, rfl⟩) rfl (Nat.le_of_ble_eq_true rfl) d_Atlas_init_111 ?_
  refine aw_aload_n 0 d_Atlas_init_114 rfl rfl ?_
  refine aw_sipush 600 d_Atlas_init_115 (by decide) ?_
  refine ay_newa (t := 0) (n := 600) (n + 13) (ln hn 13 rfl) (by omega) (s ++ [.inl 2, .inr (3, 2048), .inr (0, 2048), .inr (3, 600), .inr (0, 600), .inr (0, 600), .inr (0, 600), .inr (0, 600), .inr (1, 600), .inr (0, 2400), .inr (0, 2400), .inr (0, 601), .inr (0, 38400), .inr (0, 600)]) (List.append_assoc s _ _) rfl (by decide) (ztb_1 (i := 42) rfl rfl) (by decide) (by decide) (Nat.le_of_ble_eq_true rfl) (Nat.le_of_ble_eq_true rfl) (Nat.le_of_ble_eq_true rfl) d_Atlas_init_118 ?_
  refine ay_putFR fl_Atlas_59 (sh_l ha) (ztb_1 (i := 173) rfl rfl) rfl rfl rfl (Or.inr ⟨_, rfl⟩) rfl (Nat.le_of_ble_eq_true rfl) d_Atlas_init_120 ?_
  refine aw_aload_n 0 d_Atlas_init_123 rfl rfl ?_
  refine aw_sipush 600 d_Atlas_init_124 (by decide) ?_
  refine ay_newa (t := 0) (n := 600) (n + 14) (ln hn 14 rfl) (by omega) (s ++ [.inl 2, .inr (3, 2048), .inr (0, 2048), .inr (3, 600), .inr (0, 600), .inr (0, 600), .inr (0, 600), .inr (0, 600), .inr (1, 600), .inr (0, 2400), .inr (0, 2400), .inr (0, 601), .inr (0, 38400), .inr (0, 600), .inr (0, 600)]) (List.append_assoc s _ _) rfl (by decide) (ztb_1 (i := 42) rfl rfl) (by decide) (by decide) (Nat.le_of_ble_eq_true rfl) (Nat.le_of_ble_eq_true rfl) (Nat.le_of_ble_eq_true rfl) d_Atlas_init_127 ?_
  refine ay_putFR fl_Atlas_62 (sh_l ha) (ztb_1 (i := 174) rfl rfl) rfl rfl rfl (Or.inr ⟨_, rfl⟩) rfl (Nat.le_of_ble_eq_true rfl) d_Atlas_init_129 ?_
  refine aw_aload_n 0 d_Atlas_init_132 rfl rfl ?_
  refine ay_new (n + 15) (ln hn 15 rfl) (by omega) (s ++ [.inl 2, .inr (3, 2048), .inr (0, 2048), .inr (3, 600), .inr (0, 600), .inr (0, 600), .inr (0, 600), .inr (0, 600), .inr (1, 600), .inr (0, 2400), .inr (0, 2400), .inr (0, 601), .inr (0, 38400), .inr (0, 600), .inr (0, 600), .inl 10]) (List.append_assoc s _ _) zk_World ty2_World (ztb_1 (i := 138) rfl rfl) (ztb_1 (i := 64) rfl rfl) (ztb_1 (i := 5) rfl rfl) (Nat.le_of_ble_eq_true rfl) (Nat.le_of_ble_eq_true rfl) d_Atlas_init_133 ?_
  refine aw_dup d_Atlas_init_136 rfl ?_
  refine aw_callI mi_Atlas_67 ⟨Nat.le_of_ble_eq_true rfl, Nat.le_of_ble_eq_true rfl⟩ [] [.ref (n + 15), .ref (n + 15), .ref a] rfl rfl (Nat.le_of_ble_eq_true rfl) d_Atlas_init_137 ⟨Nat.le_of_ble_eq_true rfl, Nat.le_of_ble_eq_true rfl⟩ (zi_World_init _ _ (ln hn 16 rfl) (by omega) (sh_r hn (j := 15) rfl)  ?_)
  rw [List.append_assoc]
  show AW _ true _ _ _ _ _ (s ++ [.inl 2, .inr (3, 2048), .inr (0, 2048), .inr (3, 600), .inr (0, 600), .inr (0, 600), .inr (0, 600), .inr (0, 600), .inr (1, 600), .inr (0, 2400), .inr (0, 2400), .inr (0, 601), .inr (0, 38400), .inr (0, 600), .inr (0, 600), .inl 10, .inr (0, 4), .inr (0, 4), .inr (0, 4)], _) _
  refine ay_putFR fl_Atlas_68 (sh_l ha) (ztb_1 (i := 175) rfl rfl) rfl rfl rfl (Or.inl ⟨_, rfl⟩) rfl (Nat.le_of_ble_eq_true rfl) d_Atlas_init_140 ?_
  refine aw_aload_n 0 d_Atlas_init_143 rfl rfl ?_
  refine ay_new (n + 19) (ln hn 19 rfl) (by omega) (s ++ [.inl 2, .inr (3, 2048), .inr (0, 2048), .inr (3, 600), .inr (0, 600), .inr (0, 600), .inr (0, 600), .inr (0, 600), .inr (1, 600), .inr (0, 2400), .inr (0, 2400), .inr (0, 601), .inr (0, 38400), .inr (0, 600), .inr (0, 600), .inl 10, .inr (0, 4), .inr (0, 4), .inr (0, 4), .inl 10]) (List.append_assoc s _ _) zk_World ty2_World (ztb_1 (i := 138) rfl rfl) (ztb_1 (i := 64) rfl rfl) (ztb_1 (i := 5) rfl rfl) (Nat.le_of_ble_eq_true rfl) (Nat.le_of_ble_eq_true rfl) d_Atlas_init_144 ?_
  refine aw_dup d_Atlas_init_147 rfl ?_
  refine aw_callI mi_Atlas_67 ⟨Nat.le_of_ble_eq_true rfl, Nat.le_of_ble_eq_true rfl⟩ [] [.ref (n + 19), .ref (n + 19), .ref a] rfl rfl (Nat.le_of_ble_eq_true rfl) d_Atlas_init_148 ⟨Nat.le_of_ble_eq_true rfl, Nat.le_of_ble_eq_true rfl⟩ (zi_World_init _ _ (ln hn 20 rfl) (by omega) (sh_r hn (j := 19) rfl)  ?_)
  rw [List.append_assoc]
  show AW _ true _ _ _ _ _ (s ++ [.inl 2, .inr (3, 2048), .inr (0, 2048), .inr (3, 600), .inr (0, 600), .inr (0, 600), .inr (0, 600), .inr (0, 600), .inr (1, 600), .inr (0, 2400), .inr (0, 2400), .inr (0, 601), .inr (0, 38400), .inr (0, 600), .inr (0, 600), .inl 10, .inr (0, 4), .inr (0, 4), .inr (0, 4), .inl 10, .inr (0, 4), .inr (0, 4), .inr (0, 4)], _) _
  refine ay_putFR fl_Atlas_72 (sh_l ha) (ztb_1 (i := 176) rfl rfl) rfl rfl rfl (Or.inl ⟨_, rfl⟩) rfl (Nat.le_of_ble_eq_true rfl) d_Atlas_init_151 ?_
  exact aw_vret (st := []) (Nat.le_of_ble_eq_true rfl) (Nat.le_of_ble_eq_true rfl) rfl d_Atlas_init_154 hq
def F_Sight_init (n a : Nat)  (w : zW) : zW := (wR (wadd (wI (wI (wR (wadd (wR (wadd (wR (wadd (wI (wI (wR (wadd (wR (wadd w (n + 0)) a 0 (n + 0)) (n + 1)) a 1 (n + 1)) a 2 0) a 3 0) (n + 2)) a 4 (n + 2)) (n + 3)) a 5 (n + 3)) (n + 4)) a 6 (n + 4)) a 7 0) a 8 (-1)) (n + 5)) a 9 (n + 5))
set_option maxRecDepth 100000 in
set_option maxHeartbeats 4000000 in
theorem zi_Sight_init {s : List zQs} {n : Nat} (a : Nat) (w : zW) (hn : s.length = n) (h9 : n + 6 ≤ 900) (ha : s[a]? = some (.inl 7))  {Q : Option Value → zH → Prop} (hq : Q none (s ++ [.inr (0, 6), .inr (0, 6), .inr (1, 600), .inr (1, 600), .inr (0, 600), .inr (0, 5)], F_Sight_init n a  w)) : zCall s_Sight_init true [.ref a] (s, w) Q := by
  refine zcall_of rfl (Nat.le_of_ble_eq_true rfl) ?_
  show AW s_Sight_init true 0 0 0 [(0, .ref a)] [] (s, w) _
  rw [← List.append_nil s]
  have hlt : a < n := by rw [← hn]; exact (List.getElem?_eq_some_iff.mp ha).1
  refine aw_aload_n 0 d_Sight_init_0 rfl rfl ?_
  refine aw_objInit (st := []) (ztb_1 (i := 218) rfl rfl) (ztb_1 (i := 27) rfl rfl) (ztb_1 (i := 28) rfl rfl) (Nat.le_of_ble_eq_true rfl) (Nat.le_of_ble_eq_true rfl) d_Sight_init_1 ?_
  refine aw_aload_n 0 d_Sight_init_4 rfl rfl ?_
  refine aw_bipush 6 d_Sight_init_5 (by decide) ?_
  refine ay_newa (t := 0) (n := 6) (n + 0) (ln hn 0 rfl) (by omega) (s ++ [.inr (0, 6)]) (List.append_assoc s _ _) rfl (by decide) (ztb_1 (i := 42) rfl rfl) (by decide) (by decide) (Nat.le_of_ble_eq_true rfl) (Nat.le_of_ble_eq_true rfl) (Nat.le_of_ble_eq_true rfl) d_Sight_init_7 ?_
  refine ay_putFR fl_Sight_9 (sh_l ha) (ztb_1 (i := 219) rfl rfl) rfl rfl rfl (Or.inr ⟨_, rfl⟩) rfl (Nat.le_of_ble_eq_true rfl) d_Sight_init_9 ?_
  refine aw_aload_n 0 d_Sight_init_12 rfl rfl ?_
  refine aw_bipush 6 d_Sight_init_13 (by decide) ?_
  refine ay_newa (t := 0) (n := 6) (n + 1) (ln hn 1 rfl) (by omega) (s ++ [.inr (0, 6), .inr (0, 6)]) (List.append_assoc s _ _) rfl (by decide) (ztb_1 (i := 42) rfl rfl) (by decide) (by decide) (Nat.le_of_ble_eq_true rfl) (Nat.le_of_ble_eq_true rfl) (Nat.le_of_ble_eq_true rfl) d_Sight_init_15 ?_
  refine ay_putFR fl_Sight_15 (sh_l ha) (ztb_1 (i := 220) rfl rfl) rfl rfl rfl (Or.inr ⟨_, rfl⟩) rfl (Nat.le_of_ble_eq_true rfl) d_Sight_init_17 ?_
  refine aw_aload_n 0 d_Sight_init_20 rfl rfl ?_
  refine aw_iconst 0 d_Sight_init_21 (by decide) ?_
  refine ay_putI fl_Sight_18 (sh_l ha) rfl rfl rfl (Nat.le_of_ble_eq_true rfl) d_Sight_init_22 ?_
  refine aw_aload_n 0 d_Sight_init_25 rfl rfl ?_
  refine aw_iconst 0 d_Sight_init_26 (by decide) ?_
  refine ay_putI fl_Sight_22 (sh_l ha) rfl rfl rfl (Nat.le_of_ble_eq_true rfl) d_Sight_init_27 ?_
  refine aw_aload_n 0 d_Sight_init_30 rfl rfl ?_
  refine aw_sipush 600 d_Sight_init_31 (by decide) ?_
  refine ay_newa (t := 1) (n := 600) (n + 2) (ln hn 2 rfl) (by omega) (s ++ [.inr (0, 6), .inr (0, 6), .inr (1, 600)]) (List.append_assoc s _ _) rfl (by decide) (ztb_1 (i := 212) rfl rfl) (by decide) (by decide) (Nat.le_of_ble_eq_true rfl) (Nat.le_of_ble_eq_true rfl) (Nat.le_of_ble_eq_true rfl) d_Sight_init_34 ?_
  refine ay_putFR fl_Sight_25 (sh_l ha) (ztb_1 (i := 224) rfl rfl) rfl rfl rfl (Or.inr ⟨_, rfl⟩) rfl (Nat.le_of_ble_eq_true rfl) d_Sight_init_36 ?_
  refine aw_aload_n 0 d_Sight_init_39 rfl rfl ?_
  refine aw_sipush 600 d_Sight_init_40 (by decide) ?_
  refine ay_newa (t := 1) (n := 600) (n + 3) (ln hn 3 rfl) (by omega) (s ++ [.inr (0, 6), .inr (0, 6), .inr (1, 600), .inr (1, 600)]) (List.append_assoc s _ _) rfl (by decide) (ztb_1 (i := 212) rfl rfl) (by decide) (by decide) (Nat.le_of_ble_eq_true rfl) (Nat.le_of_ble_eq_true rfl) (Nat.le_of_ble_eq_true rfl) d_Sight_init_43 ?_
  refine ay_putFR fl_Sight_29 (sh_l ha) (ztb_1 (i := 225) rfl rfl) rfl rfl rfl (Or.inr ⟨_, rfl⟩) rfl (Nat.le_of_ble_eq_true rfl) d_Sight_init_45 ?_
  refine aw_aload_n 0 d_Sight_init_48 rfl rfl ?_
  refine aw_sipush 600 d_Sight_init_49 (by decide) ?_
  refine ay_newa (t := 0) (n := 600) (n + 4) (ln hn 4 rfl) (by omega) (s ++ [.inr (0, 6), .inr (0, 6), .inr (1, 600), .inr (1, 600), .inr (0, 600)]) (List.append_assoc s _ _) rfl (by decide) (ztb_1 (i := 42) rfl rfl) (by decide) (by decide) (Nat.le_of_ble_eq_true rfl) (Nat.le_of_ble_eq_true rfl) (Nat.le_of_ble_eq_true rfl) d_Sight_init_52 ?_
  refine ay_putFR fl_Sight_32 (sh_l ha) (ztb_1 (i := 226) rfl rfl) rfl rfl rfl (Or.inr ⟨_, rfl⟩) rfl (Nat.le_of_ble_eq_true rfl) d_Sight_init_54 ?_
  refine aw_aload_n 0 d_Sight_init_57 rfl rfl ?_
  refine aw_iconst 0 d_Sight_init_58 (by decide) ?_
  refine ay_putI fl_Sight_35 (sh_l ha) rfl rfl rfl (Nat.le_of_ble_eq_true rfl) d_Sight_init_59 ?_
  refine aw_aload_n 0 d_Sight_init_62 rfl rfl ?_
  refine aw_iconst (-1) d_Sight_init_63 (by decide) ?_
  refine ay_putI fl_Sight_38 (sh_l ha) rfl rfl rfl (Nat.le_of_ble_eq_true rfl) d_Sight_init_64 ?_
  refine aw_aload_n 0 d_Sight_init_67 rfl rfl ?_
  refine aw_iconst 5 d_Sight_init_68 (by decide) ?_
  refine ay_newa (t := 0) (n := 5) (n + 5) (ln hn 5 rfl) (by omega) (s ++ [.inr (0, 6), .inr (0, 6), .inr (1, 600), .inr (1, 600), .inr (0, 600), .inr (0, 5)]) (List.append_assoc s _ _) rfl (by decide) (ztb_1 (i := 42) rfl rfl) (by decide) (by decide) (Nat.le_of_ble_eq_true rfl) (Nat.le_of_ble_eq_true rfl) (Nat.le_of_ble_eq_true rfl) d_Sight_init_69 ?_
  refine ay_putFR fl_Sight_41 (sh_l ha) (ztb_1 (i := 231) rfl rfl) rfl rfl rfl (Or.inr ⟨_, rfl⟩) rfl (Nat.le_of_ble_eq_true rfl) d_Sight_init_71 ?_
  exact aw_vret (st := []) (Nat.le_of_ble_eq_true rfl) (Nat.le_of_ble_eq_true rfl) rfl d_Sight_init_74 hq
def F_Row_init (n a : Nat)  (w : zW) : zW := (wI (wI (wI (wI (wI (wI (wI (wI w a 0 0) a 1 (-1)) a 2 (-1)) a 3 (-1)) a 4 (-1)) a 5 (-1)) a 6 (-1)) a 7 0)
theorem rd_Row {n a : Nat} {w : zW} {k j : Nat} : (F_Row_init n a w).2.2 k j = w.2.2 k j := rfl
set_option maxRecDepth 100000 in
set_option maxHeartbeats 4000000 in
theorem zi_Row_init {s : List zQs} {n : Nat} (a : Nat) (w : zW) (hn : s.length = n) (h9 : n + 0 ≤ 900) (ha : s[a]? = some (.inl 5))  {Q : Option Value → zH → Prop} (hq : Q none (s ++ [], F_Row_init n a  w)) : zCall s_Row_init true [.ref a] (s, w) Q := by
  refine zcall_of rfl (Nat.le_of_ble_eq_true rfl) ?_
  show AW s_Row_init true 0 0 0 [(0, .ref a)] [] (s, w) _
  rw [← List.append_nil s]
  have hlt : a < n := by rw [← hn]; exact (List.getElem?_eq_some_iff.mp ha).1
  refine aw_aload_n 0 d_Row_init_0 rfl rfl ?_
  refine aw_objInit (st := []) (ztb_2 (i := 33) rfl rfl) (ztb_1 (i := 27) rfl rfl) (ztb_1 (i := 28) rfl rfl) (Nat.le_of_ble_eq_true rfl) (Nat.le_of_ble_eq_true rfl) d_Row_init_1 ?_
  refine aw_aload_n 0 d_Row_init_4 rfl rfl ?_
  refine aw_iconst 0 d_Row_init_5 (by decide) ?_
  refine ay_putZ fl_Row_9 (sh_l ha) (by decide) rfl rfl rfl (Nat.le_of_ble_eq_true rfl) d_Row_init_6 ?_
  refine aw_aload_n 0 d_Row_init_9 rfl rfl ?_
  refine aw_iconst (-1) d_Row_init_10 (by decide) ?_
  refine ay_putI fl_Row_15 (sh_l ha) rfl rfl rfl (Nat.le_of_ble_eq_true rfl) d_Row_init_11 ?_
  refine aw_aload_n 0 d_Row_init_14 rfl rfl ?_
  refine aw_iconst (-1) d_Row_init_15 (by decide) ?_
  refine ay_putI fl_Row_19 (sh_l ha) rfl rfl rfl (Nat.le_of_ble_eq_true rfl) d_Row_init_16 ?_
  refine aw_aload_n 0 d_Row_init_19 rfl rfl ?_
  refine aw_iconst (-1) d_Row_init_20 (by decide) ?_
  refine ay_putI fl_Row_22 (sh_l ha) rfl rfl rfl (Nat.le_of_ble_eq_true rfl) d_Row_init_21 ?_
  refine aw_aload_n 0 d_Row_init_24 rfl rfl ?_
  refine aw_iconst (-1) d_Row_init_25 (by decide) ?_
  refine ay_putI fl_Row_25 (sh_l ha) rfl rfl rfl (Nat.le_of_ble_eq_true rfl) d_Row_init_26 ?_
  refine aw_aload_n 0 d_Row_init_29 rfl rfl ?_
  refine aw_iconst (-1) d_Row_init_30 (by decide) ?_
  refine ay_putI fl_Row_28 (sh_l ha) rfl rfl rfl (Nat.le_of_ble_eq_true rfl) d_Row_init_31 ?_
  refine aw_aload_n 0 d_Row_init_34 rfl rfl ?_
  refine aw_iconst (-1) d_Row_init_35 (by decide) ?_
  refine ay_putI fl_Row_31 (sh_l ha) rfl rfl rfl (Nat.le_of_ble_eq_true rfl) d_Row_init_36 ?_
  refine aw_aload_n 0 d_Row_init_39 rfl rfl ?_
  refine aw_iconst 0 d_Row_init_40 (by decide) ?_
  refine ay_putZ fl_Row_34 (sh_l ha) (by decide) rfl rfl rfl (Nat.le_of_ble_eq_true rfl) d_Row_init_41 ?_
  exact aw_vret (st := []) (Nat.le_of_ble_eq_true rfl) (Nat.le_of_ble_eq_true rfl) rfl d_Row_init_44 hq
theorem mi_Table_53 : zLI R_Table 53 s_Row_init 0 := ⟨⟨by decide, by decide, by decide +kernel⟩, rfl, rfl, (ztb_2 (i := 32) rfl rfl), (ztb_2 (i := 31) rfl rfl), (ztb_1 (i := 10) rfl rfl), Or.inr ⟨"ProtocolAtlas", znw_at (i := 49) rfl⟩⟩
def F_Table_init (n a : Nat)  (w : zW) : zW := (wR (F_Row_init (n + 22) (n + 21) (wadd (wR (F_Row_init (n + 21) (n + 20) (wadd (wR (F_Row_init (n + 20) (n + 19) (wadd (wR (F_Row_init (n + 19) (n + 18) (wadd (wR (F_Row_init (n + 18) (n + 17) (wadd (wR (F_Row_init (n + 17) (n + 16) (wadd (wR (F_Row_init (n + 16) (n + 15) (wadd (wR (F_Row_init (n + 15) (n + 14) (wadd (wR (F_Row_init (n + 14) (n + 13) (wadd (wR (F_Row_init (n + 13) (n + 12) (wadd (wR (F_Row_init (n + 12) (n + 11) (wadd (wR (F_Row_init (n + 11) (n + 10) (wadd (wR (F_Row_init (n + 10) (n + 9) (wadd (wR (F_Row_init (n + 9) (n + 8) (wadd (wR (F_Row_init (n + 8) (n + 7) (wadd (wR (F_Row_init (n + 7) (n + 6) (wadd (wI (wI (wR (wadd (wR (wadd (wR (wadd (wI (wR (wadd (wI (wI (wR (wadd (wR (wadd (wI w a 0 0) (n + 0)) a 1 (n + 0)) (n + 1)) a 2 (n + 1)) a 3 0) a 4 0) (n + 2)) a 5 (n + 2)) a 6 0) (n + 3)) a 7 (n + 3)) (n + 4)) a 8 (n + 4)) (n + 5)) a 9 (n + 5)) a 10 (-1)) a 11 (-1)) (n + 6))) (n + 2) 0 (n + 6)) (n + 7))) (n + 2) 1 (n + 7)) (n + 8))) (n + 2) 2 (n + 8)) (n + 9))) (n + 2) 3 (n + 9)) (n + 10))) (n + 2) 4 (n + 10)) (n + 11))) (n + 2) 5 (n + 11)) (n + 12))) (n + 2) 6 (n + 12)) (n + 13))) (n + 2) 7 (n + 13)) (n + 14))) (n + 2) 8 (n + 14)) (n + 15))) (n + 2) 9 (n + 15)) (n + 16))) (n + 2) 10 (n + 16)) (n + 17))) (n + 2) 11 (n + 17)) (n + 18))) (n + 2) 12 (n + 18)) (n + 19))) (n + 2) 13 (n + 19)) (n + 20))) (n + 2) 14 (n + 20)) (n + 21))) (n + 2) 15 (n + 21))
set_option maxRecDepth 100000 in
set_option maxHeartbeats 4000000 in
theorem zi_Table_init {s : List zQs} {n : Nat} (a : Nat) (w : zW) (hn : s.length = n) (h9 : n + 22 ≤ 900) (ha : s[a]? = some (.inl 9))  {Q : Option Value → zH → Prop} (hq : Q none (s ++ [.inr (0, 3), .inr (0, 18), .inr (4, 16), .inr (0, 4), .inr (0, 12), .inr (0, 12), .inl 5, .inl 5, .inl 5, .inl 5, .inl 5, .inl 5, .inl 5, .inl 5, .inl 5, .inl 5, .inl 5, .inl 5, .inl 5, .inl 5, .inl 5, .inl 5], F_Table_init n a  w)) : zCall s_Table_init true [.ref a] (s, w) Q := by
  refine zcall_of rfl (Nat.le_of_ble_eq_true rfl) ?_
  show AW s_Table_init true 0 0 0 [(0, .ref a)] [] (s, w) _
  rw [← List.append_nil s]
  have hlt : a < n := by rw [← hn]; exact (List.getElem?_eq_some_iff.mp ha).1
  refine aw_aload_n 0 d_Table_init_0 rfl rfl ?_
  refine aw_objInit (st := []) (ztb_2 (i := 26) rfl rfl) (ztb_1 (i := 27) rfl rfl) (ztb_1 (i := 28) rfl rfl) (Nat.le_of_ble_eq_true rfl) (Nat.le_of_ble_eq_true rfl) d_Table_init_1 ?_
  refine aw_aload_n 0 d_Table_init_4 rfl rfl ?_
  refine aw_iconst 0 d_Table_init_5 (by decide) ?_
  refine ay_putI fl_Table_9 (sh_l ha) rfl rfl rfl (Nat.le_of_ble_eq_true rfl) d_Table_init_6 ?_
  refine aw_aload_n 0 d_Table_init_9 rfl rfl ?_
  refine aw_iconst 3 d_Table_init_10 (by decide) ?_
  refine ay_newa (t := 0) (n := 3) (n + 0) (ln hn 0 rfl) (by omega) (s ++ [.inr (0, 3)]) (List.append_assoc s _ _) rfl (by decide) (ztb_1 (i := 42) rfl rfl) (by decide) (by decide) (Nat.le_of_ble_eq_true rfl) (Nat.le_of_ble_eq_true rfl) (Nat.le_of_ble_eq_true rfl) d_Table_init_11 ?_
  refine ay_putFR fl_Table_15 (sh_l ha) (ztb_2 (i := 73) rfl rfl) rfl rfl rfl (Or.inr ⟨_, rfl⟩) rfl (Nat.le_of_ble_eq_true rfl) d_Table_init_13 ?_
  refine aw_aload_n 0 d_Table_init_16 rfl rfl ?_
  refine aw_bipush 18 d_Table_init_17 (by decide) ?_
  refine ay_newa (t := 0) (n := 18) (n + 1) (ln hn 1 rfl) (by omega) (s ++ [.inr (0, 3), .inr (0, 18)]) (List.append_assoc s _ _) rfl (by decide) (ztb_1 (i := 42) rfl rfl) (by decide) (by decide) (Nat.le_of_ble_eq_true rfl) (Nat.le_of_ble_eq_true rfl) (Nat.le_of_ble_eq_true rfl) d_Table_init_19 ?_
  refine ay_putFR fl_Table_19 (sh_l ha) (ztb_2 (i := 78) rfl rfl) rfl rfl rfl (Or.inr ⟨_, rfl⟩) rfl (Nat.le_of_ble_eq_true rfl) d_Table_init_21 ?_
  refine aw_aload_n 0 d_Table_init_24 rfl rfl ?_
  refine aw_iconst 0 d_Table_init_25 (by decide) ?_
  refine ay_putZ fl_Table_22 (sh_l ha) (by decide) rfl rfl rfl (Nat.le_of_ble_eq_true rfl) d_Table_init_26 ?_
  refine aw_aload_n 0 d_Table_init_29 rfl rfl ?_
  refine aw_iconst 0 d_Table_init_30 (by decide) ?_
  refine ay_putI fl_Table_26 (sh_l ha) rfl rfl rfl (Nat.le_of_ble_eq_true rfl) d_Table_init_31 ?_
  refine aw_aload_n 0 d_Table_init_34 rfl rfl ?_
  refine aw_bipush 16 d_Table_init_35 (by decide) ?_
  refine ay_newq (n := 16) (n + 2) (ln hn 2 rfl) (by omega) (s ++ [.inr (0, 3), .inr (0, 18), .inr (4, 16)]) (List.append_assoc s _ _) (ztb_2 (i := 27) rfl rfl) (by decide) (by decide) (Nat.le_of_ble_eq_true rfl) (Nat.le_of_ble_eq_true rfl) (Nat.le_of_ble_eq_true rfl) d_Table_init_37 ?_
  refine ay_putFR fl_Table_31 (sh_l ha) (ztb_2 (i := 87) rfl rfl) rfl rfl rfl (Or.inr ⟨_, rfl⟩) rfl (Nat.le_of_ble_eq_true rfl) d_Table_init_40 ?_
  refine aw_aload_n 0 d_Table_init_43 rfl rfl ?_
  refine aw_iconst 0 d_Table_init_44 (by decide) ?_
  refine ay_putI fl_Table_35 (sh_l ha) rfl rfl rfl (Nat.le_of_ble_eq_true rfl) d_Table_init_45 ?_
  refine aw_aload_n 0 d_Table_init_48 rfl rfl ?_
  refine aw_iconst 4 d_Table_init_49 (by decide) ?_
  refine ay_newa (t := 0) (n := 4) (n + 3) (ln hn 3 rfl) (by omega) (s ++ [.inr (0, 3), .inr (0, 18), .inr (4, 16), .inr (0, 4)]) (List.append_assoc s _ _) rfl (by decide) (ztb_1 (i := 42) rfl rfl) (by decide) (by decide) (Nat.le_of_ble_eq_true rfl) (Nat.le_of_ble_eq_true rfl) (Nat.le_of_ble_eq_true rfl) d_Table_init_50 ?_
  refine ay_putFR fl_Table_38 (sh_l ha) (ztb_2 (i := 92) rfl rfl) rfl rfl rfl (Or.inr ⟨_, rfl⟩) rfl (Nat.le_of_ble_eq_true rfl) d_Table_init_52 ?_
  refine aw_aload_n 0 d_Table_init_55 rfl rfl ?_
  refine aw_bipush 12 d_Table_init_56 (by decide) ?_
  refine ay_newa (t := 0) (n := 12) (n + 4) (ln hn 4 rfl) (by omega) (s ++ [.inr (0, 3), .inr (0, 18), .inr (4, 16), .inr (0, 4), .inr (0, 12)]) (List.append_assoc s _ _) rfl (by decide) (ztb_1 (i := 42) rfl rfl) (by decide) (by decide) (Nat.le_of_ble_eq_true rfl) (Nat.le_of_ble_eq_true rfl) (Nat.le_of_ble_eq_true rfl) d_Table_init_58 ?_
  refine ay_putFR fl_Table_41 (sh_l ha) (ztb_2 (i := 93) rfl rfl) rfl rfl rfl (Or.inr ⟨_, rfl⟩) rfl (Nat.le_of_ble_eq_true rfl) d_Table_init_60 ?_
  refine aw_aload_n 0 d_Table_init_63 rfl rfl ?_
  refine aw_bipush 12 d_Table_init_64 (by decide) ?_
  refine ay_newa (t := 0) (n := 12) (n + 5) (ln hn 5 rfl) (by omega) (s ++ [.inr (0, 3), .inr (0, 18), .inr (4, 16), .inr (0, 4), .inr (0, 12), .inr (0, 12)]) (List.append_assoc s _ _) rfl (by decide) (ztb_1 (i := 42) rfl rfl) (by decide) (by decide) (Nat.le_of_ble_eq_true rfl) (Nat.le_of_ble_eq_true rfl) (Nat.le_of_ble_eq_true rfl) d_Table_init_66 ?_
  refine ay_putFR fl_Table_44 (sh_l ha) (ztb_2 (i := 94) rfl rfl) rfl rfl rfl (Or.inr ⟨_, rfl⟩) rfl (Nat.le_of_ble_eq_true rfl) d_Table_init_68 ?_
  refine aw_aload_n 0 d_Table_init_71 rfl rfl ?_
  refine aw_iconst (-1) d_Table_init_72 (by decide) ?_
  refine ay_putI fl_Table_47 (sh_l ha) rfl rfl rfl (Nat.le_of_ble_eq_true rfl) d_Table_init_73 ?_
  refine aw_aload_n 0 d_Table_init_76 rfl rfl ?_
  refine aw_iconst (-1) d_Table_init_77 (by decide) ?_
  refine ay_putI fl_Table_50 (sh_l ha) rfl rfl rfl (Nat.le_of_ble_eq_true rfl) d_Table_init_78 ?_
  refine aw_iconst 0 d_Table_init_81 (by decide) ?_
  refine aw_istore_n (ls1 := [(1, .int 0), (0, .ref a)]) d_Table_init_82 rfl (Nat.le_of_ble_eq_true rfl) rfl ?_
  refine aw_iload_n 0 d_Table_init_83 rfl rfl ?_
  refine aw_bipush 16 d_Table_init_84 (by decide) ?_
  refine aw_icmp_ge 108 d_Table_init_86 rfl (fun hc => absurd hc (by decide)) (fun _ => ?_)
  refine aw_aload_n 1 d_Table_init_89 rfl rfl ?_
  refine ay_getR fl_Table_31 (sh_l ha) rfl (n + 2) ((wI_r).trans ((wI_r).trans ((wR_r2 (by omega)).trans ((wadd_r (by omega)).trans ((wR_r2 (by omega)).trans ((wadd_r (by omega)).trans ((wR_r2 (by omega)).trans ((wadd_r (by omega)).trans ((wI_r).trans (wR_r1)))))))))) d_Table_init_90 ?_
  refine aw_iload_n 0 d_Table_init_93 rfl rfl ?_
  refine ay_new (n + 6) (ln hn 6 rfl) (by omega) (s ++ [.inr (0, 3), .inr (0, 18), .inr (4, 16), .inr (0, 4), .inr (0, 12), .inr (0, 12), .inl 5]) (List.append_assoc s _ _) zk_Row ty2_Row (ztb_2 (i := 27) rfl rfl) (ztb_2 (i := 29) rfl rfl) (ztb_1 (i := 10) rfl rfl) (Nat.le_of_ble_eq_true rfl) (Nat.le_of_ble_eq_true rfl) d_Table_init_94 ?_
  refine aw_dup d_Table_init_97 rfl ?_
  refine aw_callI mi_Table_53 ⟨Nat.le_of_ble_eq_true rfl, Nat.le_of_ble_eq_true rfl⟩ [] [.ref (n + 6), .ref (n + 6), .int 0, .ref (n + 2)] rfl rfl (Nat.le_of_ble_eq_true rfl) d_Table_init_98 ⟨Nat.le_of_ble_eq_true rfl, Nat.le_of_ble_eq_true rfl⟩ (zi_Row_init _ _ (ln hn 7 rfl) (by omega) (sh_r hn (j := 6) rfl)  ?_)
  rw [List.append_assoc]
  show AW _ true _ _ _ _ _ (s ++ [.inr (0, 3), .inr (0, 18), .inr (4, 16), .inr (0, 4), .inr (0, 12), .inr (0, 12), .inl 5], _) _
  refine ay_aastore (n := 16) (i := 0) (sh_r hn (j := 2) rfl) (sh_r hn (j := 6) rfl) (vpd rfl) (by decide) d_Table_init_101 ?_
  refine aw_iinc (ls1 := [(1, .int 1), (0, .ref a)]) 0 1 d_Table_init_102 rfl (by decide) (Nat.le_of_ble_eq_true rfl) rfl ?_
  refine aw_goto 83 d_Table_init_105 rfl ?_
  refine aw_iload_n 0 d_Table_init_83 rfl rfl ?_
  refine aw_bipush 16 d_Table_init_84 (by decide) ?_
  refine aw_icmp_ge 108 d_Table_init_86 rfl (fun hc => absurd hc (by decide)) (fun _ => ?_)
  refine aw_aload_n 1 d_Table_init_89 rfl rfl ?_
  refine ay_getR fl_Table_31 (sh_l ha) rfl (n + 2) ((wR_r2 (by omega)).trans ((rd_Row).trans ((wadd_r (by omega)).trans ((wI_r).trans ((wI_r).trans ((wR_r2 (by omega)).trans ((wadd_r (by omega)).trans ((wR_r2 (by omega)).trans ((wadd_r (by omega)).trans ((wR_r2 (by omega)).trans ((wadd_r (by omega)).trans ((wI_r).trans (wR_r1))))))))))))) d_Table_init_90 ?_
  refine aw_iload_n 0 d_Table_init_93 rfl rfl ?_
  refine ay_new (n + 7) (ln hn 7 rfl) (by omega) (s ++ [.inr (0, 3), .inr (0, 18), .inr (4, 16), .inr (0, 4), .inr (0, 12), .inr (0, 12), .inl 5, .inl 5]) (List.append_assoc s _ _) zk_Row ty2_Row (ztb_2 (i := 27) rfl rfl) (ztb_2 (i := 29) rfl rfl) (ztb_1 (i := 10) rfl rfl) (Nat.le_of_ble_eq_true rfl) (Nat.le_of_ble_eq_true rfl) d_Table_init_94 ?_
  refine aw_dup d_Table_init_97 rfl ?_
  refine aw_callI mi_Table_53 ⟨Nat.le_of_ble_eq_true rfl, Nat.le_of_ble_eq_true rfl⟩ [] [.ref (n + 7), .ref (n + 7), .int 1, .ref (n + 2)] rfl rfl (Nat.le_of_ble_eq_true rfl) d_Table_init_98 ⟨Nat.le_of_ble_eq_true rfl, Nat.le_of_ble_eq_true rfl⟩ (zi_Row_init _ _ (ln hn 8 rfl) (by omega) (sh_r hn (j := 7) rfl)  ?_)
  rw [List.append_assoc]
  show AW _ true _ _ _ _ _ (s ++ [.inr (0, 3), .inr (0, 18), .inr (4, 16), .inr (0, 4), .inr (0, 12), .inr (0, 12), .inl 5, .inl 5], _) _
  refine ay_aastore (n := 16) (i := 1) (sh_r hn (j := 2) rfl) (sh_r hn (j := 7) rfl) (vpd rfl) (by decide) d_Table_init_101 ?_
  refine aw_iinc (ls1 := [(1, .int 2), (0, .ref a)]) 0 1 d_Table_init_102 rfl (by decide) (Nat.le_of_ble_eq_true rfl) rfl ?_
  refine aw_goto 83 d_Table_init_105 rfl ?_
  refine aw_iload_n 0 d_Table_init_83 rfl rfl ?_
  refine aw_bipush 16 d_Table_init_84 (by decide) ?_
  refine aw_icmp_ge 108 d_Table_init_86 rfl (fun hc => absurd hc (by decide)) (fun _ => ?_)
  refine aw_aload_n 1 d_Table_init_89 rfl rfl ?_
  refine ay_getR fl_Table_31 (sh_l ha) rfl (n + 2) ((wR_r2 (by omega)).trans ((rd_Row).trans ((wadd_r (by omega)).trans ((wR_r2 (by omega)).trans ((rd_Row).trans ((wadd_r (by omega)).trans ((wI_r).trans ((wI_r).trans ((wR_r2 (by omega)).trans ((wadd_r (by omega)).trans ((wR_r2 (by omega)).trans ((wadd_r (by omega)).trans ((wR_r2 (by omega)).trans ((wadd_r (by omega)).trans ((wI_r).trans (wR_r1)))))))))))))))) d_Table_init_90 ?_
  refine aw_iload_n 0 d_Table_init_93 rfl rfl ?_
  refine ay_new (n + 8) (ln hn 8 rfl) (by omega) (s ++ [.inr (0, 3), .inr (0, 18), .inr (4, 16), .inr (0, 4), .inr (0, 12), .inr (0, 12), .inl 5, .inl 5, .inl 5]) (List.append_assoc s _ _) zk_Row ty2_Row (ztb_2 (i := 27) rfl rfl) (ztb_2 (i := 29) rfl rfl) (ztb_1 (i := 10) rfl rfl) (Nat.le_of_ble_eq_true rfl) (Nat.le_of_ble_eq_true rfl) d_Table_init_94 ?_
  refine aw_dup d_Table_init_97 rfl ?_
  refine aw_callI mi_Table_53 ⟨Nat.le_of_ble_eq_true rfl, Nat.le_of_ble_eq_true rfl⟩ [] [.ref (n + 8), .ref (n + 8), .int 2, .ref (n + 2)] rfl rfl (Nat.le_of_ble_eq_true rfl) d_Table_init_98 ⟨Nat.le_of_ble_eq_true rfl, Nat.le_of_ble_eq_true rfl⟩ (zi_Row_init _ _ (ln hn 9 rfl) (by omega) (sh_r hn (j := 8) rfl)  ?_)
  rw [List.append_assoc]
  show AW _ true _ _ _ _ _ (s ++ [.inr (0, 3), .inr (0, 18), .inr (4, 16), .inr (0, 4), .inr (0, 12), .inr (0, 12), .inl 5, .inl 5, .inl 5], _) _
  refine ay_aastore (n := 16) (i := 2) (sh_r hn (j := 2) rfl) (sh_r hn (j := 8) rfl) (vpd rfl) (by decide) d_Table_init_101 ?_
  refine aw_iinc (ls1 := [(1, .int 3), (0, .ref a)]) 0 1 d_Table_init_102 rfl (by decide) (Nat.le_of_ble_eq_true rfl) rfl ?_
  refine aw_goto 83 d_Table_init_105 rfl ?_
  refine aw_iload_n 0 d_Table_init_83 rfl rfl ?_
  refine aw_bipush 16 d_Table_init_84 (by decide) ?_
  refine aw_icmp_ge 108 d_Table_init_86 rfl (fun hc => absurd hc (by decide)) (fun _ => ?_)
  refine aw_aload_n 1 d_Table_init_89 rfl rfl ?_
  refine ay_getR fl_Table_31 (sh_l ha) rfl (n + 2) ((wR_r2 (by omega)).trans ((rd_Row).trans ((wadd_r (by omega)).trans ((wR_r2 (by omega)).trans ((rd_Row).trans ((wadd_r (by omega)).trans ((wR_r2 (by omega)).trans ((rd_Row).trans ((wadd_r (by omega)).trans ((wI_r).trans ((wI_r).trans ((wR_r2 (by omega)).trans ((wadd_r (by omega)).trans ((wR_r2 (by omega)).trans ((wadd_r (by omega)).trans ((wR_r2 (by omega)).trans ((wadd_r (by omega)).trans ((wI_r).trans (wR_r1))))))))))))))))))) d_Table_init_90 ?_
  refine aw_iload_n 0 d_Table_init_93 rfl rfl ?_
  refine ay_new (n + 9) (ln hn 9 rfl) (by omega) (s ++ [.inr (0, 3), .inr (0, 18), .inr (4, 16), .inr (0, 4), .inr (0, 12), .inr (0, 12), .inl 5, .inl 5, .inl 5, .inl 5]) (List.append_assoc s _ _) zk_Row ty2_Row (ztb_2 (i := 27) rfl rfl) (ztb_2 (i := 29) rfl rfl) (ztb_1 (i := 10) rfl rfl) (Nat.le_of_ble_eq_true rfl) (Nat.le_of_ble_eq_true rfl) d_Table_init_94 ?_
  refine aw_dup d_Table_init_97 rfl ?_
  refine aw_callI mi_Table_53 ⟨Nat.le_of_ble_eq_true rfl, Nat.le_of_ble_eq_true rfl⟩ [] [.ref (n + 9), .ref (n + 9), .int 3, .ref (n + 2)] rfl rfl (Nat.le_of_ble_eq_true rfl) d_Table_init_98 ⟨Nat.le_of_ble_eq_true rfl, Nat.le_of_ble_eq_true rfl⟩ (zi_Row_init _ _ (ln hn 10 rfl) (by omega) (sh_r hn (j := 9) rfl)  ?_)
  rw [List.append_assoc]
  show AW _ true _ _ _ _ _ (s ++ [.inr (0, 3), .inr (0, 18), .inr (4, 16), .inr (0, 4), .inr (0, 12), .inr (0, 12), .inl 5, .inl 5, .inl 5, .inl 5], _) _
  refine ay_aastore (n := 16) (i := 3) (sh_r hn (j := 2) rfl) (sh_r hn (j := 9) rfl) (vpd rfl) (by decide) d_Table_init_101 ?_
  refine aw_iinc (ls1 := [(1, .int 4), (0, .ref a)]) 0 1 d_Table_init_102 rfl (by decide) (Nat.le_of_ble_eq_true rfl) rfl ?_
  refine aw_goto 83 d_Table_init_105 rfl ?_
  refine aw_iload_n 0 d_Table_init_83 rfl rfl ?_
  refine aw_bipush 16 d_Table_init_84 (by decide) ?_
  refine aw_icmp_ge 108 d_Table_init_86 rfl (fun hc => absurd hc (by decide)) (fun _ => ?_)
  refine aw_aload_n 1 d_Table_init_89 rfl rfl ?_
  refine ay_getR fl_Table_31 (sh_l ha) rfl (n + 2) ((wR_r2 (by omega)).trans ((rd_Row).trans ((wadd_r (by omega)).trans ((wR_r2 (by omega)).trans ((rd_Row).trans ((wadd_r (by omega)).trans ((wR_r2 (by omega)).trans ((rd_Row).trans ((wadd_r (by omega)).trans ((wR_r2 (by omega)).trans ((rd_Row).trans ((wadd_r (by omega)).trans ((wI_r).trans ((wI_r).trans ((wR_r2 (by omega)).trans ((wadd_r (by omega)).trans ((wR_r2 (by omega)).trans ((wadd_r (by omega)).trans ((wR_r2 (by omega)).trans ((wadd_r (by omega)).trans ((wI_r).trans (wR_r1)))))))))))))))))))))) d_Table_init_90 ?_
  refine aw_iload_n 0 d_Table_init_93 rfl rfl ?_
  refine ay_new (n + 10) (ln hn 10 rfl) (by omega) (s ++ [.inr (0, 3), .inr (0, 18), .inr (4, 16), .inr (0, 4), .inr (0, 12), .inr (0, 12), .inl 5, .inl 5, .inl 5, .inl 5, .inl 5]) (List.append_assoc s _ _) zk_Row ty2_Row (ztb_2 (i := 27) rfl rfl) (ztb_2 (i := 29) rfl rfl) (ztb_1 (i := 10) rfl rfl) (Nat.le_of_ble_eq_true rfl) (Nat.le_of_ble_eq_true rfl) d_Table_init_94 ?_
  refine aw_dup d_Table_init_97 rfl ?_
  refine aw_callI mi_Table_53 ⟨Nat.le_of_ble_eq_true rfl, Nat.le_of_ble_eq_true rfl⟩ [] [.ref (n + 10), .ref (n + 10), .int 4, .ref (n + 2)] rfl rfl (Nat.le_of_ble_eq_true rfl) d_Table_init_98 ⟨Nat.le_of_ble_eq_true rfl, Nat.le_of_ble_eq_true rfl⟩ (zi_Row_init _ _ (ln hn 11 rfl) (by omega) (sh_r hn (j := 10) rfl)  ?_)
  rw [List.append_assoc]
  show AW _ true _ _ _ _ _ (s ++ [.inr (0, 3), .inr (0, 18), .inr (4, 16), .inr (0, 4), .inr (0, 12), .inr (0, 12), .inl 5, .inl 5, .inl 5, .inl 5, .inl 5], _) _
  refine ay_aastore (n := 16) (i := 4) (sh_r hn (j := 2) rfl) (sh_r hn (j := 10) rfl) (vpd rfl) (by decide) d_Table_init_101 ?_
  refine aw_iinc (ls1 := [(1, .int 5), (0, .ref a)]) 0 1 d_Table_init_102 rfl (by decide) (Nat.le_of_ble_eq_true rfl) rfl ?_
  refine aw_goto 83 d_Table_init_105 rfl ?_
  refine aw_iload_n 0 d_Table_init_83 rfl rfl ?_
  refine aw_bipush 16 d_Table_init_84 (by decide) ?_
  refine aw_icmp_ge 108 d_Table_init_86 rfl (fun hc => absurd hc (by decide)) (fun _ => ?_)
  refine aw_aload_n 1 d_Table_init_89 rfl rfl ?_
  refine ay_getR fl_Table_31 (sh_l ha) rfl (n + 2) ((wR_r2 (by omega)).trans ((rd_Row).trans ((wadd_r (by omega)).trans ((wR_r2 (by omega)).trans ((rd_Row).trans ((wadd_r (by omega)).trans ((wR_r2 (by omega)).trans ((rd_Row).trans ((wadd_r (by omega)).trans ((wR_r2 (by omega)).trans ((rd_Row).trans ((wadd_r (by omega)).trans ((wR_r2 (by omega)).trans ((rd_Row).trans ((wadd_r (by omega)).trans ((wI_r).trans ((wI_r).trans ((wR_r2 (by omega)).trans ((wadd_r (by omega)).trans ((wR_r2 (by omega)).trans ((wadd_r (by omega)).trans ((wR_r2 (by omega)).trans ((wadd_r (by omega)).trans ((wI_r).trans (wR_r1))))))))))))))))))))))))) d_Table_init_90 ?_
  refine aw_iload_n 0 d_Table_init_93 rfl rfl ?_
  refine ay_new (n + 11) (ln hn 11 rfl) (by omega) (s ++ [.inr (0, 3), .inr (0, 18), .inr (4, 16), .inr (0, 4), .inr (0, 12), .inr (0, 12), .inl 5, .inl 5, .inl 5, .inl 5, .inl 5, .inl 5]) (List.append_assoc s _ _) zk_Row ty2_Row (ztb_2 (i := 27) rfl rfl) (ztb_2 (i := 29) rfl rfl) (ztb_1 (i := 10) rfl rfl) (Nat.le_of_ble_eq_true rfl) (Nat.le_of_ble_eq_true rfl) d_Table_init_94 ?_
  refine aw_dup d_Table_init_97 rfl ?_
  refine aw_callI mi_Table_53 ⟨Nat.le_of_ble_eq_true rfl, Nat.le_of_ble_eq_true rfl⟩ [] [.ref (n + 11), .ref (n + 11), .int 5, .ref (n + 2)] rfl rfl (Nat.le_of_ble_eq_true rfl) d_Table_init_98 ⟨Nat.le_of_ble_eq_true rfl, Nat.le_of_ble_eq_true rfl⟩ (zi_Row_init _ _ (ln hn 12 rfl) (by omega) (sh_r hn (j := 11) rfl)  ?_)
  rw [List.append_assoc]
  show AW _ true _ _ _ _ _ (s ++ [.inr (0, 3), .inr (0, 18), .inr (4, 16), .inr (0, 4), .inr (0, 12), .inr (0, 12), .inl 5, .inl 5, .inl 5, .inl 5, .inl 5, .inl 5], _) _
  refine ay_aastore (n := 16) (i := 5) (sh_r hn (j := 2) rfl) (sh_r hn (j := 11) rfl) (vpd rfl) (by decide) d_Table_init_101 ?_
  refine aw_iinc (ls1 := [(1, .int 6), (0, .ref a)]) 0 1 d_Table_init_102 rfl (by decide) (Nat.le_of_ble_eq_true rfl) rfl ?_
  refine aw_goto 83 d_Table_init_105 rfl ?_
  refine aw_iload_n 0 d_Table_init_83 rfl rfl ?_
  refine aw_bipush 16 d_Table_init_84 (by decide) ?_
  refine aw_icmp_ge 108 d_Table_init_86 rfl (fun hc => absurd hc (by decide)) (fun _ => ?_)
  refine aw_aload_n 1 d_Table_init_89 rfl rfl ?_
  refine ay_getR fl_Table_31 (sh_l ha) rfl (n + 2) ((wR_r2 (by omega)).trans ((rd_Row).trans ((wadd_r (by omega)).trans ((wR_r2 (by omega)).trans ((rd_Row).trans ((wadd_r (by omega)).trans ((wR_r2 (by omega)).trans ((rd_Row).trans ((wadd_r (by omega)).trans ((wR_r2 (by omega)).trans ((rd_Row).trans ((wadd_r (by omega)).trans ((wR_r2 (by omega)).trans ((rd_Row).trans ((wadd_r (by omega)).trans ((wR_r2 (by omega)).trans ((rd_Row).trans ((wadd_r (by omega)).trans ((wI_r).trans ((wI_r).trans ((wR_r2 (by omega)).trans ((wadd_r (by omega)).trans ((wR_r2 (by omega)).trans ((wadd_r (by omega)).trans ((wR_r2 (by omega)).trans ((wadd_r (by omega)).trans ((wI_r).trans (wR_r1)))))))))))))))))))))))))))) d_Table_init_90 ?_
  refine aw_iload_n 0 d_Table_init_93 rfl rfl ?_
  refine ay_new (n + 12) (ln hn 12 rfl) (by omega) (s ++ [.inr (0, 3), .inr (0, 18), .inr (4, 16), .inr (0, 4), .inr (0, 12), .inr (0, 12), .inl 5, .inl 5, .inl 5, .inl 5, .inl 5, .inl 5, .inl 5]) (List.append_assoc s _ _) zk_Row ty2_Row (ztb_2 (i := 27) rfl rfl) (ztb_2 (i := 29) rfl rfl) (ztb_1 (i := 10) rfl rfl) (Nat.le_of_ble_eq_true rfl) (Nat.le_of_ble_eq_true rfl) d_Table_init_94 ?_
  refine aw_dup d_Table_init_97 rfl ?_
  refine aw_callI mi_Table_53 ⟨Nat.le_of_ble_eq_true rfl, Nat.le_of_ble_eq_true rfl⟩ [] [.ref (n + 12), .ref (n + 12), .int 6, .ref (n + 2)] rfl rfl (Nat.le_of_ble_eq_true rfl) d_Table_init_98 ⟨Nat.le_of_ble_eq_true rfl, Nat.le_of_ble_eq_true rfl⟩ (zi_Row_init _ _ (ln hn 13 rfl) (by omega) (sh_r hn (j := 12) rfl)  ?_)
  rw [List.append_assoc]
  show AW _ true _ _ _ _ _ (s ++ [.inr (0, 3), .inr (0, 18), .inr (4, 16), .inr (0, 4), .inr (0, 12), .inr (0, 12), .inl 5, .inl 5, .inl 5, .inl 5, .inl 5, .inl 5, .inl 5], _) _
  refine ay_aastore (n := 16) (i := 6) (sh_r hn (j := 2) rfl) (sh_r hn (j := 12) rfl) (vpd rfl) (by decide) d_Table_init_101 ?_
  refine aw_iinc (ls1 := [(1, .int 7), (0, .ref a)]) 0 1 d_Table_init_102 rfl (by decide) (Nat.le_of_ble_eq_true rfl) rfl ?_
  refine aw_goto 83 d_Table_init_105 rfl ?_
  refine aw_iload_n 0 d_Table_init_83 rfl rfl ?_
  refine aw_bipush 16 d_Table_init_84 (by decide) ?_
  refine aw_icmp_ge 108 d_Table_init_86 rfl (fun hc => absurd hc (by decide)) (fun _ => ?_)
  refine aw_aload_n 1 d_Table_init_89 rfl rfl ?_
  refine ay_getR fl_Table_31 (sh_l ha) rfl (n + 2) ((wR_r2 (by omega)).trans ((rd_Row).trans ((wadd_r (by omega)).trans ((wR_r2 (by omega)).trans ((rd_Row).trans ((wadd_r (by omega)).trans ((wR_r2 (by omega)).trans ((rd_Row).trans ((wadd_r (by omega)).trans ((wR_r2 (by omega)).trans ((rd_Row).trans ((wadd_r (by omega)).trans ((wR_r2 (by omega)).trans ((rd_Row).trans ((wadd_r (by omega)).trans ((wR_r2 (by omega)).trans ((rd_Row).trans ((wadd_r (by omega)).trans ((wR_r2 (by omega)).trans ((rd_Row).trans ((wadd_r (by omega)).trans ((wI_r).trans ((wI_r).trans ((wR_r2 (by omega)).trans ((wadd_r (by omega)).trans ((wR_r2 (by omega)).trans ((wadd_r (by omega)).trans ((wR_r2 (by omega)).trans ((wadd_r (by omega)).trans ((wI_r).trans (wR_r1))))))))))))))))))))))))))))))) d_Table_init_90 ?_
  refine aw_iload_n 0 d_Table_init_93 rfl rfl ?_
  refine ay_new (n + 13) (ln hn 13 rfl) (by omega) (s ++ [.inr (0, 3), .inr (0, 18), .inr (4, 16), .inr (0, 4), .inr (0, 12), .inr (0, 12), .inl 5, .inl 5, .inl 5, .inl 5, .inl 5, .inl 5, .inl 5, .inl 5]) (List.append_assoc s _ _) zk_Row ty2_Row (ztb_2 (i := 27) rfl rfl) (ztb_2 (i := 29) rfl rfl) (ztb_1 (i := 10) rfl rfl) (Nat.le_of_ble_eq_true rfl) (Nat.le_of_ble_eq_true rfl) d_Table_init_94 ?_
  refine aw_dup d_Table_init_97 rfl ?_
  refine aw_callI mi_Table_53 ⟨Nat.le_of_ble_eq_true rfl, Nat.le_of_ble_eq_true rfl⟩ [] [.ref (n + 13), .ref (n + 13), .int 7, .ref (n + 2)] rfl rfl (Nat.le_of_ble_eq_true rfl) d_Table_init_98 ⟨Nat.le_of_ble_eq_true rfl, Nat.le_of_ble_eq_true rfl⟩ (zi_Row_init _ _ (ln hn 14 rfl) (by omega) (sh_r hn (j := 13) rfl)  ?_)
  rw [List.append_assoc]
  show AW _ true _ _ _ _ _ (s ++ [.inr (0, 3), .inr (0, 18), .inr (4, 16), .inr (0, 4), .inr (0, 12), .inr (0, 12), .inl 5, .inl 5, .inl 5, .inl 5, .inl 5, .inl 5, .inl 5, .inl 5], _) _
  refine ay_aastore (n := 16) (i := 7) (sh_r hn (j := 2) rfl) (sh_r hn (j := 13) rfl) (vpd rfl) (by decide) d_Table_init_101 ?_
  refine aw_iinc (ls1 := [(1, .int 8), (0, .ref a)]) 0 1 d_Table_init_102 rfl (by decide) (Nat.le_of_ble_eq_true rfl) rfl ?_
  refine aw_goto 83 d_Table_init_105 rfl ?_
  refine aw_iload_n 0 d_Table_init_83 rfl rfl ?_
  refine aw_bipush 16 d_Table_init_84 (by decide) ?_
  refine aw_icmp_ge 108 d_Table_init_86 rfl (fun hc => absurd hc (by decide)) (fun _ => ?_)
  refine aw_aload_n 1 d_Table_init_89 rfl rfl ?_
  refine ay_getR fl_Table_31 (sh_l ha) rfl (n + 2) ((wR_r2 (by omega)).trans ((rd_Row).trans ((wadd_r (by omega)).trans ((wR_r2 (by omega)).trans ((rd_Row).trans ((wadd_r (by omega)).trans ((wR_r2 (by omega)).trans ((rd_Row).trans ((wadd_r (by omega)).trans ((wR_r2 (by omega)).trans ((rd_Row).trans ((wadd_r (by omega)).trans ((wR_r2 (by omega)).trans ((rd_Row).trans ((wadd_r (by omega)).trans ((wR_r2 (by omega)).trans ((rd_Row).trans ((wadd_r (by omega)).trans ((wR_r2 (by omega)).trans ((rd_Row).trans ((wadd_r (by omega)).trans ((wR_r2 (by omega)).trans ((rd_Row).trans ((wadd_r (by omega)).trans ((wI_r).trans ((wI_r).trans ((wR_r2 (by omega)).trans ((wadd_r (by omega)).trans ((wR_r2 (by omega)).trans ((wadd_r (by omega)).trans ((wR_r2 (by omega)).trans ((wadd_r (by omega)).trans ((wI_r).trans (wR_r1)))))))))))))))))))))))))))))))))) d_Table_init_90 ?_
  refine aw_iload_n 0 d_Table_init_93 rfl rfl ?_
  refine ay_new (n + 14) (ln hn 14 rfl) (by omega) (s ++ [.inr (0, 3), .inr (0, 18), .inr (4, 16), .inr (0, 4), .inr (0, 12), .inr (0, 12), .inl 5, .inl 5, .inl 5, .inl 5, .inl 5, .inl 5, .inl 5, .inl 5, .inl 5]) (List.append_assoc s _ _) zk_Row ty2_Row (ztb_2 (i := 27) rfl rfl) (ztb_2 (i := 29) rfl rfl) (ztb_1 (i := 10) rfl rfl) (Nat.le_of_ble_eq_true rfl) (Nat.le_of_ble_eq_true rfl) d_Table_init_94 ?_
  refine aw_dup d_Table_init_97 rfl ?_
  refine aw_callI mi_Table_53 ⟨Nat.le_of_ble_eq_true rfl, Nat.le_of_ble_eq_true rfl⟩ [] [.ref (n + 14), .ref (n + 14), .int 8, .ref (n + 2)] rfl rfl (Nat.le_of_ble_eq_true rfl) d_Table_init_98 ⟨Nat.le_of_ble_eq_true rfl, Nat.le_of_ble_eq_true rfl⟩ (zi_Row_init _ _ (ln hn 15 rfl) (by omega) (sh_r hn (j := 14) rfl)  ?_)
  rw [List.append_assoc]
  show AW _ true _ _ _ _ _ (s ++ [.inr (0, 3), .inr (0, 18), .inr (4, 16), .inr (0, 4), .inr (0, 12), .inr (0, 12), .inl 5, .inl 5, .inl 5, .inl 5, .inl 5, .inl 5, .inl 5, .inl 5, .inl 5], _) _
  refine ay_aastore (n := 16) (i := 8) (sh_r hn (j := 2) rfl) (sh_r hn (j := 14) rfl) (vpd rfl) (by decide) d_Table_init_101 ?_
  refine aw_iinc (ls1 := [(1, .int 9), (0, .ref a)]) 0 1 d_Table_init_102 rfl (by decide) (Nat.le_of_ble_eq_true rfl) rfl ?_
  refine aw_goto 83 d_Table_init_105 rfl ?_
  refine aw_iload_n 0 d_Table_init_83 rfl rfl ?_
  refine aw_bipush 16 d_Table_init_84 (by decide) ?_
  refine aw_icmp_ge 108 d_Table_init_86 rfl (fun hc => absurd hc (by decide)) (fun _ => ?_)
  refine aw_aload_n 1 d_Table_init_89 rfl rfl ?_
  refine ay_getR fl_Table_31 (sh_l ha) rfl (n + 2) ((wR_r2 (by omega)).trans ((rd_Row).trans ((wadd_r (by omega)).trans ((wR_r2 (by omega)).trans ((rd_Row).trans ((wadd_r (by omega)).trans ((wR_r2 (by omega)).trans ((rd_Row).trans ((wadd_r (by omega)).trans ((wR_r2 (by omega)).trans ((rd_Row).trans ((wadd_r (by omega)).trans ((wR_r2 (by omega)).trans ((rd_Row).trans ((wadd_r (by omega)).trans ((wR_r2 (by omega)).trans ((rd_Row).trans ((wadd_r (by omega)).trans ((wR_r2 (by omega)).trans ((rd_Row).trans ((wadd_r (by omega)).trans ((wR_r2 (by omega)).trans ((rd_Row).trans ((wadd_r (by omega)).trans ((wR_r2 (by omega)).trans ((rd_Row).trans ((wadd_r (by omega)).trans ((wI_r).trans ((wI_r).trans ((wR_r2 (by omega)).trans ((wadd_r (by omega)).trans ((wR_r2 (by omega)).trans ((wadd_r (by omega)).trans ((wR_r2 (by omega)).trans ((wadd_r (by omega)).trans ((wI_r).trans (wR_r1))))))))))))))))))))))))))))))))))))) d_Table_init_90 ?_
  refine aw_iload_n 0 d_Table_init_93 rfl rfl ?_
  refine ay_new (n + 15) (ln hn 15 rfl) (by omega) (s ++ [.inr (0, 3), .inr (0, 18), .inr (4, 16), .inr (0, 4), .inr (0, 12), .inr (0, 12), .inl 5, .inl 5, .inl 5, .inl 5, .inl 5, .inl 5, .inl 5, .inl 5, .inl 5, .inl 5]) (List.append_assoc s _ _) zk_Row ty2_Row (ztb_2 (i := 27) rfl rfl) (ztb_2 (i := 29) rfl rfl) (ztb_1 (i := 10) rfl rfl) (Nat.le_of_ble_eq_true rfl) (Nat.le_of_ble_eq_true rfl) d_Table_init_94 ?_
  refine aw_dup d_Table_init_97 rfl ?_
  refine aw_callI mi_Table_53 ⟨Nat.le_of_ble_eq_true rfl, Nat.le_of_ble_eq_true rfl⟩ [] [.ref (n + 15), .ref (n + 15), .int 9, .ref (n + 2)] rfl rfl (Nat.le_of_ble_eq_true rfl) d_Table_init_98 ⟨Nat.le_of_ble_eq_true rfl, Nat.le_of_ble_eq_true rfl⟩ (zi_Row_init _ _ (ln hn 16 rfl) (by omega) (sh_r hn (j := 15) rfl)  ?_)
  rw [List.append_assoc]
  show AW _ true _ _ _ _ _ (s ++ [.inr (0, 3), .inr (0, 18), .inr (4, 16), .inr (0, 4), .inr (0, 12), .inr (0, 12), .inl 5, .inl 5, .inl 5, .inl 5, .inl 5, .inl 5, .inl 5, .inl 5, .inl 5, .inl 5], _) _
  refine ay_aastore (n := 16) (i := 9) (sh_r hn (j := 2) rfl) (sh_r hn (j := 15) rfl) (vpd rfl) (by decide) d_Table_init_101 ?_
  refine aw_iinc (ls1 := [(1, .int 10), (0, .ref a)]) 0 1 d_Table_init_102 rfl (by decide) (Nat.le_of_ble_eq_true rfl) rfl ?_
  refine aw_goto 83 d_Table_init_105 rfl ?_
  refine aw_iload_n 0 d_Table_init_83 rfl rfl ?_
  refine aw_bipush 16 d_Table_init_84 (by decide) ?_
  refine aw_icmp_ge 108 d_Table_init_86 rfl (fun hc => absurd hc (by decide)) (fun _ => ?_)
  refine aw_aload_n 1 d_Table_init_89 rfl rfl ?_
  refine ay_getR fl_Table_31 (sh_l ha) rfl (n + 2) ((wR_r2 (by omega)).trans ((rd_Row).trans ((wadd_r (by omega)).trans ((wR_r2 (by omega)).trans ((rd_Row).trans ((wadd_r (by omega)).trans ((wR_r2 (by omega)).trans ((rd_Row).trans ((wadd_r (by omega)).trans ((wR_r2 (by omega)).trans ((rd_Row).trans ((wadd_r (by omega)).trans ((wR_r2 (by omega)).trans ((rd_Row).trans ((wadd_r (by omega)).trans ((wR_r2 (by omega)).trans ((rd_Row).trans ((wadd_r (by omega)).trans ((wR_r2 (by omega)).trans ((rd_Row).trans ((wadd_r (by omega)).trans ((wR_r2 (by omega)).trans ((rd_Row).trans ((wadd_r (by omega)).trans ((wR_r2 (by omega)).trans ((rd_Row).trans ((wadd_r (by omega)).trans ((wR_r2 (by omega)).trans ((rd_Row).trans ((wadd_r (by omega)).trans ((wI_r).trans ((wI_r).trans ((wR_r2 (by omega)).trans ((wadd_r (by omega)).trans ((wR_r2 (by omega)).trans ((wadd_r (by omega)).trans ((wR_r2 (by omega)).trans ((wadd_r (by omega)).trans ((wI_r).trans (wR_r1)))))))))))))))))))))))))))))))))))))))) d_Table_init_90 ?_
  refine aw_iload_n 0 d_Table_init_93 rfl rfl ?_
  refine ay_new (n + 16) (ln hn 16 rfl) (by omega) (s ++ [.inr (0, 3), .inr (0, 18), .inr (4, 16), .inr (0, 4), .inr (0, 12), .inr (0, 12), .inl 5, .inl 5, .inl 5, .inl 5, .inl 5, .inl 5, .inl 5, .inl 5, .inl 5, .inl 5, .inl 5]) (List.append_assoc s _ _) zk_Row ty2_Row (ztb_2 (i := 27) rfl rfl) (ztb_2 (i := 29) rfl rfl) (ztb_1 (i := 10) rfl rfl) (Nat.le_of_ble_eq_true rfl) (Nat.le_of_ble_eq_true rfl) d_Table_init_94 ?_
  refine aw_dup d_Table_init_97 rfl ?_
  refine aw_callI mi_Table_53 ⟨Nat.le_of_ble_eq_true rfl, Nat.le_of_ble_eq_true rfl⟩ [] [.ref (n + 16), .ref (n + 16), .int 10, .ref (n + 2)] rfl rfl (Nat.le_of_ble_eq_true rfl) d_Table_init_98 ⟨Nat.le_of_ble_eq_true rfl, Nat.le_of_ble_eq_true rfl⟩ (zi_Row_init _ _ (ln hn 17 rfl) (by omega) (sh_r hn (j := 16) rfl)  ?_)
  rw [List.append_assoc]
  show AW _ true _ _ _ _ _ (s ++ [.inr (0, 3), .inr (0, 18), .inr (4, 16), .inr (0, 4), .inr (0, 12), .inr (0, 12), .inl 5, .inl 5, .inl 5, .inl 5, .inl 5, .inl 5, .inl 5, .inl 5, .inl 5, .inl 5, .inl 5], _) _
  refine ay_aastore (n := 16) (i := 10) (sh_r hn (j := 2) rfl) (sh_r hn (j := 16) rfl) (vpd rfl) (by decide) d_Table_init_101 ?_
  refine aw_iinc (ls1 := [(1, .int 11), (0, .ref a)]) 0 1 d_Table_init_102 rfl (by decide) (Nat.le_of_ble_eq_true rfl) rfl ?_
  refine aw_goto 83 d_Table_init_105 rfl ?_
  refine aw_iload_n 0 d_Table_init_83 rfl rfl ?_
  refine aw_bipush 16 d_Table_init_84 (by decide) ?_
  refine aw_icmp_ge 108 d_Table_init_86 rfl (fun hc => absurd hc (by decide)) (fun _ => ?_)
  refine aw_aload_n 1 d_Table_init_89 rfl rfl ?_
  refine ay_getR fl_Table_31 (sh_l ha) rfl (n + 2) ((wR_r2 (by omega)).trans ((rd_Row).trans ((wadd_r (by omega)).trans ((wR_r2 (by omega)).trans ((rd_Row).trans ((wadd_r (by omega)).trans ((wR_r2 (by omega)).trans ((rd_Row).trans ((wadd_r (by omega)).trans ((wR_r2 (by omega)).trans ((rd_Row).trans ((wadd_r (by omega)).trans ((wR_r2 (by omega)).trans ((rd_Row).trans ((wadd_r (by omega)).trans ((wR_r2 (by omega)).trans ((rd_Row).trans ((wadd_r (by omega)).trans ((wR_r2 (by omega)).trans ((rd_Row).trans ((wadd_r (by omega)).trans ((wR_r2 (by omega)).trans ((rd_Row).trans ((wadd_r (by omega)).trans ((wR_r2 (by omega)).trans ((rd_Row).trans ((wadd_r (by omega)).trans ((wR_r2 (by omega)).trans ((rd_Row).trans ((wadd_r (by omega)).trans ((wR_r2 (by omega)).trans ((rd_Row).trans ((wadd_r (by omega)).trans ((wI_r).trans ((wI_r).trans ((wR_r2 (by omega)).trans ((wadd_r (by omega)).trans ((wR_r2 (by omega)).trans ((wadd_r (by omega)).trans ((wR_r2 (by omega)).trans ((wadd_r (by omega)).trans ((wI_r).trans (wR_r1))))))))))))))))))))))))))))))))))))))))))) d_Table_init_90 ?_
  refine aw_iload_n 0 d_Table_init_93 rfl rfl ?_
  refine ay_new (n + 17) (ln hn 17 rfl) (by omega) (s ++ [.inr (0, 3), .inr (0, 18), .inr (4, 16), .inr (0, 4), .inr (0, 12), .inr (0, 12), .inl 5, .inl 5, .inl 5, .inl 5, .inl 5, .inl 5, .inl 5, .inl 5, .inl 5, .inl 5, .inl 5, .inl 5]) (List.append_assoc s _ _) zk_Row ty2_Row (ztb_2 (i := 27) rfl rfl) (ztb_2 (i := 29) rfl rfl) (ztb_1 (i := 10) rfl rfl) (Nat.le_of_ble_eq_true rfl) (Nat.le_of_ble_eq_true rfl) d_Table_init_94 ?_
  refine aw_dup d_Table_init_97 rfl ?_
  refine aw_callI mi_Table_53 ⟨Nat.le_of_ble_eq_true rfl, Nat.le_of_ble_eq_true rfl⟩ [] [.ref (n + 17), .ref (n + 17), .int 11, .ref (n + 2)] rfl rfl (Nat.le_of_ble_eq_true rfl) d_Table_init_98 ⟨Nat.le_of_ble_eq_true rfl, Nat.le_of_ble_eq_true rfl⟩ (zi_Row_init _ _ (ln hn 18 rfl) (by omega) (sh_r hn (j := 17) rfl)  ?_)
  rw [List.append_assoc]
  show AW _ true _ _ _ _ _ (s ++ [.inr (0, 3), .inr (0, 18), .inr (4, 16), .inr (0, 4), .inr (0, 12), .inr (0, 12), .inl 5, .inl 5, .inl 5, .inl 5, .inl 5, .inl 5, .inl 5, .inl 5, .inl 5, .inl 5, .inl 5, .inl 5], _) _
  refine ay_aastore (n := 16) (i := 11) (sh_r hn (j := 2) rfl) (sh_r hn (j := 17) rfl) (vpd rfl) (by decide) d_Table_init_101 ?_
  refine aw_iinc (ls1 := [(1, .int 12), (0, .ref a)]) 0 1 d_Table_init_102 rfl (by decide) (Nat.le_of_ble_eq_true rfl) rfl ?_
  refine aw_goto 83 d_Table_init_105 rfl ?_
  refine aw_iload_n 0 d_Table_init_83 rfl rfl ?_
  refine aw_bipush 16 d_Table_init_84 (by decide) ?_
  refine aw_icmp_ge 108 d_Table_init_86 rfl (fun hc => absurd hc (by decide)) (fun _ => ?_)
  refine aw_aload_n 1 d_Table_init_89 rfl rfl ?_
  refine ay_getR fl_Table_31 (sh_l ha) rfl (n + 2) ((wR_r2 (by omega)).trans ((rd_Row).trans ((wadd_r (by omega)).trans ((wR_r2 (by omega)).trans ((rd_Row).trans ((wadd_r (by omega)).trans ((wR_r2 (by omega)).trans ((rd_Row).trans ((wadd_r (by omega)).trans ((wR_r2 (by omega)).trans ((rd_Row).trans ((wadd_r (by omega)).trans ((wR_r2 (by omega)).trans ((rd_Row).trans ((wadd_r (by omega)).trans ((wR_r2 (by omega)).trans ((rd_Row).trans ((wadd_r (by omega)).trans ((wR_r2 (by omega)).trans ((rd_Row).trans ((wadd_r (by omega)).trans ((wR_r2 (by omega)).trans ((rd_Row).trans ((wadd_r (by omega)).trans ((wR_r2 (by omega)).trans ((rd_Row).trans ((wadd_r (by omega)).trans ((wR_r2 (by omega)).trans ((rd_Row).trans ((wadd_r (by omega)).trans ((wR_r2 (by omega)).trans ((rd_Row).trans ((wadd_r (by omega)).trans ((wR_r2 (by omega)).trans ((rd_Row).trans ((wadd_r (by omega)).trans ((wI_r).trans ((wI_r).trans ((wR_r2 (by omega)).trans ((wadd_r (by omega)).trans ((wR_r2 (by omega)).trans ((wadd_r (by omega)).trans ((wR_r2 (by omega)).trans ((wadd_r (by omega)).trans ((wI_r).trans (wR_r1)))))))))))))))))))))))))))))))))))))))))))))) d_Table_init_90 ?_
  refine aw_iload_n 0 d_Table_init_93 rfl rfl ?_
  refine ay_new (n + 18) (ln hn 18 rfl) (by omega) (s ++ [.inr (0, 3), .inr (0, 18), .inr (4, 16), .inr (0, 4), .inr (0, 12), .inr (0, 12), .inl 5, .inl 5, .inl 5, .inl 5, .inl 5, .inl 5, .inl 5, .inl 5, .inl 5, .inl 5, .inl 5, .inl 5, .inl 5]) (List.append_assoc s _ _) zk_Row ty2_Row (ztb_2 (i := 27) rfl rfl) (ztb_2 (i := 29) rfl rfl) (ztb_1 (i := 10) rfl rfl) (Nat.le_of_ble_eq_true rfl) (Nat.le_of_ble_eq_true rfl) d_Table_init_94 ?_
  refine aw_dup d_Table_init_97 rfl ?_
  refine aw_callI mi_Table_53 ⟨Nat.le_of_ble_eq_true rfl, Nat.le_of_ble_eq_true rfl⟩ [] [.ref (n + 18), .ref (n + 18), .int 12, .ref (n + 2)] rfl rfl (Nat.le_of_ble_eq_true rfl) d_Table_init_98 ⟨Nat.le_of_ble_eq_true rfl, Nat.le_of_ble_eq_true rfl⟩ (zi_Row_init _ _ (ln hn 19 rfl) (by omega) (sh_r hn (j := 18) rfl)  ?_)
  rw [List.append_assoc]
  show AW _ true _ _ _ _ _ (s ++ [.inr (0, 3), .inr (0, 18), .inr (4, 16), .inr (0, 4), .inr (0, 12), .inr (0, 12), .inl 5, .inl 5, .inl 5, .inl 5, .inl 5, .inl 5, .inl 5, .inl 5, .inl 5, .inl 5, .inl 5, .inl 5, .inl 5], _) _
  refine ay_aastore (n := 16) (i := 12) (sh_r hn (j := 2) rfl) (sh_r hn (j := 18) rfl) (vpd rfl) (by decide) d_Table_init_101 ?_
  refine aw_iinc (ls1 := [(1, .int 13), (0, .ref a)]) 0 1 d_Table_init_102 rfl (by decide) (Nat.le_of_ble_eq_true rfl) rfl ?_
  refine aw_goto 83 d_Table_init_105 rfl ?_
  refine aw_iload_n 0 d_Table_init_83 rfl rfl ?_
  refine aw_bipush 16 d_Table_init_84 (by decide) ?_
  refine aw_icmp_ge 108 d_Table_init_86 rfl (fun hc => absurd hc (by decide)) (fun _ => ?_)
  refine aw_aload_n 1 d_Table_init_89 rfl rfl ?_
  refine ay_getR fl_Table_31 (sh_l ha) rfl (n + 2) ((wR_r2 (by omega)).trans ((rd_Row).trans ((wadd_r (by omega)).trans ((wR_r2 (by omega)).trans ((rd_Row).trans ((wadd_r (by omega)).trans ((wR_r2 (by omega)).trans ((rd_Row).trans ((wadd_r (by omega)).trans ((wR_r2 (by omega)).trans ((rd_Row).trans ((wadd_r (by omega)).trans ((wR_r2 (by omega)).trans ((rd_Row).trans ((wadd_r (by omega)).trans ((wR_r2 (by omega)).trans ((rd_Row).trans ((wadd_r (by omega)).trans ((wR_r2 (by omega)).trans ((rd_Row).trans ((wadd_r (by omega)).trans ((wR_r2 (by omega)).trans ((rd_Row).trans ((wadd_r (by omega)).trans ((wR_r2 (by omega)).trans ((rd_Row).trans ((wadd_r (by omega)).trans ((wR_r2 (by omega)).trans ((rd_Row).trans ((wadd_r (by omega)).trans ((wR_r2 (by omega)).trans ((rd_Row).trans ((wadd_r (by omega)).trans ((wR_r2 (by omega)).trans ((rd_Row).trans ((wadd_r (by omega)).trans ((wR_r2 (by omega)).trans ((rd_Row).trans ((wadd_r (by omega)).trans ((wI_r).trans ((wI_r).trans ((wR_r2 (by omega)).trans ((wadd_r (by omega)).trans ((wR_r2 (by omega)).trans ((wadd_r (by omega)).trans ((wR_r2 (by omega)).trans ((wadd_r (by omega)).trans ((wI_r).trans (wR_r1))))))))))))))))))))))))))))))))))))))))))))))))) d_Table_init_90 ?_
  refine aw_iload_n 0 d_Table_init_93 rfl rfl ?_
  refine ay_new (n + 19) (ln hn 19 rfl) (by omega) (s ++ [.inr (0, 3), .inr (0, 18), .inr (4, 16), .inr (0, 4), .inr (0, 12), .inr (0, 12), .inl 5, .inl 5, .inl 5, .inl 5, .inl 5, .inl 5, .inl 5, .inl 5, .inl 5, .inl 5, .inl 5, .inl 5, .inl 5, .inl 5]) (List.append_assoc s _ _) zk_Row ty2_Row (ztb_2 (i := 27) rfl rfl) (ztb_2 (i := 29) rfl rfl) (ztb_1 (i := 10) rfl rfl) (Nat.le_of_ble_eq_true rfl) (Nat.le_of_ble_eq_true rfl) d_Table_init_94 ?_
  refine aw_dup d_Table_init_97 rfl ?_
  refine aw_callI mi_Table_53 ⟨Nat.le_of_ble_eq_true rfl, Nat.le_of_ble_eq_true rfl⟩ [] [.ref (n + 19), .ref (n + 19), .int 13, .ref (n + 2)] rfl rfl (Nat.le_of_ble_eq_true rfl) d_Table_init_98 ⟨Nat.le_of_ble_eq_true rfl, Nat.le_of_ble_eq_true rfl⟩ (zi_Row_init _ _ (ln hn 20 rfl) (by omega) (sh_r hn (j := 19) rfl)  ?_)
  rw [List.append_assoc]
  show AW _ true _ _ _ _ _ (s ++ [.inr (0, 3), .inr (0, 18), .inr (4, 16), .inr (0, 4), .inr (0, 12), .inr (0, 12), .inl 5, .inl 5, .inl 5, .inl 5, .inl 5, .inl 5, .inl 5, .inl 5, .inl 5, .inl 5, .inl 5, .inl 5, .inl 5, .inl 5], _) _
  refine ay_aastore (n := 16) (i := 13) (sh_r hn (j := 2) rfl) (sh_r hn (j := 19) rfl) (vpd rfl) (by decide) d_Table_init_101 ?_
  refine aw_iinc (ls1 := [(1, .int 14), (0, .ref a)]) 0 1 d_Table_init_102 rfl (by decide) (Nat.le_of_ble_eq_true rfl) rfl ?_
  refine aw_goto 83 d_Table_init_105 rfl ?_
  refine aw_iload_n 0 d_Table_init_83 rfl rfl ?_
  refine aw_bipush 16 d_Table_init_84 (by decide) ?_
  refine aw_icmp_ge 108 d_Table_init_86 rfl (fun hc => absurd hc (by decide)) (fun _ => ?_)
  refine aw_aload_n 1 d_Table_init_89 rfl rfl ?_
  refine ay_getR fl_Table_31 (sh_l ha) rfl (n + 2) ((wR_r2 (by omega)).trans ((rd_Row).trans ((wadd_r (by omega)).trans ((wR_r2 (by omega)).trans ((rd_Row).trans ((wadd_r (by omega)).trans ((wR_r2 (by omega)).trans ((rd_Row).trans ((wadd_r (by omega)).trans ((wR_r2 (by omega)).trans ((rd_Row).trans ((wadd_r (by omega)).trans ((wR_r2 (by omega)).trans ((rd_Row).trans ((wadd_r (by omega)).trans ((wR_r2 (by omega)).trans ((rd_Row).trans ((wadd_r (by omega)).trans ((wR_r2 (by omega)).trans ((rd_Row).trans ((wadd_r (by omega)).trans ((wR_r2 (by omega)).trans ((rd_Row).trans ((wadd_r (by omega)).trans ((wR_r2 (by omega)).trans ((rd_Row).trans ((wadd_r (by omega)).trans ((wR_r2 (by omega)).trans ((rd_Row).trans ((wadd_r (by omega)).trans ((wR_r2 (by omega)).trans ((rd_Row).trans ((wadd_r (by omega)).trans ((wR_r2 (by omega)).trans ((rd_Row).trans ((wadd_r (by omega)).trans ((wR_r2 (by omega)).trans ((rd_Row).trans ((wadd_r (by omega)).trans ((wR_r2 (by omega)).trans ((rd_Row).trans ((wadd_r (by omega)).trans ((wI_r).trans ((wI_r).trans ((wR_r2 (by omega)).trans ((wadd_r (by omega)).trans ((wR_r2 (by omega)).trans ((wadd_r (by omega)).trans ((wR_r2 (by omega)).trans ((wadd_r (by omega)).trans ((wI_r).trans (wR_r1)))))))))))))))))))))))))))))))))))))))))))))))))))) d_Table_init_90 ?_
  refine aw_iload_n 0 d_Table_init_93 rfl rfl ?_
  refine ay_new (n + 20) (ln hn 20 rfl) (by omega) (s ++ [.inr (0, 3), .inr (0, 18), .inr (4, 16), .inr (0, 4), .inr (0, 12), .inr (0, 12), .inl 5, .inl 5, .inl 5, .inl 5, .inl 5, .inl 5, .inl 5, .inl 5, .inl 5, .inl 5, .inl 5, .inl 5, .inl 5, .inl 5, .inl 5]) (List.append_assoc s _ _) zk_Row ty2_Row (ztb_2 (i := 27) rfl rfl) (ztb_2 (i := 29) rfl rfl) (ztb_1 (i := 10) rfl rfl) (Nat.le_of_ble_eq_true rfl) (Nat.le_of_ble_eq_true rfl) d_Table_init_94 ?_
  refine aw_dup d_Table_init_97 rfl ?_
  refine aw_callI mi_Table_53 ⟨Nat.le_of_ble_eq_true rfl, Nat.le_of_ble_eq_true rfl⟩ [] [.ref (n + 20), .ref (n + 20), .int 14, .ref (n + 2)] rfl rfl (Nat.le_of_ble_eq_true rfl) d_Table_init_98 ⟨Nat.le_of_ble_eq_true rfl, Nat.le_of_ble_eq_true rfl⟩ (zi_Row_init _ _ (ln hn 21 rfl) (by omega) (sh_r hn (j := 20) rfl)  ?_)
  rw [List.append_assoc]
  show AW _ true _ _ _ _ _ (s ++ [.inr (0, 3), .inr (0, 18), .inr (4, 16), .inr (0, 4), .inr (0, 12), .inr (0, 12), .inl 5, .inl 5, .inl 5, .inl 5, .inl 5, .inl 5, .inl 5, .inl 5, .inl 5, .inl 5, .inl 5, .inl 5, .inl 5, .inl 5, .inl 5], _) _
  refine ay_aastore (n := 16) (i := 14) (sh_r hn (j := 2) rfl) (sh_r hn (j := 20) rfl) (vpd rfl) (by decide) d_Table_init_101 ?_
  refine aw_iinc (ls1 := [(1, .int 15), (0, .ref a)]) 0 1 d_Table_init_102 rfl (by decide) (Nat.le_of_ble_eq_true rfl) rfl ?_
  refine aw_goto 83 d_Table_init_105 rfl ?_
  refine aw_iload_n 0 d_Table_init_83 rfl rfl ?_
  refine aw_bipush 16 d_Table_init_84 (by decide) ?_
  refine aw_icmp_ge 108 d_Table_init_86 rfl (fun hc => absurd hc (by decide)) (fun _ => ?_)
  refine aw_aload_n 1 d_Table_init_89 rfl rfl ?_
  refine ay_getR fl_Table_31 (sh_l ha) rfl (n + 2) ((wR_r2 (by omega)).trans ((rd_Row).trans ((wadd_r (by omega)).trans ((wR_r2 (by omega)).trans ((rd_Row).trans ((wadd_r (by omega)).trans ((wR_r2 (by omega)).trans ((rd_Row).trans ((wadd_r (by omega)).trans ((wR_r2 (by omega)).trans ((rd_Row).trans ((wadd_r (by omega)).trans ((wR_r2 (by omega)).trans ((rd_Row).trans ((wadd_r (by omega)).trans ((wR_r2 (by omega)).trans ((rd_Row).trans ((wadd_r (by omega)).trans ((wR_r2 (by omega)).trans ((rd_Row).trans ((wadd_r (by omega)).trans ((wR_r2 (by omega)).trans ((rd_Row).trans ((wadd_r (by omega)).trans ((wR_r2 (by omega)).trans ((rd_Row).trans ((wadd_r (by omega)).trans ((wR_r2 (by omega)).trans ((rd_Row).trans ((wadd_r (by omega)).trans ((wR_r2 (by omega)).trans ((rd_Row).trans ((wadd_r (by omega)).trans ((wR_r2 (by omega)).trans ((rd_Row).trans ((wadd_r (by omega)).trans ((wR_r2 (by omega)).trans ((rd_Row).trans ((wadd_r (by omega)).trans ((wR_r2 (by omega)).trans ((rd_Row).trans ((wadd_r (by omega)).trans ((wR_r2 (by omega)).trans ((rd_Row).trans ((wadd_r (by omega)).trans ((wI_r).trans ((wI_r).trans ((wR_r2 (by omega)).trans ((wadd_r (by omega)).trans ((wR_r2 (by omega)).trans ((wadd_r (by omega)).trans ((wR_r2 (by omega)).trans ((wadd_r (by omega)).trans ((wI_r).trans (wR_r1))))))))))))))))))))))))))))))))))))))))))))))))))))))) d_Table_init_90 ?_
  refine aw_iload_n 0 d_Table_init_93 rfl rfl ?_
  refine ay_new (n + 21) (ln hn 21 rfl) (by omega) (s ++ [.inr (0, 3), .inr (0, 18), .inr (4, 16), .inr (0, 4), .inr (0, 12), .inr (0, 12), .inl 5, .inl 5, .inl 5, .inl 5, .inl 5, .inl 5, .inl 5, .inl 5, .inl 5, .inl 5, .inl 5, .inl 5, .inl 5, .inl 5, .inl 5, .inl 5]) (List.append_assoc s _ _) zk_Row ty2_Row (ztb_2 (i := 27) rfl rfl) (ztb_2 (i := 29) rfl rfl) (ztb_1 (i := 10) rfl rfl) (Nat.le_of_ble_eq_true rfl) (Nat.le_of_ble_eq_true rfl) d_Table_init_94 ?_
  refine aw_dup d_Table_init_97 rfl ?_
  refine aw_callI mi_Table_53 ⟨Nat.le_of_ble_eq_true rfl, Nat.le_of_ble_eq_true rfl⟩ [] [.ref (n + 21), .ref (n + 21), .int 15, .ref (n + 2)] rfl rfl (Nat.le_of_ble_eq_true rfl) d_Table_init_98 ⟨Nat.le_of_ble_eq_true rfl, Nat.le_of_ble_eq_true rfl⟩ (zi_Row_init _ _ (ln hn 22 rfl) (by omega) (sh_r hn (j := 21) rfl)  ?_)
  rw [List.append_assoc]
  show AW _ true _ _ _ _ _ (s ++ [.inr (0, 3), .inr (0, 18), .inr (4, 16), .inr (0, 4), .inr (0, 12), .inr (0, 12), .inl 5, .inl 5, .inl 5, .inl 5, .inl 5, .inl 5, .inl 5, .inl 5, .inl 5, .inl 5, .inl 5, .inl 5, .inl 5, .inl 5, .inl 5, .inl 5], _) _
  refine ay_aastore (n := 16) (i := 15) (sh_r hn (j := 2) rfl) (sh_r hn (j := 21) rfl) (vpd rfl) (by decide) d_Table_init_101 ?_
  refine aw_iinc (ls1 := [(1, .int 16), (0, .ref a)]) 0 1 d_Table_init_102 rfl (by decide) (Nat.le_of_ble_eq_true rfl) rfl ?_
  refine aw_goto 83 d_Table_init_105 rfl ?_
  refine aw_iload_n 0 d_Table_init_83 rfl rfl ?_
  refine aw_bipush 16 d_Table_init_84 (by decide) ?_
  refine aw_icmp_ge 108 d_Table_init_86 rfl (fun _ => ?_) (fun hc => absurd (by decide) hc)
  exact aw_vret (st := []) (Nat.le_of_ble_eq_true rfl) (Nat.le_of_ble_eq_true rfl) rfl d_Table_init_108 hq
theorem mi_Reader_11 : zLI R_Reader 11 s_Table_init 0 := ⟨⟨by decide, by decide, by decide +kernel⟩, rfl, rfl, (ztb_2 (i := 25) rfl rfl), (ztb_2 (i := 24) rfl rfl), (ztb_1 (i := 9) rfl rfl), Or.inl (ztb_2 (i := 23) rfl rfl)⟩
def F_Reader_init (n a : Nat)  (w : zW) : zW := (wI (wI (wI (wI (wR (wadd (wR (wadd (wR (wadd (wR (wadd (wR (F_Table_init (n + 1) (n + 0) (wadd w (n + 0))) a 0 (n + 0)) (n + 23)) a 1 (n + 23)) (n + 24)) a 2 (n + 24)) (n + 25)) a 3 (n + 25)) (n + 26)) a 4 (n + 26)) a 5 0) a 6 (-1)) a 7 0) a 8 (-1))
set_option maxRecDepth 100000 in
set_option maxHeartbeats 4000000 in
theorem zi_Reader_init {s : List zQs} {n : Nat} (a : Nat) (w : zW) (hn : s.length = n) (h9 : n + 27 ≤ 900) (ha : s[a]? = some (.inl 4))  {Q : Option Value → zH → Prop} (hq : Q none (s ++ [.inl 9, .inr (0, 3), .inr (0, 18), .inr (4, 16), .inr (0, 4), .inr (0, 12), .inr (0, 12), .inl 5, .inl 5, .inl 5, .inl 5, .inl 5, .inl 5, .inl 5, .inl 5, .inl 5, .inl 5, .inl 5, .inl 5, .inl 5, .inl 5, .inl 5, .inl 5, .inr (0, 1601), .inr (0, 1601), .inr (0, 1601), .inr (3, 1601)], F_Reader_init n a  w)) : zCall s_Reader_init true [.ref a] (s, w) Q := by
  refine zcall_of rfl (Nat.le_of_ble_eq_true rfl) ?_
  show AW s_Reader_init true 0 0 0 [(0, .ref a)] [] (s, w) _
  rw [← List.append_nil s]
  have hlt : a < n := by rw [← hn]; exact (List.getElem?_eq_some_iff.mp ha).1
  refine aw_aload_n 0 d_Reader_init_0 rfl rfl ?_
  refine aw_objInit (st := []) (ztb_2 (i := 20) rfl rfl) (ztb_1 (i := 27) rfl rfl) (ztb_1 (i := 28) rfl rfl) (Nat.le_of_ble_eq_true rfl) (Nat.le_of_ble_eq_true rfl) d_Reader_init_1 ?_
  refine aw_aload_n 0 d_Reader_init_4 rfl rfl ?_
  refine ay_new (n + 0) (ln hn 0 rfl) (by omega) (s ++ [.inl 9]) (List.append_assoc s _ _) zk_Table ty2_Table (ztb_2 (i := 21) rfl rfl) (ztb_2 (i := 22) rfl rfl) (ztb_1 (i := 9) rfl rfl) (Nat.le_of_ble_eq_true rfl) (Nat.le_of_ble_eq_true rfl) d_Reader_init_5 ?_
  refine aw_dup d_Reader_init_8 rfl ?_
  refine aw_callI mi_Reader_11 ⟨Nat.le_of_ble_eq_true rfl, Nat.le_of_ble_eq_true rfl⟩ [] [.ref (n + 0), .ref (n + 0), .ref a] rfl rfl (Nat.le_of_ble_eq_true rfl) d_Reader_init_9 ⟨Nat.le_of_ble_eq_true rfl, Nat.le_of_ble_eq_true rfl⟩ (zi_Table_init _ _ (ln hn 1 rfl) (by omega) (sh_r hn (j := 0) rfl)  ?_)
  rw [List.append_assoc]
  show AW _ true _ _ _ _ _ (s ++ [.inl 9, .inr (0, 3), .inr (0, 18), .inr (4, 16), .inr (0, 4), .inr (0, 12), .inr (0, 12), .inl 5, .inl 5, .inl 5, .inl 5, .inl 5, .inl 5, .inl 5, .inl 5, .inl 5, .inl 5, .inl 5, .inl 5, .inl 5, .inl 5, .inl 5, .inl 5], _) _
  refine ay_putR (cn := "ProtocolAtlas$Table") fl_Reader_12 (sh_l ha) rfl rfl rfl (Nat.le_of_ble_eq_true rfl) d_Reader_init_12 ?_
  refine aw_aload_n 0 d_Reader_init_15 rfl rfl ?_
  refine aw_sipush 1601 d_Reader_init_16 (by decide) ?_
  refine ay_newa (t := 0) (n := 1601) (n + 23) (ln hn 23 rfl) (by omega) (s ++ [.inl 9, .inr (0, 3), .inr (0, 18), .inr (4, 16), .inr (0, 4), .inr (0, 12), .inr (0, 12), .inl 5, .inl 5, .inl 5, .inl 5, .inl 5, .inl 5, .inl 5, .inl 5, .inl 5, .inl 5, .inl 5, .inl 5, .inl 5, .inl 5, .inl 5, .inl 5, .inr (0, 1601)]) (List.append_assoc s _ _) rfl (by decide) (ztb_1 (i := 42) rfl rfl) (by decide) (by decide) (Nat.le_of_ble_eq_true rfl) (Nat.le_of_ble_eq_true rfl) (Nat.le_of_ble_eq_true rfl) d_Reader_init_19 ?_
  refine ay_putFR fl_Reader_18 (sh_l ha) (ztb_2 (i := 128) rfl rfl) rfl rfl rfl (Or.inr ⟨_, rfl⟩) rfl (Nat.le_of_ble_eq_true rfl) d_Reader_init_21 ?_
  refine aw_aload_n 0 d_Reader_init_24 rfl rfl ?_
  refine aw_sipush 1601 d_Reader_init_25 (by decide) ?_
  refine ay_newa (t := 0) (n := 1601) (n + 24) (ln hn 24 rfl) (by omega) (s ++ [.inl 9, .inr (0, 3), .inr (0, 18), .inr (4, 16), .inr (0, 4), .inr (0, 12), .inr (0, 12), .inl 5, .inl 5, .inl 5, .inl 5, .inl 5, .inl 5, .inl 5, .inl 5, .inl 5, .inl 5, .inl 5, .inl 5, .inl 5, .inl 5, .inl 5, .inl 5, .inr (0, 1601), .inr (0, 1601)]) (List.append_assoc s _ _) rfl (by decide) (ztb_1 (i := 42) rfl rfl) (by decide) (by decide) (Nat.le_of_ble_eq_true rfl) (Nat.le_of_ble_eq_true rfl) (Nat.le_of_ble_eq_true rfl) d_Reader_init_28 ?_
  refine ay_putFR fl_Reader_22 (sh_l ha) (ztb_2 (i := 129) rfl rfl) rfl rfl rfl (Or.inr ⟨_, rfl⟩) rfl (Nat.le_of_ble_eq_true rfl) d_Reader_init_30 ?_
  refine aw_aload_n 0 d_Reader_init_33 rfl rfl ?_
  refine aw_sipush 1601 d_Reader_init_34 (by decide) ?_
  refine ay_newa (t := 0) (n := 1601) (n + 25) (ln hn 25 rfl) (by omega) (s ++ [.inl 9, .inr (0, 3), .inr (0, 18), .inr (4, 16), .inr (0, 4), .inr (0, 12), .inr (0, 12), .inl 5, .inl 5, .inl 5, .inl 5, .inl 5, .inl 5, .inl 5, .inl 5, .inl 5, .inl 5, .inl 5, .inl 5, .inl 5, .inl 5, .inl 5, .inl 5, .inr (0, 1601), .inr (0, 1601), .inr (0, 1601)]) (List.append_assoc s _ _) rfl (by decide) (ztb_1 (i := 42) rfl rfl) (by decide) (by decide) (Nat.le_of_ble_eq_true rfl) (Nat.le_of_ble_eq_true rfl) (Nat.le_of_ble_eq_true rfl) d_Reader_init_37 ?_
  refine ay_putFR fl_Reader_25 (sh_l ha) (ztb_2 (i := 130) rfl rfl) rfl rfl rfl (Or.inr ⟨_, rfl⟩) rfl (Nat.le_of_ble_eq_true rfl) d_Reader_init_39 ?_
  refine aw_aload_n 0 d_Reader_init_42 rfl rfl ?_
  refine aw_sipush 1601 d_Reader_init_43 (by decide) ?_
  refine ay_newa (t := 3) (n := 1601) (n + 26) (ln hn 26 rfl) (by omega) (s ++ [.inl 9, .inr (0, 3), .inr (0, 18), .inr (4, 16), .inr (0, 4), .inr (0, 12), .inr (0, 12), .inl 5, .inl 5, .inl 5, .inl 5, .inl 5, .inl 5, .inl 5, .inl 5, .inl 5, .inl 5, .inl 5, .inl 5, .inl 5, .inl 5, .inl 5, .inl 5, .inr (0, 1601), .inr (0, 1601), .inr (0, 1601), .inr (3, 1601)]) (List.append_assoc s _ _) rfl (by decide) (ztb_1 (i := 62) rfl rfl) (by decide) (by decide) (Nat.le_of_ble_eq_true rfl) (Nat.le_of_ble_eq_true rfl) (Nat.le_of_ble_eq_true rfl) d_Reader_init_46 ?_
  refine ay_putFR fl_Reader_28 (sh_l ha) (ztb_2 (i := 131) rfl rfl) rfl rfl rfl (Or.inr ⟨_, rfl⟩) rfl (Nat.le_of_ble_eq_true rfl) d_Reader_init_48 ?_
  refine aw_aload_n 0 d_Reader_init_51 rfl rfl ?_
  refine aw_iconst 0 d_Reader_init_52 (by decide) ?_
  refine ay_putI fl_Reader_32 (sh_l ha) rfl rfl rfl (Nat.le_of_ble_eq_true rfl) d_Reader_init_53 ?_
  refine aw_aload_n 0 d_Reader_init_56 rfl rfl ?_
  refine aw_iconst (-1) d_Reader_init_57 (by decide) ?_
  refine ay_putI fl_Reader_36 (sh_l ha) rfl rfl rfl (Nat.le_of_ble_eq_true rfl) d_Reader_init_58 ?_
  refine aw_aload_n 0 d_Reader_init_61 rfl rfl ?_
  refine aw_iconst 0 d_Reader_init_62 (by decide) ?_
  refine ay_putI fl_Reader_39 (sh_l ha) rfl rfl rfl (Nat.le_of_ble_eq_true rfl) d_Reader_init_63 ?_
  refine aw_aload_n 0 d_Reader_init_66 rfl rfl ?_
  refine aw_iconst (-1) d_Reader_init_67 (by decide) ?_
  refine ay_putI fl_Reader_42 (sh_l ha) rfl rfl rfl (Nat.le_of_ble_eq_true rfl) d_Reader_init_68 ?_
  exact aw_vret (st := []) (Nat.le_of_ble_eq_true rfl) (Nat.le_of_ble_eq_true rfl) rfl d_Reader_init_71 hq
def F_Joined_init (n a : Nat) (p1 : Nat) (w : zW) : zW := (wR (wI (wI (wI (wR (wadd (wR (wadd (wR (wadd (wR (wadd (wR (wadd (wR (wadd (wR (wadd (wR (wadd (wI (wI (wI (wI w a 1 0) a 2 (-1)) a 3 (-1)) a 4 0) (n + 0)) a 5 (n + 0)) (n + 1)) a 6 (n + 1)) (n + 2)) a 7 (n + 2)) (n + 3)) a 8 (n + 3)) (n + 4)) a 9 (n + 4)) (n + 5)) a 10 (n + 5)) (n + 6)) a 11 (n + 6)) (n + 7)) a 12 (n + 7)) a 13 0) a 14 0) a 15 0) a 0 p1)
set_option maxRecDepth 100000 in
set_option maxHeartbeats 4000000 in
theorem zi_Joined_init {s : List zQs} {n : Nat} (a : Nat) (w : zW) (hn : s.length = n) (h9 : n + 8 ≤ 900) (ha : s[a]? = some (.inl 3)) (p1 : Nat) {Q : Option Value → zH → Prop} (hq : Q none (s ++ [.inr (0, 2400), .inr (0, 2401), .inr (0, 2400), .inr (0, 2400), .inr (0, 2400), .inr (0, 2400), .inr (0, 2400), .inr (0, 2400)], F_Joined_init n a p1 w)) : zCall s_Joined_init true [.ref a, .ref p1] (s, w) Q := by
  refine zcall_of rfl (Nat.le_of_ble_eq_true rfl) ?_
  show AW s_Joined_init true 0 0 0 [(0, .ref a), (1, .ref p1)] [] (s, w) _
  rw [← List.append_nil s]
  have hlt : a < n := by rw [← hn]; exact (List.getElem?_eq_some_iff.mp ha).1
  refine aw_aload_n 0 d_Joined_init_0 rfl rfl ?_
  refine aw_objInit (st := []) (ztb_2 (i := 170) rfl rfl) (ztb_1 (i := 27) rfl rfl) (ztb_1 (i := 28) rfl rfl) (Nat.le_of_ble_eq_true rfl) (Nat.le_of_ble_eq_true rfl) d_Joined_init_1 ?_
  refine aw_aload_n 0 d_Joined_init_4 rfl rfl ?_
  refine aw_iconst 0 d_Joined_init_5 (by decide) ?_
  refine ay_putZ fl_Joined_9 (sh_l ha) (by decide) rfl rfl rfl (Nat.le_of_ble_eq_true rfl) d_Joined_init_6 ?_
  refine aw_aload_n 0 d_Joined_init_9 rfl rfl ?_
  refine aw_iconst (-1) d_Joined_init_10 (by decide) ?_
  refine ay_putI fl_Joined_15 (sh_l ha) rfl rfl rfl (Nat.le_of_ble_eq_true rfl) d_Joined_init_11 ?_
  refine aw_aload_n 0 d_Joined_init_14 rfl rfl ?_
  refine aw_iconst (-1) d_Joined_init_15 (by decide) ?_
  refine ay_putI fl_Joined_19 (sh_l ha) rfl rfl rfl (Nat.le_of_ble_eq_true rfl) d_Joined_init_16 ?_
  refine aw_aload_n 0 d_Joined_init_19 rfl rfl ?_
  refine aw_iconst 0 d_Joined_init_20 (by decide) ?_
  refine ay_putI fl_Joined_22 (sh_l ha) rfl rfl rfl (Nat.le_of_ble_eq_true rfl) d_Joined_init_21 ?_
  refine aw_aload_n 0 d_Joined_init_24 rfl rfl ?_
  refine aw_sipush 2400 d_Joined_init_25 (by decide) ?_
  refine ay_newa (t := 0) (n := 2400) (n + 0) (ln hn 0 rfl) (by omega) (s ++ [.inr (0, 2400)]) (List.append_assoc s _ _) rfl (by decide) (ztb_1 (i := 42) rfl rfl) (by decide) (by decide) (Nat.le_of_ble_eq_true rfl) (Nat.le_of_ble_eq_true rfl) (Nat.le_of_ble_eq_true rfl) d_Joined_init_28 ?_
  refine ay_putFR fl_Joined_25 (sh_l ha) (ztb_2 (i := 177) rfl rfl) rfl rfl rfl (Or.inr ⟨_, rfl⟩) rfl (Nat.le_of_ble_eq_true rfl) d_Joined_init_30 ?_
  refine aw_aload_n 0 d_Joined_init_33 rfl rfl ?_
  refine aw_sipush 2401 d_Joined_init_34 (by decide) ?_
  refine ay_newa (t := 0) (n := 2401) (n + 1) (ln hn 1 rfl) (by omega) (s ++ [.inr (0, 2400), .inr (0, 2401)]) (List.append_assoc s _ _) rfl (by decide) (ztb_1 (i := 42) rfl rfl) (by decide) (by decide) (Nat.le_of_ble_eq_true rfl) (Nat.le_of_ble_eq_true rfl) (Nat.le_of_ble_eq_true rfl) d_Joined_init_37 ?_
  refine ay_putFR fl_Joined_29 (sh_l ha) (ztb_2 (i := 179) rfl rfl) rfl rfl rfl (Or.inr ⟨_, rfl⟩) rfl (Nat.le_of_ble_eq_true rfl) d_Joined_init_39 ?_
  refine aw_aload_n 0 d_Joined_init_42 rfl rfl ?_
  refine aw_sipush 2400 d_Joined_init_43 (by decide) ?_
  refine ay_newa (t := 0) (n := 2400) (n + 2) (ln hn 2 rfl) (by omega) (s ++ [.inr (0, 2400), .inr (0, 2401), .inr (0, 2400)]) (List.append_assoc s _ _) rfl (by decide) (ztb_1 (i := 42) rfl rfl) (by decide) (by decide) (Nat.le_of_ble_eq_true rfl) (Nat.le_of_ble_eq_true rfl) (Nat.le_of_ble_eq_true rfl) d_Joined_init_46 ?_
  refine ay_putFR fl_Joined_32 (sh_l ha) (ztb_2 (i := 181) rfl rfl) rfl rfl rfl (Or.inr ⟨_, rfl⟩) rfl (Nat.le_of_ble_eq_true rfl) d_Joined_init_48 ?_
  refine aw_aload_n 0 d_Joined_init_51 rfl rfl ?_
  refine aw_sipush 2400 d_Joined_init_52 (by decide) ?_
  refine ay_newa (t := 0) (n := 2400) (n + 3) (ln hn 3 rfl) (by omega) (s ++ [.inr (0, 2400), .inr (0, 2401), .inr (0, 2400), .inr (0, 2400)]) (List.append_assoc s _ _) rfl (by decide) (ztb_1 (i := 42) rfl rfl) (by decide) (by decide) (Nat.le_of_ble_eq_true rfl) (Nat.le_of_ble_eq_true rfl) (Nat.le_of_ble_eq_true rfl) d_Joined_init_55 ?_
  refine ay_putFR fl_Joined_35 (sh_l ha) (ztb_2 (i := 183) rfl rfl) rfl rfl rfl (Or.inr ⟨_, rfl⟩) rfl (Nat.le_of_ble_eq_true rfl) d_Joined_init_57 ?_
  refine aw_aload_n 0 d_Joined_init_60 rfl rfl ?_
  refine aw_sipush 2400 d_Joined_init_61 (by decide) ?_
  refine ay_newa (t := 0) (n := 2400) (n + 4) (ln hn 4 rfl) (by omega) (s ++ [.inr (0, 2400), .inr (0, 2401), .inr (0, 2400), .inr (0, 2400), .inr (0, 2400)]) (List.append_assoc s _ _) rfl (by decide) (ztb_1 (i := 42) rfl rfl) (by decide) (by decide) (Nat.le_of_ble_eq_true rfl) (Nat.le_of_ble_eq_true rfl) (Nat.le_of_ble_eq_true rfl) d_Joined_init_64 ?_
  refine ay_putFR fl_Joined_38 (sh_l ha) (ztb_2 (i := 184) rfl rfl) rfl rfl rfl (Or.inr ⟨_, rfl⟩) rfl (Nat.le_of_ble_eq_true rfl) d_Joined_init_66 ?_
  refine aw_aload_n 0 d_Joined_init_69 rfl rfl ?_
  refine aw_sipush 2400 d_Joined_init_70 (by decide) ?_
  refine ay_newa (t := 0) (n := 2400) (n + 5) (ln hn 5 rfl) (by omega) (s ++ [.inr (0, 2400), .inr (0, 2401), .inr (0, 2400), .inr (0, 2400), .inr (0, 2400), .inr (0, 2400)]) (List.append_assoc s _ _) rfl (by decide) (ztb_1 (i := 42) rfl rfl) (by decide) (by decide) (Nat.le_of_ble_eq_true rfl) (Nat.le_of_ble_eq_true rfl) (Nat.le_of_ble_eq_true rfl) d_Joined_init_73 ?_
  refine ay_putFR fl_Joined_41 (sh_l ha) (ztb_2 (i := 185) rfl rfl) rfl rfl rfl (Or.inr ⟨_, rfl⟩) rfl (Nat.le_of_ble_eq_true rfl) d_Joined_init_75 ?_
  refine aw_aload_n 0 d_Joined_init_78 rfl rfl ?_
  refine aw_sipush 2400 d_Joined_init_79 (by decide) ?_
  refine ay_newa (t := 0) (n := 2400) (n + 6) (ln hn 6 rfl) (by omega) (s ++ [.inr (0, 2400), .inr (0, 2401), .inr (0, 2400), .inr (0, 2400), .inr (0, 2400), .inr (0, 2400), .inr (0, 2400)]) (List.append_assoc s _ _) rfl (by decide) (ztb_1 (i := 42) rfl rfl) (by decide) (by decide) (Nat.le_of_ble_eq_true rfl) (Nat.le_of_ble_eq_true rfl) (Nat.le_of_ble_eq_true rfl) d_Joined_init_82 ?_
  refine ay_putFR fl_Joined_44 (sh_l ha) (ztb_2 (i := 186) rfl rfl) rfl rfl rfl (Or.inr ⟨_, rfl⟩) rfl (Nat.le_of_ble_eq_true rfl) d_Joined_init_84 ?_
  refine aw_aload_n 0 d_Joined_init_87 rfl rfl ?_
  refine aw_sipush 2400 d_Joined_init_88 (by decide) ?_
  refine ay_newa (t := 0) (n := 2400) (n + 7) (ln hn 7 rfl) (by omega) (s ++ [.inr (0, 2400), .inr (0, 2401), .inr (0, 2400), .inr (0, 2400), .inr (0, 2400), .inr (0, 2400), .inr (0, 2400), .inr (0, 2400)]) (List.append_assoc s _ _) rfl (by decide) (ztb_1 (i := 42) rfl rfl) (by decide) (by decide) (Nat.le_of_ble_eq_true rfl) (Nat.le_of_ble_eq_true rfl) (Nat.le_of_ble_eq_true rfl) d_Joined_init_91 ?_
  refine ay_putFR fl_Joined_47 (sh_l ha) (ztb_2 (i := 187) rfl rfl) rfl rfl rfl (Or.inr ⟨_, rfl⟩) rfl (Nat.le_of_ble_eq_true rfl) d_Joined_init_93 ?_
  refine aw_aload_n 0 d_Joined_init_96 rfl rfl ?_
  refine aw_iconst 0 d_Joined_init_97 (by decide) ?_
  refine ay_putI fl_Joined_50 (sh_l ha) rfl rfl rfl (Nat.le_of_ble_eq_true rfl) d_Joined_init_98 ?_
  refine aw_aload_n 0 d_Joined_init_101 rfl rfl ?_
  refine aw_iconst 0 d_Joined_init_102 (by decide) ?_
  refine ay_putI fl_Joined_53 (sh_l ha) rfl rfl rfl (Nat.le_of_ble_eq_true rfl) d_Joined_init_103 ?_
  refine aw_aload_n 0 d_Joined_init_106 rfl rfl ?_
  refine aw_iconst 0 d_Joined_init_107 (by decide) ?_
  refine ay_putI fl_Joined_56 (sh_l ha) rfl rfl rfl (Nat.le_of_ble_eq_true rfl) d_Joined_init_108 ?_
  refine aw_aload_n 0 d_Joined_init_111 rfl rfl ?_
  refine aw_aload_n 1 d_Joined_init_112 rfl rfl ?_
  refine ay_putFR fl_Joined_59 (sh_l ha) (ztb_2 (i := 171) rfl rfl) rfl rfl rfl (Or.inl ⟨_, rfl⟩) rfl (Nat.le_of_ble_eq_true rfl) d_Joined_init_113 ?_
  exact aw_vret (st := []) (Nat.le_of_ble_eq_true rfl) (Nat.le_of_ble_eq_true rfl) rfl d_Joined_init_116 hq
theorem mi_Study_59 : zLI R_Study 59 s_Joined_init 1 := ⟨⟨by decide, by decide, by decide +kernel⟩, rfl, rfl, (ztb_2 (i := 169) rfl rfl), (ztb_2 (i := 168) rfl rfl), (ztb_1 (i := 12) rfl rfl), Or.inl (ztb_2 (i := 167) rfl rfl)⟩
def F_Study_init (n a : Nat) (p1 : Nat) (p2 : Nat) (w : zW) : zW := (wR (wR (F_Joined_init (n + 13) (n + 12) p1 (wadd (wR (wR (wadd (wR (wadd (wR (wadd (wR (wadd (wR (wadd (wR (wadd (wR (wadd (wR (wadd (wR (wadd (wR (wadd (wR (wadd (wR (wadd (wI w a 3 0) (n + 0)) a 4 (n + 0)) (n + 1)) a 5 (n + 1)) (n + 2)) a 6 (n + 2)) (n + 3)) a 7 (n + 3)) (n + 4)) a 8 (n + 4)) (n + 5)) a 9 (n + 5)) (n + 6)) a 10 (n + 6)) (n + 7)) a 11 (n + 7)) (n + 8)) a 12 (n + 8)) (n + 9)) a 13 (n + 9)) (n + 10)) a 14 (n + 10)) (n + 11)) a 15 (n + 11)) a 0 p1) (n + 12))) a 1 (n + 12)) a 2 p2)
set_option maxRecDepth 100000 in
set_option maxHeartbeats 4000000 in
theorem zi_Study_init {s : List zQs} {n : Nat} (a : Nat) (w : zW) (hn : s.length = n) (h9 : n + 21 ≤ 900) (ha : s[a]? = some (.inl 8)) (p1 : Nat) (p2 : Nat) {Q : Option Value → zH → Prop} (hq : Q none (s ++ [.inr (0, 600), .inr (0, 600), .inr (0, 600), .inr (1, 600), .inr (0, 600), .inr (1, 2400), .inr (1, 2400), .inr (1, 2400), .inr (1, 600), .inr (0, 600), .inr (1, 16), .inr (0, 80), .inl 3, .inr (0, 2400), .inr (0, 2401), .inr (0, 2400), .inr (0, 2400), .inr (0, 2400), .inr (0, 2400), .inr (0, 2400), .inr (0, 2400)], F_Study_init n a p1 p2 w)) : zCall s_Study_init true [.ref a, .ref p1, .ref p2] (s, w) Q := by
  refine zcall_of rfl (Nat.le_of_ble_eq_true rfl) ?_
  show AW s_Study_init true 0 0 0 [(0, .ref a), (1, .ref p1), (2, .ref p2)] [] (s, w) _
  rw [← List.append_nil s]
  have hlt : a < n := by rw [← hn]; exact (List.getElem?_eq_some_iff.mp ha).1
  refine aw_aload_n 0 d_Study_init_0 rfl rfl ?_
  refine aw_objInit (st := []) (ztb_2 (i := 164) rfl rfl) (ztb_1 (i := 27) rfl rfl) (ztb_1 (i := 28) rfl rfl) (Nat.le_of_ble_eq_true rfl) (Nat.le_of_ble_eq_true rfl) d_Study_init_1 ?_
  refine aw_aload_n 0 d_Study_init_4 rfl rfl ?_
  refine aw_iconst 0 d_Study_init_5 (by decide) ?_
  refine ay_putI fl_Study_9 (sh_l ha) rfl rfl rfl (Nat.le_of_ble_eq_true rfl) d_Study_init_6 ?_
  refine aw_aload_n 0 d_Study_init_9 rfl rfl ?_
  refine aw_sipush 600 d_Study_init_10 (by decide) ?_
  refine ay_newa (t := 0) (n := 600) (n + 0) (ln hn 0 rfl) (by omega) (s ++ [.inr (0, 600)]) (List.append_assoc s _ _) rfl (by decide) (ztb_1 (i := 42) rfl rfl) (by decide) (by decide) (Nat.le_of_ble_eq_true rfl) (Nat.le_of_ble_eq_true rfl) (Nat.le_of_ble_eq_true rfl) d_Study_init_13 ?_
  refine ay_putFR fl_Study_15 (sh_l ha) (ztb_2 (i := 229) rfl rfl) rfl rfl rfl (Or.inr ⟨_, rfl⟩) rfl (Nat.le_of_ble_eq_true rfl) d_Study_init_15 ?_
  refine aw_aload_n 0 d_Study_init_18 rfl rfl ?_
  refine aw_sipush 600 d_Study_init_19 (by decide) ?_
  refine ay_newa (t := 0) (n := 600) (n + 1) (ln hn 1 rfl) (by omega) (s ++ [.inr (0, 600), .inr (0, 600)]) (List.append_assoc s _ _) rfl (by decide) (ztb_1 (i := 42) rfl rfl) (by decide) (by decide) (Nat.le_of_ble_eq_true rfl) (Nat.le_of_ble_eq_true rfl) (Nat.le_of_ble_eq_true rfl) d_Study_init_22 ?_
  refine ay_putFR fl_Study_19 (sh_l ha) (ztb_2 (i := 231) rfl rfl) rfl rfl rfl (Or.inr ⟨_, rfl⟩) rfl (Nat.le_of_ble_eq_true rfl) d_Study_init_24 ?_
  refine aw_aload_n 0 d_Study_init_27 rfl rfl ?_
  refine aw_sipush 600 d_Study_init_28 (by decide) ?_
  refine ay_newa (t := 0) (n := 600) (n + 2) (ln hn 2 rfl) (by omega) (s ++ [.inr (0, 600), .inr (0, 600), .inr (0, 600)]) (List.append_assoc s _ _) rfl (by decide) (ztb_1 (i := 42) rfl rfl) (by decide) (by decide) (Nat.le_of_ble_eq_true rfl) (Nat.le_of_ble_eq_true rfl) (Nat.le_of_ble_eq_true rfl) d_Study_init_31 ?_
  refine ay_putFR fl_Study_22 (sh_l ha) (ztb_2 (i := 233) rfl rfl) rfl rfl rfl (Or.inr ⟨_, rfl⟩) rfl (Nat.le_of_ble_eq_true rfl) d_Study_init_33 ?_
  refine aw_aload_n 0 d_Study_init_36 rfl rfl ?_
  refine aw_sipush 600 d_Study_init_37 (by decide) ?_
  refine ay_newa (t := 1) (n := 600) (n + 3) (ln hn 3 rfl) (by omega) (s ++ [.inr (0, 600), .inr (0, 600), .inr (0, 600), .inr (1, 600)]) (List.append_assoc s _ _) rfl (by decide) (ztb_1 (i := 212) rfl rfl) (by decide) (by decide) (Nat.le_of_ble_eq_true rfl) (Nat.le_of_ble_eq_true rfl) (Nat.le_of_ble_eq_true rfl) d_Study_init_40 ?_
  refine ay_putFR fl_Study_25 (sh_l ha) (ztb_2 (i := 235) rfl rfl) rfl rfl rfl (Or.inr ⟨_, rfl⟩) rfl (Nat.le_of_ble_eq_true rfl) d_Study_init_42 ?_
  refine aw_aload_n 0 d_Study_init_45 rfl rfl ?_
  refine aw_sipush 600 d_Study_init_46 (by decide) ?_
  refine ay_newa (t := 0) (n := 600) (n + 4) (ln hn 4 rfl) (by omega) (s ++ [.inr (0, 600), .inr (0, 600), .inr (0, 600), .inr (1, 600), .inr (0, 600)]) (List.append_assoc s _ _) rfl (by decide) (ztb_1 (i := 42) rfl rfl) (by decide) (by decide) (Nat.le_of_ble_eq_true rfl) (Nat.le_of_ble_eq_true rfl) (Nat.le_of_ble_eq_true rfl) d_Study_init_49 ?_
  refine ay_putFR fl_Study_29 (sh_l ha) (ztb_2 (i := 237) rfl rfl) rfl rfl rfl (Or.inr ⟨_, rfl⟩) rfl (Nat.le_of_ble_eq_true rfl) d_Study_init_51 ?_
  refine aw_aload_n 0 d_Study_init_54 rfl rfl ?_
  refine aw_sipush 2400 d_Study_init_55 (by decide) ?_
  refine ay_newa (t := 1) (n := 2400) (n + 5) (ln hn 5 rfl) (by omega) (s ++ [.inr (0, 600), .inr (0, 600), .inr (0, 600), .inr (1, 600), .inr (0, 600), .inr (1, 2400)]) (List.append_assoc s _ _) rfl (by decide) (ztb_1 (i := 212) rfl rfl) (by decide) (by decide) (Nat.le_of_ble_eq_true rfl) (Nat.le_of_ble_eq_true rfl) (Nat.le_of_ble_eq_true rfl) d_Study_init_58 ?_
  refine ay_putFR fl_Study_32 (sh_l ha) (ztb_2 (i := 238) rfl rfl) rfl rfl rfl (Or.inr ⟨_, rfl⟩) rfl (Nat.le_of_ble_eq_true rfl) d_Study_init_60 ?_
  refine aw_aload_n 0 d_Study_init_63 rfl rfl ?_
  refine aw_sipush 2400 d_Study_init_64 (by decide) ?_
  refine ay_newa (t := 1) (n := 2400) (n + 6) (ln hn 6 rfl) (by omega) (s ++ [.inr (0, 600), .inr (0, 600), .inr (0, 600), .inr (1, 600), .inr (0, 600), .inr (1, 2400), .inr (1, 2400)]) (List.append_assoc s _ _) rfl (by decide) (ztb_1 (i := 212) rfl rfl) (by decide) (by decide) (Nat.le_of_ble_eq_true rfl) (Nat.le_of_ble_eq_true rfl) (Nat.le_of_ble_eq_true rfl) d_Study_init_67 ?_
  refine ay_putFR fl_Study_35 (sh_l ha) (ztb_3 (i := 0) rfl rfl) rfl rfl rfl (Or.inr ⟨_, rfl⟩) rfl (Nat.le_of_ble_eq_true rfl) d_Study_init_69 ?_
  refine aw_aload_n 0 d_Study_init_72 rfl rfl ?_
  refine aw_sipush 2400 d_Study_init_73 (by decide) ?_
  refine ay_newa (t := 1) (n := 2400) (n + 7) (ln hn 7 rfl) (by omega) (s ++ [.inr (0, 600), .inr (0, 600), .inr (0, 600), .inr (1, 600), .inr (0, 600), .inr (1, 2400), .inr (1, 2400), .inr (1, 2400)]) (List.append_assoc s _ _) rfl (by decide) (ztb_1 (i := 212) rfl rfl) (by decide) (by decide) (Nat.le_of_ble_eq_true rfl) (Nat.le_of_ble_eq_true rfl) (Nat.le_of_ble_eq_true rfl) d_Study_init_76 ?_
  refine ay_putFR fl_Study_38 (sh_l ha) (ztb_3 (i := 2) rfl rfl) rfl rfl rfl (Or.inr ⟨_, rfl⟩) rfl (Nat.le_of_ble_eq_true rfl) d_Study_init_78 ?_
  refine aw_aload_n 0 d_Study_init_81 rfl rfl ?_
  refine aw_sipush 600 d_Study_init_82 (by decide) ?_
  refine ay_newa (t := 1) (n := 600) (n + 8) (ln hn 8 rfl) (by omega) (s ++ [.inr (0, 600), .inr (0, 600), .inr (0, 600), .inr (1, 600), .inr (0, 600), .inr (1, 2400), .inr (1, 2400), .inr (1, 2400), .inr (1, 600)]) (List.append_assoc s _ _) rfl (by decide) (ztb_1 (i := 212) rfl rfl) (by decide) (by decide) (Nat.le_of_ble_eq_true rfl) (Nat.le_of_ble_eq_true rfl) (Nat.le_of_ble_eq_true rfl) d_Study_init_85 ?_
  refine ay_putFR fl_Study_41 (sh_l ha) (ztb_3 (i := 3) rfl rfl) rfl rfl rfl (Or.inr ⟨_, rfl⟩) rfl (Nat.le_of_ble_eq_true rfl) d_Study_init_87 ?_
  refine aw_aload_n 0 d_Study_init_90 rfl rfl ?_
  refine aw_sipush 600 d_Study_init_91 (by decide) ?_
  refine ay_newa (t := 0) (n := 600) (n + 9) (ln hn 9 rfl) (by omega) (s ++ [.inr (0, 600), .inr (0, 600), .inr (0, 600), .inr (1, 600), .inr (0, 600), .inr (1, 2400), .inr (1, 2400), .inr (1, 2400), .inr (1, 600), .inr (0, 600)]) (List.append_assoc s _ _) rfl (by decide) (ztb_1 (i := 42) rfl rfl) (by decide) (by decide) (Nat.le_of_ble_eq_true rfl) (Nat.le_of_ble_eq_true rfl) (Nat.le_of_ble_eq_true rfl) d_Study_init_94 ?_
  refine ay_putFR fl_Study_44 (sh_l ha) (ztb_3 (i := 4) rfl rfl) rfl rfl rfl (Or.inr ⟨_, rfl⟩) rfl (Nat.le_of_ble_eq_true rfl) d_Study_init_96 ?_
  refine aw_aload_n 0 d_Study_init_99 rfl rfl ?_
  refine aw_bipush 16 d_Study_init_100 (by decide) ?_
  refine ay_newa (t := 1) (n := 16) (n + 10) (ln hn 10 rfl) (by omega) (s ++ [.inr (0, 600), .inr (0, 600), .inr (0, 600), .inr (1, 600), .inr (0, 600), .inr (1, 2400), .inr (1, 2400), .inr (1, 2400), .inr (1, 600), .inr (0, 600), .inr (1, 16)]) (List.append_assoc s _ _) rfl (by decide) (ztb_1 (i := 212) rfl rfl) (by decide) (by decide) (Nat.le_of_ble_eq_true rfl) (Nat.le_of_ble_eq_true rfl) (Nat.le_of_ble_eq_true rfl) d_Study_init_102 ?_
  refine ay_putFR fl_Study_47 (sh_l ha) (ztb_3 (i := 5) rfl rfl) rfl rfl rfl (Or.inr ⟨_, rfl⟩) rfl (Nat.le_of_ble_eq_true rfl) d_Study_init_104 ?_
  refine aw_aload_n 0 d_Study_init_107 rfl rfl ?_
  refine aw_bipush 80 d_Study_init_108 (by decide) ?_
  refine ay_newa (t := 0) (n := 80) (n + 11) (ln hn 11 rfl) (by omega) (s ++ [.inr (0, 600), .inr (0, 600), .inr (0, 600), .inr (1, 600), .inr (0, 600), .inr (1, 2400), .inr (1, 2400), .inr (1, 2400), .inr (1, 600), .inr (0, 600), .inr (1, 16), .inr (0, 80)]) (List.append_assoc s _ _) rfl (by decide) (ztb_1 (i := 42) rfl rfl) (by decide) (by decide) (Nat.le_of_ble_eq_true rfl) (Nat.le_of_ble_eq_true rfl) (Nat.le_of_ble_eq_true rfl) d_Study_init_110 ?_
  refine ay_putFR fl_Study_50 (sh_l ha) (ztb_3 (i := 6) rfl rfl) rfl rfl rfl (Or.inr ⟨_, rfl⟩) rfl (Nat.le_of_ble_eq_true rfl) d_Study_init_112 ?_
  refine aw_aload_n 0 d_Study_init_115 rfl rfl ?_
  refine aw_aload_n 1 d_Study_init_116 rfl rfl ?_
  refine ay_putFR fl_Study_53 (sh_l ha) (ztb_2 (i := 224) rfl rfl) rfl rfl rfl (Or.inl ⟨_, rfl⟩) rfl (Nat.le_of_ble_eq_true rfl) d_Study_init_117 ?_
  refine aw_aload_n 0 d_Study_init_120 rfl rfl ?_
  refine ay_new (n + 12) (ln hn 12 rfl) (by omega) (s ++ [.inr (0, 600), .inr (0, 600), .inr (0, 600), .inr (1, 600), .inr (0, 600), .inr (1, 2400), .inr (1, 2400), .inr (1, 2400), .inr (1, 600), .inr (0, 600), .inr (1, 16), .inr (0, 80), .inl 3]) (List.append_assoc s _ _) zk_Joined ty2_Joined (ztb_2 (i := 165) rfl rfl) (ztb_2 (i := 166) rfl rfl) (ztb_1 (i := 12) rfl rfl) (Nat.le_of_ble_eq_true rfl) (Nat.le_of_ble_eq_true rfl) d_Study_init_121 ?_
  refine aw_dup d_Study_init_124 rfl ?_
  refine aw_aload_n 1 d_Study_init_125 rfl rfl ?_
  refine aw_callI mi_Study_59 ⟨Nat.le_of_ble_eq_true rfl, Nat.le_of_ble_eq_true rfl⟩ [.ref p1] [.ref p1, .ref (n + 12), .ref (n + 12), .ref a] rfl rfl (Nat.le_of_ble_eq_true rfl) d_Study_init_126 ⟨Nat.le_of_ble_eq_true rfl, Nat.le_of_ble_eq_true rfl⟩ (zi_Joined_init _ _ (ln hn 13 rfl) (by omega) (sh_r hn (j := 12) rfl) _ ?_)
  rw [List.append_assoc]
  show AW _ true _ _ _ _ _ (s ++ [.inr (0, 600), .inr (0, 600), .inr (0, 600), .inr (1, 600), .inr (0, 600), .inr (1, 2400), .inr (1, 2400), .inr (1, 2400), .inr (1, 600), .inr (0, 600), .inr (1, 16), .inr (0, 80), .inl 3, .inr (0, 2400), .inr (0, 2401), .inr (0, 2400), .inr (0, 2400), .inr (0, 2400), .inr (0, 2400), .inr (0, 2400), .inr (0, 2400)], _) _
  refine ay_putFR fl_Study_62 (sh_l ha) (ztb_2 (i := 225) rfl rfl) rfl rfl rfl (Or.inl ⟨_, rfl⟩) rfl (Nat.le_of_ble_eq_true rfl) d_Study_init_129 ?_
  refine aw_aload_n 0 d_Study_init_132 rfl rfl ?_
  refine aw_aload_n 2 d_Study_init_133 rfl rfl ?_
  refine ay_putR (cn := "ProtocolAtlas$Table") fl_Study_66 (sh_l ha) rfl rfl rfl (Nat.le_of_ble_eq_true rfl) d_Study_init_134 ?_
  exact aw_vret (st := []) (Nat.le_of_ble_eq_true rfl) (Nat.le_of_ble_eq_true rfl) rfl d_Study_init_137 hq
theorem mi_PA_11 : zLI R_PA 11 s_Bytes_init 0 := ⟨⟨by decide, by decide, by decide +kernel⟩, rfl, rfl, (ztb_1 (i := 33) rfl rfl), (ztb_1 (i := 32) rfl rfl), (ztb_1 (i := 2) rfl rfl), Or.inr ⟨"ProtocolAtlas", znw_at (i := 0) rfl⟩⟩
theorem mi_PA_24 : zLI R_PA 24 s_Search_init 0 := ⟨⟨by decide, by decide, by decide +kernel⟩, rfl, rfl, (ztb_1 (i := 47) rfl rfl), (ztb_1 (i := 46) rfl rfl), (ztb_1 (i := 3) rfl rfl), Or.inr ⟨"ProtocolAtlas", znw_at (i := 1) rfl⟩⟩
theorem mi_PA_31 : zLI R_PA 31 s_Atlas_init 0 := ⟨⟨by decide, by decide, by decide +kernel⟩, rfl, rfl, (ztb_1 (i := 133) rfl rfl), (ztb_1 (i := 132) rfl rfl), (ztb_1 (i := 6) rfl rfl), Or.inr ⟨"ProtocolAtlas", znw_at (i := 20) rfl⟩⟩
theorem mi_PA_38 : zLI R_PA 38 s_Sight_init 0 := ⟨⟨by decide, by decide, by decide +kernel⟩, rfl, rfl, (ztb_1 (i := 217) rfl rfl), (ztb_1 (i := 216) rfl rfl), (ztb_1 (i := 7) rfl rfl), Or.inr ⟨"ProtocolAtlas", znw_at (i := 43) rfl⟩⟩
theorem mi_PA_45 : zLI R_PA 45 s_World_init 0 := ⟨⟨by decide, by decide, by decide +kernel⟩, rfl, rfl, (ztb_1 (i := 67) rfl rfl), (ztb_1 (i := 66) rfl rfl), (ztb_1 (i := 5) rfl rfl), Or.inr ⟨"ProtocolAtlas", znw_at (i := 47) rfl⟩⟩
theorem mi_PA_63 : zLI R_PA 63 s_Reader_init 0 := ⟨⟨by decide, by decide, by decide +kernel⟩, rfl, rfl, (ztb_2 (i := 19) rfl rfl), (ztb_2 (i := 18) rfl rfl), (ztb_1 (i := 8) rfl rfl), Or.inr ⟨"ProtocolAtlas", znw_at (i := 48) rfl⟩⟩
theorem mi_PA_70 : zLI R_PA 70 s_Table_init 0 := ⟨⟨by decide, by decide, by decide +kernel⟩, rfl, rfl, (ztb_2 (i := 25) rfl rfl), (ztb_2 (i := 24) rfl rfl), (ztb_1 (i := 9) rfl rfl), Or.inl (ztb_2 (i := 158) rfl rfl)⟩
theorem mi_PA_77 : zLI R_PA 77 s_Study_init 2 := ⟨⟨by decide, by decide, by decide +kernel⟩, rfl, rfl, (ztb_2 (i := 163) rfl rfl), (ztb_2 (i := 162) rfl rfl), (ztb_1 (i := 11) rfl rfl), Or.inl (ztb_2 (i := 161) rfl rfl)⟩
def F_PA_init (n a : Nat)  (w : zW) : zW := (wJ (wI (wI (wR (F_Study_init (n + 116) (n + 115) (n + 23) (n + 92) (wadd (wR (F_Table_init (n + 93) (n + 92) (wadd (wR (F_Reader_init (n + 65) (n + 64) (wadd (wR (wadd (wR (wadd (wR (F_World_init (n + 59) (n + 58) (wadd (wR (F_World_init (n + 55) (n + 54) (wadd (wR (F_Sight_init (n + 48) (n + 47) (wadd (wR (F_Atlas_init (n + 24) (n + 23) (wadd (wR (F_Search_init (n + 7) (n + 6) (wadd (wR (F_Bytes_init (n + 5) (n + 4) (wadd (wR (F_Bytes_init (n + 3) (n + 2) (wadd (wR (F_Bytes_init (n + 1) (n + 0) (wadd w (n + 0))) a 0 (n + 0)) (n + 2))) a 1 (n + 2)) (n + 4))) a 2 (n + 4)) (n + 6))) a 3 (n + 6)) (n + 23))) a 4 (n + 23)) (n + 47))) a 5 (n + 47)) (n + 54))) a 6 (n + 54)) (n + 58))) a 7 (n + 58)) (n + 62)) a 8 (n + 62)) (n + 63)) a 9 (n + 63)) (n + 64))) a 10 (n + 64)) (n + 92))) a 11 (n + 92)) (n + 115))) a 12 (n + 115)) a 13 0) a 14 0) a 15 1)
set_option maxRecDepth 100000 in
set_option maxHeartbeats 4000000 in
theorem zi_PA_init (w : zW) {Q : Option Value → zH → Prop} (hq : Q none (([.inl 11] : List zQs) ++ [.inl 1, .inr (0, 1600), .inl 1, .inr (0, 1600), .inl 1, .inr (0, 1600), .inl 6, .inl 2, .inr (3, 2048), .inr (0, 2048), .inr (3, 600), .inr (3, 600), .inr (0, 600), .inr (0, 600), .inr (0, 600), .inl 10, .inr (0, 4), .inr (0, 4), .inr (0, 4), .inl 10, .inr (0, 4), .inr (0, 4), .inr (0, 4), .inl 0, .inl 2, .inr (3, 2048), .inr (0, 2048), .inr (3, 600), .inr (0, 600), .inr (0, 600), .inr (0, 600), .inr (0, 600), .inr (1, 600), .inr (0, 2400), .inr (0, 2400), .inr (0, 601), .inr (0, 38400), .inr (0, 600), .inr (0, 600), .inl 10, .inr (0, 4), .inr (0, 4), .inr (0, 4), .inl 10, .inr (0, 4), .inr (0, 4), .inr (0, 4), .inl 7, .inr (0, 6), .inr (0, 6), .inr (1, 600), .inr (1, 600), .inr (0, 600), .inr (0, 5), .inl 10, .inr (0, 4), .inr (0, 4), .inr (0, 4), .inl 10, .inr (0, 4), .inr (0, 4), .inr (0, 4), .inr (3, 20), .inr (0, 6), .inl 4, .inl 9, .inr (0, 3), .inr (0, 18), .inr (4, 16), .inr (0, 4), .inr (0, 12), .inr (0, 12), .inl 5, .inl 5, .inl 5, .inl 5, .inl 5, .inl 5, .inl 5, .inl 5, .inl 5, .inl 5, .inl 5, .inl 5, .inl 5, .inl 5, .inl 5, .inl 5, .inr (0, 1601), .inr (0, 1601), .inr (0, 1601), .inr (3, 1601), .inl 9, .inr (0, 3), .inr (0, 18), .inr (4, 16), .inr (0, 4), .inr (0, 12), .inr (0, 12), .inl 5, .inl 5, .inl 5, .inl 5, .inl 5, .inl 5, .inl 5, .inl 5, .inl 5, .inl 5, .inl 5, .inl 5, .inl 5, .inl 5, .inl 5, .inl 5, .inl 8, .inr (0, 600), .inr (0, 600), .inr (0, 600), .inr (1, 600), .inr (0, 600), .inr (1, 2400), .inr (1, 2400), .inr (1, 2400), .inr (1, 600), .inr (0, 600), .inr (1, 16), .inr (0, 80), .inl 3, .inr (0, 2400), .inr (0, 2401), .inr (0, 2400), .inr (0, 2400), .inr (0, 2400), .inr (0, 2400), .inr (0, 2400), .inr (0, 2400)], F_PA_init 1 0 w)) : zCall s_PA_init true [.ref 0] ([.inl 11], w) Q := by
  have hn : ([.inl 11] : List zQs).length = 1 := rfl
  have ha : ([.inl 11] : List zQs)[0]? = some (.inl 11) := rfl
  refine zcall_of rfl (Nat.le_of_ble_eq_true rfl) ?_
  show AW s_PA_init true 0 0 0 [(0, .ref 0)] [] (([.inl 11] : List zQs) ++ [], w) _
  refine aw_aload_n 0 d_PA_init_0 rfl rfl ?_
  refine aw_objInit (st := []) (ztb_1 (i := 26) rfl rfl) (ztb_1 (i := 27) rfl rfl) (ztb_1 (i := 28) rfl rfl) (Nat.le_of_ble_eq_true rfl) (Nat.le_of_ble_eq_true rfl) d_PA_init_1 ?_
  refine aw_aload_n 0 d_PA_init_4 rfl rfl ?_
  refine ay_new (1 + 0) (ln hn 0 rfl) (by omega) (([.inl 11] : List zQs) ++ [.inl 1]) (List.append_assoc ([.inl 11] : List zQs) _ _) zk_Bytes ty2_Bytes (ztb_1 (i := 29) rfl rfl) (ztb_1 (i := 30) rfl rfl) (ztb_1 (i := 2) rfl rfl) (Nat.le_of_ble_eq_true rfl) (Nat.le_of_ble_eq_true rfl) d_PA_init_5 ?_
  refine aw_dup d_PA_init_8 rfl ?_
  refine aw_callI mi_PA_11 ⟨Nat.le_of_ble_eq_true rfl, Nat.le_of_ble_eq_true rfl⟩ [] [.ref (1 + 0), .ref (1 + 0), .ref 0] rfl rfl (Nat.le_of_ble_eq_true rfl) d_PA_init_9 ⟨Nat.le_of_ble_eq_true rfl, Nat.le_of_ble_eq_true rfl⟩ (zi_Bytes_init _ _ (ln hn 1 rfl) (by omega) (sh_r hn (j := 0) rfl)  ?_)
  rw [List.append_assoc]
  show AW _ true _ _ _ _ _ (([.inl 11] : List zQs) ++ [.inl 1, .inr (0, 1600)], _) _
  refine ay_putFR fl_PA_12 (sh_l ha) (ztb_3 (i := 40) rfl rfl) rfl rfl rfl (Or.inl ⟨_, rfl⟩) rfl (Nat.le_of_ble_eq_true rfl) d_PA_init_12 ?_
  refine aw_aload_n 0 d_PA_init_15 rfl rfl ?_
  refine ay_new (1 + 2) (ln hn 2 rfl) (by omega) (([.inl 11] : List zQs) ++ [.inl 1, .inr (0, 1600), .inl 1]) (List.append_assoc ([.inl 11] : List zQs) _ _) zk_Bytes ty2_Bytes (ztb_1 (i := 29) rfl rfl) (ztb_1 (i := 30) rfl rfl) (ztb_1 (i := 2) rfl rfl) (Nat.le_of_ble_eq_true rfl) (Nat.le_of_ble_eq_true rfl) d_PA_init_16 ?_
  refine aw_dup d_PA_init_19 rfl ?_
  refine aw_callI mi_PA_11 ⟨Nat.le_of_ble_eq_true rfl, Nat.le_of_ble_eq_true rfl⟩ [] [.ref (1 + 2), .ref (1 + 2), .ref 0] rfl rfl (Nat.le_of_ble_eq_true rfl) d_PA_init_20 ⟨Nat.le_of_ble_eq_true rfl, Nat.le_of_ble_eq_true rfl⟩ (zi_Bytes_init _ _ (ln hn 3 rfl) (by omega) (sh_r hn (j := 2) rfl)  ?_)
  rw [List.append_assoc]
  show AW _ true _ _ _ _ _ (([.inl 11] : List zQs) ++ [.inl 1, .inr (0, 1600), .inl 1, .inr (0, 1600)], _) _
  refine ay_putFR fl_PA_16 (sh_l ha) (ztb_3 (i := 41) rfl rfl) rfl rfl rfl (Or.inl ⟨_, rfl⟩) rfl (Nat.le_of_ble_eq_true rfl) d_PA_init_23 ?_
  refine aw_aload_n 0 d_PA_init_26 rfl rfl ?_
  refine ay_new (1 + 4) (ln hn 4 rfl) (by omega) (([.inl 11] : List zQs) ++ [.inl 1, .inr (0, 1600), .inl 1, .inr (0, 1600), .inl 1]) (List.append_assoc ([.inl 11] : List zQs) _ _) zk_Bytes ty2_Bytes (ztb_1 (i := 29) rfl rfl) (ztb_1 (i := 30) rfl rfl) (ztb_1 (i := 2) rfl rfl) (Nat.le_of_ble_eq_true rfl) (Nat.le_of_ble_eq_true rfl) d_PA_init_27 ?_
  refine aw_dup d_PA_init_30 rfl ?_
  refine aw_callI mi_PA_11 ⟨Nat.le_of_ble_eq_true rfl, Nat.le_of_ble_eq_true rfl⟩ [] [.ref (1 + 4), .ref (1 + 4), .ref 0] rfl rfl (Nat.le_of_ble_eq_true rfl) d_PA_init_31 ⟨Nat.le_of_ble_eq_true rfl, Nat.le_of_ble_eq_true rfl⟩ (zi_Bytes_init _ _ (ln hn 5 rfl) (by omega) (sh_r hn (j := 4) rfl)  ?_)
  rw [List.append_assoc]
  show AW _ true _ _ _ _ _ (([.inl 11] : List zQs) ++ [.inl 1, .inr (0, 1600), .inl 1, .inr (0, 1600), .inl 1, .inr (0, 1600)], _) _
  refine ay_putFR fl_PA_19 (sh_l ha) (ztb_3 (i := 42) rfl rfl) rfl rfl rfl (Or.inl ⟨_, rfl⟩) rfl (Nat.le_of_ble_eq_true rfl) d_PA_init_34 ?_
  refine aw_aload_n 0 d_PA_init_37 rfl rfl ?_
  refine ay_new (1 + 6) (ln hn 6 rfl) (by omega) (([.inl 11] : List zQs) ++ [.inl 1, .inr (0, 1600), .inl 1, .inr (0, 1600), .inl 1, .inr (0, 1600), .inl 6]) (List.append_assoc ([.inl 11] : List zQs) _ _) zk_Search ty2_Search (ztb_1 (i := 43) rfl rfl) (ztb_1 (i := 44) rfl rfl) (ztb_1 (i := 3) rfl rfl) (Nat.le_of_ble_eq_true rfl) (Nat.le_of_ble_eq_true rfl) d_PA_init_38 ?_
  refine aw_dup d_PA_init_41 rfl ?_
  refine aw_callI mi_PA_24 ⟨Nat.le_of_ble_eq_true rfl, Nat.le_of_ble_eq_true rfl⟩ [] [.ref (1 + 6), .ref (1 + 6), .ref 0] rfl rfl (Nat.le_of_ble_eq_true rfl) d_PA_init_42 ⟨Nat.le_of_ble_eq_true rfl, Nat.le_of_ble_eq_true rfl⟩ (zi_Search_init _ _ (ln hn 7 rfl) (by omega) (sh_r hn (j := 6) rfl)  ?_)
  rw [List.append_assoc]
  show AW _ true _ _ _ _ _ (([.inl 11] : List zQs) ++ [.inl 1, .inr (0, 1600), .inl 1, .inr (0, 1600), .inl 1, .inr (0, 1600), .inl 6, .inl 2, .inr (3, 2048), .inr (0, 2048), .inr (3, 600), .inr (3, 600), .inr (0, 600), .inr (0, 600), .inr (0, 600), .inl 10, .inr (0, 4), .inr (0, 4), .inr (0, 4), .inl 10, .inr (0, 4), .inr (0, 4), .inr (0, 4)], _) _
  refine ay_putFR fl_PA_25 (sh_l ha) (ztb_3 (i := 43) rfl rfl) rfl rfl rfl (Or.inl ⟨_, rfl⟩) rfl (Nat.le_of_ble_eq_true rfl) d_PA_init_45 ?_
  refine aw_aload_n 0 d_PA_init_48 rfl rfl ?_
  refine ay_new (1 + 23) (ln hn 23 rfl) (by omega) (([.inl 11] : List zQs) ++ [.inl 1, .inr (0, 1600), .inl 1, .inr (0, 1600), .inl 1, .inr (0, 1600), .inl 6, .inl 2, .inr (3, 2048), .inr (0, 2048), .inr (3, 600), .inr (3, 600), .inr (0, 600), .inr (0, 600), .inr (0, 600), .inl 10, .inr (0, 4), .inr (0, 4), .inr (0, 4), .inl 10, .inr (0, 4), .inr (0, 4), .inr (0, 4), .inl 0]) (List.append_assoc ([.inl 11] : List zQs) _ _) zk_Atlas ty2_Atlas (ztb_1 (i := 129) rfl rfl) (ztb_1 (i := 130) rfl rfl) (ztb_1 (i := 6) rfl rfl) (Nat.le_of_ble_eq_true rfl) (Nat.le_of_ble_eq_true rfl) d_PA_init_49 ?_
  refine aw_dup d_PA_init_52 rfl ?_
  refine aw_callI mi_PA_31 ⟨Nat.le_of_ble_eq_true rfl, Nat.le_of_ble_eq_true rfl⟩ [] [.ref (1 + 23), .ref (1 + 23), .ref 0] rfl rfl (Nat.le_of_ble_eq_true rfl) d_PA_init_53 ⟨Nat.le_of_ble_eq_true rfl, Nat.le_of_ble_eq_true rfl⟩ (zi_Atlas_init _ _ (ln hn 24 rfl) (by omega) (sh_r hn (j := 23) rfl)  ?_)
  rw [List.append_assoc]
  show AW _ true _ _ _ _ _ (([.inl 11] : List zQs) ++ [.inl 1, .inr (0, 1600), .inl 1, .inr (0, 1600), .inl 1, .inr (0, 1600), .inl 6, .inl 2, .inr (3, 2048), .inr (0, 2048), .inr (3, 600), .inr (3, 600), .inr (0, 600), .inr (0, 600), .inr (0, 600), .inl 10, .inr (0, 4), .inr (0, 4), .inr (0, 4), .inl 10, .inr (0, 4), .inr (0, 4), .inr (0, 4), .inl 0, .inl 2, .inr (3, 2048), .inr (0, 2048), .inr (3, 600), .inr (0, 600), .inr (0, 600), .inr (0, 600), .inr (0, 600), .inr (1, 600), .inr (0, 2400), .inr (0, 2400), .inr (0, 601), .inr (0, 38400), .inr (0, 600), .inr (0, 600), .inl 10, .inr (0, 4), .inr (0, 4), .inr (0, 4), .inl 10, .inr (0, 4), .inr (0, 4), .inr (0, 4)], _) _
  refine ay_putFR fl_PA_32 (sh_l ha) (ztb_3 (i := 44) rfl rfl) rfl rfl rfl (Or.inl ⟨_, rfl⟩) rfl (Nat.le_of_ble_eq_true rfl) d_PA_init_56 ?_
  refine aw_aload_n 0 d_PA_init_59 rfl rfl ?_
  refine ay_new (1 + 47) (ln hn 47 rfl) (by omega) (([.inl 11] : List zQs) ++ [.inl 1, .inr (0, 1600), .inl 1, .inr (0, 1600), .inl 1, .inr (0, 1600), .inl 6, .inl 2, .inr (3, 2048), .inr (0, 2048), .inr (3, 600), .inr (3, 600), .inr (0, 600), .inr (0, 600), .inr (0, 600), .inl 10, .inr (0, 4), .inr (0, 4), .inr (0, 4), .inl 10, .inr (0, 4), .inr (0, 4), .inr (0, 4), .inl 0, .inl 2, .inr (3, 2048), .inr (0, 2048), .inr (3, 600), .inr (0, 600), .inr (0, 600), .inr (0, 600), .inr (0, 600), .inr (1, 600), .inr (0, 2400), .inr (0, 2400), .inr (0, 601), .inr (0, 38400), .inr (0, 600), .inr (0, 600), .inl 10, .inr (0, 4), .inr (0, 4), .inr (0, 4), .inl 10, .inr (0, 4), .inr (0, 4), .inr (0, 4), .inl 7]) (List.append_assoc ([.inl 11] : List zQs) _ _) zk_Sight ty2_Sight (ztb_1 (i := 213) rfl rfl) (ztb_1 (i := 214) rfl rfl) (ztb_1 (i := 7) rfl rfl) (Nat.le_of_ble_eq_true rfl) (Nat.le_of_ble_eq_true rfl) d_PA_init_60 ?_
  refine aw_dup d_PA_init_63 rfl ?_
  refine aw_callI mi_PA_38 ⟨Nat.le_of_ble_eq_true rfl, Nat.le_of_ble_eq_true rfl⟩ [] [.ref (1 + 47), .ref (1 + 47), .ref 0] rfl rfl (Nat.le_of_ble_eq_true rfl) d_PA_init_64 ⟨Nat.le_of_ble_eq_true rfl, Nat.le_of_ble_eq_true rfl⟩ (zi_Sight_init _ _ (ln hn 48 rfl) (by omega) (sh_r hn (j := 47) rfl)  ?_)
  rw [List.append_assoc]
  show AW _ true _ _ _ _ _ (([.inl 11] : List zQs) ++ [.inl 1, .inr (0, 1600), .inl 1, .inr (0, 1600), .inl 1, .inr (0, 1600), .inl 6, .inl 2, .inr (3, 2048), .inr (0, 2048), .inr (3, 600), .inr (3, 600), .inr (0, 600), .inr (0, 600), .inr (0, 600), .inl 10, .inr (0, 4), .inr (0, 4), .inr (0, 4), .inl 10, .inr (0, 4), .inr (0, 4), .inr (0, 4), .inl 0, .inl 2, .inr (3, 2048), .inr (0, 2048), .inr (3, 600), .inr (0, 600), .inr (0, 600), .inr (0, 600), .inr (0, 600), .inr (1, 600), .inr (0, 2400), .inr (0, 2400), .inr (0, 601), .inr (0, 38400), .inr (0, 600), .inr (0, 600), .inl 10, .inr (0, 4), .inr (0, 4), .inr (0, 4), .inl 10, .inr (0, 4), .inr (0, 4), .inr (0, 4), .inl 7, .inr (0, 6), .inr (0, 6), .inr (1, 600), .inr (1, 600), .inr (0, 600), .inr (0, 5)], _) _
  refine ay_putFR fl_PA_39 (sh_l ha) (ztb_3 (i := 45) rfl rfl) rfl rfl rfl (Or.inl ⟨_, rfl⟩) rfl (Nat.le_of_ble_eq_true rfl) d_PA_init_67 ?_
  refine aw_aload_n 0 d_PA_init_70 rfl rfl ?_
  refine ay_new (1 + 54) (ln hn 54 rfl) (by omega) (([.inl 11] : List zQs) ++ [.inl 1, .inr (0, 1600), .inl 1, .inr (0, 1600), .inl 1, .inr (0, 1600), .inl 6, .inl 2, .inr (3, 2048), .inr (0, 2048), .inr (3, 600), .inr (3, 600), .inr (0, 600), .inr (0, 600), .inr (0, 600), .inl 10, .inr (0, 4), .inr (0, 4), .inr (0, 4), .inl 10, .inr (0, 4), .inr (0, 4), .inr (0, 4), .inl 0, .inl 2, .inr (3, 2048), .inr (0, 2048), .inr (3, 600), .inr (0, 600), .inr (0, 600), .inr (0, 600), .inr (0, 600), .inr (1, 600), .inr (0, 2400), .inr (0, 2400), .inr (0, 601), .inr (0, 38400), .inr (0, 600), .inr (0, 600), .inl 10, .inr (0, 4), .inr (0, 4), .inr (0, 4), .inl 10, .inr (0, 4), .inr (0, 4), .inr (0, 4), .inl 7, .inr (0, 6), .inr (0, 6), .inr (1, 600), .inr (1, 600), .inr (0, 600), .inr (0, 5), .inl 10]) (List.append_assoc ([.inl 11] : List zQs) _ _) zk_World ty2_World (ztb_2 (i := 13) rfl rfl) (ztb_1 (i := 64) rfl rfl) (ztb_1 (i := 5) rfl rfl) (Nat.le_of_ble_eq_true rfl) (Nat.le_of_ble_eq_true rfl) d_PA_init_71 ?_
  refine aw_dup d_PA_init_74 rfl ?_
  refine aw_callI mi_PA_45 ⟨Nat.le_of_ble_eq_true rfl, Nat.le_of_ble_eq_true rfl⟩ [] [.ref (1 + 54), .ref (1 + 54), .ref 0] rfl rfl (Nat.le_of_ble_eq_true rfl) d_PA_init_75 ⟨Nat.le_of_ble_eq_true rfl, Nat.le_of_ble_eq_true rfl⟩ (zi_World_init _ _ (ln hn 55 rfl) (by omega) (sh_r hn (j := 54) rfl)  ?_)
  rw [List.append_assoc]
  show AW _ true _ _ _ _ _ (([.inl 11] : List zQs) ++ [.inl 1, .inr (0, 1600), .inl 1, .inr (0, 1600), .inl 1, .inr (0, 1600), .inl 6, .inl 2, .inr (3, 2048), .inr (0, 2048), .inr (3, 600), .inr (3, 600), .inr (0, 600), .inr (0, 600), .inr (0, 600), .inl 10, .inr (0, 4), .inr (0, 4), .inr (0, 4), .inl 10, .inr (0, 4), .inr (0, 4), .inr (0, 4), .inl 0, .inl 2, .inr (3, 2048), .inr (0, 2048), .inr (3, 600), .inr (0, 600), .inr (0, 600), .inr (0, 600), .inr (0, 600), .inr (1, 600), .inr (0, 2400), .inr (0, 2400), .inr (0, 601), .inr (0, 38400), .inr (0, 600), .inr (0, 600), .inl 10, .inr (0, 4), .inr (0, 4), .inr (0, 4), .inl 10, .inr (0, 4), .inr (0, 4), .inr (0, 4), .inl 7, .inr (0, 6), .inr (0, 6), .inr (1, 600), .inr (1, 600), .inr (0, 600), .inr (0, 5), .inl 10, .inr (0, 4), .inr (0, 4), .inr (0, 4)], _) _
  refine ay_putFR fl_PA_46 (sh_l ha) (ztb_3 (i := 46) rfl rfl) rfl rfl rfl (Or.inl ⟨_, rfl⟩) rfl (Nat.le_of_ble_eq_true rfl) d_PA_init_78 ?_
  refine aw_aload_n 0 d_PA_init_81 rfl rfl ?_
  refine ay_new (1 + 58) (ln hn 58 rfl) (by omega) (([.inl 11] : List zQs) ++ [.inl 1, .inr (0, 1600), .inl 1, .inr (0, 1600), .inl 1, .inr (0, 1600), .inl 6, .inl 2, .inr (3, 2048), .inr (0, 2048), .inr (3, 600), .inr (3, 600), .inr (0, 600), .inr (0, 600), .inr (0, 600), .inl 10, .inr (0, 4), .inr (0, 4), .inr (0, 4), .inl 10, .inr (0, 4), .inr (0, 4), .inr (0, 4), .inl 0, .inl 2, .inr (3, 2048), .inr (0, 2048), .inr (3, 600), .inr (0, 600), .inr (0, 600), .inr (0, 600), .inr (0, 600), .inr (1, 600), .inr (0, 2400), .inr (0, 2400), .inr (0, 601), .inr (0, 38400), .inr (0, 600), .inr (0, 600), .inl 10, .inr (0, 4), .inr (0, 4), .inr (0, 4), .inl 10, .inr (0, 4), .inr (0, 4), .inr (0, 4), .inl 7, .inr (0, 6), .inr (0, 6), .inr (1, 600), .inr (1, 600), .inr (0, 600), .inr (0, 5), .inl 10, .inr (0, 4), .inr (0, 4), .inr (0, 4), .inl 10]) (List.append_assoc ([.inl 11] : List zQs) _ _) zk_World ty2_World (ztb_2 (i := 13) rfl rfl) (ztb_1 (i := 64) rfl rfl) (ztb_1 (i := 5) rfl rfl) (Nat.le_of_ble_eq_true rfl) (Nat.le_of_ble_eq_true rfl) d_PA_init_82 ?_
  refine aw_dup d_PA_init_85 rfl ?_
  refine aw_callI mi_PA_45 ⟨Nat.le_of_ble_eq_true rfl, Nat.le_of_ble_eq_true rfl⟩ [] [.ref (1 + 58), .ref (1 + 58), .ref 0] rfl rfl (Nat.le_of_ble_eq_true rfl) d_PA_init_86 ⟨Nat.le_of_ble_eq_true rfl, Nat.le_of_ble_eq_true rfl⟩ (zi_World_init _ _ (ln hn 59 rfl) (by omega) (sh_r hn (j := 58) rfl)  ?_)
  rw [List.append_assoc]
  show AW _ true _ _ _ _ _ (([.inl 11] : List zQs) ++ [.inl 1, .inr (0, 1600), .inl 1, .inr (0, 1600), .inl 1, .inr (0, 1600), .inl 6, .inl 2, .inr (3, 2048), .inr (0, 2048), .inr (3, 600), .inr (3, 600), .inr (0, 600), .inr (0, 600), .inr (0, 600), .inl 10, .inr (0, 4), .inr (0, 4), .inr (0, 4), .inl 10, .inr (0, 4), .inr (0, 4), .inr (0, 4), .inl 0, .inl 2, .inr (3, 2048), .inr (0, 2048), .inr (3, 600), .inr (0, 600), .inr (0, 600), .inr (0, 600), .inr (0, 600), .inr (1, 600), .inr (0, 2400), .inr (0, 2400), .inr (0, 601), .inr (0, 38400), .inr (0, 600), .inr (0, 600), .inl 10, .inr (0, 4), .inr (0, 4), .inr (0, 4), .inl 10, .inr (0, 4), .inr (0, 4), .inr (0, 4), .inl 7, .inr (0, 6), .inr (0, 6), .inr (1, 600), .inr (1, 600), .inr (0, 600), .inr (0, 5), .inl 10, .inr (0, 4), .inr (0, 4), .inr (0, 4), .inl 10, .inr (0, 4), .inr (0, 4), .inr (0, 4)], _) _
  refine ay_putFR fl_PA_50 (sh_l ha) (ztb_3 (i := 47) rfl rfl) rfl rfl rfl (Or.inl ⟨_, rfl⟩) rfl (Nat.le_of_ble_eq_true rfl) d_PA_init_89 ?_
  refine aw_aload_n 0 d_PA_init_92 rfl rfl ?_
  refine aw_bipush 20 d_PA_init_93 (by decide) ?_
  refine ay_newa (t := 3) (n := 20) (1 + 62) (ln hn 62 rfl) (by omega) (([.inl 11] : List zQs) ++ [.inl 1, .inr (0, 1600), .inl 1, .inr (0, 1600), .inl 1, .inr (0, 1600), .inl 6, .inl 2, .inr (3, 2048), .inr (0, 2048), .inr (3, 600), .inr (3, 600), .inr (0, 600), .inr (0, 600), .inr (0, 600), .inl 10, .inr (0, 4), .inr (0, 4), .inr (0, 4), .inl 10, .inr (0, 4), .inr (0, 4), .inr (0, 4), .inl 0, .inl 2, .inr (3, 2048), .inr (0, 2048), .inr (3, 600), .inr (0, 600), .inr (0, 600), .inr (0, 600), .inr (0, 600), .inr (1, 600), .inr (0, 2400), .inr (0, 2400), .inr (0, 601), .inr (0, 38400), .inr (0, 600), .inr (0, 600), .inl 10, .inr (0, 4), .inr (0, 4), .inr (0, 4), .inl 10, .inr (0, 4), .inr (0, 4), .inr (0, 4), .inl 7, .inr (0, 6), .inr (0, 6), .inr (1, 600), .inr (1, 600), .inr (0, 600), .inr (0, 5), .inl 10, .inr (0, 4), .inr (0, 4), .inr (0, 4), .inl 10, .inr (0, 4), .inr (0, 4), .inr (0, 4), .inr (3, 20)]) (List.append_assoc ([.inl 11] : List zQs) _ _) rfl (by decide) (ztb_1 (i := 62) rfl rfl) (by decide) (by decide) (Nat.le_of_ble_eq_true rfl) (Nat.le_of_ble_eq_true rfl) (Nat.le_of_ble_eq_true rfl) d_PA_init_95 ?_
  refine ay_putFR fl_PA_53 (sh_l ha) (ztb_3 (i := 48) rfl rfl) rfl rfl rfl (Or.inr ⟨_, rfl⟩) rfl (Nat.le_of_ble_eq_true rfl) d_PA_init_97 ?_
  refine aw_aload_n 0 d_PA_init_100 rfl rfl ?_
  refine aw_bipush 6 d_PA_init_101 (by decide) ?_
  refine ay_newa (t := 0) (n := 6) (1 + 63) (ln hn 63 rfl) (by omega) (([.inl 11] : List zQs) ++ [.inl 1, .inr (0, 1600), .inl 1, .inr (0, 1600), .inl 1, .inr (0, 1600), .inl 6, .inl 2, .inr (3, 2048), .inr (0, 2048), .inr (3, 600), .inr (3, 600), .inr (0, 600), .inr (0, 600), .inr (0, 600), .inl 10, .inr (0, 4), .inr (0, 4), .inr (0, 4), .inl 10, .inr (0, 4), .inr (0, 4), .inr (0, 4), .inl 0, .inl 2, .inr (3, 2048), .inr (0, 2048), .inr (3, 600), .inr (0, 600), .inr (0, 600), .inr (0, 600), .inr (0, 600), .inr (1, 600), .inr (0, 2400), .inr (0, 2400), .inr (0, 601), .inr (0, 38400), .inr (0, 600), .inr (0, 600), .inl 10, .inr (0, 4), .inr (0, 4), .inr (0, 4), .inl 10, .inr (0, 4), .inr (0, 4), .inr (0, 4), .inl 7, .inr (0, 6), .inr (0, 6), .inr (1, 600), .inr (1, 600), .inr (0, 600), .inr (0, 5), .inl 10, .inr (0, 4), .inr (0, 4), .inr (0, 4), .inl 10, .inr (0, 4), .inr (0, 4), .inr (0, 4), .inr (3, 20), .inr (0, 6)]) (List.append_assoc ([.inl 11] : List zQs) _ _) rfl (by decide) (ztb_1 (i := 42) rfl rfl) (by decide) (by decide) (Nat.le_of_ble_eq_true rfl) (Nat.le_of_ble_eq_true rfl) (Nat.le_of_ble_eq_true rfl) d_PA_init_103 ?_
  refine ay_putFR fl_PA_57 (sh_l ha) (ztb_3 (i := 49) rfl rfl) rfl rfl rfl (Or.inr ⟨_, rfl⟩) rfl (Nat.le_of_ble_eq_true rfl) d_PA_init_105 ?_
  refine aw_aload_n 0 d_PA_init_108 rfl rfl ?_
  refine ay_new (1 + 64) (ln hn 64 rfl) (by omega) (([.inl 11] : List zQs) ++ [.inl 1, .inr (0, 1600), .inl 1, .inr (0, 1600), .inl 1, .inr (0, 1600), .inl 6, .inl 2, .inr (3, 2048), .inr (0, 2048), .inr (3, 600), .inr (3, 600), .inr (0, 600), .inr (0, 600), .inr (0, 600), .inl 10, .inr (0, 4), .inr (0, 4), .inr (0, 4), .inl 10, .inr (0, 4), .inr (0, 4), .inr (0, 4), .inl 0, .inl 2, .inr (3, 2048), .inr (0, 2048), .inr (3, 600), .inr (0, 600), .inr (0, 600), .inr (0, 600), .inr (0, 600), .inr (1, 600), .inr (0, 2400), .inr (0, 2400), .inr (0, 601), .inr (0, 38400), .inr (0, 600), .inr (0, 600), .inl 10, .inr (0, 4), .inr (0, 4), .inr (0, 4), .inl 10, .inr (0, 4), .inr (0, 4), .inr (0, 4), .inl 7, .inr (0, 6), .inr (0, 6), .inr (1, 600), .inr (1, 600), .inr (0, 600), .inr (0, 5), .inl 10, .inr (0, 4), .inr (0, 4), .inr (0, 4), .inl 10, .inr (0, 4), .inr (0, 4), .inr (0, 4), .inr (3, 20), .inr (0, 6), .inl 4]) (List.append_assoc ([.inl 11] : List zQs) _ _) zk_Reader ty2_Reader (ztb_2 (i := 15) rfl rfl) (ztb_2 (i := 16) rfl rfl) (ztb_1 (i := 8) rfl rfl) (Nat.le_of_ble_eq_true rfl) (Nat.le_of_ble_eq_true rfl) d_PA_init_109 ?_
  refine aw_dup d_PA_init_112 rfl ?_
  refine aw_callI mi_PA_63 ⟨Nat.le_of_ble_eq_true rfl, Nat.le_of_ble_eq_true rfl⟩ [] [.ref (1 + 64), .ref (1 + 64), .ref 0] rfl rfl (Nat.le_of_ble_eq_true rfl) d_PA_init_113 ⟨Nat.le_of_ble_eq_true rfl, Nat.le_of_ble_eq_true rfl⟩ (zi_Reader_init _ _ (ln hn 65 rfl) (by omega) (sh_r hn (j := 64) rfl)  ?_)
  rw [List.append_assoc]
  show AW _ true _ _ _ _ _ (([.inl 11] : List zQs) ++ [.inl 1, .inr (0, 1600), .inl 1, .inr (0, 1600), .inl 1, .inr (0, 1600), .inl 6, .inl 2, .inr (3, 2048), .inr (0, 2048), .inr (3, 600), .inr (3, 600), .inr (0, 600), .inr (0, 600), .inr (0, 600), .inl 10, .inr (0, 4), .inr (0, 4), .inr (0, 4), .inl 10, .inr (0, 4), .inr (0, 4), .inr (0, 4), .inl 0, .inl 2, .inr (3, 2048), .inr (0, 2048), .inr (3, 600), .inr (0, 600), .inr (0, 600), .inr (0, 600), .inr (0, 600), .inr (1, 600), .inr (0, 2400), .inr (0, 2400), .inr (0, 601), .inr (0, 38400), .inr (0, 600), .inr (0, 600), .inl 10, .inr (0, 4), .inr (0, 4), .inr (0, 4), .inl 10, .inr (0, 4), .inr (0, 4), .inr (0, 4), .inl 7, .inr (0, 6), .inr (0, 6), .inr (1, 600), .inr (1, 600), .inr (0, 600), .inr (0, 5), .inl 10, .inr (0, 4), .inr (0, 4), .inr (0, 4), .inl 10, .inr (0, 4), .inr (0, 4), .inr (0, 4), .inr (3, 20), .inr (0, 6), .inl 4, .inl 9, .inr (0, 3), .inr (0, 18), .inr (4, 16), .inr (0, 4), .inr (0, 12), .inr (0, 12), .inl 5, .inl 5, .inl 5, .inl 5, .inl 5, .inl 5, .inl 5, .inl 5, .inl 5, .inl 5, .inl 5, .inl 5, .inl 5, .inl 5, .inl 5, .inl 5, .inr (0, 1601), .inr (0, 1601), .inr (0, 1601), .inr (3, 1601)], _) _
  refine ay_putFR fl_PA_64 (sh_l ha) (ztb_3 (i := 50) rfl rfl) rfl rfl rfl (Or.inl ⟨_, rfl⟩) rfl (Nat.le_of_ble_eq_true rfl) d_PA_init_116 ?_
  refine aw_aload_n 0 d_PA_init_119 rfl rfl ?_
  refine ay_new (1 + 92) (ln hn 92 rfl) (by omega) (([.inl 11] : List zQs) ++ [.inl 1, .inr (0, 1600), .inl 1, .inr (0, 1600), .inl 1, .inr (0, 1600), .inl 6, .inl 2, .inr (3, 2048), .inr (0, 2048), .inr (3, 600), .inr (3, 600), .inr (0, 600), .inr (0, 600), .inr (0, 600), .inl 10, .inr (0, 4), .inr (0, 4), .inr (0, 4), .inl 10, .inr (0, 4), .inr (0, 4), .inr (0, 4), .inl 0, .inl 2, .inr (3, 2048), .inr (0, 2048), .inr (3, 600), .inr (0, 600), .inr (0, 600), .inr (0, 600), .inr (0, 600), .inr (1, 600), .inr (0, 2400), .inr (0, 2400), .inr (0, 601), .inr (0, 38400), .inr (0, 600), .inr (0, 600), .inl 10, .inr (0, 4), .inr (0, 4), .inr (0, 4), .inl 10, .inr (0, 4), .inr (0, 4), .inr (0, 4), .inl 7, .inr (0, 6), .inr (0, 6), .inr (1, 600), .inr (1, 600), .inr (0, 600), .inr (0, 5), .inl 10, .inr (0, 4), .inr (0, 4), .inr (0, 4), .inl 10, .inr (0, 4), .inr (0, 4), .inr (0, 4), .inr (3, 20), .inr (0, 6), .inl 4, .inl 9, .inr (0, 3), .inr (0, 18), .inr (4, 16), .inr (0, 4), .inr (0, 12), .inr (0, 12), .inl 5, .inl 5, .inl 5, .inl 5, .inl 5, .inl 5, .inl 5, .inl 5, .inl 5, .inl 5, .inl 5, .inl 5, .inl 5, .inl 5, .inl 5, .inl 5, .inr (0, 1601), .inr (0, 1601), .inr (0, 1601), .inr (3, 1601), .inl 9]) (List.append_assoc ([.inl 11] : List zQs) _ _) zk_Table ty2_Table (ztb_2 (i := 157) rfl rfl) (ztb_2 (i := 22) rfl rfl) (ztb_1 (i := 9) rfl rfl) (Nat.le_of_ble_eq_true rfl) (Nat.le_of_ble_eq_true rfl) d_PA_init_120 ?_
  refine aw_dup d_PA_init_123 rfl ?_
  refine aw_callI mi_PA_70 ⟨Nat.le_of_ble_eq_true rfl, Nat.le_of_ble_eq_true rfl⟩ [] [.ref (1 + 92), .ref (1 + 92), .ref 0] rfl rfl (Nat.le_of_ble_eq_true rfl) d_PA_init_124 ⟨Nat.le_of_ble_eq_true rfl, Nat.le_of_ble_eq_true rfl⟩ (zi_Table_init _ _ (ln hn 93 rfl) (by omega) (sh_r hn (j := 92) rfl)  ?_)
  rw [List.append_assoc]
  show AW _ true _ _ _ _ _ (([.inl 11] : List zQs) ++ [.inl 1, .inr (0, 1600), .inl 1, .inr (0, 1600), .inl 1, .inr (0, 1600), .inl 6, .inl 2, .inr (3, 2048), .inr (0, 2048), .inr (3, 600), .inr (3, 600), .inr (0, 600), .inr (0, 600), .inr (0, 600), .inl 10, .inr (0, 4), .inr (0, 4), .inr (0, 4), .inl 10, .inr (0, 4), .inr (0, 4), .inr (0, 4), .inl 0, .inl 2, .inr (3, 2048), .inr (0, 2048), .inr (3, 600), .inr (0, 600), .inr (0, 600), .inr (0, 600), .inr (0, 600), .inr (1, 600), .inr (0, 2400), .inr (0, 2400), .inr (0, 601), .inr (0, 38400), .inr (0, 600), .inr (0, 600), .inl 10, .inr (0, 4), .inr (0, 4), .inr (0, 4), .inl 10, .inr (0, 4), .inr (0, 4), .inr (0, 4), .inl 7, .inr (0, 6), .inr (0, 6), .inr (1, 600), .inr (1, 600), .inr (0, 600), .inr (0, 5), .inl 10, .inr (0, 4), .inr (0, 4), .inr (0, 4), .inl 10, .inr (0, 4), .inr (0, 4), .inr (0, 4), .inr (3, 20), .inr (0, 6), .inl 4, .inl 9, .inr (0, 3), .inr (0, 18), .inr (4, 16), .inr (0, 4), .inr (0, 12), .inr (0, 12), .inl 5, .inl 5, .inl 5, .inl 5, .inl 5, .inl 5, .inl 5, .inl 5, .inl 5, .inl 5, .inl 5, .inl 5, .inl 5, .inl 5, .inl 5, .inl 5, .inr (0, 1601), .inr (0, 1601), .inr (0, 1601), .inr (3, 1601), .inl 9, .inr (0, 3), .inr (0, 18), .inr (4, 16), .inr (0, 4), .inr (0, 12), .inr (0, 12), .inl 5, .inl 5, .inl 5, .inl 5, .inl 5, .inl 5, .inl 5, .inl 5, .inl 5, .inl 5, .inl 5, .inl 5, .inl 5, .inl 5, .inl 5, .inl 5], _) _
  refine ay_putR (cn := "ProtocolAtlas$Table") fl_PA_71 (sh_l ha) rfl rfl rfl (Nat.le_of_ble_eq_true rfl) d_PA_init_127 ?_
  refine aw_aload_n 0 d_PA_init_130 rfl rfl ?_
  refine ay_new (1 + 115) (ln hn 115 rfl) (by omega) (([.inl 11] : List zQs) ++ [.inl 1, .inr (0, 1600), .inl 1, .inr (0, 1600), .inl 1, .inr (0, 1600), .inl 6, .inl 2, .inr (3, 2048), .inr (0, 2048), .inr (3, 600), .inr (3, 600), .inr (0, 600), .inr (0, 600), .inr (0, 600), .inl 10, .inr (0, 4), .inr (0, 4), .inr (0, 4), .inl 10, .inr (0, 4), .inr (0, 4), .inr (0, 4), .inl 0, .inl 2, .inr (3, 2048), .inr (0, 2048), .inr (3, 600), .inr (0, 600), .inr (0, 600), .inr (0, 600), .inr (0, 600), .inr (1, 600), .inr (0, 2400), .inr (0, 2400), .inr (0, 601), .inr (0, 38400), .inr (0, 600), .inr (0, 600), .inl 10, .inr (0, 4), .inr (0, 4), .inr (0, 4), .inl 10, .inr (0, 4), .inr (0, 4), .inr (0, 4), .inl 7, .inr (0, 6), .inr (0, 6), .inr (1, 600), .inr (1, 600), .inr (0, 600), .inr (0, 5), .inl 10, .inr (0, 4), .inr (0, 4), .inr (0, 4), .inl 10, .inr (0, 4), .inr (0, 4), .inr (0, 4), .inr (3, 20), .inr (0, 6), .inl 4, .inl 9, .inr (0, 3), .inr (0, 18), .inr (4, 16), .inr (0, 4), .inr (0, 12), .inr (0, 12), .inl 5, .inl 5, .inl 5, .inl 5, .inl 5, .inl 5, .inl 5, .inl 5, .inl 5, .inl 5, .inl 5, .inl 5, .inl 5, .inl 5, .inl 5, .inl 5, .inr (0, 1601), .inr (0, 1601), .inr (0, 1601), .inr (3, 1601), .inl 9, .inr (0, 3), .inr (0, 18), .inr (4, 16), .inr (0, 4), .inr (0, 12), .inr (0, 12), .inl 5, .inl 5, .inl 5, .inl 5, .inl 5, .inl 5, .inl 5, .inl 5, .inl 5, .inl 5, .inl 5, .inl 5, .inl 5, .inl 5, .inl 5, .inl 5, .inl 8]) (List.append_assoc ([.inl 11] : List zQs) _ _) zk_Study ty2_Study (ztb_2 (i := 159) rfl rfl) (ztb_2 (i := 160) rfl rfl) (ztb_1 (i := 11) rfl rfl) (Nat.le_of_ble_eq_true rfl) (Nat.le_of_ble_eq_true rfl) d_PA_init_131 ?_
  refine aw_dup d_PA_init_134 rfl ?_
  refine aw_aload_n 0 d_PA_init_135 rfl rfl ?_
  refine ay_getR fl_PA_32 (sh_l ha) rfl (1 + 23) rfl d_PA_init_136 ?_
  refine aw_aload_n 0 d_PA_init_139 rfl rfl ?_
  refine ay_getR fl_PA_71 (sh_l ha) rfl (1 + 92) rfl d_PA_init_140 ?_
  refine aw_callI mi_PA_77 ⟨Nat.le_of_ble_eq_true rfl, Nat.le_of_ble_eq_true rfl⟩ [.ref (1 + 23), .ref (1 + 92)] [.ref (1 + 92), .ref (1 + 23), .ref (1 + 115), .ref (1 + 115), .ref 0] rfl rfl (Nat.le_of_ble_eq_true rfl) d_PA_init_143 ⟨Nat.le_of_ble_eq_true rfl, Nat.le_of_ble_eq_true rfl⟩ (zi_Study_init _ _ (ln hn 116 rfl) (by omega) (sh_r hn (j := 115) rfl) _ _ ?_)
  rw [List.append_assoc]
  show AW _ true _ _ _ _ _ (([.inl 11] : List zQs) ++ [.inl 1, .inr (0, 1600), .inl 1, .inr (0, 1600), .inl 1, .inr (0, 1600), .inl 6, .inl 2, .inr (3, 2048), .inr (0, 2048), .inr (3, 600), .inr (3, 600), .inr (0, 600), .inr (0, 600), .inr (0, 600), .inl 10, .inr (0, 4), .inr (0, 4), .inr (0, 4), .inl 10, .inr (0, 4), .inr (0, 4), .inr (0, 4), .inl 0, .inl 2, .inr (3, 2048), .inr (0, 2048), .inr (3, 600), .inr (0, 600), .inr (0, 600), .inr (0, 600), .inr (0, 600), .inr (1, 600), .inr (0, 2400), .inr (0, 2400), .inr (0, 601), .inr (0, 38400), .inr (0, 600), .inr (0, 600), .inl 10, .inr (0, 4), .inr (0, 4), .inr (0, 4), .inl 10, .inr (0, 4), .inr (0, 4), .inr (0, 4), .inl 7, .inr (0, 6), .inr (0, 6), .inr (1, 600), .inr (1, 600), .inr (0, 600), .inr (0, 5), .inl 10, .inr (0, 4), .inr (0, 4), .inr (0, 4), .inl 10, .inr (0, 4), .inr (0, 4), .inr (0, 4), .inr (3, 20), .inr (0, 6), .inl 4, .inl 9, .inr (0, 3), .inr (0, 18), .inr (4, 16), .inr (0, 4), .inr (0, 12), .inr (0, 12), .inl 5, .inl 5, .inl 5, .inl 5, .inl 5, .inl 5, .inl 5, .inl 5, .inl 5, .inl 5, .inl 5, .inl 5, .inl 5, .inl 5, .inl 5, .inl 5, .inr (0, 1601), .inr (0, 1601), .inr (0, 1601), .inr (3, 1601), .inl 9, .inr (0, 3), .inr (0, 18), .inr (4, 16), .inr (0, 4), .inr (0, 12), .inr (0, 12), .inl 5, .inl 5, .inl 5, .inl 5, .inl 5, .inl 5, .inl 5, .inl 5, .inl 5, .inl 5, .inl 5, .inl 5, .inl 5, .inl 5, .inl 5, .inl 5, .inl 8, .inr (0, 600), .inr (0, 600), .inr (0, 600), .inr (1, 600), .inr (0, 600), .inr (1, 2400), .inr (1, 2400), .inr (1, 2400), .inr (1, 600), .inr (0, 600), .inr (1, 16), .inr (0, 80), .inl 3, .inr (0, 2400), .inr (0, 2401), .inr (0, 2400), .inr (0, 2400), .inr (0, 2400), .inr (0, 2400), .inr (0, 2400), .inr (0, 2400)], _) _
  refine ay_putFR fl_PA_80 (sh_l ha) (ztb_3 (i := 52) rfl rfl) rfl rfl rfl (Or.inl ⟨_, rfl⟩) rfl (Nat.le_of_ble_eq_true rfl) d_PA_init_146 ?_
  refine aw_aload_n 0 d_PA_init_149 rfl rfl ?_
  refine aw_iconst 0 d_PA_init_150 (by decide) ?_
  refine ay_putZ fl_PA_84 (sh_l ha) (by decide) rfl rfl rfl (Nat.le_of_ble_eq_true rfl) d_PA_init_151 ?_
  refine aw_aload_n 0 d_PA_init_154 rfl rfl ?_
  refine aw_iconst 0 d_PA_init_155 (by decide) ?_
  refine ay_putI fl_PA_88 (sh_l ha) rfl rfl rfl (Nat.le_of_ble_eq_true rfl) d_PA_init_156 ?_
  refine aw_aload_n 0 d_PA_init_159 rfl rfl ?_
  refine aw_lconst 1 d_PA_init_160 (by decide) ?_
  refine ay_putJ fl_PA_92 (sh_l ha) rfl rfl rfl (Nat.le_of_ble_eq_true rfl) d_PA_init_161 ?_
  exact aw_vret (st := []) (Nat.le_of_ble_eq_true rfl) (Nat.le_of_ble_eq_true rfl) rfl d_PA_init_164 hq
def F_MO_init (n a : Nat)  (w : zW) : zW := (wR (wadd (wR (wadd (wR (wadd (wR (wadd (wR (wadd (wJ (wR (wadd (wR (wadd (wR (wadd (wR (wadd (wR (wadd (wR (wadd (wR (wadd (wR (wadd (wR (wadd (wR (wadd (wR (wadd (wR (wadd (wR (wadd (wR (wadd (wR (wadd (wR (wadd (wR (wadd (wR (wadd (wR (wadd (wR (wadd (wR (wadd (wR (wadd (wR (wadd (wR (wadd (wR (wadd (wR (wadd (wI (wR (wadd (wR (wadd (wR (wadd (wR (wadd (wR (wadd (wR (wI (wI (wI (wI (wadd (wR (wI (wI (wI (wI (wadd (wR (wI (wI (wI (wI (wI (wadd (wR (wI (wI (wI (wI (wI (wI (wI (wadd (wR (wI (wI (wadd (wR (wI (wI (wI (wI (wI (wadd (wR (wI (wI (wadd (wR (wI (wI (wI (wI (wadd (wR (wI (wI (wadd (wR (wI (wI (wI (wI (wI (wadd (wR (wI (wI (wI (wadd (wR (wI (wI (wI (wI (wI (wadd (wR (wI (wI (wI (wI (wI (wadd (wR (wI (wI (wI (wI (wadd (wR (wI (wI (wI (wI (wI (wadd (wR (wI (wI (wI (wI (wI (wI (wI (wI (wadd (wR (wI (wI (wI (wI (wadd (wR (wI (wI (wI (wI (wI (wI (wadd (wR (wI (wI (wI (wI (wI (wI (wadd (wR (wadd (wI (wR (wadd w (n + 0)) a 0 (n + 0)) a 8 (-1)) (n + 1)) a 9 (n + 1)) (n + 2)) (n + 2) 0 97) (n + 2) 1 103) (n + 2) 2 101) (n + 2) 3 110) (n + 2) 4 116) (n + 2) 5 115) a 10 (n + 2)) (n + 3)) (n + 3) 0 115) (n + 3) 1 116) (n + 3) 2 97) (n + 3) 3 116) (n + 3) 4 101) (n + 3) 5 115) a 11 (n + 3)) (n + 4)) (n + 4) 0 104) (n + 4) 1 111) (n + 4) 2 109) (n + 4) 3 101) a 12 (n + 4)) (n + 5)) (n + 5) 0 109) (n + 5) 1 101) (n + 5) 2 115) (n + 5) 3 115) (n + 5) 4 97) (n + 5) 5 103) (n + 5) 6 101) (n + 5) 7 115) a 13 (n + 5)) (n + 6)) (n + 6) 0 111) (n + 6) 1 114) (n + 6) 2 100) (n + 6) 3 101) (n + 6) 4 114) a 14 (n + 6)) (n + 7)) (n + 7) 0 107) (n + 7) 1 101) (n + 7) 2 112) (n + 7) 3 116) a 15 (n + 7)) (n + 8)) (n + 8) 0 108) (n + 8) 1 111) (n + 8) 2 111) (n + 8) 3 115) (n + 8) 4 101) a 16 (n + 8)) (n + 9)) (n + 9) 0 110) (n + 9) 1 101) (n + 9) 2 118) (n + 9) 3 101) (n + 9) 4 114) a 17 (n + 9)) (n + 10)) (n + 10) 0 97) (n + 10) 1 110) (n + 10) 2 100) a 18 (n + 10)) (n + 11)) (n + 11) 0 119) (n + 11) 1 97) (n + 11) 2 110) (n + 11) 3 116) (n + 11) 4 115) a 19 (n + 11)) (n + 12)) (n + 12) 0 111) (n + 12) 1 110) a 20 (n + 12)) (n + 13)) (n + 13) 0 119) (n + 13) 1 105) (n + 13) 2 116) (n + 13) 3 104) a 21 (n + 13)) (n + 14)) (n + 14) 0 116) (n + 14) 1 111) a 22 (n + 14)) (n + 15)) (n + 15) 0 115) (n + 15) 1 101) (n + 15) 2 110) (n + 15) 3 100) (n + 15) 4 115) a 23 (n + 15)) (n + 16)) (n + 16) 0 97) (n + 16) 1 116) a 24 (n + 16)) (n + 17)) (n + 17) 0 114) (n + 17) 1 101) (n + 17) 2 112) (n + 17) 3 108) (n + 17) 4 105) (n + 17) 5 101) (n + 17) 6 115) a 25 (n + 17)) (n + 18)) (n + 18) 0 116) (n + 18) 1 101) (n + 18) 2 108) (n + 18) 3 108) (n + 18) 4 115) a 26 (n + 18)) (n + 19)) (n + 19) 0 110) (n + 19) 1 111) (n + 19) 2 110) (n + 19) 3 101) a 27 (n + 19)) (n + 20)) (n + 20) 0 115) (n + 20) 1 111) (n + 20) 2 109) (n + 20) 3 101) a 28 (n + 20)) (n + 21)) a 30 (n + 21)) (n + 22)) a 31 (n + 22)) (n + 23)) a 32 (n + 23)) (n + 24)) a 37 (n + 24)) (n + 25)) a 39 (n + 25)) a 40 (-2)) (n + 26)) a 42 (n + 26)) (n + 27)) a 43 (n + 27)) (n + 28)) a 44 (n + 28)) (n + 29)) a 45 (n + 29)) (n + 30)) a 47 (n + 30)) (n + 31)) a 48 (n + 31)) (n + 32)) a 49 (n + 32)) (n + 33)) a 50 (n + 33)) (n + 34)) a 51 (n + 34)) (n + 35)) a 52 (n + 35)) (n + 36)) a 53 (n + 36)) (n + 37)) a 54 (n + 37)) (n + 38)) a 55 (n + 38)) (n + 39)) a 56 (n + 39)) (n + 40)) a 57 (n + 40)) (n + 41)) a 58 (n + 41)) (n + 42)) a 59 (n + 42)) (n + 43)) a 64 (n + 43)) (n + 44)) a 65 (n + 44)) (n + 45)) a 66 (n + 45)) (n + 46)) a 67 (n + 46)) (n + 47)) a 68 (n + 47)) (n + 48)) a 69 (n + 48)) (n + 49)) a 70 (n + 49)) (n + 50)) a 71 (n + 50)) (n + 51)) a 73 (n + 51)) a 76 1) (n + 52)) a 79 (n + 52)) (n + 53)) a 80 (n + 53)) (n + 54)) a 81 (n + 54)) (n + 55)) a 82 (n + 55)) (n + 56)) a 84 (n + 56))
set_option maxRecDepth 100000 in
set_option maxHeartbeats 4000000 in
theorem zi_MO_init (w : zW) {Q : Option Value → zH → Prop} (hq : Q none (([.inl 12] : List zQs) ++ [.inr (0, 1600), .inr (0, 6), .inr (2, 6), .inr (2, 6), .inr (2, 4), .inr (2, 8), .inr (2, 5), .inr (2, 4), .inr (2, 5), .inr (2, 5), .inr (2, 3), .inr (2, 5), .inr (2, 2), .inr (2, 4), .inr (2, 2), .inr (2, 5), .inr (2, 2), .inr (2, 7), .inr (2, 5), .inr (2, 4), .inr (2, 4), .inr (0, 184), .inr (0, 184), .inr (0, 184), .inr (0, 4), .inr (0, 4), .inr (3, 608), .inr (0, 608), .inr (0, 2048), .inr (0, 38912), .inr (0, 155648), .inr (0, 2432), .inr (0, 2432), .inr (1, 2432), .inr (1, 2432), .inr (1, 2432), .inr (0, 2432), .inr (0, 2432), .inr (0, 2432), .inr (0, 2432), .inr (0, 2432), .inr (0, 2432), .inr (1, 2432), .inr (1, 2432), .inr (0, 2432), .inr (0, 2432), .inr (0, 608), .inr (0, 608), .inr (0, 2432), .inr (0, 608), .inr (0, 5), .inr (3, 20), .inr (0, 12), .inr (1, 608), .inr (1, 608), .inr (0, 130), .inr (0, 130)], F_MO_init 1 0 w)) : zCall s_MO_init true [.ref 0] ([.inl 12], w) Q := by
  have hn : ([.inl 12] : List zQs).length = 1 := rfl
  have ha : ([.inl 12] : List zQs)[0]? = some (.inl 12) := rfl
  refine zcall_of rfl (Nat.le_of_ble_eq_true rfl) ?_
  show AW s_MO_init true 0 0 0 [(0, .ref 0)] [] (([.inl 12] : List zQs) ++ [], w) _
  refine aw_aload_n 0 d_MO_init_0 rfl rfl ?_
  refine aw_objInit (st := []) (ztb_6 (i := 226) rfl rfl) (ztb_1 (i := 27) rfl rfl) (ztb_1 (i := 28) rfl rfl) (Nat.le_of_ble_eq_true rfl) (Nat.le_of_ble_eq_true rfl) d_MO_init_1 ?_
  refine aw_aload_n 0 d_MO_init_4 rfl rfl ?_
  refine aw_sipush 1600 d_MO_init_5 (by decide) ?_
  refine ay_newa (t := 0) (n := 1600) (1 + 0) (ln hn 0 rfl) (by omega) (([.inl 12] : List zQs) ++ [.inr (0, 1600)]) (List.append_assoc ([.inl 12] : List zQs) _ _) rfl (by decide) (ztb_1 (i := 42) rfl rfl) (by decide) (by decide) (Nat.le_of_ble_eq_true rfl) (Nat.le_of_ble_eq_true rfl) (Nat.le_of_ble_eq_true rfl) d_MO_init_8 ?_
  refine ay_putFR fl_MO_7 (sh_l ha) (ztb_6 (i := 229) rfl rfl) rfl rfl rfl (Or.inr ⟨_, rfl⟩) rfl (Nat.le_of_ble_eq_true rfl) d_MO_init_10 ?_
  refine aw_aload_n 0 d_MO_init_13 rfl rfl ?_
  refine aw_iconst (-1) d_MO_init_14 (by decide) ?_
  refine ay_putI fl_MO_13 (sh_l ha) rfl rfl rfl (Nat.le_of_ble_eq_true rfl) d_MO_init_15 ?_
  refine aw_aload_n 0 d_MO_init_18 rfl rfl ?_
  refine aw_bipush 6 d_MO_init_19 (by decide) ?_
  refine ay_newa (t := 0) (n := 6) (1 + 1) (ln hn 1 rfl) (by omega) (([.inl 12] : List zQs) ++ [.inr (0, 1600), .inr (0, 6)]) (List.append_assoc ([.inl 12] : List zQs) _ _) rfl (by decide) (ztb_1 (i := 42) rfl rfl) (by decide) (by decide) (Nat.le_of_ble_eq_true rfl) (Nat.le_of_ble_eq_true rfl) (Nat.le_of_ble_eq_true rfl) d_MO_init_21 ?_
  refine ay_putFR fl_MO_17 (sh_l ha) (ztb_6 (i := 238) rfl rfl) rfl rfl rfl (Or.inr ⟨_, rfl⟩) rfl (Nat.le_of_ble_eq_true rfl) d_MO_init_23 ?_
  refine aw_aload_n 0 d_MO_init_26 rfl rfl ?_
  refine aw_bipush 6 d_MO_init_27 (by decide) ?_
  refine ay_newa (t := 2) (n := 6) (1 + 2) (ln hn 2 rfl) (by omega) (([.inl 12] : List zQs) ++ [.inr (0, 1600), .inr (0, 6), .inr (2, 6)]) (List.append_assoc ([.inl 12] : List zQs) _ _) rfl (by decide) (ztb_8 (i := 5) rfl rfl) (by decide) (by decide) (Nat.le_of_ble_eq_true rfl) (Nat.le_of_ble_eq_true rfl) (Nat.le_of_ble_eq_true rfl) d_MO_init_29 ?_
  refine aw_dup d_MO_init_31 rfl ?_
  refine aw_iconst 0 d_MO_init_32 (by decide) ?_
  refine aw_bipush 97 d_MO_init_33 (by decide) ?_
  refine ay_castore (n := 6) (i := 0) (sh_r hn (j := 2) rfl) (vpd rfl) (by decide) (by decide) d_MO_init_35 ?_
  refine aw_dup d_MO_init_36 rfl ?_
  refine aw_iconst 1 d_MO_init_37 (by decide) ?_
  refine aw_bipush 103 d_MO_init_38 (by decide) ?_
  refine ay_castore (n := 6) (i := 1) (sh_r hn (j := 2) rfl) (vpd rfl) (by decide) (by decide) d_MO_init_40 ?_
  refine aw_dup d_MO_init_41 rfl ?_
  refine aw_iconst 2 d_MO_init_42 (by decide) ?_
  refine aw_bipush 101 d_MO_init_43 (by decide) ?_
  refine ay_castore (n := 6) (i := 2) (sh_r hn (j := 2) rfl) (vpd rfl) (by decide) (by decide) d_MO_init_45 ?_
  refine aw_dup d_MO_init_46 rfl ?_
  refine aw_iconst 3 d_MO_init_47 (by decide) ?_
  refine aw_bipush 110 d_MO_init_48 (by decide) ?_
  refine ay_castore (n := 6) (i := 3) (sh_r hn (j := 2) rfl) (vpd rfl) (by decide) (by decide) d_MO_init_50 ?_
  refine aw_dup d_MO_init_51 rfl ?_
  refine aw_iconst 4 d_MO_init_52 (by decide) ?_
  refine aw_bipush 116 d_MO_init_53 (by decide) ?_
  refine ay_castore (n := 6) (i := 4) (sh_r hn (j := 2) rfl) (vpd rfl) (by decide) (by decide) d_MO_init_55 ?_
  refine aw_dup d_MO_init_56 rfl ?_
  refine aw_iconst 5 d_MO_init_57 (by decide) ?_
  refine aw_bipush 115 d_MO_init_58 (by decide) ?_
  refine ay_castore (n := 6) (i := 5) (sh_r hn (j := 2) rfl) (vpd rfl) (by decide) (by decide) d_MO_init_60 ?_
  refine ay_putFR fl_MO_20 (sh_l ha) (ztb_6 (i := 239) rfl rfl) rfl rfl rfl (Or.inr ⟨_, rfl⟩) rfl (Nat.le_of_ble_eq_true rfl) d_MO_init_61 ?_
  refine aw_aload_n 0 d_MO_init_64 rfl rfl ?_
  refine aw_bipush 6 d_MO_init_65 (by decide) ?_
  refine ay_newa (t := 2) (n := 6) (1 + 3) (ln hn 3 rfl) (by omega) (([.inl 12] : List zQs) ++ [.inr (0, 1600), .inr (0, 6), .inr (2, 6), .inr (2, 6)]) (List.append_assoc ([.inl 12] : List zQs) _ _) rfl (by decide) (ztb_8 (i := 5) rfl rfl) (by decide) (by decide) (Nat.le_of_ble_eq_true rfl) (Nat.le_of_ble_eq_true rfl) (Nat.le_of_ble_eq_true rfl) d_MO_init_67 ?_
  refine aw_dup d_MO_init_69 rfl ?_
  refine aw_iconst 0 d_MO_init_70 (by decide) ?_
  refine aw_bipush 115 d_MO_init_71 (by decide) ?_
  refine ay_castore (n := 6) (i := 0) (sh_r hn (j := 3) rfl) (vpd rfl) (by decide) (by decide) d_MO_init_73 ?_
  refine aw_dup d_MO_init_74 rfl ?_
  refine aw_iconst 1 d_MO_init_75 (by decide) ?_
  refine aw_bipush 116 d_MO_init_76 (by decide) ?_
  refine ay_castore (n := 6) (i := 1) (sh_r hn (j := 3) rfl) (vpd rfl) (by decide) (by decide) d_MO_init_78 ?_
  refine aw_dup d_MO_init_79 rfl ?_
  refine aw_iconst 2 d_MO_init_80 (by decide) ?_
  refine aw_bipush 97 d_MO_init_81 (by decide) ?_
  refine ay_castore (n := 6) (i := 2) (sh_r hn (j := 3) rfl) (vpd rfl) (by decide) (by decide) d_MO_init_83 ?_
  refine aw_dup d_MO_init_84 rfl ?_
  refine aw_iconst 3 d_MO_init_85 (by decide) ?_
  refine aw_bipush 116 d_MO_init_86 (by decide) ?_
  refine ay_castore (n := 6) (i := 3) (sh_r hn (j := 3) rfl) (vpd rfl) (by decide) (by decide) d_MO_init_88 ?_
  refine aw_dup d_MO_init_89 rfl ?_
  refine aw_iconst 4 d_MO_init_90 (by decide) ?_
  refine aw_bipush 101 d_MO_init_91 (by decide) ?_
  refine ay_castore (n := 6) (i := 4) (sh_r hn (j := 3) rfl) (vpd rfl) (by decide) (by decide) d_MO_init_93 ?_
  refine aw_dup d_MO_init_94 rfl ?_
  refine aw_iconst 5 d_MO_init_95 (by decide) ?_
  refine aw_bipush 115 d_MO_init_96 (by decide) ?_
  refine ay_castore (n := 6) (i := 5) (sh_r hn (j := 3) rfl) (vpd rfl) (by decide) (by decide) d_MO_init_98 ?_
  refine ay_putFR fl_MO_24 (sh_l ha) (ztb_7 (i := 0) rfl rfl) rfl rfl rfl (Or.inr ⟨_, rfl⟩) rfl (Nat.le_of_ble_eq_true rfl) d_MO_init_99 ?_
  refine aw_aload_n 0 d_MO_init_102 rfl rfl ?_
  refine aw_iconst 4 d_MO_init_103 (by decide) ?_
  refine ay_newa (t := 2) (n := 4) (1 + 4) (ln hn 4 rfl) (by omega) (([.inl 12] : List zQs) ++ [.inr (0, 1600), .inr (0, 6), .inr (2, 6), .inr (2, 6), .inr (2, 4)]) (List.append_assoc ([.inl 12] : List zQs) _ _) rfl (by decide) (ztb_8 (i := 5) rfl rfl) (by decide) (by decide) (Nat.le_of_ble_eq_true rfl) (Nat.le_of_ble_eq_true rfl) (Nat.le_of_ble_eq_true rfl) d_MO_init_104 ?_
  refine aw_dup d_MO_init_106 rfl ?_
  refine aw_iconst 0 d_MO_init_107 (by decide) ?_
  refine aw_bipush 104 d_MO_init_108 (by decide) ?_
  refine ay_castore (n := 4) (i := 0) (sh_r hn (j := 4) rfl) (vpd rfl) (by decide) (by decide) d_MO_init_110 ?_
  refine aw_dup d_MO_init_111 rfl ?_
  refine aw_iconst 1 d_MO_init_112 (by decide) ?_
  refine aw_bipush 111 d_MO_init_113 (by decide) ?_
  refine ay_castore (n := 4) (i := 1) (sh_r hn (j := 4) rfl) (vpd rfl) (by decide) (by decide) d_MO_init_115 ?_
  refine aw_dup d_MO_init_116 rfl ?_
  refine aw_iconst 2 d_MO_init_117 (by decide) ?_
  refine aw_bipush 109 d_MO_init_118 (by decide) ?_
  refine ay_castore (n := 4) (i := 2) (sh_r hn (j := 4) rfl) (vpd rfl) (by decide) (by decide) d_MO_init_120 ?_
  refine aw_dup d_MO_init_121 rfl ?_
  refine aw_iconst 3 d_MO_init_122 (by decide) ?_
  refine aw_bipush 101 d_MO_init_123 (by decide) ?_
  refine ay_castore (n := 4) (i := 3) (sh_r hn (j := 4) rfl) (vpd rfl) (by decide) (by decide) d_MO_init_125 ?_
  refine ay_putFR fl_MO_27 (sh_l ha) (ztb_7 (i := 1) rfl rfl) rfl rfl rfl (Or.inr ⟨_, rfl⟩) rfl (Nat.le_of_ble_eq_true rfl) d_MO_init_126 ?_
  refine aw_aload_n 0 d_MO_init_129 rfl rfl ?_
  refine aw_bipush 8 d_MO_init_130 (by decide) ?_
  refine ay_newa (t := 2) (n := 8) (1 + 5) (ln hn 5 rfl) (by omega) (([.inl 12] : List zQs) ++ [.inr (0, 1600), .inr (0, 6), .inr (2, 6), .inr (2, 6), .inr (2, 4), .inr (2, 8)]) (List.append_assoc ([.inl 12] : List zQs) _ _) rfl (by decide) (ztb_8 (i := 5) rfl rfl) (by decide) (by decide) (Nat.le_of_ble_eq_true rfl) (Nat.le_of_ble_eq_true rfl) (Nat.le_of_ble_eq_true rfl) d_MO_init_132 ?_
  refine aw_dup d_MO_init_134 rfl ?_
  refine aw_iconst 0 d_MO_init_135 (by decide) ?_
  refine aw_bipush 109 d_MO_init_136 (by decide) ?_
  refine ay_castore (n := 8) (i := 0) (sh_r hn (j := 5) rfl) (vpd rfl) (by decide) (by decide) d_MO_init_138 ?_
  refine aw_dup d_MO_init_139 rfl ?_
  refine aw_iconst 1 d_MO_init_140 (by decide) ?_
  refine aw_bipush 101 d_MO_init_141 (by decide) ?_
  refine ay_castore (n := 8) (i := 1) (sh_r hn (j := 5) rfl) (vpd rfl) (by decide) (by decide) d_MO_init_143 ?_
  refine aw_dup d_MO_init_144 rfl ?_
  refine aw_iconst 2 d_MO_init_145 (by decide) ?_
  refine aw_bipush 115 d_MO_init_146 (by decide) ?_
  refine ay_castore (n := 8) (i := 2) (sh_r hn (j := 5) rfl) (vpd rfl) (by decide) (by decide) d_MO_init_148 ?_
  refine aw_dup d_MO_init_149 rfl ?_
  refine aw_iconst 3 d_MO_init_150 (by decide) ?_
  refine aw_bipush 115 d_MO_init_151 (by decide) ?_
  refine ay_castore (n := 8) (i := 3) (sh_r hn (j := 5) rfl) (vpd rfl) (by decide) (by decide) d_MO_init_153 ?_
  refine aw_dup d_MO_init_154 rfl ?_
  refine aw_iconst 4 d_MO_init_155 (by decide) ?_
  refine aw_bipush 97 d_MO_init_156 (by decide) ?_
  refine ay_castore (n := 8) (i := 4) (sh_r hn (j := 5) rfl) (vpd rfl) (by decide) (by decide) d_MO_init_158 ?_
  refine aw_dup d_MO_init_159 rfl ?_
  refine aw_iconst 5 d_MO_init_160 (by decide) ?_
  refine aw_bipush 103 d_MO_init_161 (by decide) ?_
  refine ay_castore (n := 8) (i := 5) (sh_r hn (j := 5) rfl) (vpd rfl) (by decide) (by decide) d_MO_init_163 ?_
  refine aw_dup d_MO_init_164 rfl ?_
  refine aw_bipush 6 d_MO_init_165 (by decide) ?_
  refine aw_bipush 101 d_MO_init_167 (by decide) ?_
  refine ay_castore (n := 8) (i := 6) (sh_r hn (j := 5) rfl) (vpd rfl) (by decide) (by decide) d_MO_init_169 ?_
  refine aw_dup d_MO_init_170 rfl ?_
  refine aw_bipush 7 d_MO_init_171 (by decide) ?_
  refine aw_bipush 115 d_MO_init_173 (by decide) ?_
  refine ay_castore (n := 8) (i := 7) (sh_r hn (j := 5) rfl) (vpd rfl) (by decide) (by decide) d_MO_init_175 ?_
  refine ay_putFR fl_MO_30 (sh_l ha) (ztb_7 (i := 2) rfl rfl) rfl rfl rfl (Or.inr ⟨_, rfl⟩) rfl (Nat.le_of_ble_eq_true rfl) d_MO_init_176 ?_
  refine aw_aload_n 0 d_MO_init_179 rfl rfl ?_
  refine aw_iconst 5 d_MO_init_180 (by decide) ?_
  refine ay_newa (t := 2) (n := 5) (1 + 6) (ln hn 6 rfl) (by omega) (([.inl 12] : List zQs) ++ [.inr (0, 1600), .inr (0, 6), .inr (2, 6), .inr (2, 6), .inr (2, 4), .inr (2, 8), .inr (2, 5)]) (List.append_assoc ([.inl 12] : List zQs) _ _) rfl (by decide) (ztb_8 (i := 5) rfl rfl) (by decide) (by decide) (Nat.le_of_ble_eq_true rfl) (Nat.le_of_ble_eq_true rfl) (Nat.le_of_ble_eq_true rfl) d_MO_init_181 ?_
  refine aw_dup d_MO_init_183 rfl ?_
  refine aw_iconst 0 d_MO_init_184 (by decide) ?_
  refine aw_bipush 111 d_MO_init_185 (by decide) ?_
  refine ay_castore (n := 5) (i := 0) (sh_r hn (j := 6) rfl) (vpd rfl) (by decide) (by decide) d_MO_init_187 ?_
  refine aw_dup d_MO_init_188 rfl ?_
  refine aw_iconst 1 d_MO_init_189 (by decide) ?_
  refine aw_bipush 114 d_MO_init_190 (by decide) ?_
  refine ay_castore (n := 5) (i := 1) (sh_r hn (j := 6) rfl) (vpd rfl) (by decide) (by decide) d_MO_init_192 ?_
  refine aw_dup d_MO_init_193 rfl ?_
  refine aw_iconst 2 d_MO_init_194 (by decide) ?_
  refine aw_bipush 100 d_MO_init_195 (by decide) ?_
  refine ay_castore (n := 5) (i := 2) (sh_r hn (j := 6) rfl) (vpd rfl) (by decide) (by decide) d_MO_init_197 ?_
  refine aw_dup d_MO_init_198 rfl ?_
  refine aw_iconst 3 d_MO_init_199 (by decide) ?_
  refine aw_bipush 101 d_MO_init_200 (by decide) ?_
  refine ay_castore (n := 5) (i := 3) (sh_r hn (j := 6) rfl) (vpd rfl) (by decide) (by decide) d_MO_init_202 ?_
  refine aw_dup d_MO_init_203 rfl ?_
  refine aw_iconst 4 d_MO_init_204 (by decide) ?_
  refine aw_bipush 114 d_MO_init_205 (by decide) ?_
  refine ay_castore (n := 5) (i := 4) (sh_r hn (j := 6) rfl) (vpd rfl) (by decide) (by decide) d_MO_init_207 ?_
  refine ay_putFR fl_MO_33 (sh_l ha) (ztb_7 (i := 3) rfl rfl) rfl rfl rfl (Or.inr ⟨_, rfl⟩) rfl (Nat.le_of_ble_eq_true rfl) d_MO_init_208 ?_
  refine aw_aload_n 0 d_MO_init_211 rfl rfl ?_
  refine aw_iconst 4 d_MO_init_212 (by decide) ?_
  refine ay_newa (t := 2) (n := 4) (1 + 7) (ln hn 7 rfl) (by omega) (([.inl 12] : List zQs) ++ [.inr (0, 1600), .inr (0, 6), .inr (2, 6), .inr (2, 6), .inr (2, 4), .inr (2, 8), .inr (2, 5), .inr (2, 4)]) (List.append_assoc ([.inl 12] : List zQs) _ _) rfl (by decide) (ztb_8 (i := 5) rfl rfl) (by decide) (by decide) (Nat.le_of_ble_eq_true rfl) (Nat.le_of_ble_eq_true rfl) (Nat.le_of_ble_eq_true rfl) d_MO_init_213 ?_
  refine aw_dup d_MO_init_215 rfl ?_
  refine aw_iconst 0 d_MO_init_216 (by decide) ?_
  refine aw_bipush 107 d_MO_init_217 (by decide) ?_
  refine ay_castore (n := 4) (i := 0) (sh_r hn (j := 7) rfl) (vpd rfl) (by decide) (by decide) d_MO_init_219 ?_
  refine aw_dup d_MO_init_220 rfl ?_
  refine aw_iconst 1 d_MO_init_221 (by decide) ?_
  refine aw_bipush 101 d_MO_init_222 (by decide) ?_
  refine ay_castore (n := 4) (i := 1) (sh_r hn (j := 7) rfl) (vpd rfl) (by decide) (by decide) d_MO_init_224 ?_
  refine aw_dup d_MO_init_225 rfl ?_
  refine aw_iconst 2 d_MO_init_226 (by decide) ?_
  refine aw_bipush 112 d_MO_init_227 (by decide) ?_
  refine ay_castore (n := 4) (i := 2) (sh_r hn (j := 7) rfl) (vpd rfl) (by decide) (by decide) d_MO_init_229 ?_
  refine aw_dup d_MO_init_230 rfl ?_
  refine aw_iconst 3 d_MO_init_231 (by decide) ?_
  refine aw_bipush 116 d_MO_init_232 (by decide) ?_
  refine ay_castore (n := 4) (i := 3) (sh_r hn (j := 7) rfl) (vpd rfl) (by decide) (by decide) d_MO_init_234 ?_
  refine ay_putFR fl_MO_36 (sh_l ha) (ztb_7 (i := 4) rfl rfl) rfl rfl rfl (Or.inr ⟨_, rfl⟩) rfl (Nat.le_of_ble_eq_true rfl) d_MO_init_235 ?_
  refine aw_aload_n 0 d_MO_init_238 rfl rfl ?_
  refine aw_iconst 5 d_MO_init_239 (by decide) ?_
  refine ay_newa (t := 2) (n := 5) (1 + 8) (ln hn 8 rfl) (by omega) (([.inl 12] : List zQs) ++ [.inr (0, 1600), .inr (0, 6), .inr (2, 6), .inr (2, 6), .inr (2, 4), .inr (2, 8), .inr (2, 5), .inr (2, 4), .inr (2, 5)]) (List.append_assoc ([.inl 12] : List zQs) _ _) rfl (by decide) (ztb_8 (i := 5) rfl rfl) (by decide) (by decide) (Nat.le_of_ble_eq_true rfl) (Nat.le_of_ble_eq_true rfl) (Nat.le_of_ble_eq_true rfl) d_MO_init_240 ?_
  refine aw_dup d_MO_init_242 rfl ?_
  refine aw_iconst 0 d_MO_init_243 (by decide) ?_
  refine aw_bipush 108 d_MO_init_244 (by decide) ?_
  refine ay_castore (n := 5) (i := 0) (sh_r hn (j := 8) rfl) (vpd rfl) (by decide) (by decide) d_MO_init_246 ?_
  refine aw_dup d_MO_init_247 rfl ?_
  refine aw_iconst 1 d_MO_init_248 (by decide) ?_
  refine aw_bipush 111 d_MO_init_249 (by decide) ?_
  refine ay_castore (n := 5) (i := 1) (sh_r hn (j := 8) rfl) (vpd rfl) (by decide) (by decide) d_MO_init_251 ?_
  refine aw_dup d_MO_init_252 rfl ?_
  refine aw_iconst 2 d_MO_init_253 (by decide) ?_
  refine aw_bipush 111 d_MO_init_254 (by decide) ?_
  refine ay_castore (n := 5) (i := 2) (sh_r hn (j := 8) rfl) (vpd rfl) (by decide) (by decide) d_MO_init_256 ?_
  refine aw_dup d_MO_init_257 rfl ?_
  refine aw_iconst 3 d_MO_init_258 (by decide) ?_
  refine aw_bipush 115 d_MO_init_259 (by decide) ?_
  refine ay_castore (n := 5) (i := 3) (sh_r hn (j := 8) rfl) (vpd rfl) (by decide) (by decide) d_MO_init_261 ?_
  refine aw_dup d_MO_init_262 rfl ?_
  refine aw_iconst 4 d_MO_init_263 (by decide) ?_
  refine aw_bipush 101 d_MO_init_264 (by decide) ?_
  refine ay_castore (n := 5) (i := 4) (sh_r hn (j := 8) rfl) (vpd rfl) (by decide) (by decide) d_MO_init_266 ?_
  refine ay_putFR fl_MO_39 (sh_l ha) (ztb_7 (i := 5) rfl rfl) rfl rfl rfl (Or.inr ⟨_, rfl⟩) rfl (Nat.le_of_ble_eq_true rfl) d_MO_init_267 ?_
  refine aw_aload_n 0 d_MO_init_270 rfl rfl ?_
  refine aw_iconst 5 d_MO_init_271 (by decide) ?_
  refine ay_newa (t := 2) (n := 5) (1 + 9) (ln hn 9 rfl) (by omega) (([.inl 12] : List zQs) ++ [.inr (0, 1600), .inr (0, 6), .inr (2, 6), .inr (2, 6), .inr (2, 4), .inr (2, 8), .inr (2, 5), .inr (2, 4), .inr (2, 5), .inr (2, 5)]) (List.append_assoc ([.inl 12] : List zQs) _ _) rfl (by decide) (ztb_8 (i := 5) rfl rfl) (by decide) (by decide) (Nat.le_of_ble_eq_true rfl) (Nat.le_of_ble_eq_true rfl) (Nat.le_of_ble_eq_true rfl) d_MO_init_272 ?_
  refine aw_dup d_MO_init_274 rfl ?_
  refine aw_iconst 0 d_MO_init_275 (by decide) ?_
  refine aw_bipush 110 d_MO_init_276 (by decide) ?_
  refine ay_castore (n := 5) (i := 0) (sh_r hn (j := 9) rfl) (vpd rfl) (by decide) (by decide) d_MO_init_278 ?_
  refine aw_dup d_MO_init_279 rfl ?_
  refine aw_iconst 1 d_MO_init_280 (by decide) ?_
  refine aw_bipush 101 d_MO_init_281 (by decide) ?_
  refine ay_castore (n := 5) (i := 1) (sh_r hn (j := 9) rfl) (vpd rfl) (by decide) (by decide) d_MO_init_283 ?_
  refine aw_dup d_MO_init_284 rfl ?_
  refine aw_iconst 2 d_MO_init_285 (by decide) ?_
  refine aw_bipush 118 d_MO_init_286 (by decide) ?_
  refine ay_castore (n := 5) (i := 2) (sh_r hn (j := 9) rfl) (vpd rfl) (by decide) (by decide) d_MO_init_288 ?_
  refine aw_dup d_MO_init_289 rfl ?_
  refine aw_iconst 3 d_MO_init_290 (by decide) ?_
  refine aw_bipush 101 d_MO_init_291 (by decide) ?_
  refine ay_castore (n := 5) (i := 3) (sh_r hn (j := 9) rfl) (vpd rfl) (by decide) (by decide) d_MO_init_293 ?_
  refine aw_dup d_MO_init_294 rfl ?_
  refine aw_iconst 4 d_MO_init_295 (by decide) ?_
  refine aw_bipush 114 d_MO_init_296 (by decide) ?_
  refine ay_castore (n := 5) (i := 4) (sh_r hn (j := 9) rfl) (vpd rfl) (by decide) (by decide) d_MO_init_298 ?_
  refine ay_putFR fl_MO_42 (sh_l ha) (ztb_7 (i := 6) rfl rfl) rfl rfl rfl (Or.inr ⟨_, rfl⟩) rfl (Nat.le_of_ble_eq_true rfl) d_MO_init_299 ?_
  refine aw_aload_n 0 d_MO_init_302 rfl rfl ?_
  refine aw_iconst 3 d_MO_init_303 (by decide) ?_
  refine ay_newa (t := 2) (n := 3) (1 + 10) (ln hn 10 rfl) (by omega) (([.inl 12] : List zQs) ++ [.inr (0, 1600), .inr (0, 6), .inr (2, 6), .inr (2, 6), .inr (2, 4), .inr (2, 8), .inr (2, 5), .inr (2, 4), .inr (2, 5), .inr (2, 5), .inr (2, 3)]) (List.append_assoc ([.inl 12] : List zQs) _ _) rfl (by decide) (ztb_8 (i := 5) rfl rfl) (by decide) (by decide) (Nat.le_of_ble_eq_true rfl) (Nat.le_of_ble_eq_true rfl) (Nat.le_of_ble_eq_true rfl) d_MO_init_304 ?_
  refine aw_dup d_MO_init_306 rfl ?_
  refine aw_iconst 0 d_MO_init_307 (by decide) ?_
  refine aw_bipush 97 d_MO_init_308 (by decide) ?_
  refine ay_castore (n := 3) (i := 0) (sh_r hn (j := 10) rfl) (vpd rfl) (by decide) (by decide) d_MO_init_310 ?_
  refine aw_dup d_MO_init_311 rfl ?_
  refine aw_iconst 1 d_MO_init_312 (by decide) ?_
  refine aw_bipush 110 d_MO_init_313 (by decide) ?_
  refine ay_castore (n := 3) (i := 1) (sh_r hn (j := 10) rfl) (vpd rfl) (by decide) (by decide) d_MO_init_315 ?_
  refine aw_dup d_MO_init_316 rfl ?_
  refine aw_iconst 2 d_MO_init_317 (by decide) ?_
  refine aw_bipush 100 d_MO_init_318 (by decide) ?_
  refine ay_castore (n := 3) (i := 2) (sh_r hn (j := 10) rfl) (vpd rfl) (by decide) (by decide) d_MO_init_320 ?_
  refine ay_putFR fl_MO_45 (sh_l ha) (ztb_7 (i := 7) rfl rfl) rfl rfl rfl (Or.inr ⟨_, rfl⟩) rfl (Nat.le_of_ble_eq_true rfl) d_MO_init_321 ?_
  refine aw_aload_n 0 d_MO_init_324 rfl rfl ?_
  refine aw_iconst 5 d_MO_init_325 (by decide) ?_
  refine ay_newa (t := 2) (n := 5) (1 + 11) (ln hn 11 rfl) (by omega) (([.inl 12] : List zQs) ++ [.inr (0, 1600), .inr (0, 6), .inr (2, 6), .inr (2, 6), .inr (2, 4), .inr (2, 8), .inr (2, 5), .inr (2, 4), .inr (2, 5), .inr (2, 5), .inr (2, 3), .inr (2, 5)]) (List.append_assoc ([.inl 12] : List zQs) _ _) rfl (by decide) (ztb_8 (i := 5) rfl rfl) (by decide) (by decide) (Nat.le_of_ble_eq_true rfl) (Nat.le_of_ble_eq_true rfl) (Nat.le_of_ble_eq_true rfl) d_MO_init_326 ?_
  refine aw_dup d_MO_init_328 rfl ?_
  refine aw_iconst 0 d_MO_init_329 (by decide) ?_
  refine aw_bipush 119 d_MO_init_330 (by decide) ?_
  refine ay_castore (n := 5) (i := 0) (sh_r hn (j := 11) rfl) (vpd rfl) (by decide) (by decide) d_MO_init_332 ?_
  refine aw_dup d_MO_init_333 rfl ?_
  refine aw_iconst 1 d_MO_init_334 (by decide) ?_
  refine aw_bipush 97 d_MO_init_335 (by decide) ?_
  refine ay_castore (n := 5) (i := 1) (sh_r hn (j := 11) rfl) (vpd rfl) (by decide) (by decide) d_MO_init_337 ?_
  refine aw_dup d_MO_init_338 rfl ?_
  refine aw_iconst 2 d_MO_init_339 (by decide) ?_
  refine aw_bipush 110 d_MO_init_340 (by decide) ?_
  refine ay_castore (n := 5) (i := 2) (sh_r hn (j := 11) rfl) (vpd rfl) (by decide) (by decide) d_MO_init_342 ?_
  refine aw_dup d_MO_init_343 rfl ?_
  refine aw_iconst 3 d_MO_init_344 (by decide) ?_
  refine aw_bipush 116 d_MO_init_345 (by decide) ?_
  refine ay_castore (n := 5) (i := 3) (sh_r hn (j := 11) rfl) (vpd rfl) (by decide) (by decide) d_MO_init_347 ?_
  refine aw_dup d_MO_init_348 rfl ?_
  refine aw_iconst 4 d_MO_init_349 (by decide) ?_
  refine aw_bipush 115 d_MO_init_350 (by decide) ?_
  refine ay_castore (n := 5) (i := 4) (sh_r hn (j := 11) rfl) (vpd rfl) (by decide) (by decide) d_MO_init_352 ?_
  refine ay_putFR fl_MO_48 (sh_l ha) (ztb_7 (i := 8) rfl rfl) rfl rfl rfl (Or.inr ⟨_, rfl⟩) rfl (Nat.le_of_ble_eq_true rfl) d_MO_init_353 ?_
  refine aw_aload_n 0 d_MO_init_356 rfl rfl ?_
  refine aw_iconst 2 d_MO_init_357 (by decide) ?_
  refine ay_newa (t := 2) (n := 2) (1 + 12) (ln hn 12 rfl) (by omega) (([.inl 12] : List zQs) ++ [.inr (0, 1600), .inr (0, 6), .inr (2, 6), .inr (2, 6), .inr (2, 4), .inr (2, 8), .inr (2, 5), .inr (2, 4), .inr (2, 5), .inr (2, 5), .inr (2, 3), .inr (2, 5), .inr (2, 2)]) (List.append_assoc ([.inl 12] : List zQs) _ _) rfl (by decide) (ztb_8 (i := 5) rfl rfl) (by decide) (by decide) (Nat.le_of_ble_eq_true rfl) (Nat.le_of_ble_eq_true rfl) (Nat.le_of_ble_eq_true rfl) d_MO_init_358 ?_
  refine aw_dup d_MO_init_360 rfl ?_
  refine aw_iconst 0 d_MO_init_361 (by decide) ?_
  refine aw_bipush 111 d_MO_init_362 (by decide) ?_
  refine ay_castore (n := 2) (i := 0) (sh_r hn (j := 12) rfl) (vpd rfl) (by decide) (by decide) d_MO_init_364 ?_
  refine aw_dup d_MO_init_365 rfl ?_
  refine aw_iconst 1 d_MO_init_366 (by decide) ?_
  refine aw_bipush 110 d_MO_init_367 (by decide) ?_
  refine ay_castore (n := 2) (i := 1) (sh_r hn (j := 12) rfl) (vpd rfl) (by decide) (by decide) d_MO_init_369 ?_
  refine ay_putFR fl_MO_51 (sh_l ha) (ztb_7 (i := 9) rfl rfl) rfl rfl rfl (Or.inr ⟨_, rfl⟩) rfl (Nat.le_of_ble_eq_true rfl) d_MO_init_370 ?_
  refine aw_aload_n 0 d_MO_init_373 rfl rfl ?_
  refine aw_iconst 4 d_MO_init_374 (by decide) ?_
  refine ay_newa (t := 2) (n := 4) (1 + 13) (ln hn 13 rfl) (by omega) (([.inl 12] : List zQs) ++ [.inr (0, 1600), .inr (0, 6), .inr (2, 6), .inr (2, 6), .inr (2, 4), .inr (2, 8), .inr (2, 5), .inr (2, 4), .inr (2, 5), .inr (2, 5), .inr (2, 3), .inr (2, 5), .inr (2, 2), .inr (2, 4)]) (List.append_assoc ([.inl 12] : List zQs) _ _) rfl (by decide) (ztb_8 (i := 5) rfl rfl) (by decide) (by decide) (Nat.le_of_ble_eq_true rfl) (Nat.le_of_ble_eq_true rfl) (Nat.le_of_ble_eq_true rfl) d_MO_init_375 ?_
  refine aw_dup d_MO_init_377 rfl ?_
  refine aw_iconst 0 d_MO_init_378 (by decide) ?_
  refine aw_bipush 119 d_MO_init_379 (by decide) ?_
  refine ay_castore (n := 4) (i := 0) (sh_r hn (j := 13) rfl) (vpd rfl) (by decide) (by decide) d_MO_init_381 ?_
  refine aw_dup d_MO_init_382 rfl ?_
  refine aw_iconst 1 d_MO_init_383 (by decide) ?_
  refine aw_bipush 105 d_MO_init_384 (by decide) ?_
  refine ay_castore (n := 4) (i := 1) (sh_r hn (j := 13) rfl) (vpd rfl) (by decide) (by decide) d_MO_init_386 ?_
  refine aw_dup d_MO_init_387 rfl ?_
  refine aw_iconst 2 d_MO_init_388 (by decide) ?_
  refine aw_bipush 116 d_MO_init_389 (by decide) ?_
  refine ay_castore (n := 4) (i := 2) (sh_r hn (j := 13) rfl) (vpd rfl) (by decide) (by decide) d_MO_init_391 ?_
  refine aw_dup d_MO_init_392 rfl ?_
  refine aw_iconst 3 d_MO_init_393 (by decide) ?_
  refine aw_bipush 104 d_MO_init_394 (by decide) ?_
  refine ay_castore (n := 4) (i := 3) (sh_r hn (j := 13) rfl) (vpd rfl) (by decide) (by decide) d_MO_init_396 ?_
  refine ay_putFR fl_MO_54 (sh_l ha) (ztb_7 (i := 10) rfl rfl) rfl rfl rfl (Or.inr ⟨_, rfl⟩) rfl (Nat.le_of_ble_eq_true rfl) d_MO_init_397 ?_
  refine aw_aload_n 0 d_MO_init_400 rfl rfl ?_
  refine aw_iconst 2 d_MO_init_401 (by decide) ?_
  refine ay_newa (t := 2) (n := 2) (1 + 14) (ln hn 14 rfl) (by omega) (([.inl 12] : List zQs) ++ [.inr (0, 1600), .inr (0, 6), .inr (2, 6), .inr (2, 6), .inr (2, 4), .inr (2, 8), .inr (2, 5), .inr (2, 4), .inr (2, 5), .inr (2, 5), .inr (2, 3), .inr (2, 5), .inr (2, 2), .inr (2, 4), .inr (2, 2)]) (List.append_assoc ([.inl 12] : List zQs) _ _) rfl (by decide) (ztb_8 (i := 5) rfl rfl) (by decide) (by decide) (Nat.le_of_ble_eq_true rfl) (Nat.le_of_ble_eq_true rfl) (Nat.le_of_ble_eq_true rfl) d_MO_init_402 ?_
  refine aw_dup d_MO_init_404 rfl ?_
  refine aw_iconst 0 d_MO_init_405 (by decide) ?_
  refine aw_bipush 116 d_MO_init_406 (by decide) ?_
  refine ay_castore (n := 2) (i := 0) (sh_r hn (j := 14) rfl) (vpd rfl) (by decide) (by decide) d_MO_init_408 ?_
  refine aw_dup d_MO_init_409 rfl ?_
  refine aw_iconst 1 d_MO_init_410 (by decide) ?_
  refine aw_bipush 111 d_MO_init_411 (by decide) ?_
  refine ay_castore (n := 2) (i := 1) (sh_r hn (j := 14) rfl) (vpd rfl) (by decide) (by decide) d_MO_init_413 ?_
  refine ay_putFR fl_MO_57 (sh_l ha) (ztb_7 (i := 11) rfl rfl) rfl rfl rfl (Or.inr ⟨_, rfl⟩) rfl (Nat.le_of_ble_eq_true rfl) d_MO_init_414 ?_
  refine aw_aload_n 0 d_MO_init_417 rfl rfl ?_
  refine aw_iconst 5 d_MO_init_418 (by decide) ?_
  refine ay_newa (t := 2) (n := 5) (1 + 15) (ln hn 15 rfl) (by omega) (([.inl 12] : List zQs) ++ [.inr (0, 1600), .inr (0, 6), .inr (2, 6), .inr (2, 6), .inr (2, 4), .inr (2, 8), .inr (2, 5), .inr (2, 4), .inr (2, 5), .inr (2, 5), .inr (2, 3), .inr (2, 5), .inr (2, 2), .inr (2, 4), .inr (2, 2), .inr (2, 5)]) (List.append_assoc ([.inl 12] : List zQs) _ _) rfl (by decide) (ztb_8 (i := 5) rfl rfl) (by decide) (by decide) (Nat.le_of_ble_eq_true rfl) (Nat.le_of_ble_eq_true rfl) (Nat.le_of_ble_eq_true rfl) d_MO_init_419 ?_
  refine aw_dup d_MO_init_421 rfl ?_
  refine aw_iconst 0 d_MO_init_422 (by decide) ?_
  refine aw_bipush 115 d_MO_init_423 (by decide) ?_
  refine ay_castore (n := 5) (i := 0) (sh_r hn (j := 15) rfl) (vpd rfl) (by decide) (by decide) d_MO_init_425 ?_
  refine aw_dup d_MO_init_426 rfl ?_
  refine aw_iconst 1 d_MO_init_427 (by decide) ?_
  refine aw_bipush 101 d_MO_init_428 (by decide) ?_
  refine ay_castore (n := 5) (i := 1) (sh_r hn (j := 15) rfl) (vpd rfl) (by decide) (by decide) d_MO_init_430 ?_
  refine aw_dup d_MO_init_431 rfl ?_
  refine aw_iconst 2 d_MO_init_432 (by decide) ?_
  refine aw_bipush 110 d_MO_init_433 (by decide) ?_
  refine ay_castore (n := 5) (i := 2) (sh_r hn (j := 15) rfl) (vpd rfl) (by decide) (by decide) d_MO_init_435 ?_
  refine aw_dup d_MO_init_436 rfl ?_
  refine aw_iconst 3 d_MO_init_437 (by decide) ?_
  refine aw_bipush 100 d_MO_init_438 (by decide) ?_
  refine ay_castore (n := 5) (i := 3) (sh_r hn (j := 15) rfl) (vpd rfl) (by decide) (by decide) d_MO_init_440 ?_
  refine aw_dup d_MO_init_441 rfl ?_
  refine aw_iconst 4 d_MO_init_442 (by decide) ?_
  refine aw_bipush 115 d_MO_init_443 (by decide) ?_
  refine ay_castore (n := 5) (i := 4) (sh_r hn (j := 15) rfl) (vpd rfl) (by decide) (by decide) d_MO_init_445 ?_
  refine ay_putFR fl_MO_60 (sh_l ha) (ztb_7 (i := 12) rfl rfl) rfl rfl rfl (Or.inr ⟨_, rfl⟩) rfl (Nat.le_of_ble_eq_true rfl) d_MO_init_446 ?_
  refine aw_aload_n 0 d_MO_init_449 rfl rfl ?_
  refine aw_iconst 2 d_MO_init_450 (by decide) ?_
  refine ay_newa (t := 2) (n := 2) (1 + 16) (ln hn 16 rfl) (by omega) (([.inl 12] : List zQs) ++ [.inr (0, 1600), .inr (0, 6), .inr (2, 6), .inr (2, 6), .inr (2, 4), .inr (2, 8), .inr (2, 5), .inr (2, 4), .inr (2, 5), .inr (2, 5), .inr (2, 3), .inr (2, 5), .inr (2, 2), .inr (2, 4), .inr (2, 2), .inr (2, 5), .inr (2, 2)]) (List.append_assoc ([.inl 12] : List zQs) _ _) rfl (by decide) (ztb_8 (i := 5) rfl rfl) (by decide) (by decide) (Nat.le_of_ble_eq_true rfl) (Nat.le_of_ble_eq_true rfl) (Nat.le_of_ble_eq_true rfl) d_MO_init_451 ?_
  refine aw_dup d_MO_init_453 rfl ?_
  refine aw_iconst 0 d_MO_init_454 (by decide) ?_
  refine aw_bipush 97 d_MO_init_455 (by decide) ?_
  refine ay_castore (n := 2) (i := 0) (sh_r hn (j := 16) rfl) (vpd rfl) (by decide) (by decide) d_MO_init_457 ?_
  refine aw_dup d_MO_init_458 rfl ?_
  refine aw_iconst 1 d_MO_init_459 (by decide) ?_
  refine aw_bipush 116 d_MO_init_460 (by decide) ?_
  refine ay_castore (n := 2) (i := 1) (sh_r hn (j := 16) rfl) (vpd rfl) (by decide) (by decide) d_MO_init_462 ?_
  refine ay_putFR fl_MO_63 (sh_l ha) (ztb_7 (i := 13) rfl rfl) rfl rfl rfl (Or.inr ⟨_, rfl⟩) rfl (Nat.le_of_ble_eq_true rfl) d_MO_init_463 ?_
  refine aw_aload_n 0 d_MO_init_466 rfl rfl ?_
  refine aw_bipush 7 d_MO_init_467 (by decide) ?_
  refine ay_newa (t := 2) (n := 7) (1 + 17) (ln hn 17 rfl) (by omega) (([.inl 12] : List zQs) ++ [.inr (0, 1600), .inr (0, 6), .inr (2, 6), .inr (2, 6), .inr (2, 4), .inr (2, 8), .inr (2, 5), .inr (2, 4), .inr (2, 5), .inr (2, 5), .inr (2, 3), .inr (2, 5), .inr (2, 2), .inr (2, 4), .inr (2, 2), .inr (2, 5), .inr (2, 2), .inr (2, 7)]) (List.append_assoc ([.inl 12] : List zQs) _ _) rfl (by decide) (ztb_8 (i := 5) rfl rfl) (by decide) (by decide) (Nat.le_of_ble_eq_true rfl) (Nat.le_of_ble_eq_true rfl) (Nat.le_of_ble_eq_true rfl) d_MO_init_469 ?_
  refine aw_dup d_MO_init_471 rfl ?_
  refine aw_iconst 0 d_MO_init_472 (by decide) ?_
  refine aw_bipush 114 d_MO_init_473 (by decide) ?_
  refine ay_castore (n := 7) (i := 0) (sh_r hn (j := 17) rfl) (vpd rfl) (by decide) (by decide) d_MO_init_475 ?_
  refine aw_dup d_MO_init_476 rfl ?_
  refine aw_iconst 1 d_MO_init_477 (by decide) ?_
  refine aw_bipush 101 d_MO_init_478 (by decide) ?_
  refine ay_castore (n := 7) (i := 1) (sh_r hn (j := 17) rfl) (vpd rfl) (by decide) (by decide) d_MO_init_480 ?_
  refine aw_dup d_MO_init_481 rfl ?_
  refine aw_iconst 2 d_MO_init_482 (by decide) ?_
  refine aw_bipush 112 d_MO_init_483 (by decide) ?_
  refine ay_castore (n := 7) (i := 2) (sh_r hn (j := 17) rfl) (vpd rfl) (by decide) (by decide) d_MO_init_485 ?_
  refine aw_dup d_MO_init_486 rfl ?_
  refine aw_iconst 3 d_MO_init_487 (by decide) ?_
  refine aw_bipush 108 d_MO_init_488 (by decide) ?_
  refine ay_castore (n := 7) (i := 3) (sh_r hn (j := 17) rfl) (vpd rfl) (by decide) (by decide) d_MO_init_490 ?_
  refine aw_dup d_MO_init_491 rfl ?_
  refine aw_iconst 4 d_MO_init_492 (by decide) ?_
  refine aw_bipush 105 d_MO_init_493 (by decide) ?_
  refine ay_castore (n := 7) (i := 4) (sh_r hn (j := 17) rfl) (vpd rfl) (by decide) (by decide) d_MO_init_495 ?_
  refine aw_dup d_MO_init_496 rfl ?_
  refine aw_iconst 5 d_MO_init_497 (by decide) ?_
  refine aw_bipush 101 d_MO_init_498 (by decide) ?_
  refine ay_castore (n := 7) (i := 5) (sh_r hn (j := 17) rfl) (vpd rfl) (by decide) (by decide) d_MO_init_500 ?_
  refine aw_dup d_MO_init_501 rfl ?_
  refine aw_bipush 6 d_MO_init_502 (by decide) ?_
  refine aw_bipush 115 d_MO_init_504 (by decide) ?_
  refine ay_castore (n := 7) (i := 6) (sh_r hn (j := 17) rfl) (vpd rfl) (by decide) (by decide) d_MO_init_506 ?_
  refine ay_putFR fl_MO_66 (sh_l ha) (ztb_7 (i := 14) rfl rfl) rfl rfl rfl (Or.inr ⟨_, rfl⟩) rfl (Nat.le_of_ble_eq_true rfl) d_MO_init_507 ?_
  refine aw_aload_n 0 d_MO_init_510 rfl rfl ?_
  refine aw_iconst 5 d_MO_init_511 (by decide) ?_
  refine ay_newa (t := 2) (n := 5) (1 + 18) (ln hn 18 rfl) (by omega) (([.inl 12] : List zQs) ++ [.inr (0, 1600), .inr (0, 6), .inr (2, 6), .inr (2, 6), .inr (2, 4), .inr (2, 8), .inr (2, 5), .inr (2, 4), .inr (2, 5), .inr (2, 5), .inr (2, 3), .inr (2, 5), .inr (2, 2), .inr (2, 4), .inr (2, 2), .inr (2, 5), .inr (2, 2), .inr (2, 7), .inr (2, 5)]) (List.append_assoc ([.inl 12] : List zQs) _ _) rfl (by decide) (ztb_8 (i := 5) rfl rfl) (by decide) (by decide) (Nat.le_of_ble_eq_true rfl) (Nat.le_of_ble_eq_true rfl) (Nat.le_of_ble_eq_true rfl) d_MO_init_512 ?_
  refine aw_dup d_MO_init_514 rfl ?_
  refine aw_iconst 0 d_MO_init_515 (by decide) ?_
  refine aw_bipush 116 d_MO_init_516 (by decide) ?_
  refine ay_castore (n := 5) (i := 0) (sh_r hn (j := 18) rfl) (vpd rfl) (by decide) (by decide) d_MO_init_518 ?_
  refine aw_dup d_MO_init_519 rfl ?_
  refine aw_iconst 1 d_MO_init_520 (by decide) ?_
  refine aw_bipush 101 d_MO_init_521 (by decide) ?_
  refine ay_castore (n := 5) (i := 1) (sh_r hn (j := 18) rfl) (vpd rfl) (by decide) (by decide) d_MO_init_523 ?_
  refine aw_dup d_MO_init_524 rfl ?_
  refine aw_iconst 2 d_MO_init_525 (by decide) ?_
  refine aw_bipush 108 d_MO_init_526 (by decide) ?_
  refine ay_castore (n := 5) (i := 2) (sh_r hn (j := 18) rfl) (vpd rfl) (by decide) (by decide) d_MO_init_528 ?_
  refine aw_dup d_MO_init_529 rfl ?_
  refine aw_iconst 3 d_MO_init_530 (by decide) ?_
  refine aw_bipush 108 d_MO_init_531 (by decide) ?_
  refine ay_castore (n := 5) (i := 3) (sh_r hn (j := 18) rfl) (vpd rfl) (by decide) (by decide) d_MO_init_533 ?_
  refine aw_dup d_MO_init_534 rfl ?_
  refine aw_iconst 4 d_MO_init_535 (by decide) ?_
  refine aw_bipush 115 d_MO_init_536 (by decide) ?_
  refine ay_castore (n := 5) (i := 4) (sh_r hn (j := 18) rfl) (vpd rfl) (by decide) (by decide) d_MO_init_538 ?_
  refine ay_putFR fl_MO_69 (sh_l ha) (ztb_7 (i := 15) rfl rfl) rfl rfl rfl (Or.inr ⟨_, rfl⟩) rfl (Nat.le_of_ble_eq_true rfl) d_MO_init_539 ?_
  refine aw_aload_n 0 d_MO_init_542 rfl rfl ?_
  refine aw_iconst 4 d_MO_init_543 (by decide) ?_
  refine ay_newa (t := 2) (n := 4) (1 + 19) (ln hn 19 rfl) (by omega) (([.inl 12] : List zQs) ++ [.inr (0, 1600), .inr (0, 6), .inr (2, 6), .inr (2, 6), .inr (2, 4), .inr (2, 8), .inr (2, 5), .inr (2, 4), .inr (2, 5), .inr (2, 5), .inr (2, 3), .inr (2, 5), .inr (2, 2), .inr (2, 4), .inr (2, 2), .inr (2, 5), .inr (2, 2), .inr (2, 7), .inr (2, 5), .inr (2, 4)]) (List.append_assoc ([.inl 12] : List zQs) _ _) rfl (by decide) (ztb_8 (i := 5) rfl rfl) (by decide) (by decide) (Nat.le_of_ble_eq_true rfl) (Nat.le_of_ble_eq_true rfl) (Nat.le_of_ble_eq_true rfl) d_MO_init_544 ?_
  refine aw_dup d_MO_init_546 rfl ?_
  refine aw_iconst 0 d_MO_init_547 (by decide) ?_
  refine aw_bipush 110 d_MO_init_548 (by decide) ?_
  refine ay_castore (n := 4) (i := 0) (sh_r hn (j := 19) rfl) (vpd rfl) (by decide) (by decide) d_MO_init_550 ?_
  refine aw_dup d_MO_init_551 rfl ?_
  refine aw_iconst 1 d_MO_init_552 (by decide) ?_
  refine aw_bipush 111 d_MO_init_553 (by decide) ?_
  refine ay_castore (n := 4) (i := 1) (sh_r hn (j := 19) rfl) (vpd rfl) (by decide) (by decide) d_MO_init_555 ?_
  refine aw_dup d_MO_init_556 rfl ?_
  refine aw_iconst 2 d_MO_init_557 (by decide) ?_
  refine aw_bipush 110 d_MO_init_558 (by decide) ?_
  refine ay_castore (n := 4) (i := 2) (sh_r hn (j := 19) rfl) (vpd rfl) (by decide) (by decide) d_MO_init_560 ?_
  refine aw_dup d_MO_init_561 rfl ?_
  refine aw_iconst 3 d_MO_init_562 (by decide) ?_
  refine aw_bipush 101 d_MO_init_563 (by decide) ?_
  refine ay_castore (n := 4) (i := 3) (sh_r hn (j := 19) rfl) (vpd rfl) (by decide) (by decide) d_MO_init_565 ?_
  refine ay_putFR fl_MO_72 (sh_l ha) (ztb_7 (i := 16) rfl rfl) rfl rfl rfl (Or.inr ⟨_, rfl⟩) rfl (Nat.le_of_ble_eq_true rfl) d_MO_init_566 ?_
  refine aw_aload_n 0 d_MO_init_569 rfl rfl ?_
  refine aw_iconst 4 d_MO_init_570 (by decide) ?_
  refine ay_newa (t := 2) (n := 4) (1 + 20) (ln hn 20 rfl) (by omega) (([.inl 12] : List zQs) ++ [.inr (0, 1600), .inr (0, 6), .inr (2, 6), .inr (2, 6), .inr (2, 4), .inr (2, 8), .inr (2, 5), .inr (2, 4), .inr (2, 5), .inr (2, 5), .inr (2, 3), .inr (2, 5), .inr (2, 2), .inr (2, 4), .inr (2, 2), .inr (2, 5), .inr (2, 2), .inr (2, 7), .inr (2, 5), .inr (2, 4), .inr (2, 4)]) (List.append_assoc ([.inl 12] : List zQs) _ _) rfl (by decide) (ztb_8 (i := 5) rfl rfl) (by decide) (by decide) (Nat.le_of_ble_eq_true rfl) (Nat.le_of_ble_eq_true rfl) (Nat.le_of_ble_eq_true rfl) d_MO_init_571 ?_
  refine aw_dup d_MO_init_573 rfl ?_
  refine aw_iconst 0 d_MO_init_574 (by decide) ?_
  refine aw_bipush 115 d_MO_init_575 (by decide) ?_
  refine ay_castore (n := 4) (i := 0) (sh_r hn (j := 20) rfl) (vpd rfl) (by decide) (by decide) d_MO_init_577 ?_
  refine aw_dup d_MO_init_578 rfl ?_
  refine aw_iconst 1 d_MO_init_579 (by decide) ?_
  refine aw_bipush 111 d_MO_init_580 (by decide) ?_
  refine ay_castore (n := 4) (i := 1) (sh_r hn (j := 20) rfl) (vpd rfl) (by decide) (by decide) d_MO_init_582 ?_
  refine aw_dup d_MO_init_583 rfl ?_
  refine aw_iconst 2 d_MO_init_584 (by decide) ?_
  refine aw_bipush 109 d_MO_init_585 (by decide) ?_
  refine ay_castore (n := 4) (i := 2) (sh_r hn (j := 20) rfl) (vpd rfl) (by decide) (by decide) d_MO_init_587 ?_
  refine aw_dup d_MO_init_588 rfl ?_
  refine aw_iconst 3 d_MO_init_589 (by decide) ?_
  refine aw_bipush 101 d_MO_init_590 (by decide) ?_
  refine ay_castore (n := 4) (i := 3) (sh_r hn (j := 20) rfl) (vpd rfl) (by decide) (by decide) d_MO_init_592 ?_
  refine ay_putFR fl_MO_75 (sh_l ha) (ztb_7 (i := 17) rfl rfl) rfl rfl rfl (Or.inr ⟨_, rfl⟩) rfl (Nat.le_of_ble_eq_true rfl) d_MO_init_593 ?_
  refine aw_aload_n 0 d_MO_init_596 rfl rfl ?_
  refine aw_sipush 184 d_MO_init_597 (by decide) ?_
  refine ay_newa (t := 0) (n := 184) (1 + 21) (ln hn 21 rfl) (by omega) (([.inl 12] : List zQs) ++ [.inr (0, 1600), .inr (0, 6), .inr (2, 6), .inr (2, 6), .inr (2, 4), .inr (2, 8), .inr (2, 5), .inr (2, 4), .inr (2, 5), .inr (2, 5), .inr (2, 3), .inr (2, 5), .inr (2, 2), .inr (2, 4), .inr (2, 2), .inr (2, 5), .inr (2, 2), .inr (2, 7), .inr (2, 5), .inr (2, 4), .inr (2, 4), .inr (0, 184)]) (List.append_assoc ([.inl 12] : List zQs) _ _) rfl (by decide) (ztb_1 (i := 42) rfl rfl) (by decide) (by decide) (Nat.le_of_ble_eq_true rfl) (Nat.le_of_ble_eq_true rfl) (Nat.le_of_ble_eq_true rfl) d_MO_init_600 ?_
  refine ay_putFR fl_MO_78 (sh_l ha) (ztb_7 (i := 19) rfl rfl) rfl rfl rfl (Or.inr ⟨_, rfl⟩) rfl (Nat.le_of_ble_eq_true rfl) d_MO_init_602 ?_
  refine aw_aload_n 0 d_MO_init_605 rfl rfl ?_
  refine aw_sipush 184 d_MO_init_606 (by decide) ?_
  refine ay_newa (t := 0) (n := 184) (1 + 22) (ln hn 22 rfl) (by omega) (([.inl 12] : List zQs) ++ [.inr (0, 1600), .inr (0, 6), .inr (2, 6), .inr (2, 6), .inr (2, 4), .inr (2, 8), .inr (2, 5), .inr (2, 4), .inr (2, 5), .inr (2, 5), .inr (2, 3), .inr (2, 5), .inr (2, 2), .inr (2, 4), .inr (2, 2), .inr (2, 5), .inr (2, 2), .inr (2, 7), .inr (2, 5), .inr (2, 4), .inr (2, 4), .inr (0, 184), .inr (0, 184)]) (List.append_assoc ([.inl 12] : List zQs) _ _) rfl (by decide) (ztb_1 (i := 42) rfl rfl) (by decide) (by decide) (Nat.le_of_ble_eq_true rfl) (Nat.le_of_ble_eq_true rfl) (Nat.le_of_ble_eq_true rfl) d_MO_init_609 ?_
  refine ay_putFR fl_MO_81 (sh_l ha) (ztb_7 (i := 20) rfl rfl) rfl rfl rfl (Or.inr ⟨_, rfl⟩) rfl (Nat.le_of_ble_eq_true rfl) d_MO_init_611 ?_
  refine aw_aload_n 0 d_MO_init_614 rfl rfl ?_
  refine aw_sipush 184 d_MO_init_615 (by decide) ?_
  refine ay_newa (t := 0) (n := 184) (1 + 23) (ln hn 23 rfl) (by omega) (([.inl 12] : List zQs) ++ [.inr (0, 1600), .inr (0, 6), .inr (2, 6), .inr (2, 6), .inr (2, 4), .inr (2, 8), .inr (2, 5), .inr (2, 4), .inr (2, 5), .inr (2, 5), .inr (2, 3), .inr (2, 5), .inr (2, 2), .inr (2, 4), .inr (2, 2), .inr (2, 5), .inr (2, 2), .inr (2, 7), .inr (2, 5), .inr (2, 4), .inr (2, 4), .inr (0, 184), .inr (0, 184), .inr (0, 184)]) (List.append_assoc ([.inl 12] : List zQs) _ _) rfl (by decide) (ztb_1 (i := 42) rfl rfl) (by decide) (by decide) (Nat.le_of_ble_eq_true rfl) (Nat.le_of_ble_eq_true rfl) (Nat.le_of_ble_eq_true rfl) d_MO_init_618 ?_
  refine ay_putFR fl_MO_84 (sh_l ha) (ztb_7 (i := 21) rfl rfl) rfl rfl rfl (Or.inr ⟨_, rfl⟩) rfl (Nat.le_of_ble_eq_true rfl) d_MO_init_620 ?_
  refine aw_aload_n 0 d_MO_init_623 rfl rfl ?_
  refine aw_iconst 4 d_MO_init_624 (by decide) ?_
  refine ay_newa (t := 0) (n := 4) (1 + 24) (ln hn 24 rfl) (by omega) (([.inl 12] : List zQs) ++ [.inr (0, 1600), .inr (0, 6), .inr (2, 6), .inr (2, 6), .inr (2, 4), .inr (2, 8), .inr (2, 5), .inr (2, 4), .inr (2, 5), .inr (2, 5), .inr (2, 3), .inr (2, 5), .inr (2, 2), .inr (2, 4), .inr (2, 2), .inr (2, 5), .inr (2, 2), .inr (2, 7), .inr (2, 5), .inr (2, 4), .inr (2, 4), .inr (0, 184), .inr (0, 184), .inr (0, 184), .inr (0, 4)]) (List.append_assoc ([.inl 12] : List zQs) _ _) rfl (by decide) (ztb_1 (i := 42) rfl rfl) (by decide) (by decide) (Nat.le_of_ble_eq_true rfl) (Nat.le_of_ble_eq_true rfl) (Nat.le_of_ble_eq_true rfl) d_MO_init_625 ?_
  refine ay_putFR fl_MO_87 (sh_l ha) (ztb_7 (i := 26) rfl rfl) rfl rfl rfl (Or.inr ⟨_, rfl⟩) rfl (Nat.le_of_ble_eq_true rfl) d_MO_init_627 ?_
  refine aw_aload_n 0 d_MO_init_630 rfl rfl ?_
  refine aw_iconst 4 d_MO_init_631 (by decide) ?_
  refine ay_newa (t := 0) (n := 4) (1 + 25) (ln hn 25 rfl) (by omega) (([.inl 12] : List zQs) ++ [.inr (0, 1600), .inr (0, 6), .inr (2, 6), .inr (2, 6), .inr (2, 4), .inr (2, 8), .inr (2, 5), .inr (2, 4), .inr (2, 5), .inr (2, 5), .inr (2, 3), .inr (2, 5), .inr (2, 2), .inr (2, 4), .inr (2, 2), .inr (2, 5), .inr (2, 2), .inr (2, 7), .inr (2, 5), .inr (2, 4), .inr (2, 4), .inr (0, 184), .inr (0, 184), .inr (0, 184), .inr (0, 4), .inr (0, 4)]) (List.append_assoc ([.inl 12] : List zQs) _ _) rfl (by decide) (ztb_1 (i := 42) rfl rfl) (by decide) (by decide) (Nat.le_of_ble_eq_true rfl) (Nat.le_of_ble_eq_true rfl) (Nat.le_of_ble_eq_true rfl) d_MO_init_632 ?_
  refine ay_putFR fl_MO_90 (sh_l ha) (ztb_7 (i := 28) rfl rfl) rfl rfl rfl (Or.inr ⟨_, rfl⟩) rfl (Nat.le_of_ble_eq_true rfl) d_MO_init_634 ?_
  refine aw_aload_n 0 d_MO_init_637 rfl rfl ?_
  refine aw_bipush (-2) d_MO_init_638 (by decide) ?_
  refine ay_putI fl_MO_93 (sh_l ha) rfl rfl rfl (Nat.le_of_ble_eq_true rfl) d_MO_init_640 ?_
  refine aw_aload_n 0 d_MO_init_643 rfl rfl ?_
  refine aw_sipush 608 d_MO_init_644 (by decide) ?_
  refine ay_newa (t := 3) (n := 608) (1 + 26) (ln hn 26 rfl) (by omega) (([.inl 12] : List zQs) ++ [.inr (0, 1600), .inr (0, 6), .inr (2, 6), .inr (2, 6), .inr (2, 4), .inr (2, 8), .inr (2, 5), .inr (2, 4), .inr (2, 5), .inr (2, 5), .inr (2, 3), .inr (2, 5), .inr (2, 2), .inr (2, 4), .inr (2, 2), .inr (2, 5), .inr (2, 2), .inr (2, 7), .inr (2, 5), .inr (2, 4), .inr (2, 4), .inr (0, 184), .inr (0, 184), .inr (0, 184), .inr (0, 4), .inr (0, 4), .inr (3, 608)]) (List.append_assoc ([.inl 12] : List zQs) _ _) rfl (by decide) (ztb_1 (i := 62) rfl rfl) (by decide) (by decide) (Nat.le_of_ble_eq_true rfl) (Nat.le_of_ble_eq_true rfl) (Nat.le_of_ble_eq_true rfl) d_MO_init_647 ?_
  refine ay_putFR fl_MO_96 (sh_l ha) (ztb_7 (i := 31) rfl rfl) rfl rfl rfl (Or.inr ⟨_, rfl⟩) rfl (Nat.le_of_ble_eq_true rfl) d_MO_init_649 ?_
  refine aw_aload_n 0 d_MO_init_652 rfl rfl ?_
  refine aw_sipush 608 d_MO_init_653 (by decide) ?_
  refine ay_newa (t := 0) (n := 608) (1 + 27) (ln hn 27 rfl) (by omega) (([.inl 12] : List zQs) ++ [.inr (0, 1600), .inr (0, 6), .inr (2, 6), .inr (2, 6), .inr (2, 4), .inr (2, 8), .inr (2, 5), .inr (2, 4), .inr (2, 5), .inr (2, 5), .inr (2, 3), .inr (2, 5), .inr (2, 2), .inr (2, 4), .inr (2, 2), .inr (2, 5), .inr (2, 2), .inr (2, 7), .inr (2, 5), .inr (2, 4), .inr (2, 4), .inr (0, 184), .inr (0, 184), .inr (0, 184), .inr (0, 4), .inr (0, 4), .inr (3, 608), .inr (0, 608)]) (List.append_assoc ([.inl 12] : List zQs) _ _) rfl (by decide) (ztb_1 (i := 42) rfl rfl) (by decide) (by decide) (Nat.le_of_ble_eq_true rfl) (Nat.le_of_ble_eq_true rfl) (Nat.le_of_ble_eq_true rfl) d_MO_init_656 ?_
  refine ay_putFR fl_MO_100 (sh_l ha) (ztb_7 (i := 32) rfl rfl) rfl rfl rfl (Or.inr ⟨_, rfl⟩) rfl (Nat.le_of_ble_eq_true rfl) d_MO_init_658 ?_
  refine aw_aload_n 0 d_MO_init_661 rfl rfl ?_
  refine aw_sipush 2048 d_MO_init_662 (by decide) ?_
  refine ay_newa (t := 0) (n := 2048) (1 + 28) (ln hn 28 rfl) (by omega) (([.inl 12] : List zQs) ++ [.inr (0, 1600), .inr (0, 6), .inr (2, 6), .inr (2, 6), .inr (2, 4), .inr (2, 8), .inr (2, 5), .inr (2, 4), .inr (2, 5), .inr (2, 5), .inr (2, 3), .inr (2, 5), .inr (2, 2), .inr (2, 4), .inr (2, 2), .inr (2, 5), .inr (2, 2), .inr (2, 7), .inr (2, 5), .inr (2, 4), .inr (2, 4), .inr (0, 184), .inr (0, 184), .inr (0, 184), .inr (0, 4), .inr (0, 4), .inr (3, 608), .inr (0, 608), .inr (0, 2048)]) (List.append_assoc ([.inl 12] : List zQs) _ _) rfl (by decide) (ztb_1 (i := 42) rfl rfl) (by decide) (by decide) (Nat.le_of_ble_eq_true rfl) (Nat.le_of_ble_eq_true rfl) (Nat.le_of_ble_eq_true rfl) d_MO_init_665 ?_
  refine ay_putFR fl_MO_103 (sh_l ha) (ztb_7 (i := 33) rfl rfl) rfl rfl rfl (Or.inr ⟨_, rfl⟩) rfl (Nat.le_of_ble_eq_true rfl) d_MO_init_667 ?_
  refine aw_aload_n 0 d_MO_init_670 rfl rfl ?_
  refine aw_ldc 38912 (ztb_6 (i := 227) rfl rfl) d_MO_init_671 ?_
  refine ay_newa (t := 0) (n := 38912) (1 + 29) (ln hn 29 rfl) (by omega) (([.inl 12] : List zQs) ++ [.inr (0, 1600), .inr (0, 6), .inr (2, 6), .inr (2, 6), .inr (2, 4), .inr (2, 8), .inr (2, 5), .inr (2, 4), .inr (2, 5), .inr (2, 5), .inr (2, 3), .inr (2, 5), .inr (2, 2), .inr (2, 4), .inr (2, 2), .inr (2, 5), .inr (2, 2), .inr (2, 7), .inr (2, 5), .inr (2, 4), .inr (2, 4), .inr (0, 184), .inr (0, 184), .inr (0, 184), .inr (0, 4), .inr (0, 4), .inr (3, 608), .inr (0, 608), .inr (0, 2048), .inr (0, 38912)]) (List.append_assoc ([.inl 12] : List zQs) _ _) rfl (by decide) (ztb_1 (i := 42) rfl rfl) (by decide) (by decide) (Nat.le_of_ble_eq_true rfl) (Nat.le_of_ble_eq_true rfl) (Nat.le_of_ble_eq_true rfl) d_MO_init_673 ?_
  refine ay_putFR fl_MO_107 (sh_l ha) (ztb_7 (i := 34) rfl rfl) rfl rfl rfl (Or.inr ⟨_, rfl⟩) rfl (Nat.le_of_ble_eq_true rfl) d_MO_init_675 ?_
  refine aw_aload_n 0 d_MO_init_678 rfl rfl ?_
  refine aw_ldc 155648 (ztb_6 (i := 228) rfl rfl) d_MO_init_679 ?_
  refine ay_newa (t := 0) (n := 155648) (1 + 30) (ln hn 30 rfl) (by omega) (([.inl 12] : List zQs) ++ [.inr (0, 1600), .inr (0, 6), .inr (2, 6), .inr (2, 6), .inr (2, 4), .inr (2, 8), .inr (2, 5), .inr (2, 4), .inr (2, 5), .inr (2, 5), .inr (2, 3), .inr (2, 5), .inr (2, 2), .inr (2, 4), .inr (2, 2), .inr (2, 5), .inr (2, 2), .inr (2, 7), .inr (2, 5), .inr (2, 4), .inr (2, 4), .inr (0, 184), .inr (0, 184), .inr (0, 184), .inr (0, 4), .inr (0, 4), .inr (3, 608), .inr (0, 608), .inr (0, 2048), .inr (0, 38912), .inr (0, 155648)]) (List.append_assoc ([.inl 12] : List zQs) _ _) rfl (by decide) (ztb_1 (i := 42) rfl rfl) (by decide) (by decide) (Nat.le_of_ble_eq_true rfl) (Nat.le_of_ble_eq_true rfl) (Nat.le_of_ble_eq_true rfl) d_MO_init_681 ?_
  refine ay_putFR fl_MO_111 (sh_l ha) (ztb_7 (i := 36) rfl rfl) rfl rfl rfl (Or.inr ⟨_, rfl⟩) rfl (Nat.le_of_ble_eq_true rfl) d_MO_init_683 ?_
  refine aw_aload_n 0 d_MO_init_686 rfl rfl ?_
  refine aw_sipush 2432 d_MO_init_687 (by decide) ?_
  refine ay_newa (t := 0) (n := 2432) (1 + 31) (ln hn 31 rfl) (by omega) (([.inl 12] : List zQs) ++ [.inr (0, 1600), .inr (0, 6), .inr (2, 6), .inr (2, 6), .inr (2, 4), .inr (2, 8), .inr (2, 5), .inr (2, 4), .inr (2, 5), .inr (2, 5), .inr (2, 3), .inr (2, 5), .inr (2, 2), .inr (2, 4), .inr (2, 2), .inr (2, 5), .inr (2, 2), .inr (2, 7), .inr (2, 5), .inr (2, 4), .inr (2, 4), .inr (0, 184), .inr (0, 184), .inr (0, 184), .inr (0, 4), .inr (0, 4), .inr (3, 608), .inr (0, 608), .inr (0, 2048), .inr (0, 38912), .inr (0, 155648), .inr (0, 2432)]) (List.append_assoc ([.inl 12] : List zQs) _ _) rfl (by decide) (ztb_1 (i := 42) rfl rfl) (by decide) (by decide) (Nat.le_of_ble_eq_true rfl) (Nat.le_of_ble_eq_true rfl) (Nat.le_of_ble_eq_true rfl) d_MO_init_690 ?_
  refine ay_putFR fl_MO_114 (sh_l ha) (ztb_7 (i := 37) rfl rfl) rfl rfl rfl (Or.inr ⟨_, rfl⟩) rfl (Nat.le_of_ble_eq_true rfl) d_MO_init_692 ?_
  refine aw_aload_n 0 d_MO_init_695 rfl rfl ?_
  refine aw_sipush 2432 d_MO_init_696 (by decide) ?_
  refine ay_newa (t := 0) (n := 2432) (1 + 32) (ln hn 32 rfl) (by omega) (([.inl 12] : List zQs) ++ [.inr (0, 1600), .inr (0, 6), .inr (2, 6), .inr (2, 6), .inr (2, 4), .inr (2, 8), .inr (2, 5), .inr (2, 4), .inr (2, 5), .inr (2, 5), .inr (2, 3), .inr (2, 5), .inr (2, 2), .inr (2, 4), .inr (2, 2), .inr (2, 5), .inr (2, 2), .inr (2, 7), .inr (2, 5), .inr (2, 4), .inr (2, 4), .inr (0, 184), .inr (0, 184), .inr (0, 184), .inr (0, 4), .inr (0, 4), .inr (3, 608), .inr (0, 608), .inr (0, 2048), .inr (0, 38912), .inr (0, 155648), .inr (0, 2432), .inr (0, 2432)]) (List.append_assoc ([.inl 12] : List zQs) _ _) rfl (by decide) (ztb_1 (i := 42) rfl rfl) (by decide) (by decide) (Nat.le_of_ble_eq_true rfl) (Nat.le_of_ble_eq_true rfl) (Nat.le_of_ble_eq_true rfl) d_MO_init_699 ?_
  refine ay_putFR fl_MO_117 (sh_l ha) (ztb_7 (i := 38) rfl rfl) rfl rfl rfl (Or.inr ⟨_, rfl⟩) rfl (Nat.le_of_ble_eq_true rfl) d_MO_init_701 ?_
  refine aw_aload_n 0 d_MO_init_704 rfl rfl ?_
  refine aw_sipush 2432 d_MO_init_705 (by decide) ?_
  refine ay_newa (t := 1) (n := 2432) (1 + 33) (ln hn 33 rfl) (by omega) (([.inl 12] : List zQs) ++ [.inr (0, 1600), .inr (0, 6), .inr (2, 6), .inr (2, 6), .inr (2, 4), .inr (2, 8), .inr (2, 5), .inr (2, 4), .inr (2, 5), .inr (2, 5), .inr (2, 3), .inr (2, 5), .inr (2, 2), .inr (2, 4), .inr (2, 2), .inr (2, 5), .inr (2, 2), .inr (2, 7), .inr (2, 5), .inr (2, 4), .inr (2, 4), .inr (0, 184), .inr (0, 184), .inr (0, 184), .inr (0, 4), .inr (0, 4), .inr (3, 608), .inr (0, 608), .inr (0, 2048), .inr (0, 38912), .inr (0, 155648), .inr (0, 2432), .inr (0, 2432), .inr (1, 2432)]) (List.append_assoc ([.inl 12] : List zQs) _ _) rfl (by decide) (ztb_1 (i := 212) rfl rfl) (by decide) (by decide) (Nat.le_of_ble_eq_true rfl) (Nat.le_of_ble_eq_true rfl) (Nat.le_of_ble_eq_true rfl) d_MO_init_708 ?_
  refine ay_putFR fl_MO_120 (sh_l ha) (ztb_7 (i := 39) rfl rfl) rfl rfl rfl (Or.inr ⟨_, rfl⟩) rfl (Nat.le_of_ble_eq_true rfl) d_MO_init_710 ?_
  refine aw_aload_n 0 d_MO_init_713 rfl rfl ?_
  refine aw_sipush 2432 d_MO_init_714 (by decide) ?_
  refine ay_newa (t := 1) (n := 2432) (1 + 34) (ln hn 34 rfl) (by omega) (([.inl 12] : List zQs) ++ [.inr (0, 1600), .inr (0, 6), .inr (2, 6), .inr (2, 6), .inr (2, 4), .inr (2, 8), .inr (2, 5), .inr (2, 4), .inr (2, 5), .inr (2, 5), .inr (2, 3), .inr (2, 5), .inr (2, 2), .inr (2, 4), .inr (2, 2), .inr (2, 5), .inr (2, 2), .inr (2, 7), .inr (2, 5), .inr (2, 4), .inr (2, 4), .inr (0, 184), .inr (0, 184), .inr (0, 184), .inr (0, 4), .inr (0, 4), .inr (3, 608), .inr (0, 608), .inr (0, 2048), .inr (0, 38912), .inr (0, 155648), .inr (0, 2432), .inr (0, 2432), .inr (1, 2432), .inr (1, 2432)]) (List.append_assoc ([.inl 12] : List zQs) _ _) rfl (by decide) (ztb_1 (i := 212) rfl rfl) (by decide) (by decide) (Nat.le_of_ble_eq_true rfl) (Nat.le_of_ble_eq_true rfl) (Nat.le_of_ble_eq_true rfl) d_MO_init_717 ?_
  refine ay_putFR fl_MO_124 (sh_l ha) (ztb_7 (i := 40) rfl rfl) rfl rfl rfl (Or.inr ⟨_, rfl⟩) rfl (Nat.le_of_ble_eq_true rfl) d_MO_init_719 ?_
  refine aw_aload_n 0 d_MO_init_722 rfl rfl ?_
  refine aw_sipush 2432 d_MO_init_723 (by decide) ?_
  refine ay_newa (t := 1) (n := 2432) (1 + 35) (ln hn 35 rfl) (by omega) (([.inl 12] : List zQs) ++ [.inr (0, 1600), .inr (0, 6), .inr (2, 6), .inr (2, 6), .inr (2, 4), .inr (2, 8), .inr (2, 5), .inr (2, 4), .inr (2, 5), .inr (2, 5), .inr (2, 3), .inr (2, 5), .inr (2, 2), .inr (2, 4), .inr (2, 2), .inr (2, 5), .inr (2, 2), .inr (2, 7), .inr (2, 5), .inr (2, 4), .inr (2, 4), .inr (0, 184), .inr (0, 184), .inr (0, 184), .inr (0, 4), .inr (0, 4), .inr (3, 608), .inr (0, 608), .inr (0, 2048), .inr (0, 38912), .inr (0, 155648), .inr (0, 2432), .inr (0, 2432), .inr (1, 2432), .inr (1, 2432), .inr (1, 2432)]) (List.append_assoc ([.inl 12] : List zQs) _ _) rfl (by decide) (ztb_1 (i := 212) rfl rfl) (by decide) (by decide) (Nat.le_of_ble_eq_true rfl) (Nat.le_of_ble_eq_true rfl) (Nat.le_of_ble_eq_true rfl) d_MO_init_726 ?_
  refine ay_putFR fl_MO_127 (sh_l ha) (ztb_7 (i := 41) rfl rfl) rfl rfl rfl (Or.inr ⟨_, rfl⟩) rfl (Nat.le_of_ble_eq_true rfl) d_MO_init_728 ?_
  refine aw_aload_n 0 d_MO_init_731 rfl rfl ?_
  refine aw_sipush 2432 d_MO_init_732 (by decide) ?_
  refine ay_newa (t := 0) (n := 2432) (1 + 36) (ln hn 36 rfl) (by omega) (([.inl 12] : List zQs) ++ [.inr (0, 1600), .inr (0, 6), .inr (2, 6), .inr (2, 6), .inr (2, 4), .inr (2, 8), .inr (2, 5), .inr (2, 4), .inr (2, 5), .inr (2, 5), .inr (2, 3), .inr (2, 5), .inr (2, 2), .inr (2, 4), .inr (2, 2), .inr (2, 5), .inr (2, 2), .inr (2, 7), .inr (2, 5), .inr (2, 4), .inr (2, 4), .inr (0, 184), .inr (0, 184), .inr (0, 184), .inr (0, 4), .inr (0, 4), .inr (3, 608), .inr (0, 608), .inr (0, 2048), .inr (0, 38912), .inr (0, 155648), .inr (0, 2432), .inr (0, 2432), .inr (1, 2432), .inr (1, 2432), .inr (1, 2432), .inr (0, 2432)]) (List.append_assoc ([.inl 12] : List zQs) _ _) rfl (by decide) (ztb_1 (i := 42) rfl rfl) (by decide) (by decide) (Nat.le_of_ble_eq_true rfl) (Nat.le_of_ble_eq_true rfl) (Nat.le_of_ble_eq_true rfl) d_MO_init_735 ?_
  refine ay_putFR fl_MO_130 (sh_l ha) (ztb_7 (i := 42) rfl rfl) rfl rfl rfl (Or.inr ⟨_, rfl⟩) rfl (Nat.le_of_ble_eq_true rfl) d_MO_init_737 ?_
  refine aw_aload_n 0 d_MO_init_740 rfl rfl ?_
  refine aw_sipush 2432 d_MO_init_741 (by decide) ?_
  refine ay_newa (t := 0) (n := 2432) (1 + 37) (ln hn 37 rfl) (by omega) (([.inl 12] : List zQs) ++ [.inr (0, 1600), .inr (0, 6), .inr (2, 6), .inr (2, 6), .inr (2, 4), .inr (2, 8), .inr (2, 5), .inr (2, 4), .inr (2, 5), .inr (2, 5), .inr (2, 3), .inr (2, 5), .inr (2, 2), .inr (2, 4), .inr (2, 2), .inr (2, 5), .inr (2, 2), .inr (2, 7), .inr (2, 5), .inr (2, 4), .inr (2, 4), .inr (0, 184), .inr (0, 184), .inr (0, 184), .inr (0, 4), .inr (0, 4), .inr (3, 608), .inr (0, 608), .inr (0, 2048), .inr (0, 38912), .inr (0, 155648), .inr (0, 2432), .inr (0, 2432), .inr (1, 2432), .inr (1, 2432), .inr (1, 2432), .inr (0, 2432), .inr (0, 2432)]) (List.append_assoc ([.inl 12] : List zQs) _ _) rfl (by decide) (ztb_1 (i := 42) rfl rfl) (by decide) (by decide) (Nat.le_of_ble_eq_true rfl) (Nat.le_of_ble_eq_true rfl) (Nat.le_of_ble_eq_true rfl) d_MO_init_744 ?_
  refine ay_putFR fl_MO_133 (sh_l ha) (ztb_7 (i := 43) rfl rfl) rfl rfl rfl (Or.inr ⟨_, rfl⟩) rfl (Nat.le_of_ble_eq_true rfl) d_MO_init_746 ?_
  refine aw_aload_n 0 d_MO_init_749 rfl rfl ?_
  refine aw_sipush 2432 d_MO_init_750 (by decide) ?_
  refine ay_newa (t := 0) (n := 2432) (1 + 38) (ln hn 38 rfl) (by omega) (([.inl 12] : List zQs) ++ [.inr (0, 1600), .inr (0, 6), .inr (2, 6), .inr (2, 6), .inr (2, 4), .inr (2, 8), .inr (2, 5), .inr (2, 4), .inr (2, 5), .inr (2, 5), .inr (2, 3), .inr (2, 5), .inr (2, 2), .inr (2, 4), .inr (2, 2), .inr (2, 5), .inr (2, 2), .inr (2, 7), .inr (2, 5), .inr (2, 4), .inr (2, 4), .inr (0, 184), .inr (0, 184), .inr (0, 184), .inr (0, 4), .inr (0, 4), .inr (3, 608), .inr (0, 608), .inr (0, 2048), .inr (0, 38912), .inr (0, 155648), .inr (0, 2432), .inr (0, 2432), .inr (1, 2432), .inr (1, 2432), .inr (1, 2432), .inr (0, 2432), .inr (0, 2432), .inr (0, 2432)]) (List.append_assoc ([.inl 12] : List zQs) _ _) rfl (by decide) (ztb_1 (i := 42) rfl rfl) (by decide) (by decide) (Nat.le_of_ble_eq_true rfl) (Nat.le_of_ble_eq_true rfl) (Nat.le_of_ble_eq_true rfl) d_MO_init_753 ?_
  refine ay_putFR fl_MO_136 (sh_l ha) (ztb_7 (i := 44) rfl rfl) rfl rfl rfl (Or.inr ⟨_, rfl⟩) rfl (Nat.le_of_ble_eq_true rfl) d_MO_init_755 ?_
  refine aw_aload_n 0 d_MO_init_758 rfl rfl ?_
  refine aw_sipush 2432 d_MO_init_759 (by decide) ?_
  refine ay_newa (t := 0) (n := 2432) (1 + 39) (ln hn 39 rfl) (by omega) (([.inl 12] : List zQs) ++ [.inr (0, 1600), .inr (0, 6), .inr (2, 6), .inr (2, 6), .inr (2, 4), .inr (2, 8), .inr (2, 5), .inr (2, 4), .inr (2, 5), .inr (2, 5), .inr (2, 3), .inr (2, 5), .inr (2, 2), .inr (2, 4), .inr (2, 2), .inr (2, 5), .inr (2, 2), .inr (2, 7), .inr (2, 5), .inr (2, 4), .inr (2, 4), .inr (0, 184), .inr (0, 184), .inr (0, 184), .inr (0, 4), .inr (0, 4), .inr (3, 608), .inr (0, 608), .inr (0, 2048), .inr (0, 38912), .inr (0, 155648), .inr (0, 2432), .inr (0, 2432), .inr (1, 2432), .inr (1, 2432), .inr (1, 2432), .inr (0, 2432), .inr (0, 2432), .inr (0, 2432), .inr (0, 2432)]) (List.append_assoc ([.inl 12] : List zQs) _ _) rfl (by decide) (ztb_1 (i := 42) rfl rfl) (by decide) (by decide) (Nat.le_of_ble_eq_true rfl) (Nat.le_of_ble_eq_true rfl) (Nat.le_of_ble_eq_true rfl) d_MO_init_762 ?_
  refine ay_putFR fl_MO_139 (sh_l ha) (ztb_7 (i := 45) rfl rfl) rfl rfl rfl (Or.inr ⟨_, rfl⟩) rfl (Nat.le_of_ble_eq_true rfl) d_MO_init_764 ?_
  refine aw_aload_n 0 d_MO_init_767 rfl rfl ?_
  refine aw_sipush 2432 d_MO_init_768 (by decide) ?_
  refine ay_newa (t := 0) (n := 2432) (1 + 40) (ln hn 40 rfl) (by omega) (([.inl 12] : List zQs) ++ [.inr (0, 1600), .inr (0, 6), .inr (2, 6), .inr (2, 6), .inr (2, 4), .inr (2, 8), .inr (2, 5), .inr (2, 4), .inr (2, 5), .inr (2, 5), .inr (2, 3), .inr (2, 5), .inr (2, 2), .inr (2, 4), .inr (2, 2), .inr (2, 5), .inr (2, 2), .inr (2, 7), .inr (2, 5), .inr (2, 4), .inr (2, 4), .inr (0, 184), .inr (0, 184), .inr (0, 184), .inr (0, 4), .inr (0, 4), .inr (3, 608), .inr (0, 608), .inr (0, 2048), .inr (0, 38912), .inr (0, 155648), .inr (0, 2432), .inr (0, 2432), .inr (1, 2432), .inr (1, 2432), .inr (1, 2432), .inr (0, 2432), .inr (0, 2432), .inr (0, 2432), .inr (0, 2432), .inr (0, 2432)]) (List.append_assoc ([.inl 12] : List zQs) _ _) rfl (by decide) (ztb_1 (i := 42) rfl rfl) (by decide) (by decide) (Nat.le_of_ble_eq_true rfl) (Nat.le_of_ble_eq_true rfl) (Nat.le_of_ble_eq_true rfl) d_MO_init_771 ?_
  refine ay_putFR fl_MO_142 (sh_l ha) (ztb_7 (i := 46) rfl rfl) rfl rfl rfl (Or.inr ⟨_, rfl⟩) rfl (Nat.le_of_ble_eq_true rfl) d_MO_init_773 ?_
  refine aw_aload_n 0 d_MO_init_776 rfl rfl ?_
  refine aw_sipush 2432 d_MO_init_777 (by decide) ?_
  refine ay_newa (t := 0) (n := 2432) (1 + 41) (ln hn 41 rfl) (by omega) (([.inl 12] : List zQs) ++ [.inr (0, 1600), .inr (0, 6), .inr (2, 6), .inr (2, 6), .inr (2, 4), .inr (2, 8), .inr (2, 5), .inr (2, 4), .inr (2, 5), .inr (2, 5), .inr (2, 3), .inr (2, 5), .inr (2, 2), .inr (2, 4), .inr (2, 2), .inr (2, 5), .inr (2, 2), .inr (2, 7), .inr (2, 5), .inr (2, 4), .inr (2, 4), .inr (0, 184), .inr (0, 184), .inr (0, 184), .inr (0, 4), .inr (0, 4), .inr (3, 608), .inr (0, 608), .inr (0, 2048), .inr (0, 38912), .inr (0, 155648), .inr (0, 2432), .inr (0, 2432), .inr (1, 2432), .inr (1, 2432), .inr (1, 2432), .inr (0, 2432), .inr (0, 2432), .inr (0, 2432), .inr (0, 2432), .inr (0, 2432), .inr (0, 2432)]) (List.append_assoc ([.inl 12] : List zQs) _ _) rfl (by decide) (ztb_1 (i := 42) rfl rfl) (by decide) (by decide) (Nat.le_of_ble_eq_true rfl) (Nat.le_of_ble_eq_true rfl) (Nat.le_of_ble_eq_true rfl) d_MO_init_780 ?_
  refine ay_putFR fl_MO_145 (sh_l ha) (ztb_7 (i := 47) rfl rfl) rfl rfl rfl (Or.inr ⟨_, rfl⟩) rfl (Nat.le_of_ble_eq_true rfl) d_MO_init_782 ?_
  refine aw_aload_n 0 d_MO_init_785 rfl rfl ?_
  refine aw_sipush 2432 d_MO_init_786 (by decide) ?_
  refine ay_newa (t := 1) (n := 2432) (1 + 42) (ln hn 42 rfl) (by omega) (([.inl 12] : List zQs) ++ [.inr (0, 1600), .inr (0, 6), .inr (2, 6), .inr (2, 6), .inr (2, 4), .inr (2, 8), .inr (2, 5), .inr (2, 4), .inr (2, 5), .inr (2, 5), .inr (2, 3), .inr (2, 5), .inr (2, 2), .inr (2, 4), .inr (2, 2), .inr (2, 5), .inr (2, 2), .inr (2, 7), .inr (2, 5), .inr (2, 4), .inr (2, 4), .inr (0, 184), .inr (0, 184), .inr (0, 184), .inr (0, 4), .inr (0, 4), .inr (3, 608), .inr (0, 608), .inr (0, 2048), .inr (0, 38912), .inr (0, 155648), .inr (0, 2432), .inr (0, 2432), .inr (1, 2432), .inr (1, 2432), .inr (1, 2432), .inr (0, 2432), .inr (0, 2432), .inr (0, 2432), .inr (0, 2432), .inr (0, 2432), .inr (0, 2432), .inr (1, 2432)]) (List.append_assoc ([.inl 12] : List zQs) _ _) rfl (by decide) (ztb_1 (i := 212) rfl rfl) (by decide) (by decide) (Nat.le_of_ble_eq_true rfl) (Nat.le_of_ble_eq_true rfl) (Nat.le_of_ble_eq_true rfl) d_MO_init_789 ?_
  refine ay_putFR fl_MO_148 (sh_l ha) (ztb_7 (i := 48) rfl rfl) rfl rfl rfl (Or.inr ⟨_, rfl⟩) rfl (Nat.le_of_ble_eq_true rfl) d_MO_init_791 ?_
  refine aw_aload_n 0 d_MO_init_794 rfl rfl ?_
  refine aw_sipush 2432 d_MO_init_795 (by decide) ?_
  refine ay_newa (t := 1) (n := 2432) (1 + 43) (ln hn 43 rfl) (by omega) (([.inl 12] : List zQs) ++ [.inr (0, 1600), .inr (0, 6), .inr (2, 6), .inr (2, 6), .inr (2, 4), .inr (2, 8), .inr (2, 5), .inr (2, 4), .inr (2, 5), .inr (2, 5), .inr (2, 3), .inr (2, 5), .inr (2, 2), .inr (2, 4), .inr (2, 2), .inr (2, 5), .inr (2, 2), .inr (2, 7), .inr (2, 5), .inr (2, 4), .inr (2, 4), .inr (0, 184), .inr (0, 184), .inr (0, 184), .inr (0, 4), .inr (0, 4), .inr (3, 608), .inr (0, 608), .inr (0, 2048), .inr (0, 38912), .inr (0, 155648), .inr (0, 2432), .inr (0, 2432), .inr (1, 2432), .inr (1, 2432), .inr (1, 2432), .inr (0, 2432), .inr (0, 2432), .inr (0, 2432), .inr (0, 2432), .inr (0, 2432), .inr (0, 2432), .inr (1, 2432), .inr (1, 2432)]) (List.append_assoc ([.inl 12] : List zQs) _ _) rfl (by decide) (ztb_1 (i := 212) rfl rfl) (by decide) (by decide) (Nat.le_of_ble_eq_true rfl) (Nat.le_of_ble_eq_true rfl) (Nat.le_of_ble_eq_true rfl) d_MO_init_798 ?_
  refine ay_putFR fl_MO_151 (sh_l ha) (ztb_7 (i := 53) rfl rfl) rfl rfl rfl (Or.inr ⟨_, rfl⟩) rfl (Nat.le_of_ble_eq_true rfl) d_MO_init_800 ?_
  refine aw_aload_n 0 d_MO_init_803 rfl rfl ?_
  refine aw_sipush 2432 d_MO_init_804 (by decide) ?_
  refine ay_newa (t := 0) (n := 2432) (1 + 44) (ln hn 44 rfl) (by omega) (([.inl 12] : List zQs) ++ [.inr (0, 1600), .inr (0, 6), .inr (2, 6), .inr (2, 6), .inr (2, 4), .inr (2, 8), .inr (2, 5), .inr (2, 4), .inr (2, 5), .inr (2, 5), .inr (2, 3), .inr (2, 5), .inr (2, 2), .inr (2, 4), .inr (2, 2), .inr (2, 5), .inr (2, 2), .inr (2, 7), .inr (2, 5), .inr (2, 4), .inr (2, 4), .inr (0, 184), .inr (0, 184), .inr (0, 184), .inr (0, 4), .inr (0, 4), .inr (3, 608), .inr (0, 608), .inr (0, 2048), .inr (0, 38912), .inr (0, 155648), .inr (0, 2432), .inr (0, 2432), .inr (1, 2432), .inr (1, 2432), .inr (1, 2432), .inr (0, 2432), .inr (0, 2432), .inr (0, 2432), .inr (0, 2432), .inr (0, 2432), .inr (0, 2432), .inr (1, 2432), .inr (1, 2432), .inr (0, 2432)]) (List.append_assoc ([.inl 12] : List zQs) _ _) rfl (by decide) (ztb_1 (i := 42) rfl rfl) (by decide) (by decide) (Nat.le_of_ble_eq_true rfl) (Nat.le_of_ble_eq_true rfl) (Nat.le_of_ble_eq_true rfl) d_MO_init_807 ?_
  refine ay_putFR fl_MO_154 (sh_l ha) (ztb_7 (i := 54) rfl rfl) rfl rfl rfl (Or.inr ⟨_, rfl⟩) rfl (Nat.le_of_ble_eq_true rfl) d_MO_init_809 ?_
  refine aw_aload_n 0 d_MO_init_812 rfl rfl ?_
  refine aw_sipush 2432 d_MO_init_813 (by decide) ?_
  refine ay_newa (t := 0) (n := 2432) (1 + 45) (ln hn 45 rfl) (by omega) (([.inl 12] : List zQs) ++ [.inr (0, 1600), .inr (0, 6), .inr (2, 6), .inr (2, 6), .inr (2, 4), .inr (2, 8), .inr (2, 5), .inr (2, 4), .inr (2, 5), .inr (2, 5), .inr (2, 3), .inr (2, 5), .inr (2, 2), .inr (2, 4), .inr (2, 2), .inr (2, 5), .inr (2, 2), .inr (2, 7), .inr (2, 5), .inr (2, 4), .inr (2, 4), .inr (0, 184), .inr (0, 184), .inr (0, 184), .inr (0, 4), .inr (0, 4), .inr (3, 608), .inr (0, 608), .inr (0, 2048), .inr (0, 38912), .inr (0, 155648), .inr (0, 2432), .inr (0, 2432), .inr (1, 2432), .inr (1, 2432), .inr (1, 2432), .inr (0, 2432), .inr (0, 2432), .inr (0, 2432), .inr (0, 2432), .inr (0, 2432), .inr (0, 2432), .inr (1, 2432), .inr (1, 2432), .inr (0, 2432), .inr (0, 2432)]) (List.append_assoc ([.inl 12] : List zQs) _ _) rfl (by decide) (ztb_1 (i := 42) rfl rfl) (by decide) (by decide) (Nat.le_of_ble_eq_true rfl) (Nat.le_of_ble_eq_true rfl) (Nat.le_of_ble_eq_true rfl) d_MO_init_816 ?_
  refine ay_putFR fl_MO_157 (sh_l ha) (ztb_7 (i := 55) rfl rfl) rfl rfl rfl (Or.inr ⟨_, rfl⟩) rfl (Nat.le_of_ble_eq_true rfl) d_MO_init_818 ?_
  refine aw_aload_n 0 d_MO_init_821 rfl rfl ?_
  refine aw_sipush 608 d_MO_init_822 (by decide) ?_
  refine ay_newa (t := 0) (n := 608) (1 + 46) (ln hn 46 rfl) (by omega) (([.inl 12] : List zQs) ++ [.inr (0, 1600), .inr (0, 6), .inr (2, 6), .inr (2, 6), .inr (2, 4), .inr (2, 8), .inr (2, 5), .inr (2, 4), .inr (2, 5), .inr (2, 5), .inr (2, 3), .inr (2, 5), .inr (2, 2), .inr (2, 4), .inr (2, 2), .inr (2, 5), .inr (2, 2), .inr (2, 7), .inr (2, 5), .inr (2, 4), .inr (2, 4), .inr (0, 184), .inr (0, 184), .inr (0, 184), .inr (0, 4), .inr (0, 4), .inr (3, 608), .inr (0, 608), .inr (0, 2048), .inr (0, 38912), .inr (0, 155648), .inr (0, 2432), .inr (0, 2432), .inr (1, 2432), .inr (1, 2432), .inr (1, 2432), .inr (0, 2432), .inr (0, 2432), .inr (0, 2432), .inr (0, 2432), .inr (0, 2432), .inr (0, 2432), .inr (1, 2432), .inr (1, 2432), .inr (0, 2432), .inr (0, 2432), .inr (0, 608)]) (List.append_assoc ([.inl 12] : List zQs) _ _) rfl (by decide) (ztb_1 (i := 42) rfl rfl) (by decide) (by decide) (Nat.le_of_ble_eq_true rfl) (Nat.le_of_ble_eq_true rfl) (Nat.le_of_ble_eq_true rfl) d_MO_init_825 ?_
  refine ay_putFR fl_MO_160 (sh_l ha) (ztb_7 (i := 56) rfl rfl) rfl rfl rfl (Or.inr ⟨_, rfl⟩) rfl (Nat.le_of_ble_eq_true rfl) d_MO_init_827 ?_
  refine aw_aload_n 0 d_MO_init_830 rfl rfl ?_
  refine aw_sipush 608 d_MO_init_831 (by decide) ?_
  refine ay_newa (t := 0) (n := 608) (1 + 47) (ln hn 47 rfl) (by omega) (([.inl 12] : List zQs) ++ [.inr (0, 1600), .inr (0, 6), .inr (2, 6), .inr (2, 6), .inr (2, 4), .inr (2, 8), .inr (2, 5), .inr (2, 4), .inr (2, 5), .inr (2, 5), .inr (2, 3), .inr (2, 5), .inr (2, 2), .inr (2, 4), .inr (2, 2), .inr (2, 5), .inr (2, 2), .inr (2, 7), .inr (2, 5), .inr (2, 4), .inr (2, 4), .inr (0, 184), .inr (0, 184), .inr (0, 184), .inr (0, 4), .inr (0, 4), .inr (3, 608), .inr (0, 608), .inr (0, 2048), .inr (0, 38912), .inr (0, 155648), .inr (0, 2432), .inr (0, 2432), .inr (1, 2432), .inr (1, 2432), .inr (1, 2432), .inr (0, 2432), .inr (0, 2432), .inr (0, 2432), .inr (0, 2432), .inr (0, 2432), .inr (0, 2432), .inr (1, 2432), .inr (1, 2432), .inr (0, 2432), .inr (0, 2432), .inr (0, 608), .inr (0, 608)]) (List.append_assoc ([.inl 12] : List zQs) _ _) rfl (by decide) (ztb_1 (i := 42) rfl rfl) (by decide) (by decide) (Nat.le_of_ble_eq_true rfl) (Nat.le_of_ble_eq_true rfl) (Nat.le_of_ble_eq_true rfl) d_MO_init_834 ?_
  refine ay_putFR fl_MO_163 (sh_l ha) (ztb_7 (i := 57) rfl rfl) rfl rfl rfl (Or.inr ⟨_, rfl⟩) rfl (Nat.le_of_ble_eq_true rfl) d_MO_init_836 ?_
  refine aw_aload_n 0 d_MO_init_839 rfl rfl ?_
  refine aw_sipush 2432 d_MO_init_840 (by decide) ?_
  refine ay_newa (t := 0) (n := 2432) (1 + 48) (ln hn 48 rfl) (by omega) (([.inl 12] : List zQs) ++ [.inr (0, 1600), .inr (0, 6), .inr (2, 6), .inr (2, 6), .inr (2, 4), .inr (2, 8), .inr (2, 5), .inr (2, 4), .inr (2, 5), .inr (2, 5), .inr (2, 3), .inr (2, 5), .inr (2, 2), .inr (2, 4), .inr (2, 2), .inr (2, 5), .inr (2, 2), .inr (2, 7), .inr (2, 5), .inr (2, 4), .inr (2, 4), .inr (0, 184), .inr (0, 184), .inr (0, 184), .inr (0, 4), .inr (0, 4), .inr (3, 608), .inr (0, 608), .inr (0, 2048), .inr (0, 38912), .inr (0, 155648), .inr (0, 2432), .inr (0, 2432), .inr (1, 2432), .inr (1, 2432), .inr (1, 2432), .inr (0, 2432), .inr (0, 2432), .inr (0, 2432), .inr (0, 2432), .inr (0, 2432), .inr (0, 2432), .inr (1, 2432), .inr (1, 2432), .inr (0, 2432), .inr (0, 2432), .inr (0, 608), .inr (0, 608), .inr (0, 2432)]) (List.append_assoc ([.inl 12] : List zQs) _ _) rfl (by decide) (ztb_1 (i := 42) rfl rfl) (by decide) (by decide) (Nat.le_of_ble_eq_true rfl) (Nat.le_of_ble_eq_true rfl) (Nat.le_of_ble_eq_true rfl) d_MO_init_843 ?_
  refine ay_putFR fl_MO_166 (sh_l ha) (ztb_7 (i := 58) rfl rfl) rfl rfl rfl (Or.inr ⟨_, rfl⟩) rfl (Nat.le_of_ble_eq_true rfl) d_MO_init_845 ?_
  refine aw_aload_n 0 d_MO_init_848 rfl rfl ?_
  refine aw_sipush 608 d_MO_init_849 (by decide) ?_
  refine ay_newa (t := 0) (n := 608) (1 + 49) (ln hn 49 rfl) (by omega) (([.inl 12] : List zQs) ++ [.inr (0, 1600), .inr (0, 6), .inr (2, 6), .inr (2, 6), .inr (2, 4), .inr (2, 8), .inr (2, 5), .inr (2, 4), .inr (2, 5), .inr (2, 5), .inr (2, 3), .inr (2, 5), .inr (2, 2), .inr (2, 4), .inr (2, 2), .inr (2, 5), .inr (2, 2), .inr (2, 7), .inr (2, 5), .inr (2, 4), .inr (2, 4), .inr (0, 184), .inr (0, 184), .inr (0, 184), .inr (0, 4), .inr (0, 4), .inr (3, 608), .inr (0, 608), .inr (0, 2048), .inr (0, 38912), .inr (0, 155648), .inr (0, 2432), .inr (0, 2432), .inr (1, 2432), .inr (1, 2432), .inr (1, 2432), .inr (0, 2432), .inr (0, 2432), .inr (0, 2432), .inr (0, 2432), .inr (0, 2432), .inr (0, 2432), .inr (1, 2432), .inr (1, 2432), .inr (0, 2432), .inr (0, 2432), .inr (0, 608), .inr (0, 608), .inr (0, 2432), .inr (0, 608)]) (List.append_assoc ([.inl 12] : List zQs) _ _) rfl (by decide) (ztb_1 (i := 42) rfl rfl) (by decide) (by decide) (Nat.le_of_ble_eq_true rfl) (Nat.le_of_ble_eq_true rfl) (Nat.le_of_ble_eq_true rfl) d_MO_init_852 ?_
  refine ay_putFR fl_MO_169 (sh_l ha) (ztb_7 (i := 59) rfl rfl) rfl rfl rfl (Or.inr ⟨_, rfl⟩) rfl (Nat.le_of_ble_eq_true rfl) d_MO_init_854 ?_
  refine aw_aload_n 0 d_MO_init_857 rfl rfl ?_
  refine aw_iconst 5 d_MO_init_858 (by decide) ?_
  refine ay_newa (t := 0) (n := 5) (1 + 50) (ln hn 50 rfl) (by omega) (([.inl 12] : List zQs) ++ [.inr (0, 1600), .inr (0, 6), .inr (2, 6), .inr (2, 6), .inr (2, 4), .inr (2, 8), .inr (2, 5), .inr (2, 4), .inr (2, 5), .inr (2, 5), .inr (2, 3), .inr (2, 5), .inr (2, 2), .inr (2, 4), .inr (2, 2), .inr (2, 5), .inr (2, 2), .inr (2, 7), .inr (2, 5), .inr (2, 4), .inr (2, 4), .inr (0, 184), .inr (0, 184), .inr (0, 184), .inr (0, 4), .inr (0, 4), .inr (3, 608), .inr (0, 608), .inr (0, 2048), .inr (0, 38912), .inr (0, 155648), .inr (0, 2432), .inr (0, 2432), .inr (1, 2432), .inr (1, 2432), .inr (1, 2432), .inr (0, 2432), .inr (0, 2432), .inr (0, 2432), .inr (0, 2432), .inr (0, 2432), .inr (0, 2432), .inr (1, 2432), .inr (1, 2432), .inr (0, 2432), .inr (0, 2432), .inr (0, 608), .inr (0, 608), .inr (0, 2432), .inr (0, 608), .inr (0, 5)]) (List.append_assoc ([.inl 12] : List zQs) _ _) rfl (by decide) (ztb_1 (i := 42) rfl rfl) (by decide) (by decide) (Nat.le_of_ble_eq_true rfl) (Nat.le_of_ble_eq_true rfl) (Nat.le_of_ble_eq_true rfl) d_MO_init_859 ?_
  refine ay_putFR fl_MO_172 (sh_l ha) (ztb_7 (i := 60) rfl rfl) rfl rfl rfl (Or.inr ⟨_, rfl⟩) rfl (Nat.le_of_ble_eq_true rfl) d_MO_init_861 ?_
  refine aw_aload_n 0 d_MO_init_864 rfl rfl ?_
  refine aw_bipush 20 d_MO_init_865 (by decide) ?_
  refine ay_newa (t := 3) (n := 20) (1 + 51) (ln hn 51 rfl) (by omega) (([.inl 12] : List zQs) ++ [.inr (0, 1600), .inr (0, 6), .inr (2, 6), .inr (2, 6), .inr (2, 4), .inr (2, 8), .inr (2, 5), .inr (2, 4), .inr (2, 5), .inr (2, 5), .inr (2, 3), .inr (2, 5), .inr (2, 2), .inr (2, 4), .inr (2, 2), .inr (2, 5), .inr (2, 2), .inr (2, 7), .inr (2, 5), .inr (2, 4), .inr (2, 4), .inr (0, 184), .inr (0, 184), .inr (0, 184), .inr (0, 4), .inr (0, 4), .inr (3, 608), .inr (0, 608), .inr (0, 2048), .inr (0, 38912), .inr (0, 155648), .inr (0, 2432), .inr (0, 2432), .inr (1, 2432), .inr (1, 2432), .inr (1, 2432), .inr (0, 2432), .inr (0, 2432), .inr (0, 2432), .inr (0, 2432), .inr (0, 2432), .inr (0, 2432), .inr (1, 2432), .inr (1, 2432), .inr (0, 2432), .inr (0, 2432), .inr (0, 608), .inr (0, 608), .inr (0, 2432), .inr (0, 608), .inr (0, 5), .inr (3, 20)]) (List.append_assoc ([.inl 12] : List zQs) _ _) rfl (by decide) (ztb_1 (i := 62) rfl rfl) (by decide) (by decide) (Nat.le_of_ble_eq_true rfl) (Nat.le_of_ble_eq_true rfl) (Nat.le_of_ble_eq_true rfl) d_MO_init_867 ?_
  refine ay_putFR fl_MO_175 (sh_l ha) (ztb_7 (i := 62) rfl rfl) rfl rfl rfl (Or.inr ⟨_, rfl⟩) rfl (Nat.le_of_ble_eq_true rfl) d_MO_init_869 ?_
  refine aw_aload_n 0 d_MO_init_872 rfl rfl ?_
  refine aw_lconst 1 d_MO_init_873 (by decide) ?_
  refine ay_putJ fl_MO_178 (sh_l ha) rfl rfl rfl (Nat.le_of_ble_eq_true rfl) d_MO_init_874 ?_
  refine aw_aload_n 0 d_MO_init_877 rfl rfl ?_
  refine aw_bipush 12 d_MO_init_878 (by decide) ?_
  refine ay_newa (t := 0) (n := 12) (1 + 52) (ln hn 52 rfl) (by omega) (([.inl 12] : List zQs) ++ [.inr (0, 1600), .inr (0, 6), .inr (2, 6), .inr (2, 6), .inr (2, 4), .inr (2, 8), .inr (2, 5), .inr (2, 4), .inr (2, 5), .inr (2, 5), .inr (2, 3), .inr (2, 5), .inr (2, 2), .inr (2, 4), .inr (2, 2), .inr (2, 5), .inr (2, 2), .inr (2, 7), .inr (2, 5), .inr (2, 4), .inr (2, 4), .inr (0, 184), .inr (0, 184), .inr (0, 184), .inr (0, 4), .inr (0, 4), .inr (3, 608), .inr (0, 608), .inr (0, 2048), .inr (0, 38912), .inr (0, 155648), .inr (0, 2432), .inr (0, 2432), .inr (1, 2432), .inr (1, 2432), .inr (1, 2432), .inr (0, 2432), .inr (0, 2432), .inr (0, 2432), .inr (0, 2432), .inr (0, 2432), .inr (0, 2432), .inr (1, 2432), .inr (1, 2432), .inr (0, 2432), .inr (0, 2432), .inr (0, 608), .inr (0, 608), .inr (0, 2432), .inr (0, 608), .inr (0, 5), .inr (3, 20), .inr (0, 12)]) (List.append_assoc ([.inl 12] : List zQs) _ _) rfl (by decide) (ztb_1 (i := 42) rfl rfl) (by decide) (by decide) (Nat.le_of_ble_eq_true rfl) (Nat.le_of_ble_eq_true rfl) (Nat.le_of_ble_eq_true rfl) d_MO_init_880 ?_
  refine ay_putFR fl_MO_182 (sh_l ha) (ztb_7 (i := 68) rfl rfl) rfl rfl rfl (Or.inr ⟨_, rfl⟩) rfl (Nat.le_of_ble_eq_true rfl) d_MO_init_882 ?_
  refine aw_aload_n 0 d_MO_init_885 rfl rfl ?_
  refine aw_sipush 608 d_MO_init_886 (by decide) ?_
  refine ay_newa (t := 1) (n := 608) (1 + 53) (ln hn 53 rfl) (by omega) (([.inl 12] : List zQs) ++ [.inr (0, 1600), .inr (0, 6), .inr (2, 6), .inr (2, 6), .inr (2, 4), .inr (2, 8), .inr (2, 5), .inr (2, 4), .inr (2, 5), .inr (2, 5), .inr (2, 3), .inr (2, 5), .inr (2, 2), .inr (2, 4), .inr (2, 2), .inr (2, 5), .inr (2, 2), .inr (2, 7), .inr (2, 5), .inr (2, 4), .inr (2, 4), .inr (0, 184), .inr (0, 184), .inr (0, 184), .inr (0, 4), .inr (0, 4), .inr (3, 608), .inr (0, 608), .inr (0, 2048), .inr (0, 38912), .inr (0, 155648), .inr (0, 2432), .inr (0, 2432), .inr (1, 2432), .inr (1, 2432), .inr (1, 2432), .inr (0, 2432), .inr (0, 2432), .inr (0, 2432), .inr (0, 2432), .inr (0, 2432), .inr (0, 2432), .inr (1, 2432), .inr (1, 2432), .inr (0, 2432), .inr (0, 2432), .inr (0, 608), .inr (0, 608), .inr (0, 2432), .inr (0, 608), .inr (0, 5), .inr (3, 20), .inr (0, 12), .inr (1, 608)]) (List.append_assoc ([.inl 12] : List zQs) _ _) rfl (by decide) (ztb_1 (i := 212) rfl rfl) (by decide) (by decide) (Nat.le_of_ble_eq_true rfl) (Nat.le_of_ble_eq_true rfl) (Nat.le_of_ble_eq_true rfl) d_MO_init_889 ?_
  refine ay_putFR fl_MO_185 (sh_l ha) (ztb_7 (i := 69) rfl rfl) rfl rfl rfl (Or.inr ⟨_, rfl⟩) rfl (Nat.le_of_ble_eq_true rfl) d_MO_init_891 ?_
  refine aw_aload_n 0 d_MO_init_894 rfl rfl ?_
  refine aw_sipush 608 d_MO_init_895 (by decide) ?_
  refine ay_newa (t := 1) (n := 608) (1 + 54) (ln hn 54 rfl) (by omega) (([.inl 12] : List zQs) ++ [.inr (0, 1600), .inr (0, 6), .inr (2, 6), .inr (2, 6), .inr (2, 4), .inr (2, 8), .inr (2, 5), .inr (2, 4), .inr (2, 5), .inr (2, 5), .inr (2, 3), .inr (2, 5), .inr (2, 2), .inr (2, 4), .inr (2, 2), .inr (2, 5), .inr (2, 2), .inr (2, 7), .inr (2, 5), .inr (2, 4), .inr (2, 4), .inr (0, 184), .inr (0, 184), .inr (0, 184), .inr (0, 4), .inr (0, 4), .inr (3, 608), .inr (0, 608), .inr (0, 2048), .inr (0, 38912), .inr (0, 155648), .inr (0, 2432), .inr (0, 2432), .inr (1, 2432), .inr (1, 2432), .inr (1, 2432), .inr (0, 2432), .inr (0, 2432), .inr (0, 2432), .inr (0, 2432), .inr (0, 2432), .inr (0, 2432), .inr (1, 2432), .inr (1, 2432), .inr (0, 2432), .inr (0, 2432), .inr (0, 608), .inr (0, 608), .inr (0, 2432), .inr (0, 608), .inr (0, 5), .inr (3, 20), .inr (0, 12), .inr (1, 608), .inr (1, 608)]) (List.append_assoc ([.inl 12] : List zQs) _ _) rfl (by decide) (ztb_1 (i := 212) rfl rfl) (by decide) (by decide) (Nat.le_of_ble_eq_true rfl) (Nat.le_of_ble_eq_true rfl) (Nat.le_of_ble_eq_true rfl) d_MO_init_898 ?_
  refine ay_putFR fl_MO_188 (sh_l ha) (ztb_7 (i := 70) rfl rfl) rfl rfl rfl (Or.inr ⟨_, rfl⟩) rfl (Nat.le_of_ble_eq_true rfl) d_MO_init_900 ?_
  refine aw_aload_n 0 d_MO_init_903 rfl rfl ?_
  refine aw_sipush 130 d_MO_init_904 (by decide) ?_
  refine ay_newa (t := 0) (n := 130) (1 + 55) (ln hn 55 rfl) (by omega) (([.inl 12] : List zQs) ++ [.inr (0, 1600), .inr (0, 6), .inr (2, 6), .inr (2, 6), .inr (2, 4), .inr (2, 8), .inr (2, 5), .inr (2, 4), .inr (2, 5), .inr (2, 5), .inr (2, 3), .inr (2, 5), .inr (2, 2), .inr (2, 4), .inr (2, 2), .inr (2, 5), .inr (2, 2), .inr (2, 7), .inr (2, 5), .inr (2, 4), .inr (2, 4), .inr (0, 184), .inr (0, 184), .inr (0, 184), .inr (0, 4), .inr (0, 4), .inr (3, 608), .inr (0, 608), .inr (0, 2048), .inr (0, 38912), .inr (0, 155648), .inr (0, 2432), .inr (0, 2432), .inr (1, 2432), .inr (1, 2432), .inr (1, 2432), .inr (0, 2432), .inr (0, 2432), .inr (0, 2432), .inr (0, 2432), .inr (0, 2432), .inr (0, 2432), .inr (1, 2432), .inr (1, 2432), .inr (0, 2432), .inr (0, 2432), .inr (0, 608), .inr (0, 608), .inr (0, 2432), .inr (0, 608), .inr (0, 5), .inr (3, 20), .inr (0, 12), .inr (1, 608), .inr (1, 608), .inr (0, 130)]) (List.append_assoc ([.inl 12] : List zQs) _ _) rfl (by decide) (ztb_1 (i := 42) rfl rfl) (by decide) (by decide) (Nat.le_of_ble_eq_true rfl) (Nat.le_of_ble_eq_true rfl) (Nat.le_of_ble_eq_true rfl) d_MO_init_907 ?_
  refine ay_putFR fl_MO_191 (sh_l ha) (ztb_7 (i := 71) rfl rfl) rfl rfl rfl (Or.inr ⟨_, rfl⟩) rfl (Nat.le_of_ble_eq_true rfl) d_MO_init_909 ?_
  refine aw_aload_n 0 d_MO_init_912 rfl rfl ?_
  refine aw_sipush 130 d_MO_init_913 (by decide) ?_
  refine ay_newa (t := 0) (n := 130) (1 + 56) (ln hn 56 rfl) (by omega) (([.inl 12] : List zQs) ++ [.inr (0, 1600), .inr (0, 6), .inr (2, 6), .inr (2, 6), .inr (2, 4), .inr (2, 8), .inr (2, 5), .inr (2, 4), .inr (2, 5), .inr (2, 5), .inr (2, 3), .inr (2, 5), .inr (2, 2), .inr (2, 4), .inr (2, 2), .inr (2, 5), .inr (2, 2), .inr (2, 7), .inr (2, 5), .inr (2, 4), .inr (2, 4), .inr (0, 184), .inr (0, 184), .inr (0, 184), .inr (0, 4), .inr (0, 4), .inr (3, 608), .inr (0, 608), .inr (0, 2048), .inr (0, 38912), .inr (0, 155648), .inr (0, 2432), .inr (0, 2432), .inr (1, 2432), .inr (1, 2432), .inr (1, 2432), .inr (0, 2432), .inr (0, 2432), .inr (0, 2432), .inr (0, 2432), .inr (0, 2432), .inr (0, 2432), .inr (1, 2432), .inr (1, 2432), .inr (0, 2432), .inr (0, 2432), .inr (0, 608), .inr (0, 608), .inr (0, 2432), .inr (0, 608), .inr (0, 5), .inr (3, 20), .inr (0, 12), .inr (1, 608), .inr (1, 608), .inr (0, 130), .inr (0, 130)]) (List.append_assoc ([.inl 12] : List zQs) _ _) rfl (by decide) (ztb_1 (i := 42) rfl rfl) (by decide) (by decide) (Nat.le_of_ble_eq_true rfl) (Nat.le_of_ble_eq_true rfl) (Nat.le_of_ble_eq_true rfl) d_MO_init_916 ?_
  refine ay_putFR fl_MO_194 (sh_l ha) (ztb_7 (i := 73) rfl rfl) rfl rfl rfl (Or.inr ⟨_, rfl⟩) rfl (Nat.le_of_ble_eq_true rfl) d_MO_init_918 ?_
  exact aw_vret (st := []) (Nat.le_of_ble_eq_true rfl) (Nat.le_of_ble_eq_true rfl) rfl d_MO_init_921 hq
