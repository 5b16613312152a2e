theorem XO_w {b n T : Nat} {g : Nat → Nat} {R R' : PRs} {m0 m1 : zM} {p : Bool × zM} (h : XO b n g T R m1 p) (f : RFx b m0 m1) (e : R' = R) : XO b n g T R' m0 p := by
  rw [e]; exact ⟨RFx_t f h.1, h.2⟩
theorem XO_b {b n T : Nat} {g : Nat → Nat} {R : PRs} {m0 : zM} {p : Bool × zM} (h : XO b n g T R m0 p) : ok (if p.1 = true then some (true, p.2) else some (false, p.2)) (XO b n g T R m0) := by
  obtain ⟨pb, pm⟩ := p
  cases pb with
  | true => exact ok_ip rfl (ok_mk h)
  | false => exact ok_in Bool.false_ne_true (ok_mk h)
theorem freeX {b n T q : Nat} {g : Nat → Nat} {R : PRs} {m0 m : zM} {v : Int32} {F : Bool × zM → Option (Bool × zM)} (c : Bool) (f0 : RFx b m0 m) (hv : v = nI q) (hF : ∀ m', F (false, m') = some (false, m')) (hy : c = true → ok (F (true, m)) (XO b n g T R m0)) (hn : c = false → R = .inl (5, q)) : ok (lt (f_Reader_isFree (b2i c) v m) F) (XO b n g T R m0) := by
  cases c with
  | true => exact ok_lt (hy rfl)
  | false =>
    obtain ⟨e2, f2, h2⟩ := refuX (m := m) (c := 5) (x := 5) (y := v) rfl hv
    have e : f_Reader_isFree (b2i false) v m = (false, (f_Reader_refuse 5 v m).2) := by
      unfold f_Reader_isFree f_Reader_isFree_J13 lt
      rw [if_pos (show b2i false = 0 from rfl)]
      show (if (f_Reader_refuse 5 v m).1 = true then (true, (f_Reader_refuse 5 v m).2) else (false, (f_Reader_refuse 5 v m).2)) = _
      rw [if_neg (by rw [e2]; decide)]
    rw [e]
    show ok (F (false, (f_Reader_refuse 5 v m).2)) _
    rw [hF]
    exact ok_mk (XO_i (RFx_t f0 (RFx_l f2 (by decide))) (hn rfl) h2)
theorem mb_row {b r : Nat} (hb : tbv b) (hr : r < 16) : mb li_Row (b + 7 + r) = some () := by
  unfold mb
  rw [if_pos]
  unfold li_Row
  have hb' : b = 66 ∨ b = 93 := hb
  simp
  omega
theorem stmtX {b n T t : Nat} {g P : Nat → Nat} {m : zM} (hb : tbv b) (hd : dV P) (hS : XSt b n g T t P m) : ok (f_Reader_statement m) (XO b n g T (stmR n g t P) m) := by
  have hb' : b = 66 ∨ b = 93 := hb
  have p8 := hd.2.1.2.2.2.2.2.1
  have p5 := hd.2.1.2.2.1
  have p6 := hd.2.1.2.2.2.1
  have p1 := (hd.1 1 (by decide)).1
  have p2 := (hd.1 2 (by decide)).1
  have T16 := hS.1.1.1
  have tl := hS.1.2.2.1
  have eq := CsX_p hS.1
  unfold f_Reader_statement
  refine ok_ix hS.1.2.1 (by omega : t < 1601) (by decide) ?_
  rw [eq]
  refine woS (w := 2) hb p8 hS fl2_rf (by decide) (fun m2 i2 f2 S2 _ => ok_ip rfl ?_) (fun m2 i2 f2 S2 _ => ok_in Bool.false_ne_true ?_)
  · have rq : stmR n g t P = if P 1 = 0 then nmsR n g 1 6 (t + 1) P else .inl (5, tst n g t) := by unfold stmR; rw [if_pos (iWb_t i2)]
    refine ok_eb (tb_ok S2.2.1 hb) (ok_ix rfl (by decide : 1 < 3) (by decide) ?_)
    unfold f_Reader_statement_J37
    refine ok_ee (P 1) 0 (fun z => ?_) (fun z => ?_) (hx := S2.2.2.1.2.1 1 (by decide))
    · refine freeX true f2 rfl (fun _ => rfl) (fun _ => ok_ip rfl (ok_bi (namesX (k := 1) hb (by decide) hd z S2) (fun p hp => XO_b (XO_w hp f2 ?_)))) (fun y => (by cases y))
      rw [rq, if_pos z]
    · exact freeX false f2 rfl (fun _ => rfl) (fun y => (by cases y)) (fun _ => by rw [rq, if_neg z])
  refine woS (w := 3) hb p8 S2 f2 (by decide) (fun m3 i3 f3 S3 _ => ok_ip rfl ?_) (fun m3 i3 f3 S3 _ => ok_in Bool.false_ne_true ?_)
  · have rq : stmR n g t P = if P 2 = 0 then nmsR n g 2 6 (t + 1) P else .inl (5, tst n g t) := by unfold stmR; rw [if_neg (iWb_n i2), if_pos (iWb_t i3)]
    refine ok_eb (tb_ok S3.2.1 hb) (ok_ix rfl (by decide : 2 < 3) (by decide) ?_)
    unfold f_Reader_statement_J85
    refine ok_ee (P 2) 0 (fun z => ?_) (fun z => ?_) (hx := S3.2.2.1.2.1 2 (by decide))
    · refine freeX true f3 rfl (fun _ => rfl) (fun _ => ok_ip rfl (ok_bi (namesX (k := 2) hb (by decide) hd z S3) (fun p hp => XO_b (XO_w hp f3 ?_)))) (fun y => (by cases y))
      rw [rq, if_pos z]
    · exact freeX false f3 rfl (fun _ => rfl) (fun y => (by cases y)) (fun _ => by rw [rq, if_neg z])
  refine woS (w := 4) hb p8 S3 f3 (by decide) (fun m4 i4 f4 S4 _ => ok_ip rfl ?_) (fun m4 i4 f4 S4 _ => ok_in Bool.false_ne_true ?_)
  · have rq : stmR n g t P = if iWb n g (t + 1) 6 = true then .inr (t + 2, upn P 4 1) else if iWb n g (t + 1) 5 = true then .inr (t + 2, upn P 4 0) else .inl (1, tst n g (t + 1)) := by unfold stmR; rw [if_neg (iWb_n i2), if_neg (iWb_n i3), if_pos (iWb_t i4)]
    refine ok_eb (tb_ok S4.2.1 hb) (ok_eb (iNxtRX (w := 6) S4.1 (by decide)) (ok_lt ?_))
    have o4 : ∀ v i, i ≠ 4 → upn P 4 v i = P i := fun v i hi => upn_o hi
    have mk4 : ∀ v : Nat, XSt b n g T (t + 1) (upn P 4 v) (sI m4 b 3 (nI v)) := fun v => XSt_z hb p8 S4 (fun i hi => o4 v i (by omega)) (by
      have tx := S4.2.2.1.1
      refine ⟨?_, by rw [rd_I1, upn_e], ?_, ?_, ?_, ?_⟩
      · rw [rd_I0 (by omega), o4 v 3 (by omega)]; exact tx.1
      · rw [rd_I0 (by omega), o4 v 8 (by omega)]; exact tx.2.2.1
      · rw [rd_I0 (by omega), o4 v 5 (by omega)]; exact tx.2.2.2.1
      · rw [rd_I0 (by omega), o4 v 6 (by omega)]; exact tx.2.2.2.2.1
      · rw [rd_I0 (by omega), o4 v 7 (by omega)]; exact tx.2.2.2.2.2)
    unfold f_Reader_statement_J146
    by_cases z : iWw n g (t + 1) 6
    · rw [iWb_t z] at rq ⊢
      refine woS (w := 6) (Q := upn P 4 1) hb (by rw [o4 1 8 (by omega)]; exact p8) (mk4 1) (RFx_t f4 (RFx_I (k := 0) (by decide))) (by decide) (fun m6 i6 f6 S6 _ => ok_ip rfl (ok_mk (XO_r f6 (by rw [rq, if_pos rfl]) S6))) (fun m6 i6 => absurd z i6)
    · have zf : iWb n g (t + 1) 6 = false := Bool.eq_false_iff.mpr (iWb_n z)
      rw [zf] at rq ⊢
      rw [if_neg Bool.false_ne_true] at rq
      refine woS (w := 6) (Q := upn P 4 0) hb (by rw [o4 0 8 (by omega)]; exact p8) (mk4 0) (RFx_t f4 (RFx_I (k := 0) (by decide))) (by decide) (fun m6 i6 => absurd i6 z) (fun m6 i6 f6 S6 _ => ok_in Bool.false_ne_true ?_)
      refine akS (w := 5) hb (by rw [o4 0 8 (by omega)]; exact p8) S6 f6 (by decide) (fun m7 i7 f7 S7 => ok_ip rfl (ok_mk (XO_r f7 (by rw [rq, if_pos (iWb_t i7)]) S7))) (fun m7 i7 f7 l7 => ok_in Bool.false_ne_true (ok_mk (XO_i f7 (by rw [rq, if_neg (iWb_n i7)]) l7)))
  refine woS (w := 7) hb p8 S4 f4 (by decide) (fun m5 i5 f5 S5 _ => ok_ip rfl ?_) (fun m5 i5 f5 S5 _ => ok_in Bool.false_ne_true ?_)
  · have rq : stmR n g t P = if 4 ≤ P 5 then .inl (5, tst n g t) else nvR n g 3 (t + 1) P 0 := by unfold stmR; rw [if_neg (iWb_n i2), if_neg (iWb_n i3), if_neg (iWb_n i4), if_pos (iWb_t i5)]
    refine ok_eb (tb_ok S5.2.1 hb) ?_
    unfold f_Reader_statement_J178
    refine ok_le 4 (P 5) (fun z => ?_) (fun z => ?_) (hy := S5.2.2.1.1.2.2.2.1)
    · exact freeX false f5 rfl (fun _ => rfl) (fun y => (by cases y)) (fun _ => by rw [rq, if_pos z])
    · refine freeX true f5 rfl (fun _ => rfl) (fun _ => ok_ip rfl (ok_bi (neverX hb hd z S5) (fun p hp => XO_b (XO_w hp f5 ?_)))) (fun y => (by cases y))
      rw [rq, if_neg (by omega)]
  refine woS (w := 9) hb p8 S5 f5 (by decide) (fun m6 i6 f6 S6 _ => ok_ip rfl ?_) (fun m6 i6 f6 S6 _ => ok_in Bool.false_ne_true ?_)
  · have rq : stmR n g t P = if P 6 = 0 then wnR n g (t + 1) P else .inl (5, tst n g t) := by unfold stmR; rw [if_neg (iWb_n i2), if_neg (iWb_n i3), if_neg (iWb_n i4), if_neg (iWb_n i5), if_pos (iWb_t i6)]
    refine ok_eb (tb_ok S6.2.1 hb) ?_
    unfold f_Reader_statement_J224
    refine ok_mm (P 6) (fun z => ?_) (fun z => ?_) (hx := S6.2.2.1.1.2.2.2.2.1)
    · refine freeX true f6 rfl (fun _ => rfl) (fun _ => ok_ip rfl (ok_bi (wantX hb hd S6) (fun p hp => XO_b (XO_w hp f6 ?_)))) (fun y => (by cases y))
      rw [rq, if_pos z]
    · exact freeX false f6 rfl (fun _ => rfl) (fun y => (by cases y)) (fun _ => by rw [rq, if_neg (by omega)])
  refine woS (w := 10) hb p8 S6 f6 (by decide) (fun m7 i7 f7 S7 _ => ok_ip rfl ?_) (fun m7 i7 f7 S7 _ => ok_in Bool.false_ne_true ?_)
  · have rq : stmR n g t P = if 16 ≤ P 8 then .inl (5, tst n g t) else agR n g (t + 1) P := by unfold stmR; rw [if_neg (iWb_n i2), if_neg (iWb_n i3), if_neg (iWb_n i4), if_neg (iWb_n i5), if_neg (iWb_n i6), if_pos (iWb_t i7)]
    refine ok_eb (tb_ok S7.2.1 hb) ?_
    unfold f_Reader_statement_J271
    refine ok_le 16 (P 8) (fun z => ?_) (fun z => ?_) (hy := S7.2.2.1.1.2.2.1)
    · exact freeX false f7 rfl (fun _ => rfl) (fun y => (by cases y)) (fun _ => by rw [rq, if_pos z])
    · refine freeX true f7 rfl (fun _ => rfl) (fun _ => ok_ip rfl (ok_eb (tb_ok S7.2.1 hb) (ok_bi (newRowX (v := 0) hb hd z S7 (by decide)) (fun p ⟨e, fr, W⟩ => ?_)))) (fun y => (by cases y))
      obtain ⟨pr, pm⟩ := p
      have e : pr = b + 7 + P 8 := e
      subst e
      refine ok_eb (mb_row hb z) (ok_bi (agRowX hb hd z W (RFx_t f7 fr)) (fun p hp => XO_b ?_))
      rw [rq, if_neg (by omega)]; exact hp
  refine woS (w := 14) hb p8 S7 f7 (by decide) (fun m8 i8 f8 S8 _ => ok_ip rfl ?_) (fun m8 i8 f8 S8 _ => ok_in Bool.false_ne_true ?_)
  · have rq : stmR n g t P = if 16 ≤ P 8 then .inl (5, tst n g t) else hmR n g (t + 1) P := by unfold stmR; rw [if_neg (iWb_n i2), if_neg (iWb_n i3), if_neg (iWb_n i4), if_neg (iWb_n i5), if_neg (iWb_n i6), if_neg (iWb_n i7), if_pos (iWb_t i8)]
    refine ok_eb (tb_ok S8.2.1 hb) ?_
    unfold f_Reader_statement_J326
    refine ok_le 16 (P 8) (fun z => ?_) (fun z => ?_) (hy := S8.2.2.1.1.2.2.1)
    · exact freeX false f8 rfl (fun _ => rfl) (fun y => (by cases y)) (fun _ => by rw [rq, if_pos z])
    · refine freeX true f8 rfl (fun _ => rfl) (fun _ => ok_ip rfl (ok_eb (tb_ok S8.2.1 hb) (ok_bi (newRowX (v := 1) hb hd z S8 (by decide)) (fun p ⟨e, fr, W⟩ => ?_)))) (fun y => (by cases y))
      obtain ⟨pr, pm⟩ := p
      have e : pr = b + 7 + P 8 := e
      subst e
      refine ok_eb (mb_row hb z) (ok_bi (hmRowX hb hd z W (RFx_t f8 fr)) (fun p hp => XO_b ?_))
      rw [rq, if_neg (by omega)]; exact hp
  · have rq : stmR n g t P = .inl (1, tst n g t) := by unfold stmR; rw [if_neg (iWb_n i2), if_neg (iWb_n i3), if_neg (iWb_n i4), if_neg (iWb_n i5), if_neg (iWb_n i6), if_neg (iWb_n i7), if_neg (iWb_n i8)]
    refine ok_bi (unexX S8.1) (fun p ⟨e2, f9, h9⟩ => ok_mk ?_)
    obtain ⟨pb, pm⟩ := p
    have e2 : pb = false := e2
    subst e2
    exact XO_i (RFx_t f8 (RFx_l f9 (by decide))) rq h9
