/-- the CPS steps for a row in the making -/
theorem knW {b n T t k : Nat} {g P F : Nat → Nat} {m0 mz m : zM} {α : Type} {f : Bool × zM → Option α} {K : α → Prop} (hb : tbv b) (hd : dV P) (h8 : P 8 < 16) (hS : RWx b n g T t P F mz m) (f0 : RFx b m0 m) (hk : k < 3) (hy : ∀ j m', knR n g P k t = .inr j → j < P k → RFx b m0 m' → RWx b n g T (t + 1) P F mz m' → m'.1 65 6 = nI j → ok (f (true, m')) K) (hn : ∀ c q m', knR n g P k t = .inl (c, q) → RFx b m0 m' → FlX c q m' → ok (f (false, m')) K) : ok ((f_Reader_known (nI k) m).bind f) K := by
  have e8 : rwA P F 8 = P 8 + 1 := if_pos rfl
  have S := RWx_S hd h8 hS
  have kq := knR_o (n := n) (g := g) (k := k) (t := t) (P := P) (P' := rwA P F) hk (hd.1 k hk).1 rwA_s
  refine ok_bi (knownX (k := k) hb S.2.1 (nmV_o hd.1 rwA_s) S.2.2.1 (by omega) S.1 hk) (fun p h => ?_)
  obtain ⟨pb, pm⟩ := p
  rw [kq] at h
  rcases h with ⟨j, r1, j1, e1, f1, x1, C1⟩ | ⟨c, q, r1, e1, f1, l1⟩
  · have e1 : pb = true := e1
    subst e1
    exact hy j pm r1 (knR_l r1) (RFx_t f0 (RFx_l f1 (by decide))) (RWx_l hb h8 hS C1 (fl2_su f1 (by decide))) x1
  · have e1 : pb = false := e1
    subst e1
    exact hn c q pm r1 (RFx_t f0 (RFx_l f1 (by decide))) l1
theorem akW {b n T t w : Nat} {g P F : Nat → Nat} {m0 mz m : zM} {α : Type} {f : Bool × zM → Option α} {K : α → Prop} (hb : tbv b) (h8 : P 8 < 16) (hS : RWx b n g T t P F mz m) (f0 : RFx b m0 m) (hw : w < 19) (hy : ∀ m', iWw n g t w → RFx b m0 m' → RWx b n g T (t + 1) P F mz m' → ok (f (true, m')) K) (hn : ∀ m', ¬ iWw n g t w → RFx b m0 m' → FlX 1 (tst n g t) m' → ok (f (false, m')) K) : ok ((f_Reader_ask (wsI w) m).bind f) K := by
  refine ok_bi (askX hS.1 hw) (fun p h => ?_)
  obtain ⟨pb, pm⟩ := p
  rcases h with ⟨i1, e1, f1, C1⟩ | ⟨i1, e1, f1, l1⟩
  · have e1 : pb = true := e1
    subst e1
    exact hy pm i1 (RFx_t f0 (RFx_l f1 (by decide))) (RWx_l hb h8 hS C1 (fl2_su f1 (by decide)))
  · have e1 : pb = false := e1
    subst e1
    exact hn pm i1 (RFx_t f0 (RFx_l f1 (by decide))) l1
theorem mbW {b n T t w k : Nat} {g P F : Nat → Nat} {m0 mz m : zM} {α : Type} {f : Bool × zM → Option α} {K : α → Prop} (hb : tbv b) (hd : dV P) (h8 : P 8 < 16) (hS : RWx b n g T t P F mz m) (f0 : RFx b m0 m) (hw : w < 19) (hk : k < 3) (hy : ∀ t' v m', mbR n g P w k t = .inr (t', v) → v ≤ P k → RFx b m0 m' → RWx b n g T t' P F mz m' → m'.1 65 6 = nI v - 1 → ok (f (true, m')) K) (hn : ∀ c q m', mbR n g P w k t = .inl (c, q) → RFx b m0 m' → FlX c q m' → ok (f (false, m')) K) : ok ((f_Reader_maybe (wsI w) (nI k) m).bind f) K := by
  have key : ok (f_Reader_maybe (wsI w) (nI k) m) (fun p => (∃ t' v, mbR n g P w k t = .inr (t', v) ∧ p.1 = true ∧ RFx b m0 p.2 ∧ RWx b n g T t' P F mz p.2 ∧ p.2.1 65 6 = nI v - 1) ∨ (∃ c q, mbR n g P w k t = .inl (c, q) ∧ p.1 = false ∧ RFx b m0 p.2 ∧ FlX c q p.2)) := by
    unfold f_Reader_maybe f_Reader_maybe_J21
    have f1 : fl2 [] [(65, 6)] m (sI m 65 6 (-1)) := fl2_I (inS_f (by simp))
    have S1 := RWx_l hb h8 hS (CsX_f hS.1 f1 (by decide) (by decide)) (fl2_su f1 (by decide))
    have f1' : RFx b m0 (sI m 65 6 (-1)) := RFx_t f0 (RFx_l f1 (by decide))
    refine ok_lt (ok_bi (wordX S1.1 hw) (fun p ⟨e2, f2, C2⟩ => ?_))
    obtain ⟨pb, m2⟩ := p
    have e2 : pb = iWb n g t w := e2
    have f2 : fl2 [] [(65, 5)] (sI m 65 6 (-1)) m2 := f2
    have C2 : CsX n g T (if iWb n g t w = true then t + 1 else t) m2 := C2
    subst e2
    by_cases z : iWw n g t w
    · rw [iWb_t z] at C2 ⊢
      have C2 : CsX n g T (t + 1) m2 := by rw [if_pos rfl] at C2; exact C2
      have mx : mbR n g P w k t = (match knR n g P k (t + 1) with | .inl e => .inl e | .inr j => .inr (t + 2, j + 1)) := if_pos (iWb_t z)
      refine ok_ip rfl (knW hb hd h8 (RWx_l hb h8 S1 C2 (fl2_su f2 (by decide))) (RFx_t f1' (RFx_l f2 (by decide))) hk (fun j m3 r3 j3 f3 S3 x3 => ok_ip rfl (ok_mk (Or.inl ⟨t + 2, j + 1, ?_, rfl, f3, S3, ?_⟩))) (fun c q m3 r3 f3 l3 => ok_in Bool.false_ne_true (ok_mk (Or.inr ⟨c, q, ?_, rfl, f3, l3⟩))))
      · rw [mx, r3]
      · rw [nI_pred]; exact x3
      · rw [mx, r3]
    · have zf : iWb n g t w = false := Bool.eq_false_iff.mpr (iWb_n z)
      rw [zf] at C2 ⊢
      have C2 : CsX n g T t m2 := by rw [if_neg Bool.false_ne_true] at C2; exact C2
      refine ok_in Bool.false_ne_true (ok_mk (Or.inl ⟨t, 0, if_neg (iWb_n z), rfl, RFx_t f1' (RFx_l f2 (by decide)), RWx_l hb h8 S1 C2 (fl2_su f2 (by decide)), ?_⟩))
      show m2.1 65 6 = _
      rw [fl2_i f2 (by decide), rd_I1]; decide
  refine ok_bi key (fun p h => ?_)
  obtain ⟨pb, pm⟩ := p
  rcases h with ⟨t', v, r1, e1, f1, S1, x1⟩ | ⟨c, q, r1, e1, f1, l1⟩
  · have e1 : pb = true := e1
    subst e1
    exact hy t' v pm r1 (mbR_l r1) f1 S1 x1
  · have e1 : pb = false := e1
    subst e1
    exact hn c q pm r1 f1 l1
theorem RFx_W {b r i : Nat} {v : Int32} {m : zM} (hr : r < 16) : RFx b m (sI m (b + 7 + r) i v) := by
  have := RFx_I (b := b) (k := 7 + r) (i := i) (v := v) (m := m) (by omega)
  rw [show b + (7 + r) = b + 7 + r by omega] at this
  exact this
def neg1 : Nat := 4294967295
theorem newRowX {b n T t v : Nat} {g P : Nat → Nat} {m : zM} (hb : tbv b) (hd : dV P) (h8 : P 8 < 16) (hS : XSt b n g T t P m) (hv : v ≤ 1) : ok (f_Table_newRow b (nI v) m) (fun p => p.1 = b + 7 + P 8 ∧ RFx b m p.2 ∧ RWx b n g T t P (rwF v neg1 0 neg1 0 0 0 0) m p.2) := by
  have hb' : b = 66 ∨ b = 93 := hb
  obtain ⟨C, hT, tx, g8⟩ := hS
  unfold f_Table_newRow f_Row_clear
  have mn : f_Math_min (m.1 b 4) 15 = nI (P 8) := by
    unfold f_Math_min
    rw [tx.1.2.2.1, if_neg (show ¬ (15 : Int32) < nI (P 8) from fun z => by have := (nI_ltI (a := 15) (b := P 8) (by decide) (by omega)).mp z; omega)]
  rw [mn]
  have ebt : bt (nI v) = some () := by
    unfold bt
    rw [if_pos]
    rcases (show v = 0 ∨ v = 1 by omega) with z | z <;> subst z
    · exact Or.inl rfl
    · exact Or.inr rfl
  refine ok_ix rfl h8 (by decide) ?_
  rw [ebt]
  refine ok_eb rfl (ok_lt (ok_ix rfl h8 (by decide) (ok_mk ⟨rfl, ?_, ?_⟩)))
  · refine RFx_t ?_ (RFx_I (k := 0) (by decide))
    exact RFx_t (RFx_t (RFx_t (RFx_t (RFx_t (RFx_t (RFx_t (RFx_W h8) (RFx_W h8)) (RFx_W h8)) (RFx_W h8)) (RFx_W h8)) (RFx_W h8)) (RFx_W h8)) (RFx_W h8)
  · have cd : ∀ (mm : zM) k x, CsX n g T t mm → CsX n g T t (sI mm (b + 7 + P 8) k x) := fun mm k x hC => by
      have := CsX_d (k := 7 + P 8) (i := k) (v := x) hb (by omega) hC
      rw [show b + (7 + P 8) = b + 7 + P 8 by omega] at this
      exact this
    refine ⟨?_, hT, tx, ⟨?_, fun j hj => ?_, fun c c1 c2 c3 => ?_, fun j hj => ?_⟩, g8⟩
    · exact CsX_d (k := 0) hb (by decide) (cd _ _ _ (cd _ _ _ (cd _ _ _ (cd _ _ _ (cd _ _ _ (cd _ _ _ (cd _ _ _ (cd _ _ _ C))))))))
    · rw [rd_I1, nI_1]
    · rw [rd_I0 (by omega), rd_I0 (by omega), rd_I0 (by omega), rd_I0 (by omega), rd_I0 (by omega), rd_I0 (by omega), rd_I0 (by omega), rd_I0 (by omega), rd_I0 (by omega)]
    · rw [rd_Ic (by omega), rd_Ic (by omega), rd_Ic (by omega), rd_Ic (by omega), rd_Ic (by omega), rd_Ic (by omega), rd_Ic (by omega), rd_Ic (by omega), rd_Ic (by omega)]
    · rw [rd_I0 (by omega)]
      rcases (show j = 0 ∨ j = 1 ∨ j = 2 ∨ j = 3 ∨ j = 4 ∨ j = 5 ∨ j = 6 ∨ j = 7 by omega) with z | z | z | z | z | z | z | z <;> subst z
      · rw [rd_I0 (by omega), rd_I0 (by omega), rd_I0 (by omega), rd_I0 (by omega), rd_I0 (by omega), rd_I0 (by omega), rd_I0 (by omega), rd_I1]; rfl
      · rw [rd_I0 (by omega), rd_I0 (by omega), rd_I0 (by omega), rd_I0 (by omega), rd_I0 (by omega), rd_I0 (by omega), rd_I1]
        show (-1 : Int32) = nI neg1
        decide
      · rw [rd_I0 (by omega), rd_I0 (by omega), rd_I0 (by omega), rd_I0 (by omega), rd_I0 (by omega), rd_I1]
        show (-1 : Int32) = nI 0 - 1
        decide
      · rw [rd_I0 (by omega), rd_I0 (by omega), rd_I0 (by omega), rd_I0 (by omega), rd_I1]
        show (-1 : Int32) = nI neg1
        decide
      · rw [rd_I0 (by omega), rd_I0 (by omega), rd_I0 (by omega), rd_I1]
        show (-1 : Int32) = nI 0 - 1
        decide
      · rw [rd_I0 (by omega), rd_I0 (by omega), rd_I1]
        show (-1 : Int32) = nI 0 - 1
        decide
      · rw [rd_I0 (by omega), rd_I1]
        show (-1 : Int32) = nI 0 - 1
        decide
      · rw [rd_I1]; rfl
theorem XO_S {b n T t t' : Nat} {g P F F' : Nat → Nat} {R : PRs} {m0 mz m : zM} (hd : dV P) (h8 : P 8 < 16) (h : RWx b n g T t' P F mz m) (f0 : RFx b m0 m) (e : R = .inr (t', rwA P F')) (hF : ∀ k, k < 8 → F k = F' k) : XO b n g T R m0 (true, m) := by
  refine XO_r f0 e ?_
  rw [← rwA_cg hF]
  exact RWx_S hd h8 h
theorem agRowX {b n T t : Nat} {g P : Nat → Nat} {m0 mz m : zM} (hb : tbv b) (hd : dV P) (h8 : P 8 < 16) (hS : RWx b n g T t P (rwF 0 neg1 0 neg1 0 0 0 0) mz m) (f0 : RFx b m0 m) : ok (f_Reader_agentRow (b + 7 + P 8) m) (XO b n g T (agR n g t P) m0) := by
  have hb' : b = 66 ∨ b = 93 := hb
  unfold f_Reader_agentRow
  refine knW (k := 0) hb hd h8 hS f0 (by decide) (fun a m1 r1 a1 f1 S1 x1 => ok_ip rfl (ok_lt ?_)) (fun c q m1 r1 f1 l1 => ok_in Bool.false_ne_true (ok_mk (XO_i f1 (by unfold agR; rw [r1]) l1)))
  have S1' := RWx_w (k := 1) (v := a) (x := m1.1 65 6) hb h8 S1 (by decide) (by rw [x1]; unfold fI; rw [if_neg (by decide), upn_e])
  refine mbW (w := 11) (k := 2) hb hd h8 S1' (RFx_t f1 (RFx_W h8)) (by decide) (by decide) (fun t2 w m3 r3 w3 f3 S3 x3 => ok_ip rfl (ok_lt ?_)) (fun c q m3 r3 f3 l3 => ok_in Bool.false_ne_true (ok_mk (XO_i f3 (by unfold agR; simp only [r1, r3]) l3)))
  have S3' := RWx_w (k := 2) (v := w) (x := m3.1 65 6) hb h8 S3 (by decide) (by rw [x3]; unfold fI; rw [if_pos (by decide), upn_e])
  refine akW (w := 12) hb h8 S3' (RFx_t f3 (RFx_W h8)) (by decide) (fun m5 i5 f5 S5 => ok_ip rfl ?_) (fun m5 i5 f5 l5 => ok_in Bool.false_ne_true (ok_mk (XO_i f5 (by unfold agR; simp only [r1, r3]; rw [if_neg (iWb_n i5)]) l5)))
  refine knW (k := 0) hb hd h8 S5 f5 (by decide) (fun d m6 r6 d6 f6 S6 x6 => ok_ip rfl (ok_lt ?_)) (fun c q m6 r6 f6 l6 => ok_in Bool.false_ne_true (ok_mk (XO_i f6 (by unfold agR; simp only [r1, r3, r6]; rw [if_pos (iWb_t i5)]) l6)))
  have S6' := RWx_w (k := 3) (v := d) (x := m6.1 65 6) hb h8 S6 (by decide) (by rw [x6]; unfold fI; rw [if_neg (by decide), upn_e])
  refine mbW (w := 13) (k := 2) hb hd h8 S6' (RFx_t f6 (RFx_W h8)) (by decide) (by decide) (fun t4 gv m8 r8 w8 f8 S8 x8 => ok_ip rfl (ok_lt (ok_mk ?_))) (fun c q m8 r8 f8 l8 => ok_in Bool.false_ne_true (ok_mk (XO_i f8 (by unfold agR; simp only [r1, r3, r6, r8]; rw [if_pos (iWb_t i5)]) l8)))
  have S8' := RWx_w (k := 4) (v := gv) (x := m8.1 65 6) hb h8 S8 (by decide) (by rw [x8]; unfold fI; rw [if_pos (by decide), upn_e])
  refine XO_S (t := t) hd h8 S8' (RFx_t f8 (RFx_W h8)) (show agR n g t P = .inr (t4, rwA P (rwF 0 a w d gv 0 0 0)) by unfold agR; simp only [r1, r3, r6, r8]; rw [if_pos (iWb_t i5)]) (fun k hk => ?_)
  rcases (show k = 0 ∨ k = 1 ∨ k = 2 ∨ k = 3 ∨ k = 4 ∨ k = 5 ∨ k = 6 ∨ k = 7 by omega) with z | z | z | z | z | z | z | z <;> subst z <;> rfl
theorem hmRowX {b n T t : Nat} {g P : Nat → Nat} {m0 mz m : zM} (hb : tbv b) (hd : dV P) (h8 : P 8 < 16) (hS : RWx b n g T t P (rwF 1 neg1 0 neg1 0 0 0 0) mz m) (f0 : RFx b m0 m) : ok (f_Reader_homeRow (b + 7 + P 8) m) (XO b n g T (hmR n g t P) m0) := by
  have hb' : b = 66 ∨ b = 93 := hb
  unfold f_Reader_homeRow
  refine knW (k := 1) hb hd h8 hS f0 (by decide) (fun a m1 r1 a1 f1 S1 x1 => ok_ip rfl (ok_lt ?_)) (fun c q m1 r1 f1 l1 => ok_in Bool.false_ne_true (ok_mk (XO_i f1 (by unfold hmR; rw [r1]) l1)))
  have S1' := RWx_w (k := 1) (v := a) (x := m1.1 65 6) hb h8 S1 (by decide) (by rw [x1]; unfold fI; rw [if_neg (by decide), upn_e])
  refine akW (w := 11) hb h8 S1' (RFx_t f1 (RFx_W h8)) (by decide) (fun m3 i3 f3 S3 => ok_ip rfl ?_) (fun m3 i3 f3 l3 => ok_in Bool.false_ne_true (ok_mk (XO_i f3 (by unfold hmR; simp only [r1]; rw [if_neg (iWb_n i3)]) l3)))
  refine knW (k := 2) hb hd h8 S3 f3 (by decide) (fun w m4 r4 w4 f4 S4 x4 => ok_ip rfl (ok_lt ?_)) (fun c q m4 r4 f4 l4 => ok_in Bool.false_ne_true (ok_mk (XO_i f4 (by unfold hmR; simp only [r1, r4]; rw [if_pos (iWb_t i3)]) l4)))
  have S4' := RWx_w (k := 2) (v := w + 1) (x := m4.1 65 6) hb h8 S4 (by decide) (by rw [x4]; unfold fI; rw [if_pos (by decide), upn_e, nI_pred])
  refine akW (w := 12) hb h8 S4' (RFx_t f4 (RFx_W h8)) (by decide) (fun m6 i6 f6 S6 => ok_ip rfl ?_) (fun m6 i6 f6 l6 => ok_in Bool.false_ne_true (ok_mk (XO_i f6 (by unfold hmR; simp only [r1, r4]; rw [if_pos (iWb_t i3), if_neg (iWb_n i6)]) l6)))
  refine knW (k := 1) hb hd h8 S6 f6 (by decide) (fun d m7 r7 d7 f7 S7 x7 => ok_ip rfl (ok_lt ?_)) (fun c q m7 r7 f7 l7 => ok_in Bool.false_ne_true (ok_mk (XO_i f7 (by unfold hmR; simp only [r1, r4, r7]; rw [if_pos (iWb_t i3), if_pos (iWb_t i6)]) l7)))
  have S7' := RWx_w (k := 3) (v := d) (x := m7.1 65 6) hb h8 S7 (by decide) (by rw [x7]; unfold fI; rw [if_neg (by decide), upn_e])
  refine mbW (w := 15) (k := 2) hb hd h8 S7' (RFx_t f7 (RFx_W h8)) (by decide) (by decide) (fun t2 gv m9 r9 w9 f9 S9 x9 => ok_ip rfl (ok_lt ?_)) (fun c q m9 r9 f9 l9 => ok_in Bool.false_ne_true (ok_mk (XO_i f9 (by unfold hmR; simp only [r1, r4, r7, r9]; rw [if_pos (iWb_t i3), if_pos (iWb_t i6)]) l9)))
  have S9' := RWx_w (k := 4) (v := gv) (x := m9.1 65 6) hb h8 S9 (by decide) (by rw [x9]; unfold fI; rw [if_pos (by decide), upn_e])
  refine mbW (w := 16) (k := 2) hb hd h8 S9' (RFx_t f9 (RFx_W h8)) (by decide) (by decide) (fun t3 tl mB rB wB fB SB xB => ok_ip rfl (ok_lt ?_)) (fun c q mB rB fB lB => ok_in Bool.false_ne_true (ok_mk (XO_i fB (by unfold hmR; simp only [r1, r4, r7, r9, rB]; rw [if_pos (iWb_t i3), if_pos (iWb_t i6)]) lB)))
  have SB' := RWx_w (k := 5) (v := tl) (x := mB.1 65 6) hb h8 SB (by decide) (by rw [xB]; unfold fI; rw [if_pos (by decide), upn_e])
  refine ok_eb (iNxtRX (w := 18) SB'.1 (by decide)) (ok_lt ?_)
  have hq : ∀ x, hmR n g t P = x ↔ (match mbR n g P (if iWb n g t3 18 = true then 18 else 17) 0 t3 with | .inl e => .inl e | .inr (t4, ot) => .inr (t4, rwA P (rwF 1 a (w + 1) d gv tl ot (if iWb n g t3 18 = true then 1 else 0)))) = x := fun x => by
    unfold hmR
    simp only [r1, r4, r7, r9, rB]
    rw [if_pos (iWb_t i3), if_pos (iWb_t i6)]
    exact Iff.rfl
  obtain ⟨F5, hF5, SB2⟩ : ∃ F5, F5 = upn (upn (upn (upn (upn (rwF 1 neg1 0 neg1 0 0 0 0) 1 a) 2 (w + 1)) 3 d) 4 gv) 5 tl ∧ RWx b n g T t3 P F5 mz (sI mB (b + 7 + P 8) 5 (mB.1 65 6)) := ⟨_, rfl, SB'⟩
  have f12 : RFx b m0 (sI mB (b + 7 + P 8) 5 (mB.1 65 6)) := RFx_t fB (RFx_W h8)
  have go : ∀ (w' sm : Nat) (mC : zM), w' < 19 → w' = (if iWb n g t3 18 = true then 18 else 17) → sm = (if iWb n g t3 18 = true then 1 else 0) → RFx b m0 mC → RWx b n g T t3 P (upn F5 7 sm) mz mC → ok (f_Reader_homeRow_J138 (b + 7 + P 8) (wsI w') mC) (XO b n g T (hmR n g t P) m0) := by
    intro w' sm mC hw' ew es fC SC
    unfold f_Reader_homeRow_J138
    rw [← ew, ← es] at hq
    refine mbW (w := w') (k := 0) hb hd h8 SC fC hw' (by decide) (fun t4 ot mD rD wD fD SD xD => ok_ip rfl (ok_lt (ok_mk ?_))) (fun c q mD rD fD lD => ok_in Bool.false_ne_true (ok_mk (XO_i fD ((hq _).mpr (by rw [rD])) lD)))
    have SD' := RWx_w (k := 6) (v := ot) (x := mD.1 65 6) hb h8 SD (by decide) (by rw [xD]; unfold fI; rw [if_pos (by decide), upn_e])
    refine XO_S (t := t) hd h8 SD' (RFx_t fD (RFx_W h8)) ((hq (.inr (t4, rwA P (rwF 1 a (w + 1) d gv tl ot sm)))).mpr (by rw [rD])) (fun k hk => ?_)
    rw [hF5]
    rcases (show k = 0 ∨ k = 1 ∨ k = 2 ∨ k = 3 ∨ k = 4 ∨ k = 5 ∨ k = 6 ∨ k = 7 by omega) with z | z | z | z | z | z | z | z <;> subst z <;> rfl
  by_cases z : iWw n g t3 18
  · rw [iWb_t z]
    have S14 := RWx_w (k := 7) (v := 1) (x := b2i true) hb h8 SB2 (by decide) (by unfold fI; rw [if_neg (by decide), upn_e]; rfl)
    refine ok_in (by rw [rd_I1]; decide) (go 18 1 _ (by decide) (by rw [if_pos (iWb_t z)]) (by rw [if_pos (iWb_t z)]) (RFx_t f12 (RFx_W h8)) S14)
  · have zf : iWb n g t3 18 = false := Bool.eq_false_iff.mpr (iWb_n z)
    rw [zf]
    have S14 := RWx_w (k := 7) (v := 0) (x := b2i false) hb h8 SB2 (by decide) (by unfold fI; rw [if_neg (by decide), upn_e]; rfl)
    refine ok_ip (by rw [rd_I1]; rfl) (go 17 0 _ (by decide) (by rw [if_neg (iWb_n z)]) (by rw [if_neg (iWb_n z)]) (RFx_t f12 (RFx_W h8)) S14)
