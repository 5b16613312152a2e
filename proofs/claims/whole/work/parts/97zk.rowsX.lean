theorem iWb_t {n t w : Nat} {g : Nat → Nat} (h : iWw n g t w) : iWb n g t w = true := cBo_t h
theorem iWb_n {n t w : Nat} {g : Nat → Nat} (h : ¬ iWw n g t w) : ¬ iWb n g t w = true := fun z => h (cBo_iff.mp z)
theorem knR_o {n k t : Nat} {g P P' : Nat → Nat} (hk : k < 3) (h6 : P k ≤ 6) (o : ∀ i, i < 3 ∨ (10 ≤ i ∧ i < 28) → P' i = P i) : knR n g P' k t = knR n g P k t := by
  unfold knR
  have e : ∀ u, fi (fun j => decide (P' (10 + 6 * k + j) = u)) (P' k) = fi (fun j => decide (P (10 + 6 * k + j) = u)) (P k) := by
    intro u
    rw [o k (by omega)]
    have cg : ∀ m, m ≤ P k → fi (fun j => decide (P' (10 + 6 * k + j) = u)) m = fi (fun j => decide (P (10 + 6 * k + j) = u)) m := by
      intro m hm
      obtain ⟨a1, a2, a3⟩ := fi_sp (fun j => decide (P (10 + 6 * k + j) = u)) m
      rcases Nat.lt_or_ge (fi (fun j => decide (P (10 + 6 * k + j) = u)) m) m with z | z
      · refine fi_eq z ?_ (fun j hj => ?_)
        · rw [o _ (by omega)]; exact a3 z
        · rw [o _ (by omega)]; exact a2 j hj
      · have : fi (fun j => decide (P (10 + 6 * k + j) = u)) m = m := by omega
        rw [this]
        refine fi_no (fun j hj => ?_)
        rw [o _ (by omega)]; exact a2 j (by omega)
    exact cg _ (Nat.le_refl _)
  cases nmR n g t with
  | inl x => rfl
  | inr u =>
    show (if _ < _ then _ else _) = (if _ < _ then _ else _)
    rw [e u, o k (by omega)]
theorem nmV_o {P P' : Nat → Nat} (h : nmV P) (o : ∀ i, i < 3 ∨ (10 ≤ i ∧ i < 28) → P' i = P i) : nmV P' := by
  intro k hk
  have := (h k hk).1
  rw [o k (by omega)]
  refine ⟨this, fun j hj => ?_⟩
  rw [o _ (by omega)]; exact (h k hk).2 j hj
/-- a table whose numbers alone have changed -/
theorem tX_z {b : Nat} {P P' : Nat → Nat} {m m' : zM} (h : tX b P m) (hr : P 8 ≤ 16) (hc : ∀ c, 1 ≤ c → c < 23 → m'.1 (b + c) = m.1 (b + c)) (o : ∀ i, i < 3 ∨ i = 5 ∨ i = 8 ∨ 10 ≤ i → P' i = P i) (s : m'.1 b 0 = nI (P' 3) ∧ m'.1 b 3 = nI (P' 4) ∧ m'.1 b 4 = nI (P' 8) ∧ m'.1 b 6 = nI (P' 5) ∧ m'.1 b 10 = nI (P' 6) - 1 ∧ m'.1 b 11 = nI (P' 7) - 1) : tX b P' m' := by
  obtain ⟨_, a, c, d, e⟩ := h
  refine ⟨s, fun i hi => ?_, fun r hr' => ?_, fun i hi => ?_, fun i j hi hj => ?_⟩
  · rw [hc 1 (by omega) (by omega), o i (by omega)]; exact a i hi
  · rw [o 8 (by omega)] at hr'
    intro j hj
    have et : fI (tF P' r) j = fI (tF P r) j := by
      unfold fI tF
      rw [o (56 + 8 * r + j) (by omega)]
    rw [et, show b + 7 + r = b + (7 + r) by omega, hc (7 + r) (by omega) (by omega), show b + (7 + r) = b + 7 + r by omega]
    exact c r hr' j hj
  · rw [o 5 (by omega)] at hi
    rw [o (28 + 7 * i) (by omega), hc 4 (by omega) (by omega)]
    refine ⟨(d i hi).1, fun c' hc' => ?_⟩
    rw [o _ (by omega), o _ (by omega), hc 5 (by omega) (by omega), hc 6 (by omega) (by omega)]
    exact (d i hi).2 c' hc'
  · rw [o i (by omega)] at hj
    rw [hc 2 (by omega) (by omega), o _ (by omega)]
    exact e i j hi hj
theorem XSt_l {b n T t t' : Nat} {g P : Nat → Nat} {m m' : zM} {F : List (Nat × Nat)} (hb : tbv b) (h8 : P 8 ≤ 16) (h : XSt b n g T t P m) (hf : fl2 [] F m m') (ho : offT [] F = true) (hC : CsX n g T t' m') : XSt b n g T t' P m' := ⟨hC, by rw [hf.2]; exact h.2.1, tX_fl hb h.2.2.1 hf ho h8, h.2.2.2⟩
theorem XSt_z {b n T t f : Nat} {g P P' : Nat → Nat} {v : Int32} {m : zM} (hb : tbv b) (hd : P 8 ≤ 16) (h : XSt b n g T t P m) (o : ∀ i, i < 3 ∨ i = 5 ∨ i = 8 ∨ 10 ≤ i → P' i = P i) (s : (sI m b f v).1 b 0 = nI (P' 3) ∧ (sI m b f v).1 b 3 = nI (P' 4) ∧ (sI m b f v).1 b 4 = nI (P' 8) ∧ (sI m b f v).1 b 6 = nI (P' 5) ∧ (sI m b f v).1 b 10 = nI (P' 6) - 1 ∧ (sI m b f v).1 b 11 = nI (P' 7) - 1) : XSt b n g T t P' (sI m b f v) :=
  ⟨CsX_d (k := 0) hb (by decide) h.1, h.2.1, tX_z h.2.2.1 hd (fun c h1 h2 => rd_Ic (by omega)) o s, h.2.2.2⟩
theorem openX {b n T t : Nat} {g P : Nat → Nat} {m : zM} (hb : tbv b) (hd : dV P) (h0 : P 0 = 0) (hS : XSt b n g T t P m) : ok (f_Reader_opening m) (XO b n g T (opR n g t P) m) := by
  have p8 := hd.2.1.2.2.2.2.2.1
  unfold f_Reader_opening
  refine ok_bi (askX (w := 0) hS.1 (by decide)) (fun p1 h1 => ?_)
  obtain ⟨b1, m1⟩ := p1
  rcases h1 with ⟨i1, e1, f1, C1⟩ | ⟨i1, e1, f1, l1⟩
  rotate_left
  · have e1 : b1 = false := e1
    subst e1
    refine ok_in Bool.false_ne_true (ok_mk (XO_i (RFx_l f1 (by decide)) ?_ l1))
    unfold opR; rw [if_neg (iWb_n i1)]
  have e1 : b1 = true := e1
  subst e1
  have q1 : opR n g t P = (match nuR n g (t + 1) 2 4 with | .inl e => .inl e | .inr v => if iWb n g (t + 2) 1 = true then nmsR n g 0 6 (t + 3) (upn P 3 v) else .inl (1, tst n g (t + 2))) := by unfold opR; rw [if_pos (iWb_t i1)]; rfl
  have S1 := XSt_l hb p8 hS f1 (by decide) C1
  refine ok_ip rfl (ok_bi (numbX (lo := 2) (hi := 4) C1 (by decide) (by decide)) (fun p2 h2 => ?_))
  obtain ⟨b2, m2⟩ := p2
  rcases h2 with ⟨v, r2, v1, v2, e2, f2, x2, C2⟩ | ⟨c, q, r2, e2, f2, l2⟩
  rotate_left
  · have e2 : b2 = false := e2
    subst e2
    refine ok_in Bool.false_ne_true (ok_mk (XO_i (RFx_t (RFx_l f1 (by decide)) (RFx_l f2 (by decide))) ?_ l2))
    rw [q1, r2]
  have e2 : b2 = true := e2
  subst e2
  simp only [r2] at q1
  have S2 := XSt_l hb p8 S1 f2 (by decide) C2
  refine ok_ip rfl (ok_eb (tb_ok S2.2.1 hb) (ok_lt ?_))
  have x2 : m2.1 65 6 = nI v := x2
  show ok ((f_Reader_ask 2 (sI m2 b 0 (m2.1 65 6))).bind _) _
  rw [x2]
  have tx := S2.2.2.1.1
  have o3 : ∀ i, i ≠ 3 → upn P 3 v i = P i := fun i hi => upn_o hi
  have S3 : XSt b n g T (t + 2) (upn P 3 v) (sI m2 b 0 (nI v)) := XSt_z hb p8 S2 (fun i hi => o3 i (by omega)) (by
    refine ⟨by rw [rd_I1, upn_e], ?_, ?_, ?_, ?_, ?_⟩
    · rw [rd_I0 (by omega), o3 4 (by omega)]; exact tx.2.1
    · rw [rd_I0 (by omega), o3 8 (by omega)]; exact tx.2.2.1
    · rw [rd_I0 (by omega), o3 5 (by omega)]; exact tx.2.2.2.1
    · rw [rd_I0 (by omega), o3 6 (by omega)]; exact tx.2.2.2.2.1
    · rw [rd_I0 (by omega), o3 7 (by omega)]; exact tx.2.2.2.2.2)
  have d3 : dV (upn P 3 v) := dV_p hd (fun i hi => o3 i (by omega)) (by
    rw [upn_e, o3 4 (by omega), o3 6 (by omega), o3 7 (by omega)]
    exact ⟨by omega, hd.2.1.2.1, hd.2.1.2.2.2.1, hd.2.1.2.2.2.2.1, hd.2.1.2.2.2.2.2.2⟩)
  have f3 : RFx b m (sI m2 b 0 (nI v)) := RFx_t (RFx_t (RFx_l f1 (by decide)) (RFx_l f2 (by decide))) (RFx_I (k := 0) (by decide))
  refine ok_bi (askX (w := 1) S3.1 (by decide)) (fun p5 h5 => ?_)
  obtain ⟨b5, m5⟩ := p5
  rcases h5 with ⟨i5, e5, f5, C5⟩ | ⟨i5, e5, f5, l5⟩
  rotate_left
  · have e5 : b5 = false := e5
    subst e5
    refine ok_in Bool.false_ne_true (ok_mk (XO_i (RFx_t f3 (RFx_l f5 (by decide))) ?_ l5))
    rw [q1, if_neg (iWb_n i5)]
  have e5 : b5 = true := e5
  subst e5
  rw [if_pos (iWb_t i5)] at q1
  have S5 := XSt_l hb (by rw [o3 8 (by omega)]; exact p8) S3 f5 (by decide) C5
  refine ok_ip rfl (ok_bi (namesX (k := 0) hb (by decide) d3 (by rw [o3 0 (by omega)]; exact h0) S5) (fun p6 h6 => ?_))
  obtain ⟨b6, m6⟩ := p6
  have fin : XO b n g T (opR n g t P) m (b6, m6) := by
    rw [q1]
    exact ⟨RFx_t f3 (RFx_t (RFx_l f5 (by decide)) h6.1), h6.2⟩
  cases b6 with
  | true => exact ok_ip rfl (ok_mk fin)
  | false => exact ok_in Bool.false_ne_true (ok_mk fin)
theorem wantX {b n T t : Nat} {g P : Nat → Nat} {m : zM} (hb : tbv b) (hd : dV P) (hS : XSt b n g T t P m) : ok (f_Reader_wants m) (XO b n g T (wnR n g t P) m) := by
  have p8 := hd.2.1.2.2.2.2.2.1
  have p0 := (hd.1 0 (by decide)).1
  unfold f_Reader_wants
  refine ok_bi (knownX (k := 0) hb hS.2.1 hd.1 hS.2.2.1 p8 hS.1 (by decide)) (fun p1 h1 => ?_)
  obtain ⟨b1, m1⟩ := p1
  rcases h1 with ⟨a, r1, a1, e1, f1, x1, C1⟩ | ⟨c, q, r1, e1, f1, l1⟩
  rotate_left
  · have e1 : b1 = false := e1
    subst e1
    refine ok_in Bool.false_ne_true (ok_mk (XO_i (RFx_l f1 (by decide)) ?_ l1))
    unfold wnR; rw [r1]
  have e1 : b1 = true := e1
  subst e1
  have x1 : m1.1 65 6 = nI a := x1
  have S1 := XSt_l hb p8 hS f1 (by decide) C1
  refine ok_ip rfl (ok_eb (tb_ok S1.2.1 hb) (ok_lt ?_))
  show ok ((f_Reader_known 0 (sI m1 b 10 (m1.1 65 6))).bind _) _
  rw [x1]
  have tx := S1.2.2.1.1
  have o6 : ∀ i, i ≠ 6 → upn P 6 (a + 1) i = P i := fun i hi => upn_o hi
  have S2 : XSt b n g T (t + 1) (upn P 6 (a + 1)) (sI m1 b 10 (nI a)) := XSt_z hb p8 S1 (fun i hi => o6 i (by omega)) (by
    refine ⟨?_, ?_, ?_, ?_, by rw [rd_I1, upn_e, nI_pred], ?_⟩
    · rw [rd_I0 (by omega), o6 3 (by omega)]; exact tx.1
    · rw [rd_I0 (by omega), o6 4 (by omega)]; exact tx.2.1
    · rw [rd_I0 (by omega), o6 8 (by omega)]; exact tx.2.2.1
    · rw [rd_I0 (by omega), o6 5 (by omega)]; exact tx.2.2.2.1
    · rw [rd_I0 (by omega), o6 7 (by omega)]; exact tx.2.2.2.2.2)
  have kq := knR_o (n := n) (g := g) (k := 0) (t := t + 1) (P := P) (P' := upn P 6 (a + 1)) (by decide) p0 (fun i hi => o6 i (by omega))
  have f2 : RFx b m (sI m1 b 10 (nI a)) := RFx_t (RFx_l f1 (by decide)) (RFx_I (k := 0) (by decide))
  refine ok_bi (knownX (k := 0) hb S2.2.1 (nmV_o hd.1 (fun i hi => o6 i (by omega))) S2.2.2.1 (by rw [o6 8 (by omega)]; exact p8) S2.1 (by decide)) (fun p4 h4 => ?_)
  obtain ⟨b4, m4⟩ := p4
  rw [kq] at h4
  rcases h4 with ⟨c, r4, c4, e4, f4, x4, C4⟩ | ⟨c, q, r4, e4, f4, l4⟩
  rotate_left
  · have e4 : b4 = false := e4
    subst e4
    refine ok_in Bool.false_ne_true (ok_mk (XO_i (RFx_t f2 (RFx_l f4 (by decide))) ?_ l4))
    unfold wnR; simp only [r1, r4]
  have e4 : b4 = true := e4
  subst e4
  have x4 : m4.1 65 6 = nI c := x4
  have S4 := XSt_l hb (by rw [o6 8 (by omega)]; exact p8) S2 f4 (by decide) C4
  refine ok_ip rfl (ok_eb (tb_ok S4.2.1 hb) (ok_lt (ok_mk ?_)))
  show XO b n g T (wnR n g t P) m (true, sI m4 b 11 (m4.1 65 6))
  rw [x4]
  have ty := S4.2.2.1.1
  have o7 : ∀ i, i ≠ 7 → upn (upn P 6 (a + 1)) 7 (c + 1) i = upn P 6 (a + 1) i := fun i hi => upn_o hi
  refine XO_r (RFx_t f2 (RFx_t (RFx_l f4 (by decide)) (RFx_I (k := 0) (by decide)))) (show wnR n g t P = .inr (t + 2, upn (upn P 6 (a + 1)) 7 (c + 1)) by unfold wnR; simp only [r1, r4]) (XSt_z hb (by rw [o6 8 (by omega)]; exact p8) S4 (fun i hi => o7 i (by omega)) ?_)
  refine ⟨?_, ?_, ?_, ?_, ?_, by rw [rd_I1, upn_e, nI_pred]⟩
  · rw [rd_I0 (by omega), o7 3 (by omega)]; exact ty.1
  · rw [rd_I0 (by omega), o7 4 (by omega)]; exact ty.2.1
  · rw [rd_I0 (by omega), o7 8 (by omega)]; exact ty.2.2.1
  · rw [rd_I0 (by omega), o7 5 (by omega)]; exact ty.2.2.2.1
  · rw [rd_I0 (by omega), o7 6 (by omega)]; exact ty.2.2.2.2.1
