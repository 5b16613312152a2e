/-- what must never be, in the making -/
def nvS (P : Nat → Nat) (p5 c : Nat) : Nat → Nat := upn (upn P (28 + 7 * p5) c) 5 (p5 + 1)
theorem nvS_o {P : Nat → Nat} {p5 c i : Nat} (h1 : i ≠ 5) (h2 : i ≠ 28 + 7 * p5) : nvS P p5 c i = P i := by unfold nvS; rw [upn_o h1, upn_o h2]
theorem nvS_5 {P : Nat → Nat} {p5 c : Nat} : nvS P p5 c 5 = p5 + 1 := upn_e
theorem nvS_n {P : Nat → Nat} {p5 c : Nat} : nvS P p5 c (28 + 7 * p5) = c := by unfold nvS; rw [upn_o (by omega), upn_e]
/-- a table whose last never has changed -/
theorem tX_nv {b p5 c c' : Nat} {P P' : Nat → Nat} {m m' : zM} (hd : dV P) (h5 : P 5 = p5) (hp : p5 < 4) (hr : P 8 ≤ 16) (h : tX b (nvS P p5 c) m ∨ (tX b P m)) (o : ∀ i, i < 28 + 7 * p5 ∨ 56 ≤ i → P' i = P i) (s0 : ∀ j, j ≠ 6 → m'.1 b j = m.1 b j) (s6 : m'.1 b 6 = nI (p5 + 1)) (k1 : ∀ x, 1 ≤ x → x < 23 → x ≠ 4 → x ≠ 5 → x ≠ 6 → m'.1 (b + x) = m.1 (b + x)) (k4 : ∀ j, j < p5 → m'.1 (b + 4) j = m.1 (b + 4) j) (k5 : ∀ j, j < 3 * p5 → m'.1 (b + 5) j = m.1 (b + 5) j ∧ m'.1 (b + 6) j = m.1 (b + 6) j) (n4 : m'.1 (b + 4) p5 = nI c') (n5 : ∀ x, x < c' → m'.1 (b + 5) (3 * p5 + x) = nI (P' (28 + 7 * p5 + 1 + 2 * x)) ∧ m'.1 (b + 6) (3 * p5 + x) = nI (P' (28 + 7 * p5 + 2 + 2 * x))) (hc3 : c' ≤ 3) : tX b (nvS P' p5 c') m' := by
  have hx : ∃ Q, tX b Q m ∧ (∀ i, i ≠ 5 → i ≠ 28 + 7 * p5 → Q i = P i) ∧ p5 ≤ Q 5 := by
    rcases h with z | z
    · exact ⟨_, z, fun i h1 h2 => nvS_o h1 h2, by rw [nvS_5]; omega⟩
    · exact ⟨P, z, fun i _ _ => rfl, by omega⟩
  obtain ⟨Q, ⟨⟨x1, x2, x3, x4, x5, x6⟩, a, c, d, e⟩, oq, q5⟩ := hx
  have oo : ∀ i, i < 28 + 7 * p5 ∨ 56 ≤ i → i ≠ 5 → nvS P' p5 c' i = Q i := fun i hi h1 => by rw [nvS_o h1 (by omega), o i hi, oq i h1 (by omega)]
  refine ⟨⟨?_, ?_, ?_, ?_, ?_, ?_⟩, fun i hi => ?_, fun r hr' => ?_, fun i hi => ?_, fun i j hi hj => ?_⟩
  · rw [s0 0 (by omega), oo 3 (by omega) (by omega)]; exact x1
  · rw [s0 3 (by omega), oo 4 (by omega) (by omega)]; exact x2
  · rw [s0 4 (by omega), oo 8 (by omega) (by omega)]; exact x3
  · rw [s6, nvS_5]
  · rw [s0 10 (by omega), oo 6 (by omega) (by omega)]; exact x5
  · rw [s0 11 (by omega), oo 7 (by omega) (by omega)]; exact x6
  · rw [k1 1 (by omega) (by omega) (by omega) (by omega) (by omega), oo i (by omega) (by omega)]; exact a i hi
  · rw [oo 8 (by omega) (by omega)] at hr'
    have q8 : Q 8 = P 8 := oq 8 (by omega) (by omega)
    intro j hj
    have et : fI (tF (nvS P' p5 c') r) j = fI (tF Q r) j := by
      have tv : tF (nvS P' p5 c') r j = tF Q r j := oo (56 + 8 * r + j) (by omega) (by omega)
      unfold fI
      rw [tv]
    rw [et, show b + 7 + r = b + (7 + r) by omega, k1 (7 + r) (by omega) (by omega) (by omega) (by omega) (by omega), show b + (7 + r) = b + 7 + r by omega]
    exact c r hr' j hj
  · rw [nvS_5] at hi
    rcases Nat.lt_or_ge i p5 with z | z
    · have d1 := d i (by omega)
      have l3 : P (28 + 7 * i) ≤ 3 := (hd.2.2.2.1 i (by omega)).1
      have q3 : Q (28 + 7 * i) = P (28 + 7 * i) := oq _ (by omega) (by omega)
      rw [oo (28 + 7 * i) (by omega) (by omega), k4 i z]
      refine ⟨d1.1, fun x hx => ?_⟩
      rw [oo _ (by omega) (by omega), oo _ (by omega) (by omega), (k5 _ (by omega)).1, (k5 _ (by omega)).2]
      exact d1.2 x hx
    · have ei : i = p5 := by omega
      subst ei
      rw [nvS_n]
      refine ⟨n4, fun x hx => ?_⟩
      rw [nvS_o (by omega) (by omega), nvS_o (by omega) (by omega)]
      exact n5 x hx
  · have := (hd.1 i hi).1
    have qi : Q i = P i := oq i (by omega) (by omega)
    rw [oo i (by omega) (by omega)] at hj
    rw [k1 2 (by omega) (by omega) (by omega) (by omega) (by omega), oo _ (by omega) (by omega)]
    exact e i j hi hj
theorem neverX {b n T t : Nat} {g P : Nat → Nat} {m : zM} (hb : tbv b) (hd : dV P) (h5 : P 5 < 4) (hS : XSt b n g T t P m) : ok (f_Reader_never m) (XO b n g T (nvR n g 3 t P 0) m) := by
  have hb' : b = 66 ∨ b = 93 := hb
  have p8 := hd.2.1.2.2.2.2.2.1
  obtain ⟨C0, b0, t0, g8⟩ := id hS
  generalize hR : nvR n g 3 t P 0 = R
  generalize hp : P 5 = p5 at h5
  unfold f_Reader_never
  refine ok_eb (tb_ok b0 hb) ?_
  unfold f_Table_openNever
  have e6 : m.1 b 6 = nI p5 := by rw [← hp]; exact t0.1.2.2.2.1
  refine ok_bi (G := fun p => p = sI (sI m (b + 4) p5 0) b 6 (nI (p5 + 1))) ?_ (fun p ep => ?_)
  · refine ok_in (by rw [e6]; exact fun z => by have := (nI_leI (a := 4) (b := p5) (by decide) (by omega)).mp z; omega) (ok_ix e6 h5 (by decide) (ok_lt (ok_lt (ok_mk ?_))))
    rw [rd_I0 (by omega), e6, nI_1]
  subst ep
  have t1 : tX b (nvS P p5 0) (sI (sI m (b + 4) p5 0) b 6 (nI (p5 + 1))) := tX_nv (c := 0) hd hp h5 p8 (Or.inr t0) (fun i _ => rfl) (fun j hj => by rw [rd_I0 (by omega), rd_I0 (by omega)]) (rd_I1 _ _ _ _) (fun x h1 h2 h3 h4 h6 => by rw [rd_Ic (by omega), rd_Ic (by omega)]) (fun j hj => by rw [rd_I0 (by omega), rd_I0 (by omega)]) (fun j hj => ⟨by rw [rd_I0 (by omega), rd_I0 (by omega)], by rw [rd_I0 (by omega), rd_I0 (by omega)]⟩) (by rw [rd_I0 (by omega), rd_I1]; rfl) (fun x hx => absurd hx (Nat.not_lt_zero _)) (by omega)
  have S1 : XSt b n g T t (nvS P p5 0) (sI (sI m (b + 4) p5 0) b 6 (nI (p5 + 1))) := ⟨CsX_d (k := 0) hb (by decide) (CsX_d (k := 4) hb (by decide) C0), b0, t1, g8⟩
  have f1 : RFx b m (sI (sI m (b + 4) p5 0) b 6 (nI (p5 + 1))) := RFx_t (RFx_I (k := 4) (by decide)) (RFx_I (k := 0) (by decide))
  unfold f_Reader_never_L9
  refine ok_for 3 (fun c (s : Int32 × zM) => ∃ t' Pc, s.1 = nI c ∧ Pc 5 = p5 ∧ Pc 8 = P 8 ∧ dV Pc ∧ RFx b m s.2 ∧ XSt b n g T t' (nvS Pc p5 c) s.2 ∧ nvR n g (3 - c) t' Pc c = R) (k0 := 0) ⟨t, P, rfl, hp, rfl, hd, f1, S1, hR⟩ (Nat.zero_le _) ?_
  rintro c ⟨x, m1⟩ - hc ⟨t', Pc, e1, c5, c8, dc, fc, Sc, rc⟩
  have e1 : x = nI c := e1
  subst e1
  have fc : RFx b m m1 := fc
  have Sc : XSt b n g T t' (nvS Pc p5 c) m1 := Sc
  unfold f_Reader_never_B9
  have s8 : nvS Pc p5 c 8 ≤ 16 := by rw [nvS_o (by omega) (by omega), c8]; exact p8
  have sn : sNm Pc (nvS Pc p5 c) := fun i hi => nvS_o (by omega) (by omega)
  refine ok_le 3 c (fun q => ok_zl ?_) (fun q => ?_)
  · unfold f_Reader_never_J69
    refine ok_bi (manyX Sc.1) (fun p ⟨e2, f2, h2⟩ => ok_mk ?_)
    obtain ⟨pb, pm⟩ := p
    have e2 : pb = false := e2
    subst e2
    rw [← rc, show 3 - c = 0 by omega]
    exact XO_i (RFx_t fc (RFx_l f2 (by decide))) rfl h2
  · rw [show 3 - c = (2 - c) + 1 by omega] at rc
    unfold nvR at rc
    rw [c5] at rc
    refine ok_bi (numbX (lo := 1) (hi := 4) Sc.1 (by decide) (by decide)) (fun p3 h3 => ?_)
    obtain ⟨b3, m3⟩ := p3
    rcases h3 with ⟨v, r3, v1, v2, e3, f3, x3, C3⟩ | ⟨c', q', r3, e3, f3, l3⟩
    rotate_left
    · have e3 : b3 = false := e3
      subst e3
      refine ok_in Bool.false_ne_true (ok_mk (XO_i (RFx_t fc (RFx_l f3 (by decide))) ?_ l3))
      rw [← rc, r3]
    have e3 : b3 = true := e3
    subst e3
    have x3 : m3.1 65 6 = nI v := x3
    simp only [r3] at rc
    have S3 := XSt_l hb s8 Sc f3 (by decide) C3
    refine ok_ip rfl (knS (k := 0) hb dc.1 sn s8 S3 (RFx_t fc (RFx_l f3 (by decide))) (by decide) (fun s m4 r4 s4 f4 S4 x4 => ok_ip rfl ?_) (fun c' q' m4 r4 f4 l4 => ok_in Bool.false_ne_true (ok_mk (XO_i f4 (by rw [← rc, r4]) l4))))
    simp only [r4] at rc
    refine ok_eb (tb_ok S4.2.1 hb) ?_
    show ok ((f_Table_addCount b (m3.1 65 6) (m4.1 65 6) m4).bind _) _
    rw [x3, x4]
    have t4 := S4.2.2.1
    have e46 : m4.1 b 6 = nI (p5 + 1) := by have := t4.1.2.2.2.1; rw [nvS_5] at this; exact this
    have d4 := t4.2.2.2.1 p5 (by rw [nvS_5]; omega)
    rw [nvS_n] at d4
    have e5m : m4.1 b 6 - 1 = nI p5 := by rw [e46, nI_pred]
    have dc2 : dV (upn (upn Pc (28 + 7 * p5 + 1 + 2 * c) v) (28 + 7 * p5 + 2 + 2 * c) s) := dV_v (dV_v dc (by rw [c5]; omega) (by omega)) (by rw [upn_o (by omega), c5]; omega) (by omega)
    refine ok_bi (G := fun p => p = sI (sI (sI m4 (b + 5) (3 * p5 + c) (nI v)) (b + 6) (3 * p5 + c) (nI s)) (b + 4) p5 (nI (c + 1))) ?_ (fun p6 e6' => ?_)
    · unfold f_Table_addCount
      rw [e5m]
      have ei : nI p5 * 3 + m4.1 (b + 4) p5 = nI (3 * p5 + c) := by rw [d4.1, show (3 : Int32) = nI 3 from rfl, pk_mul, nI_add, Nat.mul_comm]
      refine ok_in (nI_pos (by omega)) (ok_ix rfl h5 (by decide) (ok_in (by rw [d4.1]; exact fun z => by have := (nI_leI (a := 3) (b := c) (by decide) (by omega)).mp z; omega) (ok_ix rfl h5 (by decide) (ok_ix ei (by omega) (by decide) (ok_lt (ok_ix ei (by omega) (by decide) (ok_lt (ok_ix rfl h5 (by decide) (ok_ix rfl h5 (by decide) (ok_lt (ok_mk ?_)))))))))))
      rw [rd_I0 (by omega), rd_I0 (by omega), d4.1, nI_1]
    · subst e6'
      have t6 : tX b (nvS (upn (upn Pc (28 + 7 * p5 + 1 + 2 * c) v) (28 + 7 * p5 + 2 + 2 * c) s) p5 (c + 1)) (sI (sI (sI m4 (b + 5) (3 * p5 + c) (nI v)) (b + 6) (3 * p5 + c) (nI s)) (b + 4) p5 (nI (c + 1))) := by
        refine tX_nv (c := c) dc c5 h5 (by rw [c8]; exact p8) (Or.inl t4) (fun i hi => by rw [upn_o (by omega), upn_o (by omega)]) (fun j hj => by rw [rd_I0 (by omega), rd_I0 (by omega), rd_I0 (by omega)]) (by rw [rd_I0 (by omega), rd_I0 (by omega), rd_I0 (by omega)]; exact e46) (fun x h1 h2 h3 h4 h6 => by rw [rd_Ic (by omega), rd_Ic (by omega), rd_Ic (by omega)]) (fun j hj => by rw [rd_I0 (by omega), rd_I0 (by omega), rd_I0 (by omega)]) (fun j hj => ⟨by rw [rd_I0 (by omega), rd_I0 (by omega), rd_I0 (by omega)], by rw [rd_I0 (by omega), rd_I0 (by omega), rd_I0 (by omega)]⟩) (rd_I1 _ _ _ _) (fun x hx => ?_) (by omega)
        rw [rd_I0 (by omega), rd_I0 (by omega)]
        rcases Nat.lt_or_ge x c with y | y
        · rw [rd_I0 (by omega), rd_I0 (by omega), rd_I0 (by omega), rd_I0 (by omega), upn_o (by omega), upn_o (by omega), upn_o (by omega), upn_o (by omega)]
          have := d4.2 x y
          rw [nvS_o (by omega) (by omega), nvS_o (by omega) (by omega)] at this
          exact this
        · rw [show x = c by omega, rd_I1, rd_I0 (by omega), rd_I1, upn_e, upn_o (by omega), upn_e]
          exact ⟨rfl, rfl⟩
      have S6 : XSt b n g T (t' + 2) (nvS (upn (upn Pc (28 + 7 * p5 + 1 + 2 * c) v) (28 + 7 * p5 + 2 + 2 * c) s) p5 (c + 1)) (sI (sI (sI m4 (b + 5) (3 * p5 + c) (nI v)) (b + 6) (3 * p5 + c) (nI s)) (b + 4) p5 (nI (c + 1))) := ⟨CsX_d (k := 4) hb (by decide) (CsX_d (k := 6) hb (by decide) (CsX_d (k := 5) hb (by decide) S4.1)), S4.2.1, t6, g8⟩
      have f6 : RFx b m (sI (sI (sI m4 (b + 5) (3 * p5 + c) (nI v)) (b + 6) (3 * p5 + c) (nI s)) (b + 4) p5 (nI (c + 1))) := RFx_t f4 (RFx_t (RFx_t (RFx_I (k := 5) (by decide)) (RFx_I (k := 6) (by decide))) (RFx_I (k := 4) (by decide)))
      refine woS (w := 8) hb (by rw [nvS_o (by omega) (by omega), upn_o (by omega), upn_o (by omega), c8]; exact p8) S6 f6 (by decide) (fun m7 i7 f7 S7 _ => ok_ip rfl (ok_mk ⟨q, t' + 3, _, nI_1 c, ?_, ?_, dc2, f7, S7, ?_⟩)) (fun m7 i7 f7 S7 _ => ok_in Bool.false_ne_true (ok_mk (XO_r f7 ?_ S7)))
      · rw [upn_o (by omega), upn_o (by omega)]; exact c5
      · rw [upn_o (by omega), upn_o (by omega)]; exact c8
      · rw [if_pos (iWb_t i7)] at rc
        rw [show 3 - (c + 1) = 2 - c by omega]; exact rc
      · rw [if_neg (iWb_n i7)] at rc
        exact rc.symm
