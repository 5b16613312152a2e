/-- steps of the class's reader, one behind the other; Q is a table with P's names -/
def sNm (P Q : Nat → Nat) : Prop := ∀ i, i < 3 ∨ (10 ≤ i ∧ i < 28) → Q i = P i
theorem knS {b n T t k : Nat} {g P Q : Nat → Nat} {m0 m : zM} {α : Type} {f : Bool × zM → Option α} {K : α → Prop} (hb : tbv b) (hV : nmV P) (hq : sNm P Q) (h8 : Q 8 ≤ 16) (hS : XSt b n g T t Q m) (f0 : RFx b m0 m) (hk : k < 3) (hy : ∀ j m', knR n g P k t = .inr j → j < P k → RFx b m0 m' → XSt b n g T (t + 1) Q m' → m'.1 65 6 = nI j → ok (f (true, m')) K) (hn : ∀ c q m', knR n g P k t = .inl (c, q) → RFx b m0 m' → FlX c q m' → ok (f (false, m')) K) : ok ((f_Reader_known (nI k) m).bind f) K := by
  have kq := knR_o (n := n) (g := g) (k := k) (t := t) (P := P) (P' := Q) hk (hV k hk).1 hq
  refine ok_bi (knownX (k := k) hb hS.2.1 (nmV_o hV hq) hS.2.2.1 h8 hS.1 hk) (fun p h => ?_)
  obtain ⟨pb, pm⟩ := p
  rw [kq] at h
  rcases h with ⟨j, r1, j1, e1, f1, x1, C1⟩ | ⟨c, q, r1, e1, f1, l1⟩
  · have e1 : pb = true := e1
    subst e1
    exact hy j pm r1 (by rw [← hq k (by omega)]; exact j1) (RFx_t f0 (RFx_l f1 (by decide))) (XSt_l hb h8 hS f1 (by decide) C1) x1
  · have e1 : pb = false := e1
    subst e1
    exact hn c q pm r1 (RFx_t f0 (RFx_l f1 (by decide))) l1
theorem akS {b n T t w : Nat} {g Q : Nat → Nat} {m0 m : zM} {α : Type} {f : Bool × zM → Option α} {K : α → Prop} (hb : tbv b) (h8 : Q 8 ≤ 16) (hS : XSt b n g T t Q m) (f0 : RFx b m0 m) (hw : w < 19) (hy : ∀ m', iWw n g t w → RFx b m0 m' → XSt b n g T (t + 1) Q m' → ok (f (true, m')) K) (hn : ∀ m', ¬ iWw n g t w → RFx b m0 m' → FlX 1 (tst n g t) m' → ok (f (false, m')) K) : ok ((f_Reader_ask (wsI w) m).bind f) K := by
  refine ok_bi (askX hS.1 hw) (fun p h => ?_)
  obtain ⟨pb, pm⟩ := p
  rcases h with ⟨i1, e1, f1, C1⟩ | ⟨i1, e1, f1, l1⟩
  · have e1 : pb = true := e1
    subst e1
    exact hy pm i1 (RFx_t f0 (RFx_l f1 (by decide))) (XSt_l hb h8 hS f1 (by decide) C1)
  · have e1 : pb = false := e1
    subst e1
    exact hn pm i1 (RFx_t f0 (RFx_l f1 (by decide))) l1
theorem woS {b n T t w : Nat} {g Q : Nat → Nat} {m0 m : zM} {α : Type} {f : Bool × zM → Option α} {K : α → Prop} (hb : tbv b) (h8 : Q 8 ≤ 16) (hS : XSt b n g T t Q m) (f0 : RFx b m0 m) (hw : w < 19) (hy : ∀ m', iWw n g t w → RFx b m0 m' → XSt b n g T (t + 1) Q m' → fl2 [] [(65, 5)] m m' → ok (f (true, m')) K) (hn : ∀ m', ¬ iWw n g t w → RFx b m0 m' → XSt b n g T t Q m' → fl2 [] [(65, 5)] m m' → ok (f (false, m')) K) : ok ((f_Reader_word (wsI w) m).bind f) K := by
  refine ok_bi (wordX hS.1 hw) (fun p ⟨e1, f1, C1⟩ => ?_)
  obtain ⟨pb, pm⟩ := p
  have e1 : pb = iWb n g t w := e1
  have f1 : fl2 [] [(65, 5)] m pm := f1
  have C1 : CsX n g T (if iWb n g t w = true then t + 1 else t) pm := C1
  subst e1
  by_cases z : iWw n g t w
  · rw [iWb_t z] at C1 ⊢
    exact hy pm z (RFx_t f0 (RFx_l f1 (by decide))) (XSt_l hb h8 hS f1 (by decide) C1) f1
  · have zf : iWb n g t w = false := Bool.eq_false_iff.mpr (iWb_n z)
    rw [zf] at C1 ⊢
    exact hn pm z (RFx_t f0 (RFx_l f1 (by decide))) (XSt_l hb h8 hS f1 (by decide) C1) f1
theorem mbS {b n T t w k : Nat} {g P Q : Nat → Nat} {m0 m : zM} {α : Type} {f : Bool × zM → Option α} {K : α → Prop} (hb : tbv b) (hV : nmV P) (hq : sNm P Q) (h8 : Q 8 ≤ 16) (hS : XSt b n g T t Q m) (f0 : RFx b m0 m) (hw : w < 19) (hk : k < 3) (hy : ∀ t' v m', mbR n g P w k t = .inr (t', v) → v ≤ P k → RFx b m0 m' → XSt b n g T t' Q m' → m'.1 65 6 = nI v - 1 → ok (f (true, m')) K) (hn : ∀ c q m', mbR n g P w k t = .inl (c, q) → RFx b m0 m' → FlX c q m' → ok (f (false, m')) K) : ok ((f_Reader_maybe (wsI w) (nI k) m).bind f) K := by
  have key : ok (f_Reader_maybe (wsI w) (nI k) m) (fun p => (∃ t' v, mbR n g P w k t = .inr (t', v) ∧ p.1 = true ∧ RFx b m0 p.2 ∧ XSt b n g T t' Q p.2 ∧ p.2.1 65 6 = nI v - 1) ∨ (∃ c q, mbR n g P w k t = .inl (c, q) ∧ p.1 = false ∧ RFx b m0 p.2 ∧ FlX c q p.2)) := by
    unfold f_Reader_maybe f_Reader_maybe_J21
    have f1 : fl2 [] [(65, 6)] m (sI m 65 6 (-1)) := fl2_I (inS_f (by simp))
    have S1 := XSt_l hb h8 hS f1 (by decide) (CsX_f hS.1 f1 (by decide) (by decide))
    refine ok_lt (woS hb h8 S1 (RFx_t f0 (RFx_l f1 (by decide))) hw (fun m2 i2 f2 S2 _ => ok_ip rfl ?_) (fun m2 i2 f2 S2 g2 => ok_in Bool.false_ne_true (ok_mk (Or.inl ⟨t, 0, ?_, rfl, f2, S2, ?_⟩))))
    · have mx : mbR n g P w k t = (match knR n g P k (t + 1) with | .inl e => .inl e | .inr j => .inr (t + 2, j + 1)) := if_pos (iWb_t i2)
      refine knS hb hV hq h8 S2 f2 hk (fun j m3 r3 j3 f3 S3 x3 => ok_ip rfl (ok_mk (Or.inl ⟨t + 2, j + 1, ?_, rfl, f3, S3, ?_⟩))) (fun c q m3 r3 f3 l3 => ok_in Bool.false_ne_true (ok_mk (Or.inr ⟨c, q, ?_, rfl, f3, l3⟩)))
      · rw [mx, r3]
      · rw [nI_pred]; exact x3
      · rw [mx, r3]
    · exact if_neg (iWb_n i2)
    · show m2.1 65 6 = _
      rw [fl2_i g2 (by decide), rd_I1]; decide
  refine ok_bi key (fun p h => ?_)
  obtain ⟨pb, pm⟩ := p
  rcases h with ⟨t', v, r1, e1, f1, S1, x1⟩ | ⟨c, q, r1, e1, f1, l1⟩
  · have e1 : pb = true := e1
    subst e1
    exact hy t' v pm r1 (mbR_l r1) f1 S1 x1
  · have e1 : pb = false := e1
    subst e1
    exact hn c q pm r1 f1 l1
/-- a rule's row in the making -/
theorem rwA_s {P F : Nat → Nat} : sNm P (rwA P F) := fun i hi => rwA_o (by omega) (by omega)
theorem rwA_cg {P F F' : Nat → Nat} (h : ∀ k, k < 8 → F k = F' k) : rwA P F = rwA P F' := by
  funext i
  unfold rwA
  by_cases z : i = 8
  · rw [if_pos z, if_pos z]
  · rw [if_neg z, if_neg z]
    by_cases y : 56 + 8 * P 8 ≤ i ∧ i < 64 + 8 * P 8
    · rw [if_pos y, if_pos y]; exact h _ (by omega)
    · rw [if_neg y, if_neg y]
theorem tX_rw {b : Nat} {P F : Nat → Nat} {m m' : zM} (hd : dV P) (h : tX b P m) (h8 : P 8 < 16) (s4 : m'.1 b 4 = nI (P 8 + 1)) (s0 : ∀ j, j ≠ 4 → m'.1 b j = m.1 b j) (hc : ∀ c, 1 ≤ c → c < 23 → c ≠ 7 + P 8 → m'.1 (b + c) = m.1 (b + c)) (hr : ∀ j, j < 8 → m'.1 (b + 7 + P 8) j = fI F j) : tX b (rwA P F) m' := by
  obtain ⟨⟨x1, x2, x3, x4, x5, x6⟩, a, c, d, e⟩ := h
  have o : ∀ j, j ≠ 8 → j < 56 + 8 * P 8 → rwA P F j = P j := fun j h1 h2 => rwA_o h1 h2
  have e8 : rwA P F 8 = P 8 + 1 := if_pos rfl
  refine ⟨⟨?_, ?_, ?_, ?_, ?_, ?_⟩, fun i hi => ?_, fun r hr' => ?_, fun i hi => ?_, fun i j hi hj => ?_⟩
  · rw [s0 0 (by omega), o 3 (by omega) (by omega)]; exact x1
  · rw [s0 3 (by omega), o 4 (by omega) (by omega)]; exact x2
  · rw [s4, e8]
  · rw [s0 6 (by omega), o 5 (by omega) (by omega)]; exact x4
  · rw [s0 10 (by omega), o 6 (by omega) (by omega)]; exact x5
  · rw [s0 11 (by omega), o 7 (by omega) (by omega)]; exact x6
  · rw [hc 1 (by omega) (by omega) (by omega), o i (by omega) (by omega)]; exact a i hi
  · rw [e8] at hr'
    intro j hj
    rcases Nat.lt_or_ge r (P 8) with z | z
    · have et : fI (tF (rwA P F) r) j = fI (tF P r) j := by
        unfold fI tF
        rw [o (56 + 8 * r + j) (by omega) (by omega)]
      rw [et, show b + 7 + r = b + (7 + r) by omega, hc (7 + r) (by omega) (by omega) (by omega), show b + (7 + r) = b + 7 + r by omega]
      exact c r z j hj
    · have er : r = P 8 := by omega
      have et : fI (tF (rwA P F) r) j = fI F j := by
        have tv : tF (rwA P F) r j = F j := by
          unfold tF rwA
          rw [if_neg (show ¬ 56 + 8 * r + j = 8 by omega), if_pos (show 56 + 8 * P 8 ≤ 56 + 8 * r + j ∧ 56 + 8 * r + j < 64 + 8 * P 8 by omega), show 56 + 8 * r + j - (56 + 8 * P 8) = j by omega]
        unfold fI
        rw [tv]
      rw [et, er]
      exact hr j hj
  · rw [o 5 (by omega) (by omega)] at hi
    have p5 := hd.2.1.2.2.1
    have := (hd.2.2.2.1 i hi).1
    rw [o (28 + 7 * i) (by omega) (by omega), hc 4 (by omega) (by omega) (by omega)]
    refine ⟨(d i hi).1, fun c' hc' => ?_⟩
    rw [o _ (by omega) (by omega), o _ (by omega) (by omega), hc 5 (by omega) (by omega) (by omega), hc 6 (by omega) (by omega) (by omega)]
    exact (d i hi).2 c' hc'
  · have := (hd.1 i hi).1
    rw [o i (by omega) (by omega)] at hj
    rw [hc 2 (by omega) (by omega) (by omega), o _ (by omega) (by omega)]
    exact e i j hi hj
def RWx (b n : Nat) (g : Nat → Nat) (T t : Nat) (P F : Nat → Nat) (mz m : zM) : Prop := CsX n g T t m ∧ m.2.2 1 = b ∧ tX b P mz ∧ (m.1 b 4 = nI (P 8 + 1) ∧ (∀ j, j ≠ 4 → m.1 b j = mz.1 b j) ∧ (∀ c, 1 ≤ c → c < 23 → c ≠ 7 + P 8 → m.1 (b + c) = mz.1 (b + c)) ∧ ∀ j, j < 8 → m.1 (b + 7 + P 8) j = fI F j) ∧ ∀ j, j < n → g j < 256
theorem RWx_S {b n T t : Nat} {g P F : Nat → Nat} {mz m : zM} (hd : dV P) (h8 : P 8 < 16) (h : RWx b n g T t P F mz m) : XSt b n g T t (rwA P F) m := ⟨h.1, h.2.1, tX_rw hd h.2.2.1 h8 h.2.2.2.1.1 h.2.2.2.1.2.1 h.2.2.2.1.2.2.1 h.2.2.2.1.2.2.2, h.2.2.2.2⟩
theorem RWx_w {b n T t k v : Nat} {g P F : Nat → Nat} {x : Int32} {mz m : zM} (hb : tbv b) (h8 : P 8 < 16) (h : RWx b n g T t P F mz m) (hk : k < 8) (hx : x = fI (upn F k v) k) : RWx b n g T t P (upn F k v) mz (sI m (b + 7 + P 8) k x) := by
  obtain ⟨h1, h2, h3, ⟨a1, a2, a3, a4⟩, h5⟩ := h
  refine ⟨?_, h2, h3, ⟨?_, fun j hj => ?_, fun c c1 c2 c3 => ?_, fun j hj => ?_⟩, h5⟩
  · have := CsX_d (k := 7 + P 8) (i := k) (v := x) hb (by omega) h1
    rw [show b + (7 + P 8) = b + 7 + P 8 by omega] at this
    exact this
  · rw [rd_I0 (by omega)]; exact a1
  · rw [rd_I0 (by omega)]; exact a2 j hj
  · rw [rd_Ic (by omega)]; exact a3 c c1 c2 c3
  · by_cases z : j = k
    · rw [z, rd_I1]; exact hx
    · rw [rd_I0 (by omega), a4 j hj]
      unfold fI
      rw [upn_o z]
theorem RWx_l {b n T t t' : Nat} {g P F : Nat → Nat} {mz m m' : zM} (hb : tbv b) (h8 : P 8 < 16) (h : RWx b n g T t P F mz m) (hC : CsX n g T t' m') (hf : fl2 [] RdF m m') : RWx b n g T t' P F mz m' := by
  have hb' : b = 66 ∨ b = 93 := hb
  obtain ⟨h1, h2, h3, ⟨a1, a2, a3, a4⟩, h5⟩ := h
  have e : ∀ c j, 66 ≤ c → m'.1 c j = m.1 c j := fun c j hc => fl2_i hf (by
    unfold inS RdF
    rw [Bool.or_eq_false_iff]
    refine ⟨rfl, ?_⟩
    rw [Bool.eq_false_iff]
    intro z
    rw [List.contains_iff_mem] at z
    simp at z
    omega)
  refine ⟨hC, by rw [hf.2]; exact h2, h3, ⟨?_, fun j hj => ?_, fun c c1 c2 c3 => ?_, fun j hj => ?_⟩, h5⟩
  · rw [e b 4 (by omega)]; exact a1
  · rw [e b j (by omega)]; exact a2 j hj
  · rw [← a3 c c1 c2 c3]; funext j; exact e (b + c) j (by omega)
  · rw [e _ j (by omega)]; exact a4 j hj
