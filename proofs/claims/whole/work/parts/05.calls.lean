
theorem zq_of {al : Bool} {D : va_G} {cA : Nat → ClassId} {ad : Nat → Nat} {A : Nat → Prop} {Q : Option Value → zH → Prop} {s t : State} {H : Heap} {locs : List Loc} {args : Array Value} {h : zH} {r : Option Value} (hH : zHd al D cA ad A s.heap H locs h) (ht : t.heap = H) (hq : Q r h) : zQ al D cA ad A Q args s (.returned (r.map (zv ad))) t :=
  ⟨⟨r, h, rfl, hq, by rw [ht]; exact hH.1, hH.2.1, by rw [ht]; exact hH.2.2.2⟩, hH.2.2.1.F ht⟩

theorem aw_iret {S : zS} {al : Bool} {kc ks pc : Nat} {ls : List (Nat × Value)} {st : List Value} {h : zH} {Q : Option Value → zH → Prop} (hkc : kc ≤ S.2.2.2.2.cells) (hks : ks ≤ S.2.2.2.2.slots) {x : Int32} (hr : S.2.2.2.1 = some .int) (hd : decode S.2.1 pc = .ok (.ireturn, 1)) (hq : Q (some (.int x)) h) : AW S al kc ks pc ls [.int x] h Q := by
  intro l p e s m args below meth c D cA ad A H locs lv hC hH hl
  refine W.widen hkc hks ?_
  exact W.iret hC.1 hC.2.1 (by rw [hC.2.2.2.1]; exact hr) (fun t ht _ => zq_of (r := some (.int x)) hH ht hq) (fun q hq => hH.2.2.1.2.2 q hq) hd (hlocks := hC.2.2.2.2.2.2.1)
theorem aw_zret {S : zS} {al : Bool} {kc ks pc : Nat} {ls : List (Nat × Value)} {st : List Value} {h : zH} {Q : Option Value → zH → Prop} (hkc : kc ≤ S.2.2.2.2.cells) (hks : ks ≤ S.2.2.2.2.slots) {x : Int32} (hr : S.2.2.2.1 = some .boolean) (hx : x = 0 ∨ x = 1) (hd : decode S.2.1 pc = .ok (.ireturn, 1)) (hq : Q (some (.int x)) h) : AW S al kc ks pc ls [.int x] h Q := by
  intro l p e s m args below meth c D cA ad A H locs lv hC hH hl
  refine W.widen hkc hks ?_
  exact W.zret (ty := .boolean) hC.1 hC.2.1 (by rw [hC.2.2.2.1]; exact hr) (by rcases hx with rfl | rfl <;> rfl) (fun t ht _ => zq_of (r := some (.int x)) hH ht hq) (fun q hq => hH.2.2.1.2.2 q hq) hd (hlocks := hC.2.2.2.2.2.2.1)
theorem aw_lret {S : zS} {al : Bool} {kc ks pc : Nat} {ls : List (Nat × Value)} {st : List Value} {h : zH} {Q : Option Value → zH → Prop} (hkc : kc ≤ S.2.2.2.2.cells) (hks : ks ≤ S.2.2.2.2.slots) {x : Int64} (hr : S.2.2.2.1 = some .long) (hd : decode S.2.1 pc = .ok (.lreturn, 1)) (hq : Q (some (.long x)) h) : AW S al kc ks pc ls [.long x] h Q := by
  intro l p e s m args below meth c D cA ad A H locs lv hC hH hl
  refine W.widen hkc hks ?_
  exact W.lret hC.1 hC.2.1 (by rw [hC.2.2.2.1]; exact hr) (fun t ht _ => zq_of (r := some (.long x)) hH ht hq) (fun q hq => hH.2.2.1.2.2 q hq) hd (hlocks := hC.2.2.2.2.2.2.1)
theorem aw_vret {S : zS} {al : Bool} {kc ks pc : Nat} {ls : List (Nat × Value)} {st : List Value} {h : zH} {Q : Option Value → zH → Prop} (hkc : kc ≤ S.2.2.2.2.cells) (hks : ks ≤ S.2.2.2.2.slots) (hr : S.2.2.2.1 = none) (hd : decode S.2.1 pc = .ok (.return_, 1)) (hq : Q none h) : AW S al kc ks pc ls [] h Q := by
  intro l p e s m args below meth c D cA ad A H locs lv hC hH hl
  refine W.widen hkc hks ?_
  exact W.vret hC.1 hC.2.1 (by rw [hC.2.2.2.1]; exact hr) (fun t ht _ => zq_of (r := none) hH ht hq) (fun q hq => hH.2.2.1.2.2 q hq) hd (hlocks := hC.2.2.2.2.2.2.1)
theorem aw_aret {S : zS} {al : Bool} {kc ks pc : Nat} {ls : List (Nat × Value)} {st : List Value} {h : zH} {Q : Option Value → zH → Prop} (hkc : kc ≤ S.2.2.2.2.cells) (hks : ks ≤ S.2.2.2.2.slots) {x : Nat} {cn : String} (hr : S.2.2.2.1 = some (.object cn)) (hd : decode S.2.1 pc = .ok (.areturn, 1)) (hq : Q (some (.ref x)) h) : AW S al kc ks pc ls [.ref x] h Q := by
  intro l p e s m args below meth c D cA ad A H locs lv hC hH hl
  refine W.widen hkc hks ?_
  exact W.aret (rt := .object cn) (v := .ref (ad x)) hC.1 hC.2.1 (by rw [hC.2.2.2.1]; exact hr) (Or.inl ⟨_, rfl⟩) (Or.inr ⟨_, rfl⟩) (fun t ht _ => zq_of (r := some (.ref x)) hH ht hq) (fun q hq => hH.2.2.1.2.2 q hq) hd (hlocks := hC.2.2.2.2.2.2.1)

abbrev zwo (S : zS) : List Cond := Cond.code S.1 S.2.1 S.2.2.1 S.2.2.2.1 :: ztb
/-- what a call of S begins with -/
def zPre (al : Bool) (D : va_G) (cA : Nat → ClassId) (ad : Nat → Nat) (A : Nat → Prop) (h : zH) (U : State) : Prop := va_P D zcl (zws cA ad h) U.heap ∧ va_D A (zws cA ad h) ∧ zal al ad h U.heap ∧ va_K D zcl (ztys cA) U ∧ (∀ w ∈ znw, va_Nw w U) ∧ va_AO "ProtocolAtlas$Row" U ∧ zstr ad A U ∧ (∀ q : Nat, U.heap.size ≤ q → A q)
/-- a call of S with these arguments and this memory comes back with Q -/
def zCall (S : zS) (al : Bool) (as : List Value) (h : zH) (Q : Option Value → zH → Prop) : Prop :=
  ∀ (l : Launch) (D : va_G) (cA : Nat → ClassId) (ad : Nat → Nat) (A : Nat → Prop), Met l S.1 (zwo S) S.2.2.2.2 (va_Pc (as.map (zv ad)) (zPre al D cA ad A h)) (zQ al D cA ad A Q) S.2.2.2.2.cells S.2.2.2.2.slots A
theorem zlm_args (ad : Nat → Nat) : ∀ (as : List Value) (i : Nat), lv_args i (as.map (zv ad)) = zlm ad (lv_args i as)
  | [], _ => rfl
  | v :: vs, i => by
    show (i, zv ad v) :: lv_args (if (zv ad v).category = 2 then i + 2 else i + 1) (vs.map (zv ad)) = (i, zv ad v) :: zlm ad (lv_args (if v.category = 2 then i + 2 else i + 1) vs)
    rw [zv_cat, zlm_args ad vs]
theorem zsl_len (ad : Nat → Nat) (as : List Value) : (lg_sl (as.map (zv ad))).length = (lg_sl as).length := by
  induction as with
  | nil => rfl
  | cons v vs ih =>
    simp only [lg_sl, List.map_cons, List.flatMap_cons, List.length_append, zv_cat] at ih ⊢
    rw [ih]
    split <;> rfl
theorem zcall_of {S : zS} {al : Bool} {as : List Value} {h : zH} {Q : Option Value → zH → Prop} (hy : plainName S.1.cls = true) (hn : (lg_sl as).length ≤ S.2.2.1) (hk : AW S al 0 0 0 (lv_args 0 as) [] h Q) : zCall S al as h Q := by
  intro l D cA ad A
  refine Met.ofW (cc := S.2.1) (maxL := S.2.2.1) (ret := S.2.2.2.1) hy rfl ?_
  intro p e s m args below meth c s₁ B hml hv
  obtain ⟨rfl, hP, hD, hal, hK, hN, hO, hSt, hA⟩ := hv
  have hts := atoms_spec (ws := zwo S) B.pre
  have hl := lv_entry (as.map (zv ad)) (n := S.2.2.1) (by rw [zsl_len]; exact hn)
  rw [zlm_args] at hl
  rw [lg_entry_eq]
  exact hk l p e s m _ below meth c D cA ad A s.heap [] _ ⟨B.exec, B.bytes, hml, B.returns, findClass_of_methodNamed B.named, hts, B.notSynchronized, (name_of_methodNamed B.named B.method).1, hK, hN, hO, hSt, hA⟩ ⟨hP, hD, va_S.rf, hal⟩ hl
theorem zpre_blind {al : Bool} {D : va_G} {cA : Nat → ClassId} {ad : Nat → Nat} {A : Nat → Prop} {h : zH} {av : List Value} : FrameBlind (va_Pc av (zPre al D cA ad A h)) := by
  intro a U g mk q
  obtain ⟨q0, hP, hD, hal, hK, hN, hO, ⟨hS, hR, hZ1, hZ2⟩, hA⟩ := q
  exact ⟨q0, hP, hD, hal, va_K.moved (u := U) (U := U.calling g mk a) (Vm.Alike.refl U.vm) hK, fun w hw => va_Nw.same (znw_in w hw).2 (u := U) (U := U.calling g mk a) rfl (hN w hw), va_AO.moved (u := U) (U := U.calling g mk a) (Vm.Alike.refl U.vm) hO, ⟨vk_S.moved (u := U) (U := U.calling g mk a) (Vm.Alike.refl U.vm) hS, fun i hi => vk_R.same (u := U) (U := U.calling g mk a) rfl (hR i hi), va_Z.moved (u := U) (U := U.calling g mk a) (Vm.Alike.refl U.vm) hZ1, hZ2.imp (va_Z.moved (u := U) (U := U.calling g mk a) (Vm.Alike.refl U.vm)) (va_Z.moved (u := U) (U := U.calling g mk a) (Vm.Alike.refl U.vm))⟩, hA⟩
def zisn : Cond → Bool
  | .fieldLinkNest .. => true
  | .methodLinkNest .. => true
  | _ => false
theorem znw_n : ∀ w ∈ znw, zisn w = true := by decide +kernel
theorem znw_warm {s U : State} (hW : s.WarmedH U.vm) (hN : ∀ w ∈ znw, va_Nw w s) : ∀ w ∈ znw, va_Nw w U := by
  intro w hw
  have h1 := znw_n w hw
  have h2 := hN w hw
  cases w <;> simp [zisn] at h1
  · exact va_Nw.warmM hW h2
  · exact va_Nw.warmF hW h2
theorem zpre_at {S : zS} {p : Program} {s : State} {m : MethodId} {args : Array Value} {meth : Method} {c : Code} {al : Bool} {D : va_G} {cA : Nat → ClassId} {ad : Nat → Nat} {A : Nat → Prop} {H : Heap} {locs : List Loc} {h : zH} (hC : zC S p s m args meth c D cA ad A) (hH : zHd al D cA ad A s.heap H locs h) {U : State} (hU : U.heap = H) (hW : s.WarmedH U.vm) : zPre al D cA ad A h U := by
  obtain ⟨-, -, -, -, -, -, -, -, hK, hN, hO, ⟨hS, hR, hZ1, hZ2⟩, hA⟩ := hC
  have kp : ∀ a : Nat, a < s.heap.size → ¬ A a → U.heap[a]? = s.heap[a]? := fun a h1 h2 => by rw [hU]; exact hH.2.2.1.2.1 a h1 h2
  refine ⟨by rw [hU]; exact hH.1, hH.2.1, by rw [hU]; exact hH.2.2.2, va_K.moved hW.alike hK, znw_warm hW hN, va_AO.moved hW.alike hO, ⟨?_, fun i hi => vk_R.warm hW (hR i hi), va_Z.moved hW.alike (hZ1.kept kp), hZ2.imp (fun z => va_Z.moved hW.alike (z.kept kp)) (fun z => va_Z.moved hW.alike (z.kept kp))⟩, fun q hq => hA q (Nat.le_trans hH.2.2.1.1 (by rw [← hU]; exact hq))⟩
  exact vk_S.moved hW.alike (hS.kept kp)
theorem zgoodin {S S' : zS} (hc : Cond.code S'.1 S'.2.1 S'.2.2.1 S'.2.2.2.1 ∈ ztb) : GoodIn (zwo S) (zwo S') := by
  intro w hw
  have h1 : w ∈ ztb := by
    rcases List.mem_cons.mp hw with rfl | h
    · exact hc
    · exact h
  exact ⟨List.mem_cons_of_mem _ h1, good_of_word (List.mem_filter.mp h1).2⟩
/-- behind a call -/
theorem zback {S : zS} {l : Launch} {p : Program} {e : Env} {s : State} {m : MethodId} {args a : Array Value} {below : List Frame} {meth : Method} {c : Code} {D : va_G} {cA : Nat → ClassId} {ad : Nat → Nat} {A : Nat → Prop} {H : Heap} {locs : List Loc} {lv : Array Slot} {al : Bool} {kc ks mc ms pc : Nat} {ls : List (Nat × Value)} {st0 : List Value} {rest : List Value} {Q1 Q : Option Value → zH → Prop}
    (hr : va_Run p l e S.2.2.2.2 s m args below meth c H locs kc ks mc ms (F0 m pc lv st0) (rest.map (zv ad)) (zQ al D cA ad A Q1 a) A) (hC : zC S p s m args meth c D cA ad A) (hS : va_S A s.heap H locs) (hl : lv_has lv S.2.2.1 (zlm ad ls)) (hq : ∀ r h, Q1 r h → AW S al (kc + mc) (ks + ms) (pc + 3) ls (r.toList ++ rest) h Q) :
    W p l e S.2.2.2.2 s m args below meth c H locs kc ks (MQ below (zQ al D cA ad A Q) args s S.2.2.2.2.cells S.2.2.2.2.slots A) (F0 m pc lv st0) := by
  intro T hT X
  obtain ⟨v, st₀, t, T', L, h0, X', hL, e1, e2, ⟨⟨r, h', hv, hp, hP, hD, hal⟩, hz, hk⟩, st⟩ := hr T hT X
  rw [h0] at hz hk
  have hS1 : va_S A s.heap T'.heap (locs ++ L) := ⟨Nat.le_trans hS.1 (by rw [e1]; exact hz), fun q h1 h2 => by rw [e1, hk q (Nat.lt_of_lt_of_le h1 hS.1) h2]; exact hS.2.1 q h1 h2, fun q hq => by
      rcases List.mem_append.mp hq with h | h
      · exact hS.2.2 q h
      · exact hL q h⟩
  obtain ⟨t2, a1, b1⟩ := hq r h' hp l p e s m args below meth c D cA ad A T'.heap (locs ++ L) lv hC ⟨by rw [e1]; exact hP, hD, hS1, by rw [e1]; exact hal⟩ hl T' rfl X'
  have hv' : v = r.map (zv ad) := by injection hv
  subst hv'
  refine ⟨t2, st t2 ?_, b1⟩
  have e3 : (r.toList ++ rest).map (zv ad) = (r.map (zv ad)).toList ++ rest.map (zv ad) := by cases r <;> simp
  rw [e3] at a1
  exact a1
def zcat (st : List Value) : Nat := (st.map fun v => v.category).sum
theorem zcat_map (ad : Nat → Nat) (st : List Value) : ((st.map (zv ad)).map fun v => v.category).sum = zcat st := by
  simp [zcat, Function.comp_def, zv_cat]
def zsig (y : MethodName) (n : Nat) : Prop := y.cls ≠ "java/lang/invoke/MethodHandle" ∧ y.cls ≠ "java/lang/invoke/VarHandle" ∧ (parseMethodDescriptor y.desc).map (fun d => d.parameters.length) = some n
def zroom (S S' : zS) : Prop := S'.2.2.2.2.frames + 1 ≤ S.2.2.2.2.frames ∧ 8 + (S'.2.2.1 + 11) + S'.2.2.2.2.locals ≤ S.2.2.2.2.locals
/-- what is said of a call at an instance method: its link and its selection -/
def zrc (h : zH) (b : Nat) (cls : String) : Prop := (∃ (ci : Nat) (q : vw_C), zcl[ci]? = some q ∧ q.1 = cls ∧ h.1[b]? = some (.inl ci)) ∨ (cls = "java/lang/String" ∧ ∃ i : Nat, i < zsN ∧ b = 1000 + i)
def zLV (own : String) (ix : Nat) (S' : zS) (n : Nat) : Prop := zsig S'.1 n ∧ Cond.code S'.1 S'.2.1 S'.2.2.1 S'.2.2.2.1 ∈ ztb ∧ Cond.instanceMethod S'.1 ∈ ztb ∧ Cond.selects S'.1.cls S'.1 S'.1 ∈ ztb ∧ Cond.initialized S'.1.cls ∈ ztb ∧ (Cond.methodLink own ix S'.1 ∈ ztb ∨ ∃ host : String, Cond.methodLinkNest own ix S'.1 host ∈ znw)
theorem aw_callV {S : zS} {al : Bool} {kc ks pc : Nat} {ls : List (Nat × Value)} {rest : List Value} {h : zH} {Q : Option Value → zH → Prop} {S' : zS} {ix b : Nat} {n : Nat} (hk : zLV S.1.cls ix S' n) (hrm : zroom S S') (As : List Value) (st0 : List Value) (hst : st0 = As.reverse ++ .ref b :: rest) (hn : As.length = n) (hb : zrc h b S'.1.cls) (hcat : zcat rest ≤ 8) (hd : decode S.2.1 pc = .ok (.invokevirtual ix, 3)) (hf : kc + S'.2.2.2.2.cells ≤ S.2.2.2.2.cells ∧ ks + S'.2.2.2.2.slots ≤ S.2.2.2.2.slots)
    (k : zCall S' al (.ref b :: As) h (fun r h' => AW S al (kc + S'.2.2.2.2.cells) (ks + S'.2.2.2.2.slots) (pc + 3) ls (r.toList ++ rest) h' Q)) : AW S al kc ks pc ls st0 h Q := by
  intro l p e s m args below meth c D cA ad A H locs lv hC hH hl
  subst hst
  obtain ⟨hsg, hcd, him, hse, hini, hlk⟩ := hk
  have hre : PreV s H S'.1.cls (ad b) (va_Pc ((.ref b :: As).map (zv ad)) (zPre al D cA ad A h)) (As.map (zv ad)) := ⟨zpre_blind, by
      rcases hb with ⟨ci, q, hq1, hq2, hb⟩ | ⟨hq2, i, hi, hb⟩
      · rw [← hq2]; exact va_recv hC.2.2.2.2.2.2.2.2.1 hH.1 (ci := ci) (q0 := b) hq1 (zws_at hb)
      · rw [hq2, hb]; exact vk_recv (adK := fun i => ad (1000 + i)) (i := i) hC.2.2.2.2.2.2.2.2.2.2.2.1.1 hi hH.2.2.1, fun U hU hW => ⟨by simp [zv], zpre_at hC hH hU hW⟩⟩
  have hstk : ((As.reverse ++ .ref b :: rest).map (zv ad)) = (As.map (zv ad)).reverse ++ .ref (ad b) :: rest.map (zv ad) := by simp [zv]
  have hlen : (As.map (zv ad)).length = n := by simp [hn]
  have hct : 2 * (F0 m pc lv ((As.reverse ++ .ref b :: rest).map (zv ad))).monitorRoom + ((rest.map (zv ad)).map fun v => v.category).sum ≤ 8 := lv_room (by rw [zcat_map]; exact hcat)
  have wk : ∀ w ∈ ztb, w.before args s = true := fun w hw => hC.w hw
  have hpay := pay_in hC.2.2.2.2.2.1 (zgoodin (S := S) hcd)
  have hsg2 : ∀ sig, parseMethodDescriptor S'.1.desc = some sig → n = sig.parameters.length := fun sig h => by
    have h2 := hsg.2.2
    rw [h] at h2
    exact (Option.some.inj h2).symm
  rcases hlk with hlk | ⟨host, hlk⟩
  · exact zback (va_runV (own := S.1.cls) (C := S'.1.cls) (bytes := S'.2.1) (maxL := S'.2.2.1) (ret := S'.2.2.2.1) (n := n) (b := ad b) (As := As.map (zv ad)) ⟨hC.1, hC.2.1, hC.2.2.1, hC.2.2.2.2.1, hC.2.2.2.2.2.1⟩ (k l D cA ad A) ⟨⟨rfl, rfl, hrm.1, hrm.2, hpay, List.mem_cons_self, wk _ hcd, wk _ hini, ⟨hsg.1, hsg.2.1⟩, hsg2, wk _ hlk⟩, wk _ him, wk _ hse⟩ hre rfl hlen hl.1 hstk hct hd hf) hC hH.2.2.1 hl (fun _ _ q => q)
  · exact zback (va_runVN (own := S.1.cls) (C := S'.1.cls) (host := host) (bytes := S'.2.1) (maxL := S'.2.2.1) (ret := S'.2.2.2.1) (n := n) (b := ad b) (As := As.map (zv ad)) ⟨hC.1, hC.2.1, hC.2.2.1, hC.2.2.2.2.1, hC.2.2.2.2.2.1⟩ (k l D cA ad A) ⟨⟨⟨rfl, rfl, hrm.1, hrm.2, hpay, List.mem_cons_self⟩, wk _ hcd, wk _ hini, ⟨hsg.1, hsg.2.1⟩, hsg2, va_Nw.use rfl (hC.2.2.2.2.2.2.2.2.2.1 _ hlk)⟩, wk _ him, wk _ hse⟩ hre rfl hlen hl.1 hstk hct hd hf) hC hH.2.2.1 hl (fun _ _ q => q)
def zLS (own : String) (ix : Nat) (S' : zS) (n : Nat) : Prop := zsig S'.1 n ∧ Cond.code S'.1 S'.2.1 S'.2.2.1 S'.2.2.2.1 ∈ ztb ∧ Cond.static S'.1 ∈ ztb ∧ Cond.initialized S'.1.cls ∈ ztb ∧ (Cond.methodLink own ix S'.1 ∈ ztb ∨ ∃ host : String, Cond.methodLinkNest own ix S'.1 host ∈ znw)
theorem aw_callS {S : zS} {al : Bool} {kc ks pc : Nat} {ls : List (Nat × Value)} {rest : List Value} {h : zH} {Q : Option Value → zH → Prop} {S' : zS} {ix : Nat} {n : Nat} (hk : zLS S.1.cls ix S' n) (hrm : zroom S S') (As : List Value) (st0 : List Value) (hst : st0 = As.reverse ++ rest) (hn : As.length = n) (hcat : zcat rest ≤ 8) (hd : decode S.2.1 pc = .ok (.invokestatic ix, 3)) (hf : kc + S'.2.2.2.2.cells ≤ S.2.2.2.2.cells ∧ ks + S'.2.2.2.2.slots ≤ S.2.2.2.2.slots)
    (k : zCall S' al As h (fun r h' => AW S al (kc + S'.2.2.2.2.cells) (ks + S'.2.2.2.2.slots) (pc + 3) ls (r.toList ++ rest) h' Q)) : AW S al kc ks pc ls st0 h Q := by
  intro l p e s m args below meth c D cA ad A H locs lv hC hH hl
  subst hst
  obtain ⟨hsg, hcd, hst, hini, hlk⟩ := hk
  have hre : PreS s H (va_Pc (As.map (zv ad)) (zPre al D cA ad A h)) (As.map (zv ad)) := ⟨zpre_blind, fun U hU hW => ⟨rfl, zpre_at hC hH hU hW⟩⟩
  have hstk : ((As.reverse ++ rest).map (zv ad)) = (As.map (zv ad)).reverse ++ rest.map (zv ad) := by simp
  have hlen : (As.map (zv ad)).length = n := by simp [hn]
  have hct : 2 * (F0 m pc lv ((As.reverse ++ rest).map (zv ad))).monitorRoom + ((rest.map (zv ad)).map fun v => v.category).sum ≤ 8 := lv_room (by rw [zcat_map]; exact hcat)
  have wk : ∀ w ∈ ztb, w.before args s = true := fun w hw => hC.w hw
  have hpay := pay_in hC.2.2.2.2.2.1 (zgoodin (S := S) hcd)
  have hsg2 : ∀ sig, parseMethodDescriptor S'.1.desc = some sig → n = sig.parameters.length := fun sig h => by
    have h2 := hsg.2.2
    rw [h] at h2
    exact (Option.some.inj h2).symm
  rcases hlk with hlk | ⟨host, hlk⟩
  · exact zback (va_runS (own := S.1.cls) (bytes := S'.2.1) (maxL := S'.2.2.1) (ret := S'.2.2.2.1) (n := n) (As := As.map (zv ad)) ⟨hC.1, hC.2.1, hC.2.2.1, hC.2.2.2.2.1, hC.2.2.2.2.2.1⟩ (k l D cA ad A) ⟨⟨rfl, rfl, hrm.1, hrm.2, hpay, List.mem_cons_self, wk _ hcd, wk _ hini, ⟨hsg.1, hsg.2.1⟩, hsg2, wk _ hlk⟩, wk _ hst⟩ hre rfl hlen hl.1 hstk hct hd hf) hC hH.2.2.1 hl (fun _ _ q => q)
  · exact zback (va_runSN (own := S.1.cls) (host := host) (bytes := S'.2.1) (maxL := S'.2.2.1) (ret := S'.2.2.2.1) (n := n) (As := As.map (zv ad)) ⟨hC.1, hC.2.1, hC.2.2.1, hC.2.2.2.2.1, hC.2.2.2.2.2.1⟩ (k l D cA ad A) ⟨⟨⟨rfl, rfl, hrm.1, hrm.2, hpay, List.mem_cons_self⟩, wk _ hcd, wk _ hini, ⟨hsg.1, hsg.2.1⟩, hsg2, va_Nw.use rfl (hC.2.2.2.2.2.2.2.2.2.1 _ hlk)⟩, wk _ hst, trivial⟩ hre rfl hlen hl.1 hstk hct hd hf) hC hH.2.2.1 hl (fun _ _ q => q)
def zLI (own : String) (ix : Nat) (S' : zS) (n : Nat) : Prop := zsig S'.1 n ∧ S'.1.name = "<init>" ∧ S'.2.2.2.1 = none ∧ Cond.code S'.1 S'.2.1 S'.2.2.1 none ∈ ztb ∧ Cond.instanceMethod S'.1 ∈ ztb ∧ Cond.initialized S'.1.cls ∈ ztb ∧ (Cond.methodLink own ix S'.1 ∈ ztb ∨ ∃ host : String, Cond.methodLinkNest own ix S'.1 host ∈ znw)
theorem aw_callI {S : zS} {al : Bool} {kc ks pc : Nat} {ls : List (Nat × Value)} {rest : List Value} {h : zH} {Q : Option Value → zH → Prop} {S' : zS} {ix b : Nat} {n : Nat} (hk : zLI S.1.cls ix S' n) (hrm : zroom S S') (As : List Value) (st0 : List Value) (hst : st0 = As.reverse ++ .ref b :: rest) (hn : As.length = n) (hcat : zcat rest ≤ 8) (hd : decode S.2.1 pc = .ok (.invokespecial ix, 3)) (hf : kc + S'.2.2.2.2.cells ≤ S.2.2.2.2.cells ∧ ks + S'.2.2.2.2.slots ≤ S.2.2.2.2.slots)
    (k : zCall S' al (.ref b :: As) h (fun r h' => AW S al (kc + S'.2.2.2.2.cells) (ks + S'.2.2.2.2.slots) (pc + 3) ls (r.toList ++ rest) h' Q)) : AW S al kc ks pc ls st0 h Q := by
  intro l p e s m args below meth c D cA ad A H locs lv hC hH hl
  subst hst
  obtain ⟨hsg, hnm, hret, hcd, him, hini, hlk⟩ := hk
  have hre : PreS s H (va_Pc ((.ref b :: As).map (zv ad)) (zPre al D cA ad A h)) (.ref (ad b) :: As.map (zv ad)) := ⟨zpre_blind, fun U hU hW => ⟨by simp [zv], zpre_at hC hH hU hW⟩⟩
  have hstk : ((As.reverse ++ .ref b :: rest).map (zv ad)) = (As.map (zv ad)).reverse ++ .ref (ad b) :: rest.map (zv ad) := by simp [zv]
  have hlen : (As.map (zv ad)).length = n := by simp [hn]
  have hct : 2 * (F0 m pc lv ((As.reverse ++ .ref b :: rest).map (zv ad))).monitorRoom + ((rest.map (zv ad)).map fun v => v.category).sum ≤ 8 := lv_room (by rw [zcat_map]; exact hcat)
  have wk : ∀ w ∈ ztb, w.before args s = true := fun w hw => hC.w hw
  have hcd2 : Cond.code S'.1 S'.2.1 S'.2.2.1 S'.2.2.2.1 ∈ ztb := by rw [hret]; exact hcd
  have hpay := pay_in hC.2.2.2.2.2.1 (zgoodin (S := S) hcd2)
  have hmem : Cond.code S'.1 S'.2.1 S'.2.2.1 none ∈ zwo S' := by rw [← hret]; exact List.mem_cons_self
  have hsg2 : ∀ sig, parseMethodDescriptor S'.1.desc = some sig → n = sig.parameters.length := fun sig h => by
    have h2 := hsg.2.2
    rw [h] at h2
    exact (Option.some.inj h2).symm
  rcases hlk with hlk | ⟨host, hlk⟩
  · exact zback (va_runI (own := S.1.cls) (bytes := S'.2.1) (maxL := S'.2.2.1) (n := n) (b := ad b) (As := As.map (zv ad)) ⟨hC.1, hC.2.1, hC.2.2.1, hC.2.2.2.2.1, hC.2.2.2.2.2.1⟩ (k l D cA ad A) ⟨⟨rfl, rfl, hrm.1, hrm.2, hpay, hmem, wk _ hcd, wk _ hini, ⟨hsg.1, hsg.2.1⟩, hsg2, wk _ hlk⟩, hnm, wk _ him⟩ hre rfl hlen hl.1 hstk hct hd hf) hC hH.2.2.1 hl (fun _ _ q => q)
  · exact zback (va_runIN (own := S.1.cls) (host := host) (bytes := S'.2.1) (maxL := S'.2.2.1) (n := n) (b := ad b) (As := As.map (zv ad)) ⟨hC.1, hC.2.1, hC.2.2.1, hC.2.2.2.2.1, hC.2.2.2.2.2.1⟩ (k l D cA ad A) ⟨⟨⟨rfl, rfl, hrm.1, hrm.2, hpay, hmem⟩, wk _ hcd, wk _ hini, ⟨hsg.1, hsg.2.1⟩, hsg2, va_Nw.use rfl (hC.2.2.2.2.2.2.2.2.2.1 _ hlk)⟩, hnm, wk _ him⟩ hre rfl hlen hl.1 hstk hct hd hf) hC hH.2.2.1 hl (fun _ _ q => q)

