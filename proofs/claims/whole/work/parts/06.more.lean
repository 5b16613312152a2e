theorem aw_putF {S : zS} {al : Bool} {kc ks pc : Nat} {ls : List (Nat × Value)} {st : List Value} {h : zH} {Q : Option Value → zH → Prop} {ix ci i : Nat} {C : String} {T : u_T} {N : Nat} {ty : Nat → FieldType} (hk : zFL S.1.cls ix ci i C T N ty) {a : Nat} (ha : h.1[a]? = some (.inl ci)) {v : Value} {h' : zH} (hnl : Cond.fieldLink S.1.cls ix C (T i).2.1 (T i).2.2.1 ∈ ztb) (hfin : (T i).2.2.2 = true) (hin2 : S.1.name = "<init>") (hdc : C = S.1.cls) (hsh : h'.1 = h.1) (hst : ∀ (cA : Nat → ClassId) (ad : Nat → Nat), (zws cA ad h).set a (ad a, .inr (ci, (zfs (zkd ci) ad h a).set i (zv ad v))) = zws cA ad h') (hn : ∀ ad, narrow (ty i) (zv ad v) = zv ad v) (hf : ∀ ad, fits (ty i) (zv ad v) = true) (hd : decode S.2.1 pc = .ok (.putfield ix, 3)) (k : AW S al kc ks (pc + 3) (ls) (st) (h') Q) : AW S al kc ks (pc) (ls) (v :: .ref a :: st) (h) Q := by
  intro l p e s m args below meth c D cA ad A H locs lv hC hH hl
  obtain ⟨⟨hc, hin, hty, hnm, hown, hlen, hkd⟩, hi, -⟩ := hk
  have hT : ∀ w ∈ u_ws C T N, w ∈ (Cond.code S.1 S.2.1 S.2.2.1 S.2.2.2.1 :: ztb) := fun w hw => List.mem_cons_of_mem _ (hin w hw)
  have hl2 : i < (zfs (zkd ci) ad h a).length := by simp [zfs, hlen]; exact hi
  have hap := va_apart (own := S.1.cls) hC.2.2.2.2.2.1 hT ty hty hnm hC.2.2.2.2.2.2.2.2.1 hc
  obtain ⟨r, h1, cell, q1, q2, q3, q4⟩ := hH.1 a _ (zws_at ha)
  have hr : r = (C, T, N) := Option.some.inj (h1.symm.trans hc)
  subst hr
  obtain ⟨hS, hfc, kC, hkC, hkind⟩ := hC.2.2.2.2.2.2.2.2.1.1 ci _ hc
  obtain ⟨cf, kf, fi, f, hif, hsl⟩ := hS i hi
  have hlay := hC.2.2.2.2.2.1 _ (hT _ (u_in_lay hi))
  unfold u_lay at hlay
  rw [if_pos hfin] at hlay
  have hstt := (u_facts hfc hkC (u_lays hC.2.2.2.2.2.1 hT hi) hif).1
  have hcf : m.cls = cf := by
    obtain ⟨_, _, c', _, _, _, -, -, hf', -, -, -, hown2, -⟩ := Cond.laysFinal_spec hlay
    have e1 : c' = cf := by have := hif.symm.trans hf'; simp at this; exact this.1.symm
    rw [hown i hi, hdc] at hown2
    rw [← e1]; exact Option.some.inj (hC.2.2.2.2.1.symm.trans hown2)
  have h6 := u_fits hfc hkC hkind (Or.inr hlay) hif (hty i hi) (hn ad) (hf ad)
  have hsame : ∀ x, s.fieldFound? (T i).1 (T i).2.1 (T i).2.2.1 = some x → s.fieldFound? C (T i).2.1 (T i).2.2.1 = some x := by rw [hown i hi]; exact fun _ q => q
  refine W.putFinK hC.1 hC.2.1 hC.2.2.2.2.1 (hC.w hnl) (hsame _ hif) hstt hcf (by rw [hC.2.2.2.2.2.2.2.1]; exact hin2) (by rw [q2]; exact h6) q1 q3 (by rw [hsl]; exact k2_hasslot (q4 i hi)) rfl rfl hd fun H' e1 e2 e3 => ?_
  rw [hsl] at e1 ⊢
  have hP1 := hH.1.set (e := .inr (ci, (zfs (zkd ci) ad h a).set i (zv ad v))) (H1 := H') hH.2.1 (zws_at ha) ⟨_, hc, t_OB.to (V := updV (vp_V (zfs (zkd ci) ad h a)) i (zv ad v)) ⟨_, e1, q2, q3, t_set q4 hap hi (zv ad v)⟩ (fun j _ => vp_updV_set hl2 (zv ad v) j)⟩ e3
  have hD1 := hH.2.1.set (e := .inr (ci, (zfs (zkd ci) ad h a).set i (zv ad v))) (zws_at ha)
  rw [hst] at hP1 hD1
  exact k l p e s m args below meth c D cA ad A H' _ lv hC ⟨hP1, hD1, hH.2.2.1.put e2 e3 (hH.2.1.2 a _ (zws_at ha)), fun q => by rw [e2, hsh]; exact hH.2.2.2 q⟩ hl
theorem aw_putFR {S : zS} {al : Bool} {kc ks pc : Nat} {ls : List (Nat × Value)} {st : List Value} {h : zH} {Q : Option Value → zH → Prop} {ix ci i : Nat} {C : String} {T : u_T} {N : Nat} {ty : Nat → FieldType} (hk : zFL S.1.cls ix ci i C T N ty) {a : Nat} (ha : h.1[a]? = some (.inl ci)) {x : Nat} (hnl : Cond.fieldLink S.1.cls ix C (T i).2.1 (T i).2.2.1 ∈ ztb) (hfin : (T i).2.2.2 = true) (hin2 : S.1.name = "<init>") (hdc : C = S.1.cls) (hty : (∃ cn, ty i = .object cn) ∨ ∃ t, ty i = .array t) (hkd : (zkd ci).getD i 9 = 2) (hi : i < (zkd ci).length) (hd : decode S.2.1 pc = .ok (.putfield ix, 3)) (k : AW S al kc ks (pc + 3) (ls) (st) (zuR h a i x) Q) : AW S al kc ks (pc) (ls) (.ref x :: .ref a :: st) (h) Q := aw_putF (h' := zuR h a i x) hk ha hnl hfin hin2 hdc rfl (fun _ _ => zws_putR ha hi hkd) (fun _ => by rcases hty with ⟨_, hty⟩ | ⟨_, hty⟩ <;> rw [hty] <;> rfl) (fun _ => by rcases hty with ⟨_, hty⟩ | ⟨_, hty⟩ <;> rw [hty] <;> rfl) hd k
theorem zal_add {ad : Nat → Nat} {h : zH} {H H1 : Heap} {q : Nat ⊕ (Nat × Nat)} (h9 : h.1.length < 900) (hal : zal true ad h H) (z1 : H1.size = H.size + 1) : zal true ad (zadd h q) H1 := by
  intro _
  obtain ⟨e1, e2⟩ := hal rfl
  have el : (zadd h q).1.length = h.1.length + 1 := by simp [zadd]
  refine ⟨?_, fun k hk hk9 => e2 k (by omega) hk9⟩
  rw [z1, el, e2 _ (Nat.le_refl _) h9, e1]
theorem zdef {ty : FieldType} {ad : Nat → Nat} {h : zH} {i kd : Nat} (hk : kd = (match ty with | .long => 1 | .object _ => 2 | .array _ => 2 | _ => 0)) (hty : ty = .int ∨ ty = .boolean ∨ ty = .long ∨ (∃ cn, ty = .object cn) ∨ ∃ t, ty = .array t) {q : Nat ⊕ (Nat × Nat)} : zfv ad (zadd h q) h.1.length i kd = defaultValue ty := by
  rcases hty with rfl | rfl | rfl | ⟨_, rfl⟩ | ⟨_, rfl⟩ <;> subst hk <;> simp [zfv, zadd, defaultValue, va_rf]
theorem aw_new {S : zS} {kc ks pc : Nat} {ls : List (Nat × Value)} {st : List Value} {h : zH} {Q : Option Value → zH → Prop} (h9 : h.1.length < 900) {ix ci : Nat} {C : String} {T : u_T} {N : Nat} {ty : Nat → FieldType} (hk : zcls ci C T N ty) (hty2 : ∀ k, k < N → (ty k = .int ∨ ty k = .boolean ∨ ty k = .long ∨ (∃ cn, ty k = .object cn) ∨ ∃ t, ty k = .array t)) (hcl : Cond.classLink S.1.cls ix C ∈ ztb) (hins : Cond.instantiable C N ∈ ztb) (hini : Cond.initialized C ∈ ztb) (hkc : kc + 1 ≤ S.2.2.2.2.cells) (hks : ks + N ≤ S.2.2.2.2.slots) (hd : decode S.2.1 pc = .ok (.new ix, 3))
    (k : AW S true (kc + 1) (ks + N) (pc + 3) ls (.ref h.1.length :: st) (zadd h (.inl ci)) Q) : AW S true kc ks pc ls st h Q := by
  intro l p e s m args below meth c D cA ad A H locs lv hC hH hl
  obtain ⟨hc, hin, hty, hnm, hown, hlen, hkd⟩ := hk
  have hT : ∀ w ∈ u_ws C T N, w ∈ (Cond.code S.1 S.2.1 S.2.2.1 S.2.2.2.1 :: ztb) := fun w hw => List.mem_cons_of_mem _ (hin w hw)
  have hKn := hC.2.2.2.2.2.2.2.2.1.1 ci _ hc
  have hsz := (hH.2.2.2 rfl).1
  refine W.newcK hC.1 hC.2.1 hC.2.2.2.2.1 (hC.w hcl) (hC.w hins) (hC.w hini) rfl hd hkc hks hKn.2.1 hsz fun H1 kC hkC e1 z1 o1 => ?_
  have o1' : ∀ q, q < H.size → H1[q]? = H[q]? := fun q hq => o1 q (by rw [← hsz]; exact hq)
  have hkp : ∀ (k : Nat) (x : Nat × va_E), (zws cA ad h)[k]? = some x → H1[x.1]? = H[x.1]? := fun k x hx => o1' x.1 ((hH.1 k x hx).lt)
  have hP1 : va_P D zcl (zws cA ad (zadd h (.inl ci))) H1 := by
    rw [zws_add]
    refine (hH.1.kept hkp).app (fun k x hx => ?_)
    have hz : k < 1 := (List.getElem?_eq_some_iff.mp hx).1
    rw [show k = 0 by omega] at hx
    cases hx
    refine ⟨_, hc, (u_born ty hC.2.2.2.2.2.1 hT hKn hkC e1 hty).to (fun j hj => ?_)⟩
    show defaultValue (ty j) = vp_V (zfs (zkd ci) ad (zadd h (.inl ci)) h.1.length) j
    have := zfs_at (ad := ad) (h := zadd h (.inl ci)) (a := h.1.length) (kds := zkd ci) (i := j) (by rw [hlen]; exact hj)
    rw [vp_V, List.getD_eq_getElem?_getD, this]
    exact (zdef (hkd j hj) (hty2 j hj)).symm
  have hD1 : va_D A (zws cA ad (zadd h (.inl ci))) := by
    rw [zws_add]
    exact hH.2.1.push hH.1 hsz.symm (by first | (rw [← hsz]; exact hC.2.2.2.2.2.2.2.2.2.2.2.2 _ hH.2.2.1.1) | exact hC.2.2.2.2.2.2.2.2.2.2.2.2 _ hH.2.2.1.1)
  have hS1 : va_S A s.heap H1 locs := ⟨Nat.le_trans hH.2.2.1.1 (by omega), fun x h1 h2 => (o1' x (Nat.lt_of_lt_of_le h1 hH.2.2.1.1)).trans (hH.2.2.1.2.1 x h1 h2), hH.2.2.1.2.2⟩
  exact k l p e s m args below meth c D cA ad A H1 locs lv hC ⟨hP1, hD1, hS1, zal_add h9 hH.2.2.2 (by omega)⟩ hl
theorem aw_newa {S : zS} {kc ks pc : Nat} {ls : List (Nat × Value)} {st : List Value} {h : zH} {Q : Option Value → zH → Prop} (h9 : h.1.length < 900) {at_ : ArrayType} {t n : Nat} {x : Int32} (hty : newarray.typeOf at_ = zty t) (ht : t < 4) (hac : Cond.arrayClass (zty t) ∈ ztb) (hx : ¬ x < 0) (hn : x.toNatClampNeg = n) (hby : n * componentBytes (zty t) ≤ 536870912) (hkc : kc + 1 ≤ S.2.2.2.2.cells) (hks : ks + n ≤ S.2.2.2.2.slots) (hd : decode S.2.1 pc = .ok (.newarray at_, 2))
    (k : AW S true (kc + 1) (ks + n) (pc + 2) ls (.ref h.1.length :: st) (zadd h (.inr (t, n))) Q) : AW S true kc ks pc ls (.int x :: st) h Q := by
  intro l p e s m args below meth c D cA ad A H locs lv hC hH hl
  have hsz := (hH.2.2.2 rfl).1
  have hK := hC.2.2.2.2.2.2.2.2.1
  refine va_newaK hC.1 hC.2.1 (by rw [hty]; exact hC.w hac) rfl hd rfl hx hn (by rw [hty]; exact hby) hkc hks hsz fun H1 cN e1 z1 o1 hAr hNm => ?_
  rw [hty] at e1 hNm
  have o1' : ∀ q, q < H.size → H1[q]? = H[q]? := fun q hq => o1 q (by rw [← hsz]; exact hq)
  have hkp : ∀ (k : Nat) (x : Nat × va_E), (zws cA ad h)[k]? = some x → H1[x.1]? = H[x.1]? := fun k x hx => o1' x.1 ((hH.1 k x hx).lt)
  have hcn : cN = cA t := by
    match t, ht with
    | 0, _ => exact Option.some.inj (hNm.symm.trans (hK.2 0 _ rfl).2)
    | 1, _ => exact Option.some.inj (hNm.symm.trans (hK.2 1 _ rfl).2)
    | 2, _ => exact Option.some.inj (hNm.symm.trans (hK.2 2 _ rfl).2)
    | 3, _ => exact Option.some.inj (hNm.symm.trans (hK.2 3 _ rfl).2)
  have hP1 : va_P D zcl (zws cA ad (zadd h (.inr (t, n)))) H1 := by
    rw [zws_add]
    refine (hH.1.kept hkp).app (fun k x hx => ?_)
    have hz : k < 1 := (List.getElem?_eq_some_iff.mp hx).1
    rw [show k = 0 by omega] at hx
    cases hx
    show H1[ad h.1.length]? = some (vp_cell (cA t) _)
    rw [e1, hcn]
    have ei : (zadd h (.inr (t, n))).2.1 h.1.length = fun _ => 0 := by funext j; simp [zadd]
    have ej : (zadd h (.inr (t, n))).2.2.1 h.1.length = fun _ => 0 := by funext j; simp [zadd]
    match t, ht with
    | 0, _ => simp only [zac, ei]; rw [vp_cell_i]; rfl
    | 1, _ => simp only [zac, ei]; rw [vp_cell_i]; rfl
    | 2, _ => simp only [zac, ei]; rw [vp_cell_i]; rfl
    | 3, _ => simp only [zac, ej]; rw [vp_cell_l]; rfl
  have hD1 : va_D A (zws cA ad (zadd h (.inr (t, n)))) := by
    rw [zws_add]
    exact hH.2.1.push hH.1 hsz.symm (by first | (rw [← hsz]; exact hC.2.2.2.2.2.2.2.2.2.2.2.2 _ hH.2.2.1.1) | exact hC.2.2.2.2.2.2.2.2.2.2.2.2 _ hH.2.2.1.1)
  have hS1 : va_S A s.heap H1 locs := ⟨Nat.le_trans hH.2.2.1.1 (by omega), fun x h1 h2 => (o1' x (Nat.lt_of_lt_of_le h1 hH.2.2.1.1)).trans (hH.2.2.1.2.1 x h1 h2), hH.2.2.1.2.2⟩
  exact k l p e s m args below meth c D cA ad A H1 locs lv hC ⟨hP1, hD1, hS1, zal_add h9 hH.2.2.2 (by omega)⟩ hl
theorem aw_newq {S : zS} {kc ks pc : Nat} {ls : List (Nat × Value)} {st : List Value} {h : zH} {Q : Option Value → zH → Prop} (h9 : h.1.length < 900) {ix n : Nat} {x : Int32} (hcl : Cond.classLink S.1.cls ix "ProtocolAtlas$Row" ∈ ztb) (hx : ¬ x < 0) (hn : x.toNatClampNeg = n) (hby : n * 4 ≤ 536870912) (hkc : kc + 1 ≤ S.2.2.2.2.cells) (hks : ks + n ≤ S.2.2.2.2.slots) (hd : decode S.2.1 pc = .ok (.anewarray ix, 3))
    (k : AW S true (kc + 1) (ks + n) (pc + 3) ls (.ref h.1.length :: st) (zadd h (.inr (4, n))) Q) : AW S true kc ks pc ls (.int x :: st) h Q := by
  intro l p e s m args below meth c D cA ad A H locs lv hC hH hl
  subst hn
  have hsz := (hH.2.2.2 rfl).1
  have hK := hC.2.2.2.2.2.2.2.2.1
  refine W.anew hC.1 hC.2.1 hC.2.2.2.2.1 (hC.w hcl) (va_AO.use hC.2.2.2.2.2.2.2.2.2.2.1) rfl hd rfl hx hby hkc hks fun cN kA comp f1 f2 f3 f4 => ?_
  generalize hH1 : H.push ({ cls := cN, slots := Array.replicate x.toNatClampNeg .null, vm := .none } : Cell) = H1
  have z1 : H1.size = H.size + 1 := by rw [← hH1, Array.size_push]
  have e1 : H1[H.size]? = some (arrV cN x.toNatClampNeg (fun _ => .null)) := by rw [← hH1, Array.getElem?_push_size, ← arrV_new]
  have o1' : ∀ q : Nat, q < H.size → H1[q]? = H[q]? := fun q hq => by rw [← hH1, Array.getElem?_push, if_neg (Nat.ne_of_lt hq)]
  have hkp : ∀ (k : Nat) (x : Nat × va_E), (zws cA ad h)[k]? = some x → H1[x.1]? = H[x.1]? := fun k x hx => o1' x.1 ((hH.1 k x hx).lt)
  have hcn : cN = cA 4 := by
    obtain ⟨_, _, _, _, _, g4⟩ := (hK.2 4 _ rfl).2
    exact Option.some.inj (f1.symm.trans g4)
  have hP1 : va_P D zcl (zws cA ad (zadd h (.inr (4, x.toNatClampNeg)))) H1 := by
    rw [zws_add]
    refine (hH.1.kept hkp).app (fun k x hx => ?_)
    have hz : k < 1 := (List.getElem?_eq_some_iff.mp hx).1
    rw [show k = 0 by omega] at hx
    cases hx
    show H1[ad h.1.length]? = some (vp_cell (cA 4) _)
    rw [← hsz, e1, hcn]
    have er : (fun j => ((zadd h (.inr (4, x.toNatClampNeg))).2.2.2 h.1.length j).map ad) = fun _ => none := by funext j; simp [zadd]
    simp only [zac, er]
    rw [vp_cell_q]
    rfl
  have hD1 : va_D A (zws cA ad (zadd h (.inr (4, x.toNatClampNeg)))) := by
    rw [zws_add]
    exact hH.2.1.push hH.1 hsz.symm (by first | (rw [← hsz]; exact hC.2.2.2.2.2.2.2.2.2.2.2.2 _ hH.2.2.1.1) | exact hC.2.2.2.2.2.2.2.2.2.2.2.2 _ hH.2.2.1.1)
  have hS1 : va_S A s.heap H1 locs := ⟨Nat.le_trans hH.2.2.1.1 (by omega), fun x h1 h2 => (o1' x (Nat.lt_of_lt_of_le h1 hH.2.2.1.1)).trans (hH.2.2.1.2.1 x h1 h2), hH.2.2.1.2.2⟩
  have hst : (Value.ref H.size :: List.map (zv ad) st) = List.map (zv ad) (.ref h.1.length :: st) := by simp [zv, hsz]
  have kk := k l p e s m args below meth c D cA ad A H1 locs lv hC ⟨hP1, hD1, hS1, zal_add h9 hH.2.2.2 (by omega)⟩ hl
  rw [← hst] at kk
  exact kk
theorem aw_aastore {S : zS} {kc ks pc : Nat} {ls : List (Nat × Value)} {st : List Value} {h : zH} {Q : Option Value → zH → Prop} {a n v : Nat} {j : Int32} (ha : h.1[a]? = some (.inr (4, n))) (hv : h.1[v]? = some (.inl 5)) (hin : vp_in j n) (hd : decode S.2.1 pc = .ok (.aastore, 1))
    (k : AW S false kc ks (pc + 1) ls st (zuR h a j.toNatClampNeg v) Q) : AW S false kc ks pc ls (.ref v :: .int j :: .ref a :: st) h Q := by
  intro l p e s m args below meth c D cA ad A H locs lv hC hH hl
  refine va_astq (r := (R_Row, F_Row, 8)) hC.1 hC.2.1 hC.2.2.2.2.2.2.2.2.1 hH.1 hH.2.1 hH.2.2.1 a 4 v 5 (zws_at ha) rfl (zws_at hv) rfl hin hd (fun H1 locs1 hP1 hD1 hS1 => ?_)
  have e1 := zws_astR (cA := cA) (ad := ad) (i := j.toNatClampNeg) (x := v) ha
  rw [e1] at hP1 hD1
  exact k l p e s m args below meth c D cA ad A H1 locs1 lv hC ⟨hP1, hD1, hS1, fun q => by cases q⟩ hl
theorem aw_objInit {S : zS} {al : Bool} {kc ks pc : Nat} {ls : List (Nat × Value)} {st : List Value} {h : zH} {Q : Option Value → zH → Prop} {ix a : Nat} (hlk : Cond.methodLink S.1.cls ix Lib.objectInit ∈ ztb) (him : Cond.instanceMethod Lib.objectInit ∈ ztb) (hcd : Cond.code Lib.objectInit ⟨#[0xb1]⟩ 1 none ∈ ztb) (hfr : 1 ≤ S.2.2.2.2.frames) (hlo : 12 ≤ S.2.2.2.2.locals) (hd : decode S.2.1 pc = .ok (.invokespecial ix, 3)) (k : AW S al kc ks (pc + 3) ls [] h Q) : AW S al kc ks pc ls [.ref a] h Q := by
  intro l p e s m args below meth c D cA ad A H locs lv hC hH hl
  exact W.objInit hC.1 hC.2.1 hC.2.2.2.2.1 (hC.w hlk) (hC.w him) (hC.w hcd) rfl (hl.1.trans hC.2.2.1.symm) rfl hd hfr (by show 2 * 0 + _ + 12 ≤ _; simp; exact hlo) (k l p e s m args below meth c D cA ad A H locs lv hC hH hl)

theorem aw_ldcS {S : zS} {al : Bool} {kc ks pc : Nat} {ls : List (Nat × Value)} {st : List Value} {h : zH} {Q : Option Value → zH → Prop} (i : Nat) {ix : Nat} (hi : i < zsN) (hix : zsI.getD i 0 = ix) (hown : S.1.cls = "ProtocolAtlas$Reader") (hd : decode S.2.1 pc = .ok (.ldc ix, 2)) (k : AW S al kc ks (pc + 2) (ls) (.ref (1000 + i) :: st) (h) Q) : AW S al kc ks (pc) (ls) (st) (h) Q := by
  intro l p e s m args below meth c D cA ad A H locs lv hC hH hl
  subst hix
  exact va_ldcS hC.1 hC.2.1 (by rw [← hown]; exact hC.2.2.2.2.1) (hC.2.2.2.2.2.2.2.2.2.2.2.1.2.1 i hi) hd (k l p e s m args below meth c D cA ad A H locs lv hC hH hl)
theorem aw_sval {S : zS} {al : Bool} {kc ks pc : Nat} {ls : List (Nat × Value)} {st : List Value} {h : zH} {Q : Option Value → zH → Prop} (i : Nat) {ix : Nat} (hi : i < zsN) (hlk : Cond.fieldLink S.1.cls ix "java/lang/String" "value" "[B" ∈ ztb) (hd : decode S.2.1 pc = .ok (.getfield ix, 3)) (k : AW S al kc ks (pc + 3) (ls) (.ref (1100 + i) :: st) (h) Q) : AW S al kc ks (pc) (ls) (.ref (1000 + i) :: st) (h) Q := by
  intro l p e s m args below meth c D cA ad A H locs lv hC hH hl
  exact vk_getf hC.1 hC.2.1 (hC.2.2.2.2.2.2.2.2.2.2.2.1.1.1 i hi).2.2.1 hH.2.2.1 hC.2.2.2.2.1 (hC.w hlk) (fun _ q => q) hd (k l p e s m args below meth c D cA ad A H locs lv hC hH hl)
theorem aw_scod {S : zS} {al : Bool} {kc ks pc : Nat} {ls : List (Nat × Value)} {st : List Value} {h : zH} {Q : Option Value → zH → Prop} (i : Nat) {ix : Nat} (hi : i < zsN) (hlk : Cond.fieldLink S.1.cls ix "java/lang/String" "coder" "B" ∈ ztb) (hd : decode S.2.1 pc = .ok (.getfield ix, 3)) (k : AW S al kc ks (pc + 3) (ls) (.int 0 :: st) (h) Q) : AW S al kc ks (pc) (ls) (.ref (1000 + i) :: st) (h) Q := by
  intro l p e s m args below meth c D cA ad A H locs lv hC hH hl
  exact vk_getf hC.1 hC.2.1 (hC.2.2.2.2.2.2.2.2.2.2.2.1.1.1 i hi).2.1 hH.2.2.1 hC.2.2.2.2.1 (hC.w hlk) (fun _ q => q) hd (k l p e s m args below meth c D cA ad A H locs lv hC hH hl)
theorem aw_slen {S : zS} {al : Bool} {kc ks pc : Nat} {ls : List (Nat × Value)} {st : List Value} {h : zH} {Q : Option Value → zH → Prop} (i : Nat) (hi : i < zsN) (hd : decode S.2.1 pc = .ok (.arraylength, 1)) (k : AW S al kc ks (pc + 1) (ls) (.int (Int32.ofNat (zsL.getD i 0)) :: st) (h) Q) : AW S al kc ks (pc) (ls) (.ref (1100 + i) :: st) (h) Q := by
  intro l p e s m args below meth c D cA ad A H locs lv hC hH hl
  exact va_tlen hC.1 hC.2.1 (hC.2.2.2.2.2.2.2.2.2.2.2.1.1.1 i hi).2.2.2 hH.2.2.1 rfl hd (k l p e s m args below meth c D cA ad A H locs lv hC hH hl)
theorem aw_sbald {S : zS} {al : Bool} {kc ks pc : Nat} {ls : List (Nat × Value)} {st : List Value} {h : zH} {Q : Option Value → zH → Prop} (i : Nat) {j : Int32} (hi : i < zsN) (hin : vp_in j (zsL.getD i 0)) (hd : decode S.2.1 pc = .ok (.baload, 1)) (k : AW S al kc ks (pc + 1) (ls) (.int ((zsB.getD i []).getD j.toNatClampNeg 0) :: st) (h) Q) : AW S al kc ks (pc) (ls) (.int j :: .ref (1100 + i) :: st) (h) Q := by
  intro l p e s m args below meth c D cA ad A H locs lv hC hH hl
  exact va_tb hC.1 hC.2.1 (hC.2.2.2.2.2.2.2.2.2.2.2.1.1.1 i hi).2.2.2 hH.2.2.1 hin rfl hd (k l p e s m args below meth c D cA ad A H locs lv hC hH hl)
theorem aw_scom {S : zS} {al : Bool} {kc ks pc : Nat} {ls : List (Nat × Value)} {st : List Value} {h : zH} {Q : Option Value → zH → Prop} {ix : Nat} (hlk : Cond.fieldLink S.1.cls ix "java/lang/String" "COMPACT_STRINGS" "Z" ∈ ztb) (hd : decode S.2.1 pc = .ok (.getstatic ix, 3)) (k : AW S al kc ks (pc + 3) (ls) (.int 1 :: st) (h) Q) : AW S al kc ks (pc) (ls) (st) (h) Q := by
  intro l p e s m args below meth c D cA ad A H locs lv hC hH hl
  exact va_gets hC.1 hC.2.1 hC.2.2.2.2.2.2.2.2.2.2.2.1.2.2.1 hH.2.2.1 hC.2.2.2.2.1 (hC.w hlk) (fun _ q => q) hd (k l p e s m args below meth c D cA ad A H locs lv hC hH hl)
theorem aw_sfor {S : zS} {al : Bool} {kc ks pc : Nat} {ls : List (Nat × Value)} {st : List Value} {h : zH} {Q : Option Value → zH → Prop} {ix : Nat} (hlk : Cond.fieldLink S.1.cls ix "jdk/internal/util/Preconditions" "SIOOBE_FORMATTER" "Ljava/util/function/BiFunction;" ∈ ztb) (hd : decode S.2.1 pc = .ok (.getstatic ix, 3)) (k : ∀ v : Value, (v = .null ∨ v = .ref 1200) → AW S al kc ks (pc + 3) (ls) (v :: st) (h) Q) : AW S al kc ks (pc) (ls) (st) (h) Q := by
  intro l p e s m args below meth c D cA ad A H locs lv hC hH hl
  rcases hC.2.2.2.2.2.2.2.2.2.2.2.1.2.2.2 with hz | hz
  · exact va_gets hC.1 hC.2.1 hz hH.2.2.1 hC.2.2.2.2.1 (hC.w hlk) (fun _ q => q) hd (k .null (Or.inl rfl) l p e s m args below meth c D cA ad A H locs lv hC hH hl)
  · exact va_gets hC.1 hC.2.1 hz hH.2.2.1 hC.2.2.2.2.1 (hC.w hlk) (fun _ q => q) hd (k (.ref 1200) (Or.inr rfl) l p e s m args below meth c D cA ad A H locs lv hC hH hl)
theorem aw_i2c {S : zS} {al : Bool} {kc ks pc : Nat} {ls : List (Nat × Value)} {st : List Value} {h : zH} {Q : Option Value → zH → Prop} {x : Int32} (hd : decode S.2.1 pc = .ok (.i2c, 1)) (k : AW S al kc ks (pc + 1) (ls) (.int (x.toUInt32 % 65536).toInt32 :: st) (h) Q) : AW S al kc ks (pc) (ls) (.int x :: st) (h) Q := by
  intro l p e s m args below meth c D cA ad A H locs lv hC hH hl
  exact lv_i2c hC.1 hC.2.1 hd rfl (k l p e s m args below meth c D cA ad A H locs lv hC hH hl)
theorem aw_nret {S : zS} {al : Bool} {kc ks pc : Nat} {ls : List (Nat × Value)} {st : List Value} {h : zH} {Q : Option Value → zH → Prop} (hkc : kc ≤ S.2.2.2.2.cells) (hks : ks ≤ S.2.2.2.2.slots) {x : Int32} (ty : FieldType) (hr : S.2.2.2.1 = some ty) (hn : narrow ty (.int x) = .int x) (hd : decode S.2.1 pc = .ok (.ireturn, 1)) (hq : Q (some (.int x)) h) : AW S al kc ks pc ls [.int x] h Q := by
  intro l p e s m args below meth c D cA ad A H locs lv hC hH hl
  refine W.widen hkc hks ?_
  exact W.zret (ty := ty) hC.1 hC.2.1 (by rw [hC.2.2.2.1]; exact hr) hn (fun t ht _ => zq_of (r := some (.int x)) hH ht hq) (fun q hq => hH.2.2.1.2.2 q hq) hd (hlocks := hC.2.2.2.2.2.2.1)

def zcpI (h : zH) (a b sp dp n : Nat) : zH := (h.1, (fun k j => if k = b then va_cpy (h.2.1 a) (h.2.1 b) sp dp n j else h.2.1 k j), h.2.2)
def zcpJ (h : zH) (a b sp dp n : Nat) : zH := (h.1, h.2.1, (fun k j => if k = b then va_cpy (h.2.2.1 a) (h.2.2.1 b) sp dp n j else h.2.2.1 k j), h.2.2.2)
theorem zws_cpI {cA : Nat → ClassId} {ad : Nat → Nat} {h : zH} {a b t n sp dp m : Nat} (hb : h.1[b]? = some (.inr (t, n))) (ht : t < 3) : (zws cA ad h).set b (ad b, .inl (cA t, n, .inl (va_cpy (h.2.1 a) (h.2.1 b) sp dp m))) = zws cA ad (zcpI h a b sp dp m) := by
  refine zws_set rfl hb ?_ (fun k hk => ?_) (fun _ _ => rfl) (fun _ _ => rfl)
  · have e : (zcpI h a b sp dp m).2.1 b = va_cpy (h.2.1 a) (h.2.1 b) sp dp m := by funext j; simp [zcpI]
    match t, ht with
    | 0, _ => simp only [zel, zac, e]
    | 1, _ => simp only [zel, zac, e]
    | 2, _ => simp only [zel, zac, e]
  · funext j; simp [zcpI, hk]
theorem zws_cpJ {cA : Nat → ClassId} {ad : Nat → Nat} {h : zH} {a b n sp dp m : Nat} (hb : h.1[b]? = some (.inr (3, n))) : (zws cA ad h).set b (ad b, .inl (cA 3, n, .inr (.inl (va_cpy (h.2.2.1 a) (h.2.2.1 b) sp dp m)))) = zws cA ad (zcpJ h a b sp dp m) := by
  refine zws_set rfl hb ?_ (fun _ _ => rfl) (fun k hk => ?_) (fun _ _ => rfl)
  · have e : (zcpJ h a b sp dp m).2.2.1 b = va_cpy (h.2.2.1 a) (h.2.2.1 b) sp dp m := by funext j; simp [zcpJ]
    simp only [zel, zac, e]
  · funext j; simp [zcpJ, hk]
def zac_w (own : String) (ix : Nat) : Prop := Cond.methodLink own ix arraycopyName ∈ ztb ∧ Cond.native arraycopyName ∈ ztb ∧ Cond.static arraycopyName ∈ ztb ∧ Cond.initialized "java/lang/System" ∈ ztb
def zac_r (S : zS) : Prop := 1 ≤ S.2.2.2.2.frames ∧ nativeFrameWords "java/lang/System" "arraycopy" 5 + 11 ≤ S.2.2.2.2.locals
theorem aw_acopyI {S : zS} {kc ks pc : Nat} {ls : List (Nat × Value)} {h : zH} {Q : Option Value → zH → Prop} {ix a b t n1 n2 : Nat} {sp dp n : Int32} (hw : zac_w S.1.cls ix) (hr : zac_r S) (ha : h.1[a]? = some (.inr (t, n1))) (hb : h.1[b]? = some (.inr (t, n2))) (ht : t < 2) (h1 : ¬ sp < 0) (h2 : ¬ dp < 0) (h3 : ¬ n < 0) (h4 : sp.toNatClampNeg + n.toNatClampNeg ≤ n1) (h5 : dp.toNatClampNeg + n.toNatClampNeg ≤ n2) (hfit : ∀ i, i < n.toNatClampNeg → fits (zty t) (.int (h.2.1 a (sp.toNatClampNeg + i))) = true) (hd : decode S.2.1 pc = .ok (.invokestatic ix, 3))
    (k : AW S false kc ks (pc + 3) ls [] (zcpI h a b sp.toNatClampNeg dp.toNatClampNeg n.toNatClampNeg) Q) : AW S false kc ks pc ls [.int n, .int dp, .ref b, .int sp, .ref a] h Q := by
  intro l p e s m args below meth c D cA ad A H locs lv hC hH hl
  have kk : ∀ (H1 : Heap) (locs1 : List Loc), va_P D zcl ((zws cA ad h).set b (ad b, .inl (cA t, n2, .inl (va_cpy (h.2.1 a) (h.2.1 b) sp.toNatClampNeg dp.toNatClampNeg n.toNatClampNeg)))) H1 → va_D A ((zws cA ad h).set b (ad b, .inl (cA t, n2, .inl (va_cpy (h.2.1 a) (h.2.1 b) sp.toNatClampNeg dp.toNatClampNeg n.toNatClampNeg)))) → va_S A s.heap H1 locs1 → W p l e S.2.2.2.2 s m args below meth c H1 locs1 kc ks (MQ below (zQ false D cA ad A Q) args s S.2.2.2.2.cells S.2.2.2.2.slots A) (F0 m (pc + 3) lv []) := by
    intro H1 locs1 hP1 hD1 hS1
    rw [zws_cpI hb (by omega)] at hP1 hD1
    exact k l p e s m args below meth c D cA ad A H1 locs1 lv hC ⟨hP1, hD1, hS1, fun q => by cases q⟩ hl
  obtain ⟨w1, w2, w3, w4⟩ := hw
  match t, ht with
  | 0, _ => exact va_copyi hC.1 hC.2.1 (hC.2.2.1.trans hl.1.symm) hC.2.2.2.2.1 (hC.w w1) (hC.w w2) (hC.w w3) (hC.w w4) hC.2.2.2.2.2.2.2.2.1 hH.1 hH.2.1 hH.2.2.1 a b 0 0 (zws_at ha) (zws_at hb) rfl rfl rfl h1 h2 h3 h4 h5 hfit hr.1 (by show 0 + _ ≤ _; simp; exact hr.2) hd kk
  | 1, _ => exact va_copyi hC.1 hC.2.1 (hC.2.2.1.trans hl.1.symm) hC.2.2.2.2.1 (hC.w w1) (hC.w w2) (hC.w w3) (hC.w w4) hC.2.2.2.2.2.2.2.2.1 hH.1 hH.2.1 hH.2.2.1 a b 1 1 (zws_at ha) (zws_at hb) rfl rfl rfl h1 h2 h3 h4 h5 hfit hr.1 (by show 0 + _ ≤ _; simp; exact hr.2) hd kk
theorem aw_acopyJ {S : zS} {kc ks pc : Nat} {ls : List (Nat × Value)} {h : zH} {Q : Option Value → zH → Prop} {ix a b n1 n2 : Nat} {sp dp n : Int32} (hw : zac_w S.1.cls ix) (hr : zac_r S) (ha : h.1[a]? = some (.inr (3, n1))) (hb : h.1[b]? = some (.inr (3, n2))) (h1 : ¬ sp < 0) (h2 : ¬ dp < 0) (h3 : ¬ n < 0) (h4 : sp.toNatClampNeg + n.toNatClampNeg ≤ n1) (h5 : dp.toNatClampNeg + n.toNatClampNeg ≤ n2) (hd : decode S.2.1 pc = .ok (.invokestatic ix, 3))
    (k : AW S false kc ks (pc + 3) ls [] (zcpJ h a b sp.toNatClampNeg dp.toNatClampNeg n.toNatClampNeg) Q) : AW S false kc ks pc ls [.int n, .int dp, .ref b, .int sp, .ref a] h Q := by
  intro l p e s m args below meth c D cA ad A H locs lv hC hH hl
  obtain ⟨w1, w2, w3, w4⟩ := hw
  refine va_copyl hC.1 hC.2.1 (hC.2.2.1.trans hl.1.symm) hC.2.2.2.2.1 (hC.w w1) (hC.w w2) (hC.w w3) (hC.w w4) hC.2.2.2.2.2.2.2.2.1 hH.1 hH.2.1 hH.2.2.1 a b 3 3 (zws_at ha) (zws_at hb) rfl rfl rfl h1 h2 h3 h4 h5 (fun _ _ => rfl) hr.1 (by show 0 + _ ≤ _; simp; exact hr.2) hd (fun H1 locs1 hP1 hD1 hS1 => ?_)
  rw [zws_cpJ hb] at hP1 hD1
  exact k l p e s m args below meth c D cA ad A H1 locs1 lv hC ⟨hP1, hD1, hS1, fun q => by cases q⟩ hl

