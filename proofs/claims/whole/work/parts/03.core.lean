
abbrev zH : Type := List (Nat ⊕ (Nat × Nat)) × (Nat → Nat → Int32) × (Nat → Nat → Int64) × (Nat → Nat → Option Nat)
abbrev zS : Type := MethodName × ByteArray × Nat × Option FieldType × Room
def zv (ad : Nat → Nat) : Value → Value
  | .ref a => .ref (ad a)
  | v => v
def zfv (ad : Nat → Nat) (h : zH) (k i kd : Nat) : Value := match kd with
  | 0 => .int (h.2.1 k i)
  | 1 => .long (h.2.2.1 k i)
  | _ => va_rf ((h.2.2.2 k i).map ad)
def zfs (kds : List Nat) (ad : Nat → Nat) (h : zH) (k : Nat) : List Value := (List.range kds.length).map (fun i => zfv ad h k i (kds.getD i 9))
def zac (ad : Nat → Nat) (h : zH) (k t n : Nat) : vp_A := (n, match t with
  | 3 => .inr (.inl (h.2.2.1 k))
  | 4 => .inr (.inr (.inr (.inr (fun j => (h.2.2.2 k j).map ad))))
  | _ => .inl (h.2.1 k))
def zel (cA : Nat → ClassId) (ad : Nat → Nat) (h : zH) (k : Nat) (s : Nat ⊕ (Nat × Nat)) : va_E := match s with
  | .inl ci => .inr (ci, zfs (zkd ci) ad h k)
  | .inr q => .inl (cA q.1, zac ad h k q.1 q.2)
def zws (cA : Nat → ClassId) (ad : Nat → Nat) (h : zH) : va_W := h.1.zipIdx.map (fun q => (ad q.2, zel cA ad h q.2 q.1))
theorem zws_at {cA : Nat → ClassId} {ad : Nat → Nat} {h : zH} {k : Nat} {q : Nat ⊕ (Nat × Nat)} (hk : h.1[k]? = some q) : (zws cA ad h)[k]? = some (ad k, zel cA ad h k q) := by
  simp [zws, List.getElem?_map, List.getElem?_zipIdx, hk]
def zty : Nat → FieldType := fun t => match t with
  | 0 => .int
  | 1 => .boolean
  | 2 => .char
  | 3 => .long
  | _ => .object "ProtocolAtlas$Row"
abbrev ztys (cA : Nat → ClassId) : List (ClassId × FieldType) := [(cA 0, .int), (cA 1, .boolean), (cA 2, .char), (cA 3, .long), (cA 4, .object "ProtocolAtlas$Row")]
def zstr (ad : Nat → Nat) (A : Nat → Prop) (U : State) : Prop := vk_S zsN zsL zsB (fun i => ad (1000 + i)) (fun i => ad (1100 + i)) A U U.heap ∧ (∀ i : Nat, i < zsN → vk_R "ProtocolAtlas$Reader" (zsI.getD i 0) (zsT.getD i "") (ad (1000 + i)) U) ∧ va_Z "java/lang/String" "COMPACT_STRINGS" "Z" (.int 1) A U U.heap ∧ (va_Z "jdk/internal/util/Preconditions" "SIOOBE_FORMATTER" "Ljava/util/function/BiFunction;" .null A U U.heap ∨ va_Z "jdk/internal/util/Preconditions" "SIOOBE_FORMATTER" "Ljava/util/function/BiFunction;" (.ref (ad 1200)) A U U.heap)
def zC (S : zS) (p : Program) (s : State) (m : MethodId) (args : Array Value) (meth : Method) (c : Code) (D : va_G) (cA : Nat → ClassId) (ad : Nat → Nat) (A : Nat → Prop) : Prop :=
  p.tables.exec = Jvm.exec ∧ c.code = S.2.1 ∧ c.maxLocals = S.2.2.1 ∧ meth.sig.returnType = S.2.2.2.1 ∧ s.vm.findClass S.1.cls = some m.cls ∧ (∀ w ∈ (Cond.code S.1 S.2.1 S.2.2.1 S.2.2.2.1 :: ztb), w.before args s = true) ∧ meth.locks = false ∧ meth.name = S.1.name ∧ va_K D zcl (ztys cA) s ∧ (∀ w ∈ znw, va_Nw w s) ∧ va_AO "ProtocolAtlas$Row" s ∧ zstr ad A s ∧ (∀ q : Nat, s.heap.size ≤ q → A q)
def zal (al : Bool) (ad : Nat → Nat) (h : zH) (H : Heap) : Prop := al = true → H.size = ad h.1.length ∧ ∀ k : Nat, h.1.length ≤ k → k < 900 → ad (k + 1) = ad k + 1
def zHd (al : Bool) (D : va_G) (cA : Nat → ClassId) (ad : Nat → Nat) (A : Nat → Prop) (H0 H : Heap) (locs : List Loc) (h : zH) : Prop := va_P D zcl (zws cA ad h) H ∧ va_D A (zws cA ad h) ∧ va_S A H0 H locs ∧ zal al ad h H
def zQ (al : Bool) (D : va_G) (cA : Nat → ClassId) (ad : Nat → Nat) (A : Nat → Prop) (Q : Option Value → zH → Prop) : Array Value → State → Outcome → State → Prop := fun _ st oc t => (∃ (r : Option Value) (h : zH), oc = .returned (r.map (zv ad)) ∧ Q r h ∧ va_P D zcl (zws cA ad h) t.heap ∧ va_D A (zws cA ad h) ∧ zal al ad h t.heap) ∧ va_F A st t
def zlm (ad : Nat → Nat) (ls : List (Nat × Value)) : List (Nat × Value) := ls.map (fun q => (q.1, zv ad q.2))
/-- from this place of the method S on, with these locals, this stack and this memory, the machine comes to the method's end with Q -/
def AW (S : zS) (al : Bool) (kc ks pc : Nat) (ls : List (Nat × Value)) (st : List Value) (h : zH) (Q : Option Value → zH → Prop) : Prop :=
  ∀ (l : Launch) (p : Program) (e : Env) (s : State) (m : MethodId) (args : Array Value) (below : List Frame) (meth : Method) (c : Code) (D : va_G) (cA : Nat → ClassId) (ad : Nat → Nat) (A : Nat → Prop) (H : Heap) (locs : List Loc) (lv : Array Slot), zC S p s m args meth c D cA ad A → zHd al D cA ad A s.heap H locs h → lv_has lv S.2.2.1 (zlm ad ls) →
    W p l e S.2.2.2.2 s m args below meth c H locs kc ks (MQ below (zQ al D cA ad A Q) args s S.2.2.2.2.cells S.2.2.2.2.slots A) (F0 m pc lv (st.map (zv ad)))
theorem zv_cat (ad : Nat → Nat) (v : Value) : (zv ad v).category = v.category := by cases v <;> rfl
theorem zlm_at {ad : Nat → Nat} {ls : List (Nat × Value)} {lv : Array Slot} {nL : Nat} (h : lv_has lv nL (zlm ad ls)) {j i : Nat} {v : Value} (hj : ls[j]? = some (i, v)) : lv[i]? = some (.val (zv ad v)) := lv_at h j (by simp [zlm, List.getElem?_map, hj])
def zs1 (i : Nat) (v : Value) (ls : List (Nat × Value)) : List (Nat × Value) := (i, v) :: ls.filter (fun q => !(q.1 == i) && !(q.1 + 1 == i && q.2.category == 2))
def zs2 (i : Nat) (v : Value) (ls : List (Nat × Value)) : List (Nat × Value) := (i, v) :: ls.filter (fun q => !(q.1 == i) && (!(q.1 == i + 1) && !(q.1 + 1 == i && q.2.category == 2)))
theorem zlm_s1 (ad : Nat → Nat) (i : Nat) (v w : Value) (hw : zv ad v = w) (ls : List (Nat × Value)) : (i, w) :: (zlm ad ls).filter (fun q => !(q.1 == i) && !(q.1 + 1 == i && q.2.category == 2)) = zlm ad (zs1 i v ls) := by
  subst hw
  simp [zlm, zs1, List.filter_map, Function.comp_def, zv_cat]
theorem zlm_s2 (ad : Nat → Nat) (i : Nat) (v w : Value) (hw : zv ad v = w) (ls : List (Nat × Value)) : (i, w) :: (zlm ad ls).filter (fun q => !(q.1 == i) && (!(q.1 == i + 1) && !(q.1 + 1 == i && q.2.category == 2))) = zlm ad (zs2 i v ls) := by
  subst hw
  simp [zlm, zs2, List.filter_map, Function.comp_def, zv_cat]
theorem zlm_pick (ad : Nat → Nat) (ls : List (Nat × Value)) (ks : List Nat) : lv_pick (zlm ad ls) ks = zlm ad (lv_pick ls ks) := by
  induction ks with
  | nil => rfl
  | cons k ks ih =>
    simp only [lv_pick, zlm, List.filterMap_cons, List.getElem?_map] at ih ⊢
    cases ls[k]? with
    | none => simpa using ih
    | some q => simpa using ih
theorem zC.w {S : zS} {p : Program} {s : State} {m : MethodId} {args : Array Value} {meth : Method} {c : Code} {D : va_G} {cA : Nat → ClassId} {ad : Nat → Nat} {A : Nat → Prop} (hC : zC S p s m args meth c D cA ad A) {w : Cond} (hw : w ∈ ztb) : w.before args s = true := hC.2.2.2.2.2.1 w (List.mem_cons_of_mem _ hw)

theorem aw_sub {S : zS} {al : Bool} {kc ks pc : Nat} {ls : List (Nat × Value)} {st : List Value} {h : zH} {Q : Option Value → zH → Prop} (ks' : List Nat) {ls' : List (Nat × Value)} (hp : lv_pick ls ks' = ls') (k : AW S al kc ks (pc) (ls') (st) (h) Q) : AW S al kc ks (pc) (ls) (st) (h) Q := by
  intro l p e s m args below meth c D cA ad A H locs lv hC hH hl
  exact k l p e s m args below meth c D cA ad A H locs lv hC hH (lv_sub hl ks' (by rw [zlm_pick, hp]))
theorem aw_iconst {S : zS} {al : Bool} {kc ks pc : Nat} {ls : List (Nat × Value)} {st : List Value} {h : zH} {Q : Option Value → zH → Prop} {n : Int} (v : Int32) (hd : decode S.2.1 pc = .ok (.iconst n, 1)) (hv : Int32.ofInt n = v) (k : AW S al kc ks (pc + 1) (ls) (.int v :: st) (h) Q) : AW S al kc ks (pc) (ls) (st) (h) Q := by
  intro l p e s m args below meth c D cA ad A H locs lv hC hH hl
  exact lv_iconst hC.1 hC.2.1 hd hv (k l p e s m args below meth c D cA ad A H locs lv hC hH hl)
theorem aw_bipush {S : zS} {al : Bool} {kc ks pc : Nat} {ls : List (Nat × Value)} {st : List Value} {h : zH} {Q : Option Value → zH → Prop} {n : Int} (v : Int32) (hd : decode S.2.1 pc = .ok (.bipush n, 2)) (hv : (Int8.ofInt n).toInt32 = v) (k : AW S al kc ks (pc + 2) (ls) (.int v :: st) (h) Q) : AW S al kc ks (pc) (ls) (st) (h) Q := by
  intro l p e s m args below meth c D cA ad A H locs lv hC hH hl
  exact lv_bipush hC.1 hC.2.1 hd hv (k l p e s m args below meth c D cA ad A H locs lv hC hH hl)
theorem aw_sipush {S : zS} {al : Bool} {kc ks pc : Nat} {ls : List (Nat × Value)} {st : List Value} {h : zH} {Q : Option Value → zH → Prop} {n : Int} (v : Int32) (hd : decode S.2.1 pc = .ok (.sipush n, 3)) (hv : (Int16.ofInt n).toInt32 = v) (k : AW S al kc ks (pc + 3) (ls) (.int v :: st) (h) Q) : AW S al kc ks (pc) (ls) (st) (h) Q := by
  intro l p e s m args below meth c D cA ad A H locs lv hC hH hl
  exact lv_sipush hC.1 hC.2.1 hd hv (k l p e s m args below meth c D cA ad A H locs lv hC hH hl)
theorem aw_lconst {S : zS} {al : Bool} {kc ks pc : Nat} {ls : List (Nat × Value)} {st : List Value} {h : zH} {Q : Option Value → zH → Prop} {n : Fin 2} (v : Int64) (hd : decode S.2.1 pc = .ok (.lconst n, 1)) (hv : Int64.ofNat (n : Nat) = v) (k : AW S al kc ks (pc + 1) (ls) (.long v :: st) (h) Q) : AW S al kc ks (pc) (ls) (st) (h) Q := by
  intro l p e s m args below meth c D cA ad A H locs lv hC hH hl
  exact lv_lconst hC.1 hC.2.1 hd hv (k l p e s m args below meth c D cA ad A H locs lv hC hH hl)
theorem aw_ldc {S : zS} {al : Bool} {kc ks pc : Nat} {ls : List (Nat × Value)} {st : List Value} {h : zH} {Q : Option Value → zH → Prop} {ix : Nat} (v : Int32) (hw : Cond.constant S.1.cls ix v ∈ ztb) (hd : decode S.2.1 pc = .ok (.ldc ix, 2)) (k : AW S al kc ks (pc + 2) (ls) (.int v :: st) (h) Q) : AW S al kc ks (pc) (ls) (st) (h) Q := by
  intro l p e s m args below meth c D cA ad A H locs lv hC hH hl
  exact lv_ldc hC.1 hC.2.1 hC.2.2.2.2.1 (hC.w hw) hd (k l p e s m args below meth c D cA ad A H locs lv hC hH hl)
theorem aw_ldcw {S : zS} {al : Bool} {kc ks pc : Nat} {ls : List (Nat × Value)} {st : List Value} {h : zH} {Q : Option Value → zH → Prop} {ix : Nat} (v : Int32) (hw : Cond.constant S.1.cls ix v ∈ ztb) (hd : decode S.2.1 pc = .ok (.ldc_w ix, 3)) (k : AW S al kc ks (pc + 3) (ls) (.int v :: st) (h) Q) : AW S al kc ks (pc) (ls) (st) (h) Q := by
  intro l p e s m args below meth c D cA ad A H locs lv hC hH hl
  exact lv_ldcw hC.1 hC.2.1 hC.2.2.2.2.1 (hC.w hw) hd (k l p e s m args below meth c D cA ad A H locs lv hC hH hl)
theorem aw_ldc2 {S : zS} {al : Bool} {kc ks pc : Nat} {ls : List (Nat × Value)} {st : List Value} {h : zH} {Q : Option Value → zH → Prop} {ix : Nat} (v : Int64) (hw : Cond.constantLong S.1.cls ix v ∈ ztb) (hd : decode S.2.1 pc = .ok (.ldc2_w ix, 3)) (k : AW S al kc ks (pc + 3) (ls) (.long v :: st) (h) Q) : AW S al kc ks (pc) (ls) (st) (h) Q := by
  intro l p e s m args below meth c D cA ad A H locs lv hC hH hl
  exact lv_ldc2 hC.1 hC.2.1 hC.2.2.2.2.1 (hC.w hw) hd (k l p e s m args below meth c D cA ad A H locs lv hC hH hl)
theorem aw_iload_n {S : zS} {al : Bool} {kc ks pc : Nat} {ls : List (Nat × Value)} {st : List Value} {h : zH} {Q : Option Value → zH → Prop} {n : Fin 4} (j : Nat) {i : Nat} {x : Int32} (hd : decode S.2.1 pc = .ok (.iload_n n, 1)) (hi : (n : Nat) = i) (hj : ls[j]? = some (i, .int x)) (k : AW S al kc ks (pc + 1) (ls) (.int x :: st) (h) Q) : AW S al kc ks (pc) (ls) (st) (h) Q := by
  intro l p e s m args below meth c D cA ad A H locs lv hC hH hl
  exact lv_iload_n hC.1 hC.2.1 hd hi (zlm_at hl hj) (k l p e s m args below meth c D cA ad A H locs lv hC hH hl)
theorem aw_iload {S : zS} {al : Bool} {kc ks pc : Nat} {ls : List (Nat × Value)} {st : List Value} {h : zH} {Q : Option Value → zH → Prop} (j : Nat) {i : Nat} {x : Int32} (hd : decode S.2.1 pc = .ok (.iload i, 2)) (hj : ls[j]? = some (i, .int x)) (k : AW S al kc ks (pc + 2) (ls) (.int x :: st) (h) Q) : AW S al kc ks (pc) (ls) (st) (h) Q := by
  intro l p e s m args below meth c D cA ad A H locs lv hC hH hl
  exact lv_iload hC.1 hC.2.1 hd (zlm_at hl hj) (k l p e s m args below meth c D cA ad A H locs lv hC hH hl)
theorem aw_istore_n {S : zS} {al : Bool} {kc ks pc : Nat} {ls : List (Nat × Value)} {st : List Value} {h : zH} {Q : Option Value → zH → Prop} {n : Fin 4} {i : Nat} {x : Int32} {ls1 : List (Nat × Value)} (hd : decode S.2.1 pc = .ok (.istore_n n, 1)) (hi : (n : Nat) = i) (hn : i < S.2.2.1) (hs : zs1 i (.int x) ls = ls1) (k : AW S al kc ks (pc + 1) (ls1) (st) (h) Q) : AW S al kc ks (pc) (ls) (.int x :: st) (h) Q := by
  intro l p e s m args below meth c D cA ad A H locs lv hC hH hl
  subst hs
  exact lv_istore_n hC.1 hC.2.1 hd hi hl hn (zlm_s1 ad i (.int x) _ rfl ls) (fun lv hl => k l p e s m args below meth c D cA ad A H locs lv hC hH hl)
theorem aw_istore {S : zS} {al : Bool} {kc ks pc : Nat} {ls : List (Nat × Value)} {st : List Value} {h : zH} {Q : Option Value → zH → Prop} {i : Nat} {x : Int32} {ls1 : List (Nat × Value)} (hd : decode S.2.1 pc = .ok (.istore i, 2)) (hn : i < S.2.2.1) (hs : zs1 i (.int x) ls = ls1) (k : AW S al kc ks (pc + 2) (ls1) (st) (h) Q) : AW S al kc ks (pc) (ls) (.int x :: st) (h) Q := by
  intro l p e s m args below meth c D cA ad A H locs lv hC hH hl
  subst hs
  exact lv_istore hC.1 hC.2.1 hd hl hn (zlm_s1 ad i (.int x) _ rfl ls) (fun lv hl => k l p e s m args below meth c D cA ad A H locs lv hC hH hl)
theorem aw_lload_n {S : zS} {al : Bool} {kc ks pc : Nat} {ls : List (Nat × Value)} {st : List Value} {h : zH} {Q : Option Value → zH → Prop} {n : Fin 4} (j : Nat) {i : Nat} {x : Int64} (hd : decode S.2.1 pc = .ok (.lload_n n, 1)) (hi : (n : Nat) = i) (hj : ls[j]? = some (i, .long x)) (k : AW S al kc ks (pc + 1) (ls) (.long x :: st) (h) Q) : AW S al kc ks (pc) (ls) (st) (h) Q := by
  intro l p e s m args below meth c D cA ad A H locs lv hC hH hl
  exact lv_lload_n hC.1 hC.2.1 hd hi (zlm_at hl hj) (k l p e s m args below meth c D cA ad A H locs lv hC hH hl)
theorem aw_lload {S : zS} {al : Bool} {kc ks pc : Nat} {ls : List (Nat × Value)} {st : List Value} {h : zH} {Q : Option Value → zH → Prop} (j : Nat) {i : Nat} {x : Int64} (hd : decode S.2.1 pc = .ok (.lload i, 2)) (hj : ls[j]? = some (i, .long x)) (k : AW S al kc ks (pc + 2) (ls) (.long x :: st) (h) Q) : AW S al kc ks (pc) (ls) (st) (h) Q := by
  intro l p e s m args below meth c D cA ad A H locs lv hC hH hl
  exact lv_lload hC.1 hC.2.1 hd (zlm_at hl hj) (k l p e s m args below meth c D cA ad A H locs lv hC hH hl)
theorem aw_lstore_n {S : zS} {al : Bool} {kc ks pc : Nat} {ls : List (Nat × Value)} {st : List Value} {h : zH} {Q : Option Value → zH → Prop} {n : Fin 4} {i : Nat} {x : Int64} {ls1 : List (Nat × Value)} (hd : decode S.2.1 pc = .ok (.lstore_n n, 1)) (hi : (n : Nat) = i) (hn : i + 1 < S.2.2.1) (hs : zs2 i (.long x) ls = ls1) (k : AW S al kc ks (pc + 1) (ls1) (st) (h) Q) : AW S al kc ks (pc) (ls) (.long x :: st) (h) Q := by
  intro l p e s m args below meth c D cA ad A H locs lv hC hH hl
  subst hs
  exact lv_lstore_n hC.1 hC.2.1 hd hi hl hn (zlm_s2 ad i (.long x) _ rfl ls) (fun lv hl => k l p e s m args below meth c D cA ad A H locs lv hC hH hl)
theorem aw_lstore {S : zS} {al : Bool} {kc ks pc : Nat} {ls : List (Nat × Value)} {st : List Value} {h : zH} {Q : Option Value → zH → Prop} {i : Nat} {x : Int64} {ls1 : List (Nat × Value)} (hd : decode S.2.1 pc = .ok (.lstore i, 2)) (hn : i + 1 < S.2.2.1) (hs : zs2 i (.long x) ls = ls1) (k : AW S al kc ks (pc + 2) (ls1) (st) (h) Q) : AW S al kc ks (pc) (ls) (.long x :: st) (h) Q := by
  intro l p e s m args below meth c D cA ad A H locs lv hC hH hl
  subst hs
  exact lv_lstore hC.1 hC.2.1 hd hl hn (zlm_s2 ad i (.long x) _ rfl ls) (fun lv hl => k l p e s m args below meth c D cA ad A H locs lv hC hH hl)
theorem aw_aload_n {S : zS} {al : Bool} {kc ks pc : Nat} {ls : List (Nat × Value)} {st : List Value} {h : zH} {Q : Option Value → zH → Prop} {n : Fin 4} (j : Nat) {i : Nat} {x : Nat} (hd : decode S.2.1 pc = .ok (.aload_n n, 1)) (hi : (n : Nat) = i) (hj : ls[j]? = some (i, .ref x)) (k : AW S al kc ks (pc + 1) (ls) (.ref x :: st) (h) Q) : AW S al kc ks (pc) (ls) (st) (h) Q := by
  intro l p e s m args below meth c D cA ad A H locs lv hC hH hl
  exact lv_aload_n hC.1 hC.2.1 hd hi (zlm_at hl hj) (k l p e s m args below meth c D cA ad A H locs lv hC hH hl)
theorem aw_aload {S : zS} {al : Bool} {kc ks pc : Nat} {ls : List (Nat × Value)} {st : List Value} {h : zH} {Q : Option Value → zH → Prop} (j : Nat) {i : Nat} {x : Nat} (hd : decode S.2.1 pc = .ok (.aload i, 2)) (hj : ls[j]? = some (i, .ref x)) (k : AW S al kc ks (pc + 2) (ls) (.ref x :: st) (h) Q) : AW S al kc ks (pc) (ls) (st) (h) Q := by
  intro l p e s m args below meth c D cA ad A H locs lv hC hH hl
  exact lv_aload hC.1 hC.2.1 hd (zlm_at hl hj) (k l p e s m args below meth c D cA ad A H locs lv hC hH hl)
theorem aw_astore_n {S : zS} {al : Bool} {kc ks pc : Nat} {ls : List (Nat × Value)} {st : List Value} {h : zH} {Q : Option Value → zH → Prop} {n : Fin 4} {i : Nat} {x : Nat} {ls1 : List (Nat × Value)} (hd : decode S.2.1 pc = .ok (.astore_n n, 1)) (hi : (n : Nat) = i) (hn : i < S.2.2.1) (hs : zs1 i (.ref x) ls = ls1) (k : AW S al kc ks (pc + 1) (ls1) (st) (h) Q) : AW S al kc ks (pc) (ls) (.ref x :: st) (h) Q := by
  intro l p e s m args below meth c D cA ad A H locs lv hC hH hl
  subst hs
  exact lv_astore_n hC.1 hC.2.1 hd hi hl hn (zlm_s1 ad i (.ref x) _ rfl ls) (fun lv hl => k l p e s m args below meth c D cA ad A H locs lv hC hH hl)
theorem aw_astore {S : zS} {al : Bool} {kc ks pc : Nat} {ls : List (Nat × Value)} {st : List Value} {h : zH} {Q : Option Value → zH → Prop} {i : Nat} {x : Nat} {ls1 : List (Nat × Value)} (hd : decode S.2.1 pc = .ok (.astore i, 2)) (hn : i < S.2.2.1) (hs : zs1 i (.ref x) ls = ls1) (k : AW S al kc ks (pc + 2) (ls1) (st) (h) Q) : AW S al kc ks (pc) (ls) (.ref x :: st) (h) Q := by
  intro l p e s m args below meth c D cA ad A H locs lv hC hH hl
  subst hs
  exact lv_astore hC.1 hC.2.1 hd hl hn (zlm_s1 ad i (.ref x) _ rfl ls) (fun lv hl => k l p e s m args below meth c D cA ad A H locs lv hC hH hl)
theorem aw_iinc {S : zS} {al : Bool} {kc ks pc : Nat} {ls : List (Nat × Value)} {st : List Value} {h : zH} {Q : Option Value → zH → Prop} {n : Int} (j : Nat) {i : Nat} {x : Int32} (v : Int32) {ls1 : List (Nat × Value)} (hd : decode S.2.1 pc = .ok (.iinc i n, 3)) (hj : ls[j]? = some (i, .int x)) (hv : Int32.ofInt n = v) (hn : i < S.2.2.1) (hs : zs1 i (.int (x + v)) ls = ls1) (k : AW S al kc ks (pc + 3) (ls1) (st) (h) Q) : AW S al kc ks (pc) (ls) (st) (h) Q := by
  intro l p e s m args below meth c D cA ad A H locs lv hC hH hl
  subst hs
  subst hv
  exact lv_iinc hC.1 hC.2.1 hd hl (k := j) (by simp [zlm, List.getElem?_map, hj]; rfl) rfl hn (zlm_s1 ad i (.int (x + Int32.ofInt n)) _ rfl ls) (fun lv hl => k l p e s m args below meth c D cA ad A H locs lv hC hH hl)
theorem aw_iadd {S : zS} {al : Bool} {kc ks pc : Nat} {ls : List (Nat × Value)} {st : List Value} {h : zH} {Q : Option Value → zH → Prop} {x y : Int32} (hd : decode S.2.1 pc = .ok (.iadd, 1)) (k : AW S al kc ks (pc + 1) (ls) (.int (x + y) :: st) (h) Q) : AW S al kc ks (pc) (ls) (.int y :: .int x :: st) (h) Q := by
  intro l p e s m args below meth c D cA ad A H locs lv hC hH hl
  exact lv_iadd hC.1 hC.2.1 hd (k l p e s m args below meth c D cA ad A H locs lv hC hH hl)
theorem aw_isub {S : zS} {al : Bool} {kc ks pc : Nat} {ls : List (Nat × Value)} {st : List Value} {h : zH} {Q : Option Value → zH → Prop} {x y : Int32} (hd : decode S.2.1 pc = .ok (.isub, 1)) (k : AW S al kc ks (pc + 1) (ls) (.int (x - y) :: st) (h) Q) : AW S al kc ks (pc) (ls) (.int y :: .int x :: st) (h) Q := by
  intro l p e s m args below meth c D cA ad A H locs lv hC hH hl
  exact lv_isub hC.1 hC.2.1 hd (k l p e s m args below meth c D cA ad A H locs lv hC hH hl)
theorem aw_imul {S : zS} {al : Bool} {kc ks pc : Nat} {ls : List (Nat × Value)} {st : List Value} {h : zH} {Q : Option Value → zH → Prop} {x y : Int32} (hd : decode S.2.1 pc = .ok (.imul, 1)) (k : AW S al kc ks (pc + 1) (ls) (.int (x * y) :: st) (h) Q) : AW S al kc ks (pc) (ls) (.int y :: .int x :: st) (h) Q := by
  intro l p e s m args below meth c D cA ad A H locs lv hC hH hl
  exact lv_imul hC.1 hC.2.1 hd (k l p e s m args below meth c D cA ad A H locs lv hC hH hl)
theorem aw_iand {S : zS} {al : Bool} {kc ks pc : Nat} {ls : List (Nat × Value)} {st : List Value} {h : zH} {Q : Option Value → zH → Prop} {x y : Int32} (hd : decode S.2.1 pc = .ok (.iand, 1)) (k : AW S al kc ks (pc + 1) (ls) (.int (x &&& y) :: st) (h) Q) : AW S al kc ks (pc) (ls) (.int y :: .int x :: st) (h) Q := by
  intro l p e s m args below meth c D cA ad A H locs lv hC hH hl
  exact lv_iand hC.1 hC.2.1 hd (k l p e s m args below meth c D cA ad A H locs lv hC hH hl)
theorem aw_ior {S : zS} {al : Bool} {kc ks pc : Nat} {ls : List (Nat × Value)} {st : List Value} {h : zH} {Q : Option Value → zH → Prop} {x y : Int32} (hd : decode S.2.1 pc = .ok (.ior, 1)) (k : AW S al kc ks (pc + 1) (ls) (.int (x ||| y) :: st) (h) Q) : AW S al kc ks (pc) (ls) (.int y :: .int x :: st) (h) Q := by
  intro l p e s m args below meth c D cA ad A H locs lv hC hH hl
  exact lv_ior hC.1 hC.2.1 hd (k l p e s m args below meth c D cA ad A H locs lv hC hH hl)
theorem aw_ixor {S : zS} {al : Bool} {kc ks pc : Nat} {ls : List (Nat × Value)} {st : List Value} {h : zH} {Q : Option Value → zH → Prop} {x y : Int32} (hd : decode S.2.1 pc = .ok (.ixor, 1)) (k : AW S al kc ks (pc + 1) (ls) (.int (x ^^^ y) :: st) (h) Q) : AW S al kc ks (pc) (ls) (.int y :: .int x :: st) (h) Q := by
  intro l p e s m args below meth c D cA ad A H locs lv hC hH hl
  exact lv_ixor hC.1 hC.2.1 hd (k l p e s m args below meth c D cA ad A H locs lv hC hH hl)
theorem aw_ishl {S : zS} {al : Bool} {kc ks pc : Nat} {ls : List (Nat × Value)} {st : List Value} {h : zH} {Q : Option Value → zH → Prop} {x y : Int32} (hd : decode S.2.1 pc = .ok (.ishl, 1)) (k : AW S al kc ks (pc + 1) (ls) (.int (x <<< (y &&& 31)) :: st) (h) Q) : AW S al kc ks (pc) (ls) (.int y :: .int x :: st) (h) Q := by
  intro l p e s m args below meth c D cA ad A H locs lv hC hH hl
  exact lv_ishl hC.1 hC.2.1 hd (k l p e s m args below meth c D cA ad A H locs lv hC hH hl)
theorem aw_ishr {S : zS} {al : Bool} {kc ks pc : Nat} {ls : List (Nat × Value)} {st : List Value} {h : zH} {Q : Option Value → zH → Prop} {x y : Int32} (hd : decode S.2.1 pc = .ok (.ishr, 1)) (k : AW S al kc ks (pc + 1) (ls) (.int (x >>> (y &&& 31)) :: st) (h) Q) : AW S al kc ks (pc) (ls) (.int y :: .int x :: st) (h) Q := by
  intro l p e s m args below meth c D cA ad A H locs lv hC hH hl
  exact lv_ishr hC.1 hC.2.1 hd (k l p e s m args below meth c D cA ad A H locs lv hC hH hl)
theorem aw_idiv {S : zS} {al : Bool} {kc ks pc : Nat} {ls : List (Nat × Value)} {st : List Value} {h : zH} {Q : Option Value → zH → Prop} {x y : Int32} (hd : decode S.2.1 pc = .ok (.idiv, 1)) (hne : ¬ y = 0) (k : AW S al kc ks (pc + 1) (ls) (.int (x / y) :: st) (h) Q) : AW S al kc ks (pc) (ls) (.int y :: .int x :: st) (h) Q := by
  intro l p e s m args below meth c D cA ad A H locs lv hC hH hl
  exact lv_idiv hC.1 hC.2.1 hd hne (k l p e s m args below meth c D cA ad A H locs lv hC hH hl)
theorem aw_irem {S : zS} {al : Bool} {kc ks pc : Nat} {ls : List (Nat × Value)} {st : List Value} {h : zH} {Q : Option Value → zH → Prop} {x y : Int32} (hd : decode S.2.1 pc = .ok (.irem, 1)) (hne : ¬ y = 0) (k : AW S al kc ks (pc + 1) (ls) (.int (x - x / y * y) :: st) (h) Q) : AW S al kc ks (pc) (ls) (.int y :: .int x :: st) (h) Q := by
  intro l p e s m args below meth c D cA ad A H locs lv hC hH hl
  exact lv_irem hC.1 hC.2.1 hd hne (k l p e s m args below meth c D cA ad A H locs lv hC hH hl)
theorem aw_ladd {S : zS} {al : Bool} {kc ks pc : Nat} {ls : List (Nat × Value)} {st : List Value} {h : zH} {Q : Option Value → zH → Prop} {x y : Int64} (hd : decode S.2.1 pc = .ok (.ladd, 1)) (k : AW S al kc ks (pc + 1) (ls) (.long (x + y) :: st) (h) Q) : AW S al kc ks (pc) (ls) (.long y :: .long x :: st) (h) Q := by
  intro l p e s m args below meth c D cA ad A H locs lv hC hH hl
  exact lv_ladd hC.1 hC.2.1 hd (k l p e s m args below meth c D cA ad A H locs lv hC hH hl)
theorem aw_lsub {S : zS} {al : Bool} {kc ks pc : Nat} {ls : List (Nat × Value)} {st : List Value} {h : zH} {Q : Option Value → zH → Prop} {x y : Int64} (hd : decode S.2.1 pc = .ok (.lsub, 1)) (k : AW S al kc ks (pc + 1) (ls) (.long (x - y) :: st) (h) Q) : AW S al kc ks (pc) (ls) (.long y :: .long x :: st) (h) Q := by
  intro l p e s m args below meth c D cA ad A H locs lv hC hH hl
  exact lv_lsub hC.1 hC.2.1 hd (k l p e s m args below meth c D cA ad A H locs lv hC hH hl)
theorem aw_lmul {S : zS} {al : Bool} {kc ks pc : Nat} {ls : List (Nat × Value)} {st : List Value} {h : zH} {Q : Option Value → zH → Prop} {x y : Int64} (hd : decode S.2.1 pc = .ok (.lmul, 1)) (k : AW S al kc ks (pc + 1) (ls) (.long (x * y) :: st) (h) Q) : AW S al kc ks (pc) (ls) (.long y :: .long x :: st) (h) Q := by
  intro l p e s m args below meth c D cA ad A H locs lv hC hH hl
  exact lv_lmul hC.1 hC.2.1 hd (k l p e s m args below meth c D cA ad A H locs lv hC hH hl)
theorem aw_land {S : zS} {al : Bool} {kc ks pc : Nat} {ls : List (Nat × Value)} {st : List Value} {h : zH} {Q : Option Value → zH → Prop} {x y : Int64} (hd : decode S.2.1 pc = .ok (.land, 1)) (k : AW S al kc ks (pc + 1) (ls) (.long (x &&& y) :: st) (h) Q) : AW S al kc ks (pc) (ls) (.long y :: .long x :: st) (h) Q := by
  intro l p e s m args below meth c D cA ad A H locs lv hC hH hl
  exact lv_land hC.1 hC.2.1 hd (k l p e s m args below meth c D cA ad A H locs lv hC hH hl)
theorem aw_lor {S : zS} {al : Bool} {kc ks pc : Nat} {ls : List (Nat × Value)} {st : List Value} {h : zH} {Q : Option Value → zH → Prop} {x y : Int64} (hd : decode S.2.1 pc = .ok (.lor, 1)) (k : AW S al kc ks (pc + 1) (ls) (.long (x ||| y) :: st) (h) Q) : AW S al kc ks (pc) (ls) (.long y :: .long x :: st) (h) Q := by
  intro l p e s m args below meth c D cA ad A H locs lv hC hH hl
  exact lv_lor hC.1 hC.2.1 hd (k l p e s m args below meth c D cA ad A H locs lv hC hH hl)
theorem aw_ldiv {S : zS} {al : Bool} {kc ks pc : Nat} {ls : List (Nat × Value)} {st : List Value} {h : zH} {Q : Option Value → zH → Prop} {x y : Int64} (hd : decode S.2.1 pc = .ok (.ldiv, 1)) (hne : ¬ y = 0) (k : AW S al kc ks (pc + 1) (ls) (.long (x / y) :: st) (h) Q) : AW S al kc ks (pc) (ls) (.long y :: .long x :: st) (h) Q := by
  intro l p e s m args below meth c D cA ad A H locs lv hC hH hl
  exact lv_ldiv hC.1 hC.2.1 hd hne (k l p e s m args below meth c D cA ad A H locs lv hC hH hl)
theorem aw_lrem {S : zS} {al : Bool} {kc ks pc : Nat} {ls : List (Nat × Value)} {st : List Value} {h : zH} {Q : Option Value → zH → Prop} {x y : Int64} (hd : decode S.2.1 pc = .ok (.lrem, 1)) (hne : ¬ y = 0) (k : AW S al kc ks (pc + 1) (ls) (.long (x - x / y * y) :: st) (h) Q) : AW S al kc ks (pc) (ls) (.long y :: .long x :: st) (h) Q := by
  intro l p e s m args below meth c D cA ad A H locs lv hC hH hl
  exact lv_lrem hC.1 hC.2.1 hd hne (k l p e s m args below meth c D cA ad A H locs lv hC hH hl)
theorem aw_lushr {S : zS} {al : Bool} {kc ks pc : Nat} {ls : List (Nat × Value)} {st : List Value} {h : zH} {Q : Option Value → zH → Prop} {x : Int64} {y : Int32} (hd : decode S.2.1 pc = .ok (.lushr, 1)) (k : AW S al kc ks (pc + 1) (ls) (.long ((x.toUInt64 >>> (y.toInt64.toUInt64 &&& Int64.toUInt64 63)).toInt64) :: st) (h) Q) : AW S al kc ks (pc) (ls) (.int y :: .long x :: st) (h) Q := by
  intro l p e s m args below meth c D cA ad A H locs lv hC hH hl
  exact lv_lushr hC.1 hC.2.1 hd rfl (k l p e s m args below meth c D cA ad A H locs lv hC hH hl)
theorem aw_lshl {S : zS} {al : Bool} {kc ks pc : Nat} {ls : List (Nat × Value)} {st : List Value} {h : zH} {Q : Option Value → zH → Prop} {x : Int64} {y : Int32} (hd : decode S.2.1 pc = .ok (.lshl, 1)) (k : AW S al kc ks (pc + 1) (ls) (.long (x <<< (y.toInt64 &&& 63)) :: st) (h) Q) : AW S al kc ks (pc) (ls) (.int y :: .long x :: st) (h) Q := by
  intro l p e s m args below meth c D cA ad A H locs lv hC hH hl
  exact lv_lshl hC.1 hC.2.1 hd rfl (k l p e s m args below meth c D cA ad A H locs lv hC hH hl)
theorem aw_lshr {S : zS} {al : Bool} {kc ks pc : Nat} {ls : List (Nat × Value)} {st : List Value} {h : zH} {Q : Option Value → zH → Prop} {x : Int64} {y : Int32} (hd : decode S.2.1 pc = .ok (.lshr, 1)) (k : AW S al kc ks (pc + 1) (ls) (.long (x >>> (y.toInt64 &&& 63)) :: st) (h) Q) : AW S al kc ks (pc) (ls) (.int y :: .long x :: st) (h) Q := by
  intro l p e s m args below meth c D cA ad A H locs lv hC hH hl
  exact lv_lshr hC.1 hC.2.1 hd rfl (k l p e s m args below meth c D cA ad A H locs lv hC hH hl)
theorem aw_lcmp {S : zS} {al : Bool} {kc ks pc : Nat} {ls : List (Nat × Value)} {st : List Value} {h : zH} {Q : Option Value → zH → Prop} {x y : Int64} (hd : decode S.2.1 pc = .ok (.lcmp, 1)) (k : AW S al kc ks (pc + 1) (ls) (.int (lg_cmp x y) :: st) (h) Q) : AW S al kc ks (pc) (ls) (.long y :: .long x :: st) (h) Q := by
  intro l p e s m args below meth c D cA ad A H locs lv hC hH hl
  exact W.lcmp hC.1 hC.2.1 hd (k l p e s m args below meth c D cA ad A H locs lv hC hH hl)
theorem aw_i2l {S : zS} {al : Bool} {kc ks pc : Nat} {ls : List (Nat × Value)} {st : List Value} {h : zH} {Q : Option Value → zH → Prop} {x : Int32} (hd : decode S.2.1 pc = .ok (.i2l, 1)) (k : AW S al kc ks (pc + 1) (ls) (.long x.toInt64 :: st) (h) Q) : AW S al kc ks (pc) (ls) (.int x :: st) (h) Q := by
  intro l p e s m args below meth c D cA ad A H locs lv hC hH hl
  exact lv_i2l hC.1 hC.2.1 hd rfl (k l p e s m args below meth c D cA ad A H locs lv hC hH hl)
theorem aw_l2i {S : zS} {al : Bool} {kc ks pc : Nat} {ls : List (Nat × Value)} {st : List Value} {h : zH} {Q : Option Value → zH → Prop} {x : Int64} (hd : decode S.2.1 pc = .ok (.l2i, 1)) (k : AW S al kc ks (pc + 1) (ls) (.int x.toInt32 :: st) (h) Q) : AW S al kc ks (pc) (ls) (.long x :: st) (h) Q := by
  intro l p e s m args below meth c D cA ad A H locs lv hC hH hl
  exact lv_l2i hC.1 hC.2.1 hd rfl (k l p e s m args below meth c D cA ad A H locs lv hC hH hl)
theorem aw_dup {S : zS} {al : Bool} {kc ks pc : Nat} {ls : List (Nat × Value)} {st : List Value} {h : zH} {Q : Option Value → zH → Prop} {v : Value} (hd : decode S.2.1 pc = .ok (.dup, 1)) (hc : v.category = 1) (k : AW S al kc ks (pc + 1) (ls) (v :: v :: st) (h) Q) : AW S al kc ks (pc) (ls) (v :: st) (h) Q := by
  intro l p e s m args below meth c D cA ad A H locs lv hC hH hl
  exact lv_dup hC.1 hC.2.1 hd (by rw [zv_cat]; exact hc) (k l p e s m args below meth c D cA ad A H locs lv hC hH hl)
theorem aw_pop {S : zS} {al : Bool} {kc ks pc : Nat} {ls : List (Nat × Value)} {st : List Value} {h : zH} {Q : Option Value → zH → Prop} {v : Value} (hd : decode S.2.1 pc = .ok (.pop, 1)) (hc : v.category = 1) (k : AW S al kc ks (pc + 1) (ls) (st) (h) Q) : AW S al kc ks (pc) (ls) (v :: st) (h) Q := by
  intro l p e s m args below meth c D cA ad A H locs lv hC hH hl
  exact lv_pop hC.1 hC.2.1 hd (by rw [zv_cat]; exact hc) (k l p e s m args below meth c D cA ad A H locs lv hC hH hl)
theorem aw_dup2 {S : zS} {al : Bool} {kc ks pc : Nat} {ls : List (Nat × Value)} {st : List Value} {h : zH} {Q : Option Value → zH → Prop} {v w : Value} (hd : decode S.2.1 pc = .ok (.dup2, 1)) (hc : v.category = 1) (hc2 : w.category = 1) (k : AW S al kc ks (pc + 1) (ls) (v :: w :: v :: w :: st) (h) Q) : AW S al kc ks (pc) (ls) (v :: w :: st) (h) Q := by
  intro l p e s m args below meth c D cA ad A H locs lv hC hH hl
  exact lv_dup2_11 hC.1 hC.2.1 hd (by rw [zv_cat]; exact hc) (by rw [zv_cat]; exact hc2) (k l p e s m args below meth c D cA ad A H locs lv hC hH hl)
theorem aw_goto {S : zS} {al : Bool} {kc ks pc : Nat} {ls : List (Nat × Value)} {st : List Value} {h : zH} {Q : Option Value → zH → Prop} {off : Int} (tgt : Nat) (hd : decode S.2.1 pc = .ok (.goto off, 3)) (ht : (pc : Int) + off = (tgt : Int)) (k : AW S al kc ks (tgt) (ls) (st) (h) Q) : AW S al kc ks (pc) (ls) (st) (h) Q := by
  intro l p e s m args below meth c D cA ad A H locs lv hC hH hl
  exact lv_goto hC.1 hC.2.1 hd ht (k l p e s m args below meth c D cA ad A H locs lv hC hH hl)
theorem aw_if_eq {S : zS} {al : Bool} {kc ks pc : Nat} {ls : List (Nat × Value)} {st : List Value} {h : zH} {Q : Option Value → zH → Prop} {x : Int32} {off : Int} (tgt : Nat) (hd : decode S.2.1 pc = .ok (.ifCond .eq off, 3)) (ht : (pc : Int) + off = (tgt : Int)) (kt : x = 0 → AW S al kc ks (tgt) (ls) (st) (h) Q) (kf : ¬ x = 0 → AW S al kc ks (pc + 3) (ls) (st) (h) Q) : AW S al kc ks (pc) (ls) (.int x :: st) (h) Q := by
  intro l p e s m args below meth c D cA ad A H locs lv hC hH hl
  exact lv_if_eq hC.1 hC.2.1 hd ht (fun q => kt q l p e s m args below meth c D cA ad A H locs lv hC hH hl) (fun q => kf q l p e s m args below meth c D cA ad A H locs lv hC hH hl)
theorem aw_icmp_eq {S : zS} {al : Bool} {kc ks pc : Nat} {ls : List (Nat × Value)} {st : List Value} {h : zH} {Q : Option Value → zH → Prop} {x y : Int32} {off : Int} (tgt : Nat) (hd : decode S.2.1 pc = .ok (.if_icmp .eq off, 3)) (ht : (pc : Int) + off = (tgt : Int)) (kt : x = y → AW S al kc ks (tgt) (ls) (st) (h) Q) (kf : ¬ x = y → AW S al kc ks (pc + 3) (ls) (st) (h) Q) : AW S al kc ks (pc) (ls) (.int y :: .int x :: st) (h) Q := by
  intro l p e s m args below meth c D cA ad A H locs lv hC hH hl
  exact lv_icmp_eq hC.1 hC.2.1 hd ht (fun q => kt q l p e s m args below meth c D cA ad A H locs lv hC hH hl) (fun q => kf q l p e s m args below meth c D cA ad A H locs lv hC hH hl)
theorem aw_if_ne {S : zS} {al : Bool} {kc ks pc : Nat} {ls : List (Nat × Value)} {st : List Value} {h : zH} {Q : Option Value → zH → Prop} {x : Int32} {off : Int} (tgt : Nat) (hd : decode S.2.1 pc = .ok (.ifCond .ne off, 3)) (ht : (pc : Int) + off = (tgt : Int)) (kt : ¬ x = 0 → AW S al kc ks (tgt) (ls) (st) (h) Q) (kf : x = 0 → AW S al kc ks (pc + 3) (ls) (st) (h) Q) : AW S al kc ks (pc) (ls) (.int x :: st) (h) Q := by
  intro l p e s m args below meth c D cA ad A H locs lv hC hH hl
  exact lv_if_ne hC.1 hC.2.1 hd ht (fun q => kt q l p e s m args below meth c D cA ad A H locs lv hC hH hl) (fun q => kf q l p e s m args below meth c D cA ad A H locs lv hC hH hl)
theorem aw_icmp_ne {S : zS} {al : Bool} {kc ks pc : Nat} {ls : List (Nat × Value)} {st : List Value} {h : zH} {Q : Option Value → zH → Prop} {x y : Int32} {off : Int} (tgt : Nat) (hd : decode S.2.1 pc = .ok (.if_icmp .ne off, 3)) (ht : (pc : Int) + off = (tgt : Int)) (kt : ¬ x = y → AW S al kc ks (tgt) (ls) (st) (h) Q) (kf : x = y → AW S al kc ks (pc + 3) (ls) (st) (h) Q) : AW S al kc ks (pc) (ls) (.int y :: .int x :: st) (h) Q := by
  intro l p e s m args below meth c D cA ad A H locs lv hC hH hl
  exact lv_icmp_ne hC.1 hC.2.1 hd ht (fun q => kt q l p e s m args below meth c D cA ad A H locs lv hC hH hl) (fun q => kf q l p e s m args below meth c D cA ad A H locs lv hC hH hl)
theorem aw_if_lt {S : zS} {al : Bool} {kc ks pc : Nat} {ls : List (Nat × Value)} {st : List Value} {h : zH} {Q : Option Value → zH → Prop} {x : Int32} {off : Int} (tgt : Nat) (hd : decode S.2.1 pc = .ok (.ifCond .lt off, 3)) (ht : (pc : Int) + off = (tgt : Int)) (kt : x < 0 → AW S al kc ks (tgt) (ls) (st) (h) Q) (kf : ¬ x < 0 → AW S al kc ks (pc + 3) (ls) (st) (h) Q) : AW S al kc ks (pc) (ls) (.int x :: st) (h) Q := by
  intro l p e s m args below meth c D cA ad A H locs lv hC hH hl
  exact lv_if_lt hC.1 hC.2.1 hd ht (fun q => kt q l p e s m args below meth c D cA ad A H locs lv hC hH hl) (fun q => kf q l p e s m args below meth c D cA ad A H locs lv hC hH hl)
theorem aw_icmp_lt {S : zS} {al : Bool} {kc ks pc : Nat} {ls : List (Nat × Value)} {st : List Value} {h : zH} {Q : Option Value → zH → Prop} {x y : Int32} {off : Int} (tgt : Nat) (hd : decode S.2.1 pc = .ok (.if_icmp .lt off, 3)) (ht : (pc : Int) + off = (tgt : Int)) (kt : x < y → AW S al kc ks (tgt) (ls) (st) (h) Q) (kf : ¬ x < y → AW S al kc ks (pc + 3) (ls) (st) (h) Q) : AW S al kc ks (pc) (ls) (.int y :: .int x :: st) (h) Q := by
  intro l p e s m args below meth c D cA ad A H locs lv hC hH hl
  exact lv_icmp_lt hC.1 hC.2.1 hd ht (fun q => kt q l p e s m args below meth c D cA ad A H locs lv hC hH hl) (fun q => kf q l p e s m args below meth c D cA ad A H locs lv hC hH hl)
theorem aw_if_ge {S : zS} {al : Bool} {kc ks pc : Nat} {ls : List (Nat × Value)} {st : List Value} {h : zH} {Q : Option Value → zH → Prop} {x : Int32} {off : Int} (tgt : Nat) (hd : decode S.2.1 pc = .ok (.ifCond .ge off, 3)) (ht : (pc : Int) + off = (tgt : Int)) (kt : 0 ≤ x → AW S al kc ks (tgt) (ls) (st) (h) Q) (kf : ¬ 0 ≤ x → AW S al kc ks (pc + 3) (ls) (st) (h) Q) : AW S al kc ks (pc) (ls) (.int x :: st) (h) Q := by
  intro l p e s m args below meth c D cA ad A H locs lv hC hH hl
  exact lv_if_ge hC.1 hC.2.1 hd ht (fun q => kt q l p e s m args below meth c D cA ad A H locs lv hC hH hl) (fun q => kf q l p e s m args below meth c D cA ad A H locs lv hC hH hl)
theorem aw_icmp_ge {S : zS} {al : Bool} {kc ks pc : Nat} {ls : List (Nat × Value)} {st : List Value} {h : zH} {Q : Option Value → zH → Prop} {x y : Int32} {off : Int} (tgt : Nat) (hd : decode S.2.1 pc = .ok (.if_icmp .ge off, 3)) (ht : (pc : Int) + off = (tgt : Int)) (kt : y ≤ x → AW S al kc ks (tgt) (ls) (st) (h) Q) (kf : ¬ y ≤ x → AW S al kc ks (pc + 3) (ls) (st) (h) Q) : AW S al kc ks (pc) (ls) (.int y :: .int x :: st) (h) Q := by
  intro l p e s m args below meth c D cA ad A H locs lv hC hH hl
  exact lv_icmp_ge hC.1 hC.2.1 hd ht (fun q => kt q l p e s m args below meth c D cA ad A H locs lv hC hH hl) (fun q => kf q l p e s m args below meth c D cA ad A H locs lv hC hH hl)
theorem aw_if_gt {S : zS} {al : Bool} {kc ks pc : Nat} {ls : List (Nat × Value)} {st : List Value} {h : zH} {Q : Option Value → zH → Prop} {x : Int32} {off : Int} (tgt : Nat) (hd : decode S.2.1 pc = .ok (.ifCond .gt off, 3)) (ht : (pc : Int) + off = (tgt : Int)) (kt : 0 < x → AW S al kc ks (tgt) (ls) (st) (h) Q) (kf : ¬ 0 < x → AW S al kc ks (pc + 3) (ls) (st) (h) Q) : AW S al kc ks (pc) (ls) (.int x :: st) (h) Q := by
  intro l p e s m args below meth c D cA ad A H locs lv hC hH hl
  exact lv_if_gt hC.1 hC.2.1 hd ht (fun q => kt q l p e s m args below meth c D cA ad A H locs lv hC hH hl) (fun q => kf q l p e s m args below meth c D cA ad A H locs lv hC hH hl)
theorem aw_icmp_gt {S : zS} {al : Bool} {kc ks pc : Nat} {ls : List (Nat × Value)} {st : List Value} {h : zH} {Q : Option Value → zH → Prop} {x y : Int32} {off : Int} (tgt : Nat) (hd : decode S.2.1 pc = .ok (.if_icmp .gt off, 3)) (ht : (pc : Int) + off = (tgt : Int)) (kt : y < x → AW S al kc ks (tgt) (ls) (st) (h) Q) (kf : ¬ y < x → AW S al kc ks (pc + 3) (ls) (st) (h) Q) : AW S al kc ks (pc) (ls) (.int y :: .int x :: st) (h) Q := by
  intro l p e s m args below meth c D cA ad A H locs lv hC hH hl
  exact lv_icmp_gt hC.1 hC.2.1 hd ht (fun q => kt q l p e s m args below meth c D cA ad A H locs lv hC hH hl) (fun q => kf q l p e s m args below meth c D cA ad A H locs lv hC hH hl)
theorem aw_if_le {S : zS} {al : Bool} {kc ks pc : Nat} {ls : List (Nat × Value)} {st : List Value} {h : zH} {Q : Option Value → zH → Prop} {x : Int32} {off : Int} (tgt : Nat) (hd : decode S.2.1 pc = .ok (.ifCond .le off, 3)) (ht : (pc : Int) + off = (tgt : Int)) (kt : x ≤ 0 → AW S al kc ks (tgt) (ls) (st) (h) Q) (kf : ¬ x ≤ 0 → AW S al kc ks (pc + 3) (ls) (st) (h) Q) : AW S al kc ks (pc) (ls) (.int x :: st) (h) Q := by
  intro l p e s m args below meth c D cA ad A H locs lv hC hH hl
  exact lv_if_le hC.1 hC.2.1 hd ht (fun q => kt q l p e s m args below meth c D cA ad A H locs lv hC hH hl) (fun q => kf q l p e s m args below meth c D cA ad A H locs lv hC hH hl)
theorem aw_icmp_le {S : zS} {al : Bool} {kc ks pc : Nat} {ls : List (Nat × Value)} {st : List Value} {h : zH} {Q : Option Value → zH → Prop} {x y : Int32} {off : Int} (tgt : Nat) (hd : decode S.2.1 pc = .ok (.if_icmp .le off, 3)) (ht : (pc : Int) + off = (tgt : Int)) (kt : x ≤ y → AW S al kc ks (tgt) (ls) (st) (h) Q) (kf : ¬ x ≤ y → AW S al kc ks (pc + 3) (ls) (st) (h) Q) : AW S al kc ks (pc) (ls) (.int y :: .int x :: st) (h) Q := by
  intro l p e s m args below meth c D cA ad A H locs lv hC hH hl
  exact lv_icmp_le hC.1 hC.2.1 hd ht (fun q => kt q l p e s m args below meth c D cA ad A H locs lv hC hH hl) (fun q => kf q l p e s m args below meth c D cA ad A H locs lv hC hH hl)
theorem aw_lookup {S : zS} {al : Bool} {kc ks pc : Nat} {ls : List (Nat × Value)} {st : List Value} {h : zH} {Q : Option Value → zH → Prop} {dflt : Int} {ps : Array (Int × Int)} {len : Nat} {x : Int32} {off : Int} (tgt : Nat) (hd : decode S.2.1 pc = .ok (.lookupswitch dflt ps, len)) (hp : (ps.toList.zip (ps.toList.drop 1)).all (fun (a, next) => a.1 < next.1) = true) (ho : Op.lookupswitch.offset ps.toList dflt x.toInt = off) (ht : (pc : Int) + off = (tgt : Int)) (k : AW S al kc ks (tgt) (ls) (st) (h) Q) : AW S al kc ks (pc) (ls) (.int x :: st) (h) Q := by
  intro l p e s m args below meth c D cA ad A H locs lv hC hH hl
  exact lv_lookup hC.1 hC.2.1 hd hp ho ht (k l p e s m args below meth c D cA ad A H locs lv hC hH hl)
theorem aw_tableOut {S : zS} {al : Bool} {kc ks pc : Nat} {ls : List (Nat × Value)} {st : List Value} {h : zH} {Q : Option Value → zH → Prop} {dflt lo hi : Int} {offs : Array Int} {len : Nat} {x : Int32} (tgt : Nat) (hd : decode S.2.1 pc = .ok (.tableswitch dflt lo hi offs, len)) (hx : x.toInt < lo ∨ hi < x.toInt) (ht : (pc : Int) + dflt = (tgt : Int)) (k : AW S al kc ks (tgt) (ls) (st) (h) Q) : AW S al kc ks (pc) (ls) (.int x :: st) (h) Q := by
  intro l p e s m args below meth c D cA ad A H locs lv hC hH hl
  exact lv_tableOut hC.1 hC.2.1 hd hx ht (k l p e s m args below meth c D cA ad A H locs lv hC hH hl)
theorem aw_tableIn {S : zS} {al : Bool} {kc ks pc : Nat} {ls : List (Nat × Value)} {st : List Value} {h : zH} {Q : Option Value → zH → Prop} {dflt lo hi : Int} {offs : Array Int} {len : Nat} {x : Int32} {off : Int} (tgt : Nat) (hd : decode S.2.1 pc = .ok (.tableswitch dflt lo hi offs, len)) (h1 : ¬ x.toInt < lo) (h2 : ¬ hi < x.toInt) (ho : offs[(x.toInt - lo).toNat]? = some off) (ht : (pc : Int) + off = (tgt : Int)) (k : AW S al kc ks (tgt) (ls) (st) (h) Q) : AW S al kc ks (pc) (ls) (.int x :: st) (h) Q := by
  intro l p e s m args below meth c D cA ad A H locs lv hC hH hl
  exact lv_tableIn hC.1 hC.2.1 hd h1 h2 ho ht (k l p e s m args below meth c D cA ad A H locs lv hC hH hl)
