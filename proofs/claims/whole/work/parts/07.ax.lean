
abbrev zM : Type := (Nat → Nat → Int32) × (Nat → Nat → Int64) × (Nat → Nat)
abbrev zG : Type := List (Nat ⊕ (Nat × Nat)) × ((Nat → Nat) → Nat → Nat → Option Nat)
def zh (g : zG) (m : zM) : zH := (g.1, m.1, m.2.1, g.2 m.2.2)
def AX (g : zG) (S : zS) (pc : Nat) (ls : List (Nat × Value)) (st : List Value) (m : zM) (Q : Option Value → zM → Prop) : Prop := AW S false 0 0 pc ls st (zh g m) (fun r h => ∃ m', h = zh g m' ∧ Q r m')
def zc (g : zG) (S : zS) (as : List Value) (m : zM) (Q : Option Value → zM → Prop) : Prop := zCall S false as (zh g m) (fun r h => ∃ m', h = zh g m' ∧ Q r m')
def ir (x y : Int32) : Int32 := x - x / y * y
def irl (x y : Int64) : Int64 := x - x / y * y
def shl (x y : Int32) : Int32 := x <<< (y &&& 31)
def shr (x y : Int32) : Int32 := x >>> (y &&& 31)
def lsl (x : Int64) (y : Int32) : Int64 := x <<< (y.toInt64 &&& 63)
def lsr (x : Int64) (y : Int32) : Int64 := x >>> (y.toInt64 &&& 63)
def lus (x : Int64) (y : Int32) : Int64 := (x.toUInt64 >>> (y.toInt64.toUInt64 &&& Int64.toUInt64 63)).toInt64
def zk (r : Option Value) (rest : List Value) : List Value := match r with
  | none => rest
  | some v => v :: rest
def b2i (b : Bool) : Int32 := if b then 1 else 0
def sI (m : zM) (a i : Nat) (x : Int32) : zM := ((fun k j => if k = a ∧ j = i then x else m.1 k j), m.2)
def sJ (m : zM) (a i : Nat) (x : Int64) : zM := (m.1, (fun k j => if k = a ∧ j = i then x else m.2.1 k j), m.2.2)
def sT (m : zM) (i x : Nat) : zM := (m.1, m.2.1, fun j => if j = i then x else m.2.2 j)
def cI (m : zM) (a b sp dp n : Nat) : zM := ((fun k j => if k = b then va_cpy (m.1 a) (m.1 b) sp dp n j else m.1 k j), m.2)
def cJ (m : zM) (a b sp dp n : Nat) : zM := (m.1, (fun k j => if k = b then va_cpy (m.2.1 a) (m.2.1 b) sp dp n j else m.2.1 k j), m.2.2)
def zlen (g : zG) (a : Nat) : Nat := match g.1[a]? with
  | some (.inr q) => q.2
  | _ => 0
def ok {α : Type} (x : Option α) (K : α → Prop) : Prop := ∃ a, x = some a ∧ K a
def lt {α β : Type} (x : α) (f : α → β) : β := f x
def ix (n : Nat) (i : Int32) : Option Nat := if i < 0 ∨ n ≤ i.toNatClampNeg then none else some i.toNatClampNeg
def bt (x : Int32) : Option Unit := if x = 0 ∨ x = 1 then some () else none
def nz (x : Int32) : Option Unit := if x = 0 then none else some ()
def nzl (x : Int64) : Option Unit := if x = 0 then none else some ()
def zl {α β : Type} (x : Option α) : Option (α ⊕ β) := x.map .inl
def FU : Nat := 1000000000000
def zloop {σ ρ : Type} (b : σ → Option (ρ ⊕ σ)) : Nat → σ → Option ρ
  | 0, _ => none
  | n + 1, s => (b s).bind fun x => match x with
    | .inl r => some r
    | .inr s' => zloop b n s'
theorem ok_some {α : Type} {a : α} {K : α → Prop} (h : ok (some a) K) : K a := by
  obtain ⟨b, e, hb⟩ := h
  cases e
  exact hb
theorem ok_mk {α : Type} {a : α} {K : α → Prop} (h : K a) : ok (some a) K := ⟨a, rfl, h⟩
theorem ok_none {α : Type} {K : α → Prop} {G : Prop} (h : ok (none : Option α) K) : G := by
  obtain ⟨b, e, -⟩ := h
  cases e
theorem ok_b {α β : Type} {x : Option α} {f : α → Option β} {K : β → Prop} {G : α → Prop} (h : ok (x.bind f) K) (k : ∀ a, ok (f a) K → G a) : ok x G := by
  obtain ⟨b, e, hb⟩ := h
  cases x with
  | none => cases e
  | some a => exact ⟨a, rfl, k a ⟨b, e, hb⟩⟩
theorem ok_bb {α β : Type} {x : Option α} {f : α → Option β} {K : β → Prop} {G : Prop} (h : ok (x.bind f) K) (k : ∀ a, x = some a → ok (f a) K → G) : G := by
  obtain ⟨b, e, hb⟩ := h
  cases x with
  | none => cases e
  | some a => exact k a rfl ⟨b, e, hb⟩
theorem ok_i {α : Type} {c : Prop} [Decidable c] {x y : Option α} {K : α → Prop} {G : Prop} (h : ok (if c then x else y) K) (kt : c → ok x K → G) (kf : ¬ c → ok y K → G) : G := by
  by_cases hc : c
  · rw [if_pos hc] at h; exact kt hc h
  · rw [if_neg hc] at h; exact kf hc h
theorem kt_i {α : Type} {c : Prop} [Decidable c] {x y : α} {K : α → Prop} {G : Prop} (h : K (if c then x else y)) (kt : c → K x → G) (kf : ¬ c → K y → G) : G := by
  by_cases hc : c
  · rw [if_pos hc] at h; exact kt hc h
  · rw [if_neg hc] at h; exact kf hc h
theorem ok_l {α β : Type} {x : α} {f : α → Option β} {K : β → Prop} {G : α → Prop} (h : ok (lt x f) K) (k : ∀ a, ok (f a) K → G a) : G x := k x h
theorem kt_l {α β : Type} {x : α} {f : α → β} {K : β → Prop} {G : α → Prop} (h : K (lt x f)) (k : ∀ a, K (f a) → G a) : G x := k x h
theorem ok_z {α β : Type} {x : Option α} {K : α ⊕ β → Prop} (h : ok (zl x) K) : ok x (fun a => K (.inl a)) := by
  obtain ⟨b, e, hb⟩ := h
  cases x with
  | none => cases e
  | some a => cases e; exact ⟨a, rfl, hb⟩
theorem ok_lp {σ ρ : Type} {b : σ → Option (ρ ⊕ σ)} {K : ρ → Prop} {G : σ → Prop} (hs : ∀ s, ok (b s) (fun x => match x with | .inl r => K r | .inr s' => G s') → G s) : ∀ (n : Nat) (s : σ), ok (zloop b n s) K → G s := by
  intro n
  induction n with
  | zero => intro s h; exact ok_none h
  | succ n ih =>
    intro s h
    refine hs s ?_
    obtain ⟨r, e, hr⟩ := h
    rw [zloop] at e
    cases hb : b s with
    | none => rw [hb] at e; cases e
    | some x =>
      rw [hb] at e
      refine ⟨x, rfl, ?_⟩
      cases x with
      | inl r' => cases e; exact hr
      | inr s' => exact ih s' ⟨r, e, hr⟩
theorem ix_some {n : Nat} {j : Int32} {i : Nat} (h : ix n j = some i) : vp_in j n ∧ i = j.toNatClampNeg := by
  unfold ix at h
  split at h
  · cases h
  · cases h; exact ⟨by assumption, rfl⟩
theorem b2i_01 (b : Bool) : b2i b = 0 ∨ b2i b = 1 := by cases b <;> simp [b2i]
theorem b2i_nar (b : Bool) : vp_nar .boolean (b2i b) = b2i b := by cases b <;> rfl
theorem b2i_t {b : Bool} (h : ¬ b2i b = 0) : b = true := by cases b <;> simp_all [b2i]
theorem b2i_f {b : Bool} (h : b2i b = 0) : b = false := by cases b <;> simp_all [b2i]
theorem zne {x c : Int32} {n : Int} (h : ¬ x = c) (hc : c.toInt = n) : x.toInt ≠ n := fun e => h (Int32.toInt_inj.mp (e.trans hc.symm))

theorem ax_iconst {g : zG} {S : zS} {pc : Nat} {ls : List (Nat × Value)} {st : List Value} {m : zM} {Q : Option Value → zM → Prop} {n : Int} (v : Int32) (hd : decode S.2.1 pc = .ok (.iconst n, 1)) (hv : Int32.ofInt n = v) (q : Nat) (hq : pc + 1 = q) (k : AX g S (q) (ls) (.int v :: st) (m) Q) : AX g S (pc) (ls) (st) (m) Q := by
  subst hq
  exact aw_iconst v hd hv k
theorem ax_bipush {g : zG} {S : zS} {pc : Nat} {ls : List (Nat × Value)} {st : List Value} {m : zM} {Q : Option Value → zM → Prop} {n : Int} (v : Int32) (hd : decode S.2.1 pc = .ok (.bipush n, 2)) (hv : (Int8.ofInt n).toInt32 = v) (q : Nat) (hq : pc + 2 = q) (k : AX g S (q) (ls) (.int v :: st) (m) Q) : AX g S (pc) (ls) (st) (m) Q := by
  subst hq
  exact aw_bipush v hd hv k
theorem ax_sipush {g : zG} {S : zS} {pc : Nat} {ls : List (Nat × Value)} {st : List Value} {m : zM} {Q : Option Value → zM → Prop} {n : Int} (v : Int32) (hd : decode S.2.1 pc = .ok (.sipush n, 3)) (hv : (Int16.ofInt n).toInt32 = v) (q : Nat) (hq : pc + 3 = q) (k : AX g S (q) (ls) (.int v :: st) (m) Q) : AX g S (pc) (ls) (st) (m) Q := by
  subst hq
  exact aw_sipush v hd hv k
theorem ax_lconst {g : zG} {S : zS} {pc : Nat} {ls : List (Nat × Value)} {st : List Value} {m : zM} {Q : Option Value → zM → Prop} {n : Fin 2} (v : Int64) (hd : decode S.2.1 pc = .ok (.lconst n, 1)) (hv : Int64.ofNat (n : Nat) = v) (q : Nat) (hq : pc + 1 = q) (k : AX g S (q) (ls) (.long v :: st) (m) Q) : AX g S (pc) (ls) (st) (m) Q := by
  subst hq
  exact aw_lconst v hd hv k
theorem ax_ldc {g : zG} {S : zS} {pc : Nat} {ls : List (Nat × Value)} {st : List Value} {m : zM} {Q : Option Value → zM → Prop} {ix : Nat} (v : Int32) (hw : Cond.constant S.1.cls ix v ∈ ztb) (hd : decode S.2.1 pc = .ok (.ldc ix, 2)) (q : Nat) (hq : pc + 2 = q) (k : AX g S (q) (ls) (.int v :: st) (m) Q) : AX g S (pc) (ls) (st) (m) Q := by
  subst hq
  exact aw_ldc v hw hd k
theorem ax_ldcw {g : zG} {S : zS} {pc : Nat} {ls : List (Nat × Value)} {st : List Value} {m : zM} {Q : Option Value → zM → Prop} {ix : Nat} (v : Int32) (hw : Cond.constant S.1.cls ix v ∈ ztb) (hd : decode S.2.1 pc = .ok (.ldc_w ix, 3)) (q : Nat) (hq : pc + 3 = q) (k : AX g S (q) (ls) (.int v :: st) (m) Q) : AX g S (pc) (ls) (st) (m) Q := by
  subst hq
  exact aw_ldcw v hw hd k
theorem ax_ldc2 {g : zG} {S : zS} {pc : Nat} {ls : List (Nat × Value)} {st : List Value} {m : zM} {Q : Option Value → zM → Prop} {ix : Nat} (v : Int64) (hw : Cond.constantLong S.1.cls ix v ∈ ztb) (hd : decode S.2.1 pc = .ok (.ldc2_w ix, 3)) (q : Nat) (hq : pc + 3 = q) (k : AX g S (q) (ls) (.long v :: st) (m) Q) : AX g S (pc) (ls) (st) (m) Q := by
  subst hq
  exact aw_ldc2 v hw hd k
theorem ax_ldcS {g : zG} {S : zS} {pc : Nat} {ls : List (Nat × Value)} {st : List Value} {m : zM} {Q : Option Value → zM → Prop} (i : Nat) {ix : Nat} (hi : i < zsN) (hix : zsI.getD i 0 = ix) (hown : S.1.cls = "ProtocolAtlas$Reader") (hd : decode S.2.1 pc = .ok (.ldc ix, 2)) (q : Nat) (hq : pc + 2 = q) (k : AX g S (q) (ls) (.ref (1000 + i) :: st) (m) Q) : AX g S (pc) (ls) (st) (m) Q := by
  subst hq
  exact aw_ldcS i hi hix hown hd k
theorem ax_iload_n {g : zG} {S : zS} {pc : Nat} {ls : List (Nat × Value)} {st : List Value} {m : zM} {Q : Option Value → zM → Prop} {n : Fin 4} (j : Nat) {i : Nat} {x : Int32} (hd : decode S.2.1 pc = .ok (.iload_n n, 1)) (hi : (n : Nat) = i) (hj : ls[j]? = some (i, .int x)) (q : Nat) (hq : pc + 1 = q) (k : AX g S (q) (ls) (.int x :: st) (m) Q) : AX g S (pc) (ls) (st) (m) Q := by
  subst hq
  exact aw_iload_n j hd hi hj k
theorem ax_iload {g : zG} {S : zS} {pc : Nat} {ls : List (Nat × Value)} {st : List Value} {m : zM} {Q : Option Value → zM → Prop} (j : Nat) {i : Nat} {x : Int32} (hd : decode S.2.1 pc = .ok (.iload i, 2)) (hj : ls[j]? = some (i, .int x)) (q : Nat) (hq : pc + 2 = q) (k : AX g S (q) (ls) (.int x :: st) (m) Q) : AX g S (pc) (ls) (st) (m) Q := by
  subst hq
  exact aw_iload j hd hj k
theorem ax_istore_n {g : zG} {S : zS} {pc : Nat} {ls : List (Nat × Value)} {st : List Value} {m : zM} {Q : Option Value → zM → Prop} {n : Fin 4} {i : Nat} {x : Int32} {ls1 : List (Nat × Value)} (hd : decode S.2.1 pc = .ok (.istore_n n, 1)) (hi : (n : Nat) = i) (hn : i < S.2.2.1) (hs : zs1 i (.int x) ls = ls1) (q : Nat) (hq : pc + 1 = q) (k : AX g S (q) (ls1) (st) (m) Q) : AX g S (pc) (ls) (.int x :: st) (m) Q := by
  subst hq
  exact aw_istore_n hd hi hn hs k
theorem ax_istore {g : zG} {S : zS} {pc : Nat} {ls : List (Nat × Value)} {st : List Value} {m : zM} {Q : Option Value → zM → Prop} {i : Nat} {x : Int32} {ls1 : List (Nat × Value)} (hd : decode S.2.1 pc = .ok (.istore i, 2)) (hn : i < S.2.2.1) (hs : zs1 i (.int x) ls = ls1) (q : Nat) (hq : pc + 2 = q) (k : AX g S (q) (ls1) (st) (m) Q) : AX g S (pc) (ls) (.int x :: st) (m) Q := by
  subst hq
  exact aw_istore hd hn hs k
theorem ax_lload_n {g : zG} {S : zS} {pc : Nat} {ls : List (Nat × Value)} {st : List Value} {m : zM} {Q : Option Value → zM → Prop} {n : Fin 4} (j : Nat) {i : Nat} {x : Int64} (hd : decode S.2.1 pc = .ok (.lload_n n, 1)) (hi : (n : Nat) = i) (hj : ls[j]? = some (i, .long x)) (q : Nat) (hq : pc + 1 = q) (k : AX g S (q) (ls) (.long x :: st) (m) Q) : AX g S (pc) (ls) (st) (m) Q := by
  subst hq
  exact aw_lload_n j hd hi hj k
theorem ax_lload {g : zG} {S : zS} {pc : Nat} {ls : List (Nat × Value)} {st : List Value} {m : zM} {Q : Option Value → zM → Prop} (j : Nat) {i : Nat} {x : Int64} (hd : decode S.2.1 pc = .ok (.lload i, 2)) (hj : ls[j]? = some (i, .long x)) (q : Nat) (hq : pc + 2 = q) (k : AX g S (q) (ls) (.long x :: st) (m) Q) : AX g S (pc) (ls) (st) (m) Q := by
  subst hq
  exact aw_lload j hd hj k
theorem ax_lstore_n {g : zG} {S : zS} {pc : Nat} {ls : List (Nat × Value)} {st : List Value} {m : zM} {Q : Option Value → zM → Prop} {n : Fin 4} {i : Nat} {x : Int64} {ls1 : List (Nat × Value)} (hd : decode S.2.1 pc = .ok (.lstore_n n, 1)) (hi : (n : Nat) = i) (hn : i + 1 < S.2.2.1) (hs : zs2 i (.long x) ls = ls1) (q : Nat) (hq : pc + 1 = q) (k : AX g S (q) (ls1) (st) (m) Q) : AX g S (pc) (ls) (.long x :: st) (m) Q := by
  subst hq
  exact aw_lstore_n hd hi hn hs k
theorem ax_lstore {g : zG} {S : zS} {pc : Nat} {ls : List (Nat × Value)} {st : List Value} {m : zM} {Q : Option Value → zM → Prop} {i : Nat} {x : Int64} {ls1 : List (Nat × Value)} (hd : decode S.2.1 pc = .ok (.lstore i, 2)) (hn : i + 1 < S.2.2.1) (hs : zs2 i (.long x) ls = ls1) (q : Nat) (hq : pc + 2 = q) (k : AX g S (q) (ls1) (st) (m) Q) : AX g S (pc) (ls) (.long x :: st) (m) Q := by
  subst hq
  exact aw_lstore hd hn hs k
theorem ax_aload_n {g : zG} {S : zS} {pc : Nat} {ls : List (Nat × Value)} {st : List Value} {m : zM} {Q : Option Value → zM → Prop} {n : Fin 4} (j : Nat) {i : Nat} {x : Nat} (hd : decode S.2.1 pc = .ok (.aload_n n, 1)) (hi : (n : Nat) = i) (hj : ls[j]? = some (i, .ref x)) (q : Nat) (hq : pc + 1 = q) (k : AX g S (q) (ls) (.ref x :: st) (m) Q) : AX g S (pc) (ls) (st) (m) Q := by
  subst hq
  exact aw_aload_n j hd hi hj k
theorem ax_aload {g : zG} {S : zS} {pc : Nat} {ls : List (Nat × Value)} {st : List Value} {m : zM} {Q : Option Value → zM → Prop} (j : Nat) {i : Nat} {x : Nat} (hd : decode S.2.1 pc = .ok (.aload i, 2)) (hj : ls[j]? = some (i, .ref x)) (q : Nat) (hq : pc + 2 = q) (k : AX g S (q) (ls) (.ref x :: st) (m) Q) : AX g S (pc) (ls) (st) (m) Q := by
  subst hq
  exact aw_aload j hd hj k
theorem ax_astore_n {g : zG} {S : zS} {pc : Nat} {ls : List (Nat × Value)} {st : List Value} {m : zM} {Q : Option Value → zM → Prop} {n : Fin 4} {i : Nat} {x : Nat} {ls1 : List (Nat × Value)} (hd : decode S.2.1 pc = .ok (.astore_n n, 1)) (hi : (n : Nat) = i) (hn : i < S.2.2.1) (hs : zs1 i (.ref x) ls = ls1) (q : Nat) (hq : pc + 1 = q) (k : AX g S (q) (ls1) (st) (m) Q) : AX g S (pc) (ls) (.ref x :: st) (m) Q := by
  subst hq
  exact aw_astore_n hd hi hn hs k
theorem ax_astore {g : zG} {S : zS} {pc : Nat} {ls : List (Nat × Value)} {st : List Value} {m : zM} {Q : Option Value → zM → Prop} {i : Nat} {x : Nat} {ls1 : List (Nat × Value)} (hd : decode S.2.1 pc = .ok (.astore i, 2)) (hn : i < S.2.2.1) (hs : zs1 i (.ref x) ls = ls1) (q : Nat) (hq : pc + 2 = q) (k : AX g S (q) (ls1) (st) (m) Q) : AX g S (pc) (ls) (.ref x :: st) (m) Q := by
  subst hq
  exact aw_astore hd hn hs k
theorem ax_iinc {g : zG} {S : zS} {pc : Nat} {ls : List (Nat × Value)} {st : List Value} {m : zM} {Q : Option Value → zM → Prop} {n : Int} (j : Nat) {i : Nat} {x : Int32} (v : Int32) {ls1 : List (Nat × Value)} (hd : decode S.2.1 pc = .ok (.iinc i n, 3)) (hj : ls[j]? = some (i, .int x)) (hv : Int32.ofInt n = v) (hn : i < S.2.2.1) (hs : zs1 i (.int (x + v)) ls = ls1) (q : Nat) (hq : pc + 3 = q) (k : AX g S (q) (ls1) (st) (m) Q) : AX g S (pc) (ls) (st) (m) Q := by
  subst hq
  exact aw_iinc j v hd hj hv hn hs k
theorem ax_iadd {g : zG} {S : zS} {pc : Nat} {ls : List (Nat × Value)} {st : List Value} {m : zM} {Q : Option Value → zM → Prop} {x y : Int32} (hd : decode S.2.1 pc = .ok (.iadd, 1)) (q : Nat) (hq : pc + 1 = q) (k : AX g S (q) (ls) (.int (x + y) :: st) (m) Q) : AX g S (pc) (ls) (.int y :: .int x :: st) (m) Q := by
  subst hq
  exact aw_iadd hd k
theorem ax_isub {g : zG} {S : zS} {pc : Nat} {ls : List (Nat × Value)} {st : List Value} {m : zM} {Q : Option Value → zM → Prop} {x y : Int32} (hd : decode S.2.1 pc = .ok (.isub, 1)) (q : Nat) (hq : pc + 1 = q) (k : AX g S (q) (ls) (.int (x - y) :: st) (m) Q) : AX g S (pc) (ls) (.int y :: .int x :: st) (m) Q := by
  subst hq
  exact aw_isub hd k
theorem ax_imul {g : zG} {S : zS} {pc : Nat} {ls : List (Nat × Value)} {st : List Value} {m : zM} {Q : Option Value → zM → Prop} {x y : Int32} (hd : decode S.2.1 pc = .ok (.imul, 1)) (q : Nat) (hq : pc + 1 = q) (k : AX g S (q) (ls) (.int (x * y) :: st) (m) Q) : AX g S (pc) (ls) (.int y :: .int x :: st) (m) Q := by
  subst hq
  exact aw_imul hd k
theorem ax_iand {g : zG} {S : zS} {pc : Nat} {ls : List (Nat × Value)} {st : List Value} {m : zM} {Q : Option Value → zM → Prop} {x y : Int32} (hd : decode S.2.1 pc = .ok (.iand, 1)) (q : Nat) (hq : pc + 1 = q) (k : AX g S (q) (ls) (.int (x &&& y) :: st) (m) Q) : AX g S (pc) (ls) (.int y :: .int x :: st) (m) Q := by
  subst hq
  exact aw_iand hd k
theorem ax_ior {g : zG} {S : zS} {pc : Nat} {ls : List (Nat × Value)} {st : List Value} {m : zM} {Q : Option Value → zM → Prop} {x y : Int32} (hd : decode S.2.1 pc = .ok (.ior, 1)) (q : Nat) (hq : pc + 1 = q) (k : AX g S (q) (ls) (.int (x ||| y) :: st) (m) Q) : AX g S (pc) (ls) (.int y :: .int x :: st) (m) Q := by
  subst hq
  exact aw_ior hd k
theorem ax_ixor {g : zG} {S : zS} {pc : Nat} {ls : List (Nat × Value)} {st : List Value} {m : zM} {Q : Option Value → zM → Prop} {x y : Int32} (hd : decode S.2.1 pc = .ok (.ixor, 1)) (q : Nat) (hq : pc + 1 = q) (k : AX g S (q) (ls) (.int (x ^^^ y) :: st) (m) Q) : AX g S (pc) (ls) (.int y :: .int x :: st) (m) Q := by
  subst hq
  exact aw_ixor hd k
theorem ax_ishl {g : zG} {S : zS} {pc : Nat} {ls : List (Nat × Value)} {st : List Value} {m : zM} {Q : Option Value → zM → Prop} {x y : Int32} (hd : decode S.2.1 pc = .ok (.ishl, 1)) (q : Nat) (hq : pc + 1 = q) (k : AX g S (q) (ls) (.int (shl x y) :: st) (m) Q) : AX g S (pc) (ls) (.int y :: .int x :: st) (m) Q := by
  subst hq
  exact aw_ishl hd k
theorem ax_ishr {g : zG} {S : zS} {pc : Nat} {ls : List (Nat × Value)} {st : List Value} {m : zM} {Q : Option Value → zM → Prop} {x y : Int32} (hd : decode S.2.1 pc = .ok (.ishr, 1)) (q : Nat) (hq : pc + 1 = q) (k : AX g S (q) (ls) (.int (shr x y) :: st) (m) Q) : AX g S (pc) (ls) (.int y :: .int x :: st) (m) Q := by
  subst hq
  exact aw_ishr hd k
theorem ax_idiv {g : zG} {S : zS} {pc : Nat} {ls : List (Nat × Value)} {st : List Value} {m : zM} {Q : Option Value → zM → Prop} {x y : Int32} (hd : decode S.2.1 pc = .ok (.idiv, 1)) (hne : ¬ y = 0) (q : Nat) (hq : pc + 1 = q) (k : AX g S (q) (ls) (.int (x / y) :: st) (m) Q) : AX g S (pc) (ls) (.int y :: .int x :: st) (m) Q := by
  subst hq
  exact aw_idiv hd hne k
theorem ax_irem {g : zG} {S : zS} {pc : Nat} {ls : List (Nat × Value)} {st : List Value} {m : zM} {Q : Option Value → zM → Prop} {x y : Int32} (hd : decode S.2.1 pc = .ok (.irem, 1)) (hne : ¬ y = 0) (q : Nat) (hq : pc + 1 = q) (k : AX g S (q) (ls) (.int (ir x y) :: st) (m) Q) : AX g S (pc) (ls) (.int y :: .int x :: st) (m) Q := by
  subst hq
  exact aw_irem hd hne k
theorem ax_ladd {g : zG} {S : zS} {pc : Nat} {ls : List (Nat × Value)} {st : List Value} {m : zM} {Q : Option Value → zM → Prop} {x y : Int64} (hd : decode S.2.1 pc = .ok (.ladd, 1)) (q : Nat) (hq : pc + 1 = q) (k : AX g S (q) (ls) (.long (x + y) :: st) (m) Q) : AX g S (pc) (ls) (.long y :: .long x :: st) (m) Q := by
  subst hq
  exact aw_ladd hd k
theorem ax_lsub {g : zG} {S : zS} {pc : Nat} {ls : List (Nat × Value)} {st : List Value} {m : zM} {Q : Option Value → zM → Prop} {x y : Int64} (hd : decode S.2.1 pc = .ok (.lsub, 1)) (q : Nat) (hq : pc + 1 = q) (k : AX g S (q) (ls) (.long (x - y) :: st) (m) Q) : AX g S (pc) (ls) (.long y :: .long x :: st) (m) Q := by
  subst hq
  exact aw_lsub hd k
theorem ax_lmul {g : zG} {S : zS} {pc : Nat} {ls : List (Nat × Value)} {st : List Value} {m : zM} {Q : Option Value → zM → Prop} {x y : Int64} (hd : decode S.2.1 pc = .ok (.lmul, 1)) (q : Nat) (hq : pc + 1 = q) (k : AX g S (q) (ls) (.long (x * y) :: st) (m) Q) : AX g S (pc) (ls) (.long y :: .long x :: st) (m) Q := by
  subst hq
  exact aw_lmul hd k
theorem ax_land {g : zG} {S : zS} {pc : Nat} {ls : List (Nat × Value)} {st : List Value} {m : zM} {Q : Option Value → zM → Prop} {x y : Int64} (hd : decode S.2.1 pc = .ok (.land, 1)) (q : Nat) (hq : pc + 1 = q) (k : AX g S (q) (ls) (.long (x &&& y) :: st) (m) Q) : AX g S (pc) (ls) (.long y :: .long x :: st) (m) Q := by
  subst hq
  exact aw_land hd k
theorem ax_lor {g : zG} {S : zS} {pc : Nat} {ls : List (Nat × Value)} {st : List Value} {m : zM} {Q : Option Value → zM → Prop} {x y : Int64} (hd : decode S.2.1 pc = .ok (.lor, 1)) (q : Nat) (hq : pc + 1 = q) (k : AX g S (q) (ls) (.long (x ||| y) :: st) (m) Q) : AX g S (pc) (ls) (.long y :: .long x :: st) (m) Q := by
  subst hq
  exact aw_lor hd k
theorem ax_ldiv {g : zG} {S : zS} {pc : Nat} {ls : List (Nat × Value)} {st : List Value} {m : zM} {Q : Option Value → zM → Prop} {x y : Int64} (hd : decode S.2.1 pc = .ok (.ldiv, 1)) (hne : ¬ y = 0) (q : Nat) (hq : pc + 1 = q) (k : AX g S (q) (ls) (.long (x / y) :: st) (m) Q) : AX g S (pc) (ls) (.long y :: .long x :: st) (m) Q := by
  subst hq
  exact aw_ldiv hd hne k
theorem ax_lrem {g : zG} {S : zS} {pc : Nat} {ls : List (Nat × Value)} {st : List Value} {m : zM} {Q : Option Value → zM → Prop} {x y : Int64} (hd : decode S.2.1 pc = .ok (.lrem, 1)) (hne : ¬ y = 0) (q : Nat) (hq : pc + 1 = q) (k : AX g S (q) (ls) (.long (irl x y) :: st) (m) Q) : AX g S (pc) (ls) (.long y :: .long x :: st) (m) Q := by
  subst hq
  exact aw_lrem hd hne k
theorem ax_lushr {g : zG} {S : zS} {pc : Nat} {ls : List (Nat × Value)} {st : List Value} {m : zM} {Q : Option Value → zM → Prop} {x : Int64} {y : Int32} (hd : decode S.2.1 pc = .ok (.lushr, 1)) (q : Nat) (hq : pc + 1 = q) (k : AX g S (q) (ls) (.long (lus x y) :: st) (m) Q) : AX g S (pc) (ls) (.int y :: .long x :: st) (m) Q := by
  subst hq
  exact aw_lushr hd k
theorem ax_lshl {g : zG} {S : zS} {pc : Nat} {ls : List (Nat × Value)} {st : List Value} {m : zM} {Q : Option Value → zM → Prop} {x : Int64} {y : Int32} (hd : decode S.2.1 pc = .ok (.lshl, 1)) (q : Nat) (hq : pc + 1 = q) (k : AX g S (q) (ls) (.long (lsl x y) :: st) (m) Q) : AX g S (pc) (ls) (.int y :: .long x :: st) (m) Q := by
  subst hq
  exact aw_lshl hd k
theorem ax_lshr {g : zG} {S : zS} {pc : Nat} {ls : List (Nat × Value)} {st : List Value} {m : zM} {Q : Option Value → zM → Prop} {x : Int64} {y : Int32} (hd : decode S.2.1 pc = .ok (.lshr, 1)) (q : Nat) (hq : pc + 1 = q) (k : AX g S (q) (ls) (.long (lsr x y) :: st) (m) Q) : AX g S (pc) (ls) (.int y :: .long x :: st) (m) Q := by
  subst hq
  exact aw_lshr hd k
theorem ax_lcmp {g : zG} {S : zS} {pc : Nat} {ls : List (Nat × Value)} {st : List Value} {m : zM} {Q : Option Value → zM → Prop} {x y : Int64} (hd : decode S.2.1 pc = .ok (.lcmp, 1)) (q : Nat) (hq : pc + 1 = q) (k : AX g S (q) (ls) (.int (lg_cmp x y) :: st) (m) Q) : AX g S (pc) (ls) (.long y :: .long x :: st) (m) Q := by
  subst hq
  exact aw_lcmp hd k
theorem ax_i2l {g : zG} {S : zS} {pc : Nat} {ls : List (Nat × Value)} {st : List Value} {m : zM} {Q : Option Value → zM → Prop} {x : Int32} (hd : decode S.2.1 pc = .ok (.i2l, 1)) (q : Nat) (hq : pc + 1 = q) (k : AX g S (q) (ls) (.long x.toInt64 :: st) (m) Q) : AX g S (pc) (ls) (.int x :: st) (m) Q := by
  subst hq
  exact aw_i2l hd k
theorem ax_l2i {g : zG} {S : zS} {pc : Nat} {ls : List (Nat × Value)} {st : List Value} {m : zM} {Q : Option Value → zM → Prop} {x : Int64} (hd : decode S.2.1 pc = .ok (.l2i, 1)) (q : Nat) (hq : pc + 1 = q) (k : AX g S (q) (ls) (.int x.toInt32 :: st) (m) Q) : AX g S (pc) (ls) (.long x :: st) (m) Q := by
  subst hq
  exact aw_l2i hd k
theorem ax_dup {g : zG} {S : zS} {pc : Nat} {ls : List (Nat × Value)} {st : List Value} {m : zM} {Q : Option Value → zM → Prop} {v : Value} (hd : decode S.2.1 pc = .ok (.dup, 1)) (hc : v.category = 1) (q : Nat) (hq : pc + 1 = q) (k : AX g S (q) (ls) (v :: v :: st) (m) Q) : AX g S (pc) (ls) (v :: st) (m) Q := by
  subst hq
  exact aw_dup hd hc k
theorem ax_pop {g : zG} {S : zS} {pc : Nat} {ls : List (Nat × Value)} {st : List Value} {m : zM} {Q : Option Value → zM → Prop} {v : Value} (hd : decode S.2.1 pc = .ok (.pop, 1)) (hc : v.category = 1) (q : Nat) (hq : pc + 1 = q) (k : AX g S (q) (ls) (st) (m) Q) : AX g S (pc) (ls) (v :: st) (m) Q := by
  subst hq
  exact aw_pop hd hc k
theorem ax_dup2 {g : zG} {S : zS} {pc : Nat} {ls : List (Nat × Value)} {st : List Value} {m : zM} {Q : Option Value → zM → Prop} {v w : Value} (hd : decode S.2.1 pc = .ok (.dup2, 1)) (hc : v.category = 1) (hc2 : w.category = 1) (q : Nat) (hq : pc + 1 = q) (k : AX g S (q) (ls) (v :: w :: v :: w :: st) (m) Q) : AX g S (pc) (ls) (v :: w :: st) (m) Q := by
  subst hq
  exact aw_dup2 hd hc hc2 k
theorem ax_goto {g : zG} {S : zS} {pc : Nat} {ls : List (Nat × Value)} {st : List Value} {m : zM} {Q : Option Value → zM → Prop} {off : Int} (q : Nat) (hd : decode S.2.1 pc = .ok (.goto off, 3)) (ht : (pc : Int) + off = (q : Int)) (k : AX g S (q) (ls) (st) (m) Q) : AX g S (pc) (ls) (st) (m) Q := aw_goto q hd ht k
theorem ax_sub {g : zG} {S : zS} {pc : Nat} {ls : List (Nat × Value)} {st : List Value} {m : zM} {Q : Option Value → zM → Prop} (ks : List Nat) {ls' : List (Nat × Value)} (hp : lv_pick ls ks = ls') (k : AX g S (pc) (ls') (st) (m) Q) : AX g S (pc) (ls) (st) (m) Q := aw_sub ks hp k
theorem ax_if_eq {g : zG} {S : zS} {pc : Nat} {ls : List (Nat × Value)} {st : List Value} {m : zM} {Q : Option Value → zM → Prop} {x : Int32} {off : Int} (q q2 : Nat) (hd : decode S.2.1 pc = .ok (.ifCond .eq off, 3)) (ht : (pc : Int) + off = (q : Int)) (hq : pc + 3 = q2) (kt : x = 0 → AX g S (q) (ls) (st) (m) Q) (kf : ¬ x = 0 → AX g S (q2) (ls) (st) (m) Q) : AX g S (pc) (ls) (.int x :: st) (m) Q := by
  subst hq
  exact aw_if_eq q hd ht kt kf
theorem ax_icmp_eq {g : zG} {S : zS} {pc : Nat} {ls : List (Nat × Value)} {st : List Value} {m : zM} {Q : Option Value → zM → Prop} {x y : Int32} {off : Int} (q q2 : Nat) (hd : decode S.2.1 pc = .ok (.if_icmp .eq off, 3)) (ht : (pc : Int) + off = (q : Int)) (hq : pc + 3 = q2) (kt : x = y → AX g S (q) (ls) (st) (m) Q) (kf : ¬ x = y → AX g S (q2) (ls) (st) (m) Q) : AX g S (pc) (ls) (.int y :: .int x :: st) (m) Q := by
  subst hq
  exact aw_icmp_eq q hd ht kt kf
theorem ax_if_ne {g : zG} {S : zS} {pc : Nat} {ls : List (Nat × Value)} {st : List Value} {m : zM} {Q : Option Value → zM → Prop} {x : Int32} {off : Int} (q q2 : Nat) (hd : decode S.2.1 pc = .ok (.ifCond .ne off, 3)) (ht : (pc : Int) + off = (q : Int)) (hq : pc + 3 = q2) (kt : ¬ x = 0 → AX g S (q) (ls) (st) (m) Q) (kf : x = 0 → AX g S (q2) (ls) (st) (m) Q) : AX g S (pc) (ls) (.int x :: st) (m) Q := by
  subst hq
  exact aw_if_ne q hd ht kt kf
theorem ax_icmp_ne {g : zG} {S : zS} {pc : Nat} {ls : List (Nat × Value)} {st : List Value} {m : zM} {Q : Option Value → zM → Prop} {x y : Int32} {off : Int} (q q2 : Nat) (hd : decode S.2.1 pc = .ok (.if_icmp .ne off, 3)) (ht : (pc : Int) + off = (q : Int)) (hq : pc + 3 = q2) (kt : ¬ x = y → AX g S (q) (ls) (st) (m) Q) (kf : x = y → AX g S (q2) (ls) (st) (m) Q) : AX g S (pc) (ls) (.int y :: .int x :: st) (m) Q := by
  subst hq
  exact aw_icmp_ne q hd ht kt kf
theorem ax_if_lt {g : zG} {S : zS} {pc : Nat} {ls : List (Nat × Value)} {st : List Value} {m : zM} {Q : Option Value → zM → Prop} {x : Int32} {off : Int} (q q2 : Nat) (hd : decode S.2.1 pc = .ok (.ifCond .lt off, 3)) (ht : (pc : Int) + off = (q : Int)) (hq : pc + 3 = q2) (kt : x < 0 → AX g S (q) (ls) (st) (m) Q) (kf : ¬ x < 0 → AX g S (q2) (ls) (st) (m) Q) : AX g S (pc) (ls) (.int x :: st) (m) Q := by
  subst hq
  exact aw_if_lt q hd ht kt kf
theorem ax_icmp_lt {g : zG} {S : zS} {pc : Nat} {ls : List (Nat × Value)} {st : List Value} {m : zM} {Q : Option Value → zM → Prop} {x y : Int32} {off : Int} (q q2 : Nat) (hd : decode S.2.1 pc = .ok (.if_icmp .lt off, 3)) (ht : (pc : Int) + off = (q : Int)) (hq : pc + 3 = q2) (kt : x < y → AX g S (q) (ls) (st) (m) Q) (kf : ¬ x < y → AX g S (q2) (ls) (st) (m) Q) : AX g S (pc) (ls) (.int y :: .int x :: st) (m) Q := by
  subst hq
  exact aw_icmp_lt q hd ht kt kf
theorem ax_if_ge {g : zG} {S : zS} {pc : Nat} {ls : List (Nat × Value)} {st : List Value} {m : zM} {Q : Option Value → zM → Prop} {x : Int32} {off : Int} (q q2 : Nat) (hd : decode S.2.1 pc = .ok (.ifCond .ge off, 3)) (ht : (pc : Int) + off = (q : Int)) (hq : pc + 3 = q2) (kt : 0 ≤ x → AX g S (q) (ls) (st) (m) Q) (kf : ¬ 0 ≤ x → AX g S (q2) (ls) (st) (m) Q) : AX g S (pc) (ls) (.int x :: st) (m) Q := by
  subst hq
  exact aw_if_ge q hd ht kt kf
theorem ax_icmp_ge {g : zG} {S : zS} {pc : Nat} {ls : List (Nat × Value)} {st : List Value} {m : zM} {Q : Option Value → zM → Prop} {x y : Int32} {off : Int} (q q2 : Nat) (hd : decode S.2.1 pc = .ok (.if_icmp .ge off, 3)) (ht : (pc : Int) + off = (q : Int)) (hq : pc + 3 = q2) (kt : y ≤ x → AX g S (q) (ls) (st) (m) Q) (kf : ¬ y ≤ x → AX g S (q2) (ls) (st) (m) Q) : AX g S (pc) (ls) (.int y :: .int x :: st) (m) Q := by
  subst hq
  exact aw_icmp_ge q hd ht kt kf
theorem ax_if_gt {g : zG} {S : zS} {pc : Nat} {ls : List (Nat × Value)} {st : List Value} {m : zM} {Q : Option Value → zM → Prop} {x : Int32} {off : Int} (q q2 : Nat) (hd : decode S.2.1 pc = .ok (.ifCond .gt off, 3)) (ht : (pc : Int) + off = (q : Int)) (hq : pc + 3 = q2) (kt : 0 < x → AX g S (q) (ls) (st) (m) Q) (kf : ¬ 0 < x → AX g S (q2) (ls) (st) (m) Q) : AX g S (pc) (ls) (.int x :: st) (m) Q := by
  subst hq
  exact aw_if_gt q hd ht kt kf
theorem ax_icmp_gt {g : zG} {S : zS} {pc : Nat} {ls : List (Nat × Value)} {st : List Value} {m : zM} {Q : Option Value → zM → Prop} {x y : Int32} {off : Int} (q q2 : Nat) (hd : decode S.2.1 pc = .ok (.if_icmp .gt off, 3)) (ht : (pc : Int) + off = (q : Int)) (hq : pc + 3 = q2) (kt : y < x → AX g S (q) (ls) (st) (m) Q) (kf : ¬ y < x → AX g S (q2) (ls) (st) (m) Q) : AX g S (pc) (ls) (.int y :: .int x :: st) (m) Q := by
  subst hq
  exact aw_icmp_gt q hd ht kt kf
theorem ax_if_le {g : zG} {S : zS} {pc : Nat} {ls : List (Nat × Value)} {st : List Value} {m : zM} {Q : Option Value → zM → Prop} {x : Int32} {off : Int} (q q2 : Nat) (hd : decode S.2.1 pc = .ok (.ifCond .le off, 3)) (ht : (pc : Int) + off = (q : Int)) (hq : pc + 3 = q2) (kt : x ≤ 0 → AX g S (q) (ls) (st) (m) Q) (kf : ¬ x ≤ 0 → AX g S (q2) (ls) (st) (m) Q) : AX g S (pc) (ls) (.int x :: st) (m) Q := by
  subst hq
  exact aw_if_le q hd ht kt kf
theorem ax_icmp_le {g : zG} {S : zS} {pc : Nat} {ls : List (Nat × Value)} {st : List Value} {m : zM} {Q : Option Value → zM → Prop} {x y : Int32} {off : Int} (q q2 : Nat) (hd : decode S.2.1 pc = .ok (.if_icmp .le off, 3)) (ht : (pc : Int) + off = (q : Int)) (hq : pc + 3 = q2) (kt : x ≤ y → AX g S (q) (ls) (st) (m) Q) (kf : ¬ x ≤ y → AX g S (q2) (ls) (st) (m) Q) : AX g S (pc) (ls) (.int y :: .int x :: st) (m) Q := by
  subst hq
  exact aw_icmp_le q hd ht kt kf
theorem ax_ifb_eq {g : zG} {S : zS} {pc : Nat} {ls : List (Nat × Value)} {st : List Value} {m : zM} {Q : Option Value → zM → Prop} {b : Bool} {off : Int} (q q2 : Nat) (hd : decode S.2.1 pc = .ok (.ifCond .eq off, 3)) (ht : (pc : Int) + off = (q : Int)) (hq : pc + 3 = q2) (kt : b = false → AX g S (q) (ls) (st) (m) Q) (kf : b = true → AX g S (q2) (ls) (st) (m) Q) : AX g S (pc) (ls) (.int (b2i b) :: st) (m) Q := ax_if_eq q q2 hd ht hq (fun e => kt (b2i_f e)) (fun e => kf (b2i_t e))
theorem ax_ifb_ne {g : zG} {S : zS} {pc : Nat} {ls : List (Nat × Value)} {st : List Value} {m : zM} {Q : Option Value → zM → Prop} {b : Bool} {off : Int} (q q2 : Nat) (hd : decode S.2.1 pc = .ok (.ifCond .ne off, 3)) (ht : (pc : Int) + off = (q : Int)) (hq : pc + 3 = q2) (kt : b = true → AX g S (q) (ls) (st) (m) Q) (kf : b = false → AX g S (q2) (ls) (st) (m) Q) : AX g S (pc) (ls) (.int (b2i b) :: st) (m) Q := ax_if_ne q q2 hd ht hq (fun e => kt (b2i_t e)) (fun e => kf (b2i_f e))
theorem ax_lookup {g : zG} {S : zS} {pc : Nat} {ls : List (Nat × Value)} {st : List Value} {m : zM} {Q : Option Value → zM → Prop} {dflt : Int} {ps : Array (Int × Int)} {len : Nat} {x : Int32} {off : Int} (q : Nat) (hd : decode S.2.1 pc = .ok (.lookupswitch dflt ps, len)) (hp : (ps.toList.zip (ps.toList.drop 1)).all (fun (a, next) => a.1 < next.1) = true) (ho : Op.lookupswitch.offset ps.toList dflt x.toInt = off) (ht : (pc : Int) + off = (q : Int)) (k : AX g S (q) (ls) (st) (m) Q) : AX g S (pc) (ls) (.int x :: st) (m) Q := aw_lookup q hd hp ho ht k
theorem ax_tableOut {g : zG} {S : zS} {pc : Nat} {ls : List (Nat × Value)} {st : List Value} {m : zM} {Q : Option Value → zM → Prop} {dflt lo hi : Int} {offs : Array Int} {len : Nat} {x : Int32} (q : Nat) (hd : decode S.2.1 pc = .ok (.tableswitch dflt lo hi offs, len)) (hx : x.toInt < lo ∨ hi < x.toInt) (ht : (pc : Int) + dflt = (q : Int)) (k : AX g S (q) (ls) (st) (m) Q) : AX g S (pc) (ls) (.int x :: st) (m) Q := aw_tableOut q hd hx ht k
theorem ax_tableIn {g : zG} {S : zS} {pc : Nat} {ls : List (Nat × Value)} {st : List Value} {m : zM} {Q : Option Value → zM → Prop} {dflt lo hi : Int} {offs : Array Int} {len : Nat} {x : Int32} {off : Int} (q : Nat) (hd : decode S.2.1 pc = .ok (.tableswitch dflt lo hi offs, len)) (h1 : ¬ x.toInt < lo) (h2 : ¬ hi < x.toInt) (ho : offs[(x.toInt - lo).toNat]? = some off) (ht : (pc : Int) + off = (q : Int)) (k : AX g S (q) (ls) (st) (m) Q) : AX g S (pc) (ls) (.int x :: st) (m) Q := aw_tableIn q hd h1 h2 ho ht k
theorem ax_getI {g : zG} {S : zS} {pc : Nat} {ls : List (Nat × Value)} {st : List Value} {m : zM} {Q : Option Value → zM → Prop} {ix ci i : Nat} {C : String} {T : u_T} {N : Nat} {ty : Nat → FieldType} (hk : zFL S.1.cls ix ci i C T N ty) {a : Nat} (ha : g.1[a]? = some (.inl ci)) (hkd : (zkd ci).getD i 9 = 0) (hd : decode S.2.1 pc = .ok (.getfield ix, 3)) (q : Nat) (hq : pc + 3 = q) (k : AX g S (q) (ls) (.int (m.1 a i) :: st) (m) Q) : AX g S (pc) (ls) (.ref a :: st) (m) Q := by
  subst hq
  exact aw_getI (h := zh g m) hk ha hkd hd k
theorem ax_getJ {g : zG} {S : zS} {pc : Nat} {ls : List (Nat × Value)} {st : List Value} {m : zM} {Q : Option Value → zM → Prop} {ix ci i : Nat} {C : String} {T : u_T} {N : Nat} {ty : Nat → FieldType} (hk : zFL S.1.cls ix ci i C T N ty) {a : Nat} (ha : g.1[a]? = some (.inl ci)) (hkd : (zkd ci).getD i 9 = 1) (hd : decode S.2.1 pc = .ok (.getfield ix, 3)) (q : Nat) (hq : pc + 3 = q) (k : AX g S (q) (ls) (.long (m.2.1 a i) :: st) (m) Q) : AX g S (pc) (ls) (.ref a :: st) (m) Q := by
  subst hq
  exact aw_getJ (h := zh g m) hk ha hkd hd k
theorem ax_getR {g : zG} {S : zS} {pc : Nat} {ls : List (Nat × Value)} {st : List Value} {m : zM} {Q : Option Value → zM → Prop} {ix ci i : Nat} {C : String} {T : u_T} {N : Nat} {ty : Nat → FieldType} (hk : zFL S.1.cls ix ci i C T N ty) {a : Nat} (ha : g.1[a]? = some (.inl ci)) (hkd : (zkd ci).getD i 9 = 2) {b : Nat} (hr : g.2 m.2.2 a i = some b) (hd : decode S.2.1 pc = .ok (.getfield ix, 3)) (q : Nat) (hq : pc + 3 = q) (k : AX g S (q) (ls) (.ref b :: st) (m) Q) : AX g S (pc) (ls) (.ref a :: st) (m) Q := by
  subst hq
  exact aw_getR (h := zh g m) hk ha hkd hr hd k
theorem ax_putI {g : zG} {S : zS} {pc : Nat} {ls : List (Nat × Value)} {st : List Value} {m : zM} {Q : Option Value → zM → Prop} {ix ci i : Nat} {C : String} {T : u_T} {N : Nat} {ty : Nat → FieldType} (hk : zFL S.1.cls ix ci i C T N ty) {a : Nat} (ha : g.1[a]? = some (.inl ci)) {x : Int32} (hfin : (T i).2.2.2 = false) (hty : ty i = .int) (hkd : (zkd ci).getD i 9 = 0) (hi : i < (zkd ci).length) (hd : decode S.2.1 pc = .ok (.putfield ix, 3)) {α : Type} {f : zM → Option α} {K : α → Prop} (q : Nat) (hq : pc + 3 = q) (h : ok (lt (sI m a i x) f) K) (k : ∀ m2 : zM, ok (f m2) K → AX g S (q) (ls) (st) (m2) Q) : AX g S (pc) (ls) (.int x :: .ref a :: st) (m) Q := by
  subst hq
  have kk := k (sI m a i x) h
  exact aw_putI (h := zh g m) hk ha hfin hty hkd hi hd kk
theorem ax_putIk {g : zG} {S : zS} {pc : Nat} {ls : List (Nat × Value)} {st : List Value} {m : zM} {Q : Option Value → zM → Prop} {ix ci i : Nat} {C : String} {T : u_T} {N : Nat} {ty : Nat → FieldType} (hk : zFL S.1.cls ix ci i C T N ty) {a : Nat} (ha : g.1[a]? = some (.inl ci)) {x : Int32} (hfin : (T i).2.2.2 = false) (hty : ty i = .int) (hkd : (zkd ci).getD i 9 = 0) (hi : i < (zkd ci).length) (hd : decode S.2.1 pc = .ok (.putfield ix, 3)) {α : Type} {f : zM → α} {K : α → Prop} (q : Nat) (hq : pc + 3 = q) (h : K (lt (sI m a i x) f)) (k : ∀ m2 : zM, K (f m2) → AX g S (q) (ls) (st) (m2) Q) : AX g S (pc) (ls) (.int x :: .ref a :: st) (m) Q := by
  subst hq
  have kk := k (sI m a i x) h
  exact aw_putI (h := zh g m) hk ha hfin hty hkd hi hd kk
theorem ax_putZ {g : zG} {S : zS} {pc : Nat} {ls : List (Nat × Value)} {st : List Value} {m : zM} {Q : Option Value → zM → Prop} {ix ci i : Nat} {C : String} {T : u_T} {N : Nat} {ty : Nat → FieldType} (hk : zFL S.1.cls ix ci i C T N ty) {a : Nat} (ha : g.1[a]? = some (.inl ci)) {x : Int32} (hx : x = 0 ∨ x = 1) (hfin : (T i).2.2.2 = false) (hty : ty i = .boolean) (hkd : (zkd ci).getD i 9 = 0) (hi : i < (zkd ci).length) (hd : decode S.2.1 pc = .ok (.putfield ix, 3)) {α : Type} {f : zM → Option α} {K : α → Prop} (q : Nat) (hq : pc + 3 = q) (h : ok (lt (sI m a i x) f) K) (k : ∀ m2 : zM, ok (f m2) K → AX g S (q) (ls) (st) (m2) Q) : AX g S (pc) (ls) (.int x :: .ref a :: st) (m) Q := by
  subst hq
  have kk := k (sI m a i x) h
  exact aw_putZ (h := zh g m) hk ha hfin hty hkd hi hx hd kk
theorem ax_putZk {g : zG} {S : zS} {pc : Nat} {ls : List (Nat × Value)} {st : List Value} {m : zM} {Q : Option Value → zM → Prop} {ix ci i : Nat} {C : String} {T : u_T} {N : Nat} {ty : Nat → FieldType} (hk : zFL S.1.cls ix ci i C T N ty) {a : Nat} (ha : g.1[a]? = some (.inl ci)) {x : Int32} (hx : x = 0 ∨ x = 1) (hfin : (T i).2.2.2 = false) (hty : ty i = .boolean) (hkd : (zkd ci).getD i 9 = 0) (hi : i < (zkd ci).length) (hd : decode S.2.1 pc = .ok (.putfield ix, 3)) {α : Type} {f : zM → α} {K : α → Prop} (q : Nat) (hq : pc + 3 = q) (h : K (lt (sI m a i x) f)) (k : ∀ m2 : zM, K (f m2) → AX g S (q) (ls) (st) (m2) Q) : AX g S (pc) (ls) (.int x :: .ref a :: st) (m) Q := by
  subst hq
  have kk := k (sI m a i x) h
  exact aw_putZ (h := zh g m) hk ha hfin hty hkd hi hx hd kk
theorem ax_putJ {g : zG} {S : zS} {pc : Nat} {ls : List (Nat × Value)} {st : List Value} {m : zM} {Q : Option Value → zM → Prop} {ix ci i : Nat} {C : String} {T : u_T} {N : Nat} {ty : Nat → FieldType} (hk : zFL S.1.cls ix ci i C T N ty) {a : Nat} (ha : g.1[a]? = some (.inl ci)) {x : Int64} (hfin : (T i).2.2.2 = false) (hty : ty i = .long) (hkd : (zkd ci).getD i 9 = 1) (hi : i < (zkd ci).length) (hd : decode S.2.1 pc = .ok (.putfield ix, 3)) {α : Type} {f : zM → Option α} {K : α → Prop} (q : Nat) (hq : pc + 3 = q) (h : ok (lt (sJ m a i x) f) K) (k : ∀ m2 : zM, ok (f m2) K → AX g S (q) (ls) (st) (m2) Q) : AX g S (pc) (ls) (.long x :: .ref a :: st) (m) Q := by
  subst hq
  have kk := k (sJ m a i x) h
  exact aw_putJ (h := zh g m) hk ha hfin hty hkd hi hd kk
theorem ax_putJk {g : zG} {S : zS} {pc : Nat} {ls : List (Nat × Value)} {st : List Value} {m : zM} {Q : Option Value → zM → Prop} {ix ci i : Nat} {C : String} {T : u_T} {N : Nat} {ty : Nat → FieldType} (hk : zFL S.1.cls ix ci i C T N ty) {a : Nat} (ha : g.1[a]? = some (.inl ci)) {x : Int64} (hfin : (T i).2.2.2 = false) (hty : ty i = .long) (hkd : (zkd ci).getD i 9 = 1) (hi : i < (zkd ci).length) (hd : decode S.2.1 pc = .ok (.putfield ix, 3)) {α : Type} {f : zM → α} {K : α → Prop} (q : Nat) (hq : pc + 3 = q) (h : K (lt (sJ m a i x) f)) (k : ∀ m2 : zM, K (f m2) → AX g S (q) (ls) (st) (m2) Q) : AX g S (pc) (ls) (.long x :: .ref a :: st) (m) Q := by
  subst hq
  have kk := k (sJ m a i x) h
  exact aw_putJ (h := zh g m) hk ha hfin hty hkd hi hd kk
theorem ax_putT {g : zG} {S : zS} {pc : Nat} {ls : List (Nat × Value)} {st : List Value} {m : zM} {Q : Option Value → zM → Prop} {ix ci i : Nat} {C : String} {T : u_T} {N : Nat} {ty : Nat → FieldType} (hk : zFL S.1.cls ix ci i C T N ty) {a : Nat} (ha : g.1[a]? = some (.inl ci)) {x ti : Nat} {cn : String} (hup : ∀ t : Nat → Nat, (fun k j => if k = a ∧ j = i then some x else g.2 t k j) = g.2 (fun j => if j = ti then x else t j)) (hfin : (T i).2.2.2 = false) (hty : ty i = .object cn) (hkd : (zkd ci).getD i 9 = 2) (hi : i < (zkd ci).length) (hd : decode S.2.1 pc = .ok (.putfield ix, 3)) {α : Type} {f : zM → Option α} {K : α → Prop} (q : Nat) (hq : pc + 3 = q) (h : ok (lt (sT m ti x) f) K) (k : ∀ m2 : zM, ok (f m2) K → AX g S (q) (ls) (st) (m2) Q) : AX g S (pc) (ls) (.ref x :: .ref a :: st) (m) Q := by
  subst hq
  have kk := k (sT m ti x) h
  refine aw_putR (h := zh g m) hk ha hfin hty hkd hi hd ?_
  have e : zuR (zh g m) a i x = zh g (sT m ti x) := by
    show (g.1, m.1, m.2.1, fun k j => if k = a ∧ j = i then some x else g.2 m.2.2 k j) = _
    rw [hup]
    rfl
  rw [e]
  exact kk
theorem ax_putTk {g : zG} {S : zS} {pc : Nat} {ls : List (Nat × Value)} {st : List Value} {m : zM} {Q : Option Value → zM → Prop} {ix ci i : Nat} {C : String} {T : u_T} {N : Nat} {ty : Nat → FieldType} (hk : zFL S.1.cls ix ci i C T N ty) {a : Nat} (ha : g.1[a]? = some (.inl ci)) {x ti : Nat} {cn : String} (hup : ∀ t : Nat → Nat, (fun k j => if k = a ∧ j = i then some x else g.2 t k j) = g.2 (fun j => if j = ti then x else t j)) (hfin : (T i).2.2.2 = false) (hty : ty i = .object cn) (hkd : (zkd ci).getD i 9 = 2) (hi : i < (zkd ci).length) (hd : decode S.2.1 pc = .ok (.putfield ix, 3)) {α : Type} {f : zM → α} {K : α → Prop} (q : Nat) (hq : pc + 3 = q) (h : K (lt (sT m ti x) f)) (k : ∀ m2 : zM, K (f m2) → AX g S (q) (ls) (st) (m2) Q) : AX g S (pc) (ls) (.ref x :: .ref a :: st) (m) Q := by
  subst hq
  have kk := k (sT m ti x) h
  refine aw_putR (h := zh g m) hk ha hfin hty hkd hi hd ?_
  have e : zuR (zh g m) a i x = zh g (sT m ti x) := by
    show (g.1, m.1, m.2.1, fun k j => if k = a ∧ j = i then some x else g.2 m.2.2 k j) = _
    rw [hup]
    rfl
  rw [e]
  exact kk
theorem ax_iaload {g : zG} {S : zS} {pc : Nat} {ls : List (Nat × Value)} {st : List Value} {m : zM} {Q : Option Value → zM → Prop} {a n : Nat} {j : Int32} {α : Type} {f : Nat → Option α} {K : α → Prop} (ha : g.1[a]? = some (.inr (0, n))) (hd : decode S.2.1 pc = .ok (.iaload, 1)) (q : Nat) (hq : pc + 1 = q) (h : ok ((ix n j).bind f) K) (k : ∀ i : Nat, ok (f i) K → AX g S (q) (ls) (.int (m.1 a i) :: st) (m) Q) : AX g S (pc) (ls) (.int j :: .ref a :: st) (m) Q := by
  subst hq
  refine ok_bb h (fun i e h => ?_)
  obtain ⟨hin, rfl⟩ := ix_some e
  exact aw_iaload (h := zh g m) ha hin hd (k _ h)
theorem ax_iastore {g : zG} {S : zS} {pc : Nat} {ls : List (Nat × Value)} {st : List Value} {m : zM} {Q : Option Value → zM → Prop} {a n : Nat} {j : Int32} {x : Int32} {α : Type} {f : Nat → zM → Option α} {K : α → Prop} (ha : g.1[a]? = some (.inr (0, n))) (hd : decode S.2.1 pc = .ok (.iastore, 1)) (q : Nat) (hq : pc + 1 = q) (h : ok ((ix n j).bind fun i => lt (sI m a i (x)) (f i)) K) (k : ∀ (i : Nat) (m2 : zM), ok (f i m2) K → AX g S (q) (ls) (st) (m2) Q) : AX g S (pc) (ls) (.int (x) :: .int j :: .ref a :: st) (m) Q := by
  subst hq
  refine ok_bb h (fun i e h => ?_)
  obtain ⟨hin, rfl⟩ := ix_some e
  have kk := k _ _ h
  exact aw_iastore (h := zh g m) ha hin hd kk
theorem ax_baload {g : zG} {S : zS} {pc : Nat} {ls : List (Nat × Value)} {st : List Value} {m : zM} {Q : Option Value → zM → Prop} {a n : Nat} {j : Int32} {α : Type} {f : Nat → Option α} {K : α → Prop} (ha : g.1[a]? = some (.inr (1, n))) (hd : decode S.2.1 pc = .ok (.baload, 1)) (q : Nat) (hq : pc + 1 = q) (h : ok ((ix n j).bind f) K) (k : ∀ i : Nat, ok (f i) K → AX g S (q) (ls) (.int (m.1 a i) :: st) (m) Q) : AX g S (pc) (ls) (.int j :: .ref a :: st) (m) Q := by
  subst hq
  refine ok_bb h (fun i e h => ?_)
  obtain ⟨hin, rfl⟩ := ix_some e
  exact aw_baload (h := zh g m) ha hin hd (k _ h)
theorem ax_bastore {g : zG} {S : zS} {pc : Nat} {ls : List (Nat × Value)} {st : List Value} {m : zM} {Q : Option Value → zM → Prop} {a n : Nat} {j : Int32} {x : Int32} {α : Type} {f : Nat → zM → Option α} {K : α → Prop} (ha : g.1[a]? = some (.inr (1, n))) (hd : decode S.2.1 pc = .ok (.bastore, 1)) (q : Nat) (hq : pc + 1 = q) (h : ok ((ix n j).bind fun i => lt (sI m a i (vp_nar .boolean x)) (f i)) K) (k : ∀ (i : Nat) (m2 : zM), ok (f i m2) K → AX g S (q) (ls) (st) (m2) Q) : AX g S (pc) (ls) (.int (x) :: .int j :: .ref a :: st) (m) Q := by
  subst hq
  refine ok_bb h (fun i e h => ?_)
  obtain ⟨hin, rfl⟩ := ix_some e
  have kk := k _ _ h
  exact aw_bastore (h := zh g m) ha hin hd kk
theorem ax_zastore {g : zG} {S : zS} {pc : Nat} {ls : List (Nat × Value)} {st : List Value} {m : zM} {Q : Option Value → zM → Prop} {a n : Nat} {j : Int32} {y : Bool} {α : Type} {f : Nat → zM → Option α} {K : α → Prop} (ha : g.1[a]? = some (.inr (1, n))) (hd : decode S.2.1 pc = .ok (.bastore, 1)) (q : Nat) (hq : pc + 1 = q) (h : ok ((ix n j).bind fun i => lt (sI m a i (b2i y)) (f i)) K) (k : ∀ (i : Nat) (m2 : zM), ok (f i m2) K → AX g S (q) (ls) (st) (m2) Q) : AX g S (pc) (ls) (.int (b2i y) :: .int j :: .ref a :: st) (m) Q := by
  subst hq
  refine ok_bb h (fun i e h => ?_)
  obtain ⟨hin, rfl⟩ := ix_some e
  have kk := k _ _ h
  rw [← b2i_nar y] at kk
  exact aw_bastore (h := zh g m) ha hin hd kk
theorem ax_caload {g : zG} {S : zS} {pc : Nat} {ls : List (Nat × Value)} {st : List Value} {m : zM} {Q : Option Value → zM → Prop} {a n : Nat} {j : Int32} {α : Type} {f : Nat → Option α} {K : α → Prop} (ha : g.1[a]? = some (.inr (2, n))) (hd : decode S.2.1 pc = .ok (.caload, 1)) (q : Nat) (hq : pc + 1 = q) (h : ok ((ix n j).bind f) K) (k : ∀ i : Nat, ok (f i) K → AX g S (q) (ls) (.int (m.1 a i) :: st) (m) Q) : AX g S (pc) (ls) (.int j :: .ref a :: st) (m) Q := by
  subst hq
  refine ok_bb h (fun i e h => ?_)
  obtain ⟨hin, rfl⟩ := ix_some e
  exact aw_caload (h := zh g m) ha hin hd (k _ h)
theorem ax_castore {g : zG} {S : zS} {pc : Nat} {ls : List (Nat × Value)} {st : List Value} {m : zM} {Q : Option Value → zM → Prop} {a n : Nat} {j : Int32} {x : Int32} {α : Type} {f : Nat → zM → Option α} {K : α → Prop} (ha : g.1[a]? = some (.inr (2, n))) (hd : decode S.2.1 pc = .ok (.castore, 1)) (q : Nat) (hq : pc + 1 = q) (h : ok ((ix n j).bind fun i => lt (sI m a i (vp_nar .char x)) (f i)) K) (k : ∀ (i : Nat) (m2 : zM), ok (f i m2) K → AX g S (q) (ls) (st) (m2) Q) : AX g S (pc) (ls) (.int (x) :: .int j :: .ref a :: st) (m) Q := by
  subst hq
  refine ok_bb h (fun i e h => ?_)
  obtain ⟨hin, rfl⟩ := ix_some e
  have kk := k _ _ h
  exact aw_castore (h := zh g m) ha hin hd kk
theorem ax_laload {g : zG} {S : zS} {pc : Nat} {ls : List (Nat × Value)} {st : List Value} {m : zM} {Q : Option Value → zM → Prop} {a n : Nat} {j : Int32} {α : Type} {f : Nat → Option α} {K : α → Prop} (ha : g.1[a]? = some (.inr (3, n))) (hd : decode S.2.1 pc = .ok (.laload, 1)) (q : Nat) (hq : pc + 1 = q) (h : ok ((ix n j).bind f) K) (k : ∀ i : Nat, ok (f i) K → AX g S (q) (ls) (.long (m.2.1 a i) :: st) (m) Q) : AX g S (pc) (ls) (.int j :: .ref a :: st) (m) Q := by
  subst hq
  refine ok_bb h (fun i e h => ?_)
  obtain ⟨hin, rfl⟩ := ix_some e
  exact aw_laload (h := zh g m) ha hin hd (k _ h)
theorem ax_lastore {g : zG} {S : zS} {pc : Nat} {ls : List (Nat × Value)} {st : List Value} {m : zM} {Q : Option Value → zM → Prop} {a n : Nat} {j : Int32} {x : Int64} {α : Type} {f : Nat → zM → Option α} {K : α → Prop} (ha : g.1[a]? = some (.inr (3, n))) (hd : decode S.2.1 pc = .ok (.lastore, 1)) (q : Nat) (hq : pc + 1 = q) (h : ok ((ix n j).bind fun i => lt (sJ m a i x) (f i)) K) (k : ∀ (i : Nat) (m2 : zM), ok (f i m2) K → AX g S (q) (ls) (st) (m2) Q) : AX g S (pc) (ls) (.long x :: .int j :: .ref a :: st) (m) Q := by
  subst hq
  refine ok_bb h (fun i e h => ?_)
  obtain ⟨hin, rfl⟩ := ix_some e
  exact aw_lastore (h := zh g m) ha hin hd (k _ _ h)
theorem ax_aaload {g : zG} {S : zS} {pc : Nat} {ls : List (Nat × Value)} {st : List Value} {m : zM} {Q : Option Value → zM → Prop} {a n : Nat} {j : Int32} {α : Type} {f : Nat → Option α} {K : α → Prop} (b : Nat → Nat) (ha : g.1[a]? = some (.inr (4, n))) (hr : ∀ i : Nat, i < n → g.2 m.2.2 a i = some (b i)) (hd : decode S.2.1 pc = .ok (.aaload, 1)) (q : Nat) (hq : pc + 1 = q) (h : ok ((ix n j).bind f) K) (k : ∀ i : Nat, i < n → ok (f i) K → AX g S (q) (ls) (.ref (b i) :: st) (m) Q) : AX g S (pc) (ls) (.int j :: .ref a :: st) (m) Q := by
  subst hq
  refine ok_bb h (fun i e h => ?_)
  obtain ⟨hin, rfl⟩ := ix_some e
  have hlt : j.toNatClampNeg < n := Nat.not_le.mp fun q => hin (Or.inr q)
  exact aw_aaload (h := zh g m) ha hin (hr _ hlt) hd (k _ hlt h)
theorem ax_alen {g : zG} {S : zS} {pc : Nat} {ls : List (Nat × Value)} {st : List Value} {m : zM} {Q : Option Value → zM → Prop} {a t n : Nat} (v : Int32) (ha : g.1[a]? = some (.inr (t, n))) (ht : t < 5) (hv : Int32.ofNat n = v) (hd : decode S.2.1 pc = .ok (.arraylength, 1)) (q : Nat) (hq : pc + 1 = q) (k : AX g S (q) (ls) (.int v :: st) (m) Q) : AX g S (pc) (ls) (.ref a :: st) (m) Q := by
  subst hq
  exact aw_alen (h := zh g m) v ha ht hv hd k
theorem ax_iret {g : zG} {S : zS} {pc : Nat} {ls : List (Nat × Value)} {m : zM} {Q : Option Value → zM → Prop} {x : Int32} (hr : S.2.2.2.1 = some .int) (hd : decode S.2.1 pc = .ok (.ireturn, 1)) (hq : Q (some (.int x)) m) : AX g S (pc) (ls) ([.int x]) (m) Q := aw_iret (st := []) (Nat.zero_le _) (Nat.zero_le _) hr hd ⟨m, rfl, hq⟩
theorem ax_lret {g : zG} {S : zS} {pc : Nat} {ls : List (Nat × Value)} {m : zM} {Q : Option Value → zM → Prop} {x : Int64} (hr : S.2.2.2.1 = some .long) (hd : decode S.2.1 pc = .ok (.lreturn, 1)) (hq : Q (some (.long x)) m) : AX g S (pc) (ls) ([.long x]) (m) Q := aw_lret (st := []) (Nat.zero_le _) (Nat.zero_le _) hr hd ⟨m, rfl, hq⟩
theorem ax_zret {g : zG} {S : zS} {pc : Nat} {ls : List (Nat × Value)} {m : zM} {Q : Option Value → zM → Prop} {b : Bool} (hr : S.2.2.2.1 = some .boolean) (hd : decode S.2.1 pc = .ok (.ireturn, 1)) (hq : Q (some (.int (b2i b))) m) : AX g S (pc) (ls) ([.int (b2i b)]) (m) Q := aw_zret (st := []) (Nat.zero_le _) (Nat.zero_le _) hr (b2i_01 b) hd ⟨m, rfl, hq⟩
theorem ax_vret {g : zG} {S : zS} {pc : Nat} {ls : List (Nat × Value)} {m : zM} {Q : Option Value → zM → Prop} (hr : S.2.2.2.1 = none) (hd : decode S.2.1 pc = .ok (.return_, 1)) (hq : Q none m) : AX g S (pc) (ls) ([]) (m) Q := aw_vret (st := []) (Nat.zero_le _) (Nat.zero_le _) hr hd ⟨m, rfl, hq⟩
theorem ax_aret {g : zG} {S : zS} {pc : Nat} {ls : List (Nat × Value)} {m : zM} {Q : Option Value → zM → Prop} {x : Nat} {cn : String} (hr : S.2.2.2.1 = some (.object cn)) (hd : decode S.2.1 pc = .ok (.areturn, 1)) (hq : Q (some (.ref x)) m) : AX g S (pc) (ls) ([.ref x]) (m) Q := aw_aret (st := []) (Nat.zero_le _) (Nat.zero_le _) hr hd ⟨m, rfl, hq⟩
theorem zcall_mono {S : zS} {al : Bool} {as : List Value} {h : zH} {Q Q' : Option Value → zH → Prop} (h0 : zCall S al as h Q) (hq : ∀ r h, Q r h → Q' r h) : zCall S al as h Q' := by
  intro l D cA ad A
  have h1 := h0 l D cA ad A
  intro p e ha hc hk s mm args below hf happ hP hK
  obtain ⟨k, o, b1, b2, b3, b4, b5⟩ := h1 p e ha hc hk s mm args below hf happ hP hK
  refine ⟨k, o, b1, b2, b3, ?_, b5⟩
  obtain ⟨⟨r, hh, c1, c3, c4⟩, c5⟩ := b4
  exact ⟨⟨r, hh, c1, hq r hh c3, c4⟩, c5⟩
theorem zc_aw {g : zG} {S S' : zS} {as : List Value} {m : zM} {pc : Nat} {ls : List (Nat × Value)} {rest : List Value} {Q : Option Value → zM → Prop} (hz : S'.2.2.2.2.cells = 0 ∧ S'.2.2.2.2.slots = 0) (h : zc g S' as m (fun r m' => AX g S pc ls (zk r rest) m' Q)) : zCall S' false as (zh g m) (fun r h' => AW S false (0 + S'.2.2.2.2.cells) (0 + S'.2.2.2.2.slots) pc ls (r.toList ++ rest) h' (fun r h => ∃ m', h = zh g m' ∧ Q r m')) := by
  refine zcall_mono h (fun r h q => ?_)
  obtain ⟨m', rfl, q⟩ := q
  rw [hz.1, hz.2]
  cases r <;> exact q
theorem ax_callV {g : zG} {S : zS} {pc : Nat} {ls : List (Nat × Value)} {rest : List Value} {m : zM} {Q : Option Value → zM → Prop} {S' : zS} {ix b n : Nat} (hk : zLV S.1.cls ix S' n) (hrm : zroom S S') (hz : S'.2.2.2.2.cells = 0 ∧ S'.2.2.2.2.slots = 0) (As st0 : List Value) (hst : st0 = As.reverse ++ .ref b :: rest) (hn : As.length = n) (hb : zrc (zh g m) b S'.1.cls) (hcat : zcat rest ≤ 8) (hd : decode S.2.1 pc = .ok (.invokevirtual ix, 3)) (q : Nat) (hq : pc + 3 = q) (k : zc g S' (.ref b :: As) m (fun r m' => AX g S q ls (zk r rest) m' Q)) : AX g S pc ls st0 m Q := by
  subst hq
  exact aw_callV hk hrm As st0 hst hn hb hcat hd ⟨by rw [hz.1]; exact Nat.zero_le _, by rw [hz.2]; exact Nat.zero_le _⟩ (zc_aw hz k)
theorem ax_callS {g : zG} {S : zS} {pc : Nat} {ls : List (Nat × Value)} {rest : List Value} {m : zM} {Q : Option Value → zM → Prop} {S' : zS} {ix n : Nat} (hk : zLS S.1.cls ix S' n) (hrm : zroom S S') (hz : S'.2.2.2.2.cells = 0 ∧ S'.2.2.2.2.slots = 0) (As st0 : List Value) (hst : st0 = As.reverse ++ rest) (hn : As.length = n) (hcat : zcat rest ≤ 8) (hd : decode S.2.1 pc = .ok (.invokestatic ix, 3)) (q : Nat) (hq : pc + 3 = q) (k : zc g S' As m (fun r m' => AX g S q ls (zk r rest) m' Q)) : AX g S pc ls st0 m Q := by
  subst hq
  exact aw_callS hk hrm As st0 hst hn hcat hd ⟨by rw [hz.1]; exact Nat.zero_le _, by rw [hz.2]; exact Nat.zero_le _⟩ (zc_aw hz k)
theorem zc_of {g : zG} {S : zS} {as : List Value} {m : zM} {Q : Option Value → zM → Prop} (hy : plainName S.1.cls = true) (hn : (lg_sl as).length ≤ S.2.2.1) (hk : AX g S 0 (lv_args 0 as) [] m Q) : zc g S as m Q := zcall_of hy hn hk
def zcpy (n1 n2 : Nat) (sp dp n : Int32) : Option (Nat × Nat × Nat) := if sp < 0 ∨ dp < 0 ∨ n < 0 ∨ n1 < sp.toNatClampNeg + n.toNatClampNeg ∨ n2 < dp.toNatClampNeg + n.toNatClampNeg then none else some (sp.toNatClampNeg, dp.toNatClampNeg, n.toNatClampNeg)
def zbits (f : Nat → Int32) (sp n : Nat) : Option Unit := if ∀ i, i < n → (f (sp + i) = 0 ∨ f (sp + i) = 1) then some () else none
theorem zcpy_some {n1 n2 : Nat} {sp dp n : Int32} {r : Nat × Nat × Nat} (h : zcpy n1 n2 sp dp n = some r) : (¬ sp < 0 ∧ ¬ dp < 0 ∧ ¬ n < 0 ∧ sp.toNatClampNeg + n.toNatClampNeg ≤ n1 ∧ dp.toNatClampNeg + n.toNatClampNeg ≤ n2) ∧ r = (sp.toNatClampNeg, dp.toNatClampNeg, n.toNatClampNeg) := by
  unfold zcpy at h
  split at h
  · cases h
  · rename_i hn
    cases h
    refine ⟨⟨fun z => hn (Or.inl z), fun z => hn (Or.inr (Or.inl z)), fun z => hn (Or.inr (Or.inr (Or.inl z))), ?_, ?_⟩, rfl⟩
    · exact Nat.not_lt.mp fun z => hn (Or.inr (Or.inr (Or.inr (Or.inl z))))
    · exact Nat.not_lt.mp fun z => hn (Or.inr (Or.inr (Or.inr (Or.inr z))))
theorem ax_copyI {g : zG} {S : zS} {pc : Nat} {ls : List (Nat × Value)} {m : zM} {Q : Option Value → zM → Prop} {ix a b n1 n2 : Nat} {sp dp n : Int32} {α : Type} {f : Nat × Nat × Nat → zM → Option α} {K : α → Prop} (hw : zac_w S.1.cls ix) (hr : zac_r S) (ha : g.1[a]? = some (.inr (0, n1))) (hb : g.1[b]? = some (.inr (0, n2))) (hd : decode S.2.1 pc = .ok (.invokestatic ix, 3)) (q : Nat) (hq : pc + 3 = q) (h : ok ((zcpy n1 n2 sp dp n).bind fun r => lt (cI m a b r.1 r.2.1 r.2.2) (f r)) K) (k : ∀ (r : Nat × Nat × Nat) (m2 : zM), ok (f r m2) K → AX g S q ls [] m2 Q) : AX g S pc ls [.int n, .int dp, .ref b, .int sp, .ref a] m Q := by
  subst hq
  refine ok_bb h (fun r e h => ?_)
  obtain ⟨⟨h1, h2, h3, h4, h5⟩, rfl⟩ := zcpy_some e
  exact aw_acopyI (h := zh g m) hw hr ha hb (by decide) h1 h2 h3 h4 h5 (fun _ _ => rfl) hd (k _ _ h)
theorem ax_copyZ {g : zG} {S : zS} {pc : Nat} {ls : List (Nat × Value)} {m : zM} {Q : Option Value → zM → Prop} {ix a b n1 n2 : Nat} {sp dp n : Int32} {α : Type} {f : Nat × Nat × Nat → zM → Option α} {K : α → Prop} (hw : zac_w S.1.cls ix) (hr : zac_r S) (ha : g.1[a]? = some (.inr (1, n1))) (hb : g.1[b]? = some (.inr (1, n2))) (hd : decode S.2.1 pc = .ok (.invokestatic ix, 3)) (q : Nat) (hq : pc + 3 = q) (h : ok ((zcpy n1 n2 sp dp n).bind fun r => (zbits (m.1 a) r.1 r.2.2).bind fun _ => lt (cI m a b r.1 r.2.1 r.2.2) (f r)) K) (k : ∀ (r : Nat × Nat × Nat) (m2 : zM), ok (f r m2) K → AX g S q ls [] m2 Q) : AX g S pc ls [.int n, .int dp, .ref b, .int sp, .ref a] m Q := by
  subst hq
  refine ok_bb h (fun r e h => ok_bb h (fun u e2 h => ?_))
  obtain ⟨⟨h1, h2, h3, h4, h5⟩, rfl⟩ := zcpy_some e
  have hb2 : ∀ i, i < n.toNatClampNeg → (m.1 a (sp.toNatClampNeg + i) = 0 ∨ m.1 a (sp.toNatClampNeg + i) = 1) := by
    unfold zbits at e2
    split at e2
    · assumption
    · cases e2
  exact aw_acopyI (h := zh g m) hw hr ha hb (by decide) h1 h2 h3 h4 h5 (fun i hi => by
    have := hb2 i hi
    show fits .boolean (.int (m.1 a (sp.toNatClampNeg + i))) = true
    rcases this with e | e <;> rw [e] <;> rfl) hd (k _ _ h)
theorem ax_copyJ {g : zG} {S : zS} {pc : Nat} {ls : List (Nat × Value)} {m : zM} {Q : Option Value → zM → Prop} {ix a b n1 n2 : Nat} {sp dp n : Int32} {α : Type} {f : Nat × Nat × Nat → zM → Option α} {K : α → Prop} (hw : zac_w S.1.cls ix) (hr : zac_r S) (ha : g.1[a]? = some (.inr (3, n1))) (hb : g.1[b]? = some (.inr (3, n2))) (hd : decode S.2.1 pc = .ok (.invokestatic ix, 3)) (q : Nat) (hq : pc + 3 = q) (h : ok ((zcpy n1 n2 sp dp n).bind fun r => lt (cJ m a b r.1 r.2.1 r.2.2) (f r)) K) (k : ∀ (r : Nat × Nat × Nat) (m2 : zM), ok (f r m2) K → AX g S q ls [] m2 Q) : AX g S pc ls [.int n, .int dp, .ref b, .int sp, .ref a] m Q := by
  subst hq
  refine ok_bb h (fun r e h => ?_)
  obtain ⟨⟨h1, h2, h3, h4, h5⟩, rfl⟩ := zcpy_some e
  exact aw_acopyJ (h := zh g m) hw hr ha hb h1 h2 h3 h4 h5 hd (k _ _ h)
theorem ok_t {α : Type} {c : Prop} [Decidable c] {x y : Option α} {K : α → Prop} (hc : c) (h : ok (if c then x else y) K) : ok x K := by rw [if_pos hc] at h; exact h
theorem ok_f {α : Type} {c : Prop} [Decidable c] {x y : Option α} {K : α → Prop} (hc : ¬ c) (h : ok (if c then x else y) K) : ok y K := by rw [if_neg hc] at h; exact h
theorem kt_t {α : Type} {c : Prop} [Decidable c] {x y : α} {K : α → Prop} (hc : c) (h : K (if c then x else y)) : K x := by rw [if_pos hc] at h; exact h
theorem kt_f {α : Type} {c : Prop} [Decidable c] {x y : α} {K : α → Prop} (hc : ¬ c) (h : K (if c then x else y)) : K y := by rw [if_neg hc] at h; exact h
theorem bf {b : Bool} (h : b = false) : ¬ b = true := by rw [h]; decide
def mb (l : List Nat) (a : Nat) : Option Unit := if a ∈ l then some () else none
theorem ok_mb {α : Type} {l : List Nat} {a : Nat} {f : Unit → Option α} {K : α → Prop} {G : Prop} (h : ok ((mb l a).bind f) K) (k : a ∈ l → ok (f ()) K → G) : G := by
  refine ok_bb h (fun u e h => ?_)
  unfold mb at e
  split at e
  · exact k (by assumption) h
  · cases e
def tb (l : List Nat) (m : zM) (i : Nat) : Option Nat := if m.2.2 i ∈ l then some (m.2.2 i) else none
theorem ok_tb {α : Type} {l : List Nat} {m : zM} {i : Nat} {f : Nat → Option α} {K : α → Prop} {G : Prop} (h : ok ((tb l m i).bind f) K) (k : ∀ t : Nat, t ∈ l → m.2.2 i = t → ok (f t) K → G) : G := by
  refine ok_bb h (fun u e h => ?_)
  unfold tb at e
  split at e
  · cases e; exact k _ (by assumption) rfl h
  · cases e
theorem zsb {x : Int32} (hx : x = 0 ∨ x = 1) : b2i (x != 0) = x := by rcases hx with rfl | rfl <;> rfl
theorem ax_zretI {g : zG} {S : zS} {pc : Nat} {ls : List (Nat × Value)} {m : zM} {Q : Option Value → zM → Prop} {x : Int32} (hx : x = 0 ∨ x = 1) (hr : S.2.2.2.1 = some .boolean) (hd : decode S.2.1 pc = .ok (.ireturn, 1)) (hq : Q (some (.int (b2i (x != 0)))) m) : AX g S pc ls [.int x] m Q := by
  rcases hx with rfl | rfl
  · exact ax_zret (b := (0 : Int32) != 0) hr hd hq
  · exact ax_zret (b := (1 : Int32) != 0) hr hd hq
theorem ok_bt {α : Type} {x : Int32} {f : Unit → Option α} {K : α → Prop} {G : Prop} (h : ok ((bt x).bind f) K) (k : (x = 0 ∨ x = 1) → ok (f ()) K → G) : G := by
  refine ok_bb h (fun u e h => ?_)
  unfold bt at e
  split at e
  · exact k (by assumption) h
  · cases e
theorem ok_nz {α : Type} {x : Int32} {f : Unit → Option α} {K : α → Prop} {G : Prop} (h : ok ((nz x).bind f) K) (k : ¬ x = 0 → ok (f ()) K → G) : G := by
  refine ok_bb h (fun u e h => ?_)
  unfold nz at e
  split at e
  · cases e
  · exact k (by assumption) h
theorem ok_nzl {α : Type} {x : Int64} {f : Unit → Option α} {K : α → Prop} {G : Prop} (h : ok ((nzl x).bind f) K) (k : ¬ x = 0 → ok (f ()) K → G) : G := by
  refine ok_bb h (fun u e h => ?_)
  unfold nzl at e
  split at e
  · cases e
  · exact k (by assumption) h

