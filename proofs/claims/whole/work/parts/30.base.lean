theorem ok_bi {α β : Type} {x : Option α} {f : α → Option β} {K : β → Prop} {G : α → Prop} (h : ok x G) (k : ∀ a, G a → ok (f a) K) : ok (x.bind f) K := by
  obtain ⟨a, rfl, ha⟩ := h
  exact k a ha
theorem ok_eb {α β : Type} {x : Option α} {f : α → Option β} {K : β → Prop} {a : α} (h : x = some a) (k : ok (f a) K) : ok (x.bind f) K := by rw [h]; exact k
theorem ok_it {α : Type} {c : Prop} [Decidable c] {x y : Option α} {K : α → Prop} (ht : c → ok x K) (hf : ¬ c → ok y K) : ok (if c then x else y) K := by
  by_cases h : c
  · rw [if_pos h]; exact ht h
  · rw [if_neg h]; exact hf h
theorem ok_ip {α : Type} {c : Prop} [Decidable c] {x y : Option α} {K : α → Prop} (h : c) (k : ok x K) : ok (if c then x else y) K := by rw [if_pos h]; exact k
theorem ok_in {α : Type} {c : Prop} [Decidable c] {x y : Option α} {K : α → Prop} (h : ¬ c) (k : ok y K) : ok (if c then x else y) K := by rw [if_neg h]; exact k
theorem ok_lt {α β : Type} {x : α} {f : α → Option β} {K : β → Prop} (k : ok (f x) K) : ok (lt x f) K := k
theorem ok_mo {α : Type} {x : Option α} {K K' : α → Prop} (h : ok x K) (k : ∀ a, K a → K' a) : ok x K' := by
  obtain ⟨a, e, ha⟩ := h
  exact ⟨a, e, k a ha⟩
theorem ok_an {α : Type} {x : Option α} {K K' : α → Prop} (h : ok x K) (h' : ok x K') : ok x (fun a => K a ∧ K' a) := by
  obtain ⟨a, e, ha⟩ := h
  obtain ⟨b, e', hb⟩ := h'
  rw [e] at e'
  cases e'
  exact ⟨a, e, ha, hb⟩
theorem ok_eq {α : Type} {x : Option α} {a : α} : ok x (fun b => b = a) ↔ x = some a := by
  constructor
  · rintro ⟨b, e, rfl⟩; exact e
  · intro h; exact ⟨a, h, rfl⟩
theorem ok_zl {α β : Type} {x : Option α} {K : α ⊕ β → Prop} (h : ok x (fun a => K (.inl a))) : ok (zl x) K := by
  obtain ⟨a, rfl, ha⟩ := h
  exact ⟨.inl a, rfl, ha⟩
theorem ix_nI {n i : Nat} (hi : i < n) (hn : n ≤ 2000000) : ix n (nI i) = some i := by
  unfold ix
  rw [nI_clamp (by omega), if_neg]
  rintro (h | h)
  · exact nI_pos (by omega) h
  · omega
theorem ok_ix {α : Type} {n i : Nat} {x : Int32} {f : Nat → Option α} {K : α → Prop} (hx : x = nI i) (hi : i < n) (hn : n ≤ 2000000) (k : ok (f i) K) : ok ((ix n x).bind f) K := by rw [hx]; exact ok_eb (ix_nI hi hn) k
def lp {σ ρ : Type} (K : ρ → Prop) (J : σ → Prop) : ρ ⊕ σ → Prop
  | .inl r => K r
  | .inr s => J s
/-- a loop: what holds at its head, and what grows less -/
theorem ok_loop {σ ρ : Type} {b : σ → Option (ρ ⊕ σ)} {K : ρ → Prop} (I : σ → Prop) (μ : σ → Nat) (hs : ∀ s, I s → ok (b s) (lp K (fun s' => I s' ∧ μ s' < μ s))) (s : σ) (h : I s) (hm : μ s < 1000000000) : ok (zloop b FU s) K := by
  have key : ∀ n s, I s → μ s < n → ok (zloop b n s) K := by
    intro n
    induction n with
    | zero => intro s _ h; exact absurd h (Nat.not_lt_zero _)
    | succ n ih =>
      intro s hI hm
      rw [zloop]
      refine ok_bi (hs s hI) (fun x hx => ?_)
      cases x with
      | inl r => exact ok_mk hx
      | inr s' =>
        have hx : I s' ∧ μ s' < μ s := hx
        exact ih s' hx.1 (by omega)
  exact key FU s h (by unfold FU; omega)
theorem rd_I (m : zM) (a i : Nat) (x : Int32) (k j : Nat) : (sI m a i x).1 k j = if k = a ∧ j = i then x else m.1 k j := rfl
theorem rd_I1 (m : zM) (a i : Nat) (x : Int32) : (sI m a i x).1 a i = x := if_pos ⟨rfl, rfl⟩
theorem rd_I0 {m : zM} {a i : Nat} {x : Int32} {k j : Nat} (h : ¬ (k = a ∧ j = i)) : (sI m a i x).1 k j = m.1 k j := if_neg h
theorem rd_Ic {m : zM} {a i : Nat} {x : Int32} {k : Nat} (h : k ≠ a) : (sI m a i x).1 k = m.1 k := by funext j; exact if_neg (fun z => h z.1)
theorem rd_IJ (m : zM) (a i : Nat) (x : Int32) : (sI m a i x).2 = m.2 := rfl
theorem rd_J (m : zM) (a i : Nat) (x : Int64) (k j : Nat) : (sJ m a i x).2.1 k j = if k = a ∧ j = i then x else m.2.1 k j := rfl
theorem rd_J1 (m : zM) (a i : Nat) (x : Int64) : (sJ m a i x).2.1 a i = x := if_pos ⟨rfl, rfl⟩
theorem rd_J0 {m : zM} {a i : Nat} {x : Int64} {k j : Nat} (h : ¬ (k = a ∧ j = i)) : (sJ m a i x).2.1 k j = m.2.1 k j := if_neg h
theorem rd_Jc {m : zM} {a i : Nat} {x : Int64} {k : Nat} (h : k ≠ a) : (sJ m a i x).2.1 k = m.2.1 k := by funext j; exact if_neg (fun z => h z.1)
theorem rd_JI (m : zM) (a i : Nat) (x : Int64) : (sJ m a i x).1 = m.1 := rfl
theorem rd_JT (m : zM) (a i : Nat) (x : Int64) : (sJ m a i x).2.2 = m.2.2 := rfl
/-- only the cells of S have changed -/
def fr (S : List Nat) (m m' : zM) : Prop := (∀ k, k ∉ S → m'.1 k = m.1 k ∧ m'.2.1 k = m.2.1 k) ∧ m'.2.2 = m.2.2
theorem fr_rf {S : List Nat} {m : zM} : fr S m m := ⟨fun _ _ => ⟨rfl, rfl⟩, rfl⟩
theorem fr_tr {S : List Nat} {m m' m'' : zM} (h : fr S m m') (h' : fr S m' m'') : fr S m m'' := ⟨fun k hk => ⟨(h'.1 k hk).1.trans (h.1 k hk).1, (h'.1 k hk).2.trans (h.1 k hk).2⟩, h'.2.trans h.2⟩
theorem fr_su {S S' : List Nat} {m m' : zM} (h : fr S m m') (hs : ∀ k, k ∈ S → k ∈ S') : fr S' m m' := ⟨fun k hk => h.1 k (fun z => hk (hs k z)), h.2⟩
theorem fr_I {S : List Nat} {m : zM} {a i : Nat} {x : Int32} (ha : a ∈ S) : fr S m (sI m a i x) := ⟨fun k hk => ⟨rd_Ic (fun e => hk (e ▸ ha)), rfl⟩, rfl⟩
theorem fr_J {S : List Nat} {m : zM} {a i : Nat} {x : Int64} (ha : a ∈ S) : fr S m (sJ m a i x) := ⟨fun k hk => ⟨rfl, rd_Jc (fun e => hk (e ▸ ha))⟩, rfl⟩
theorem fr_i {S : List Nat} {m m' : zM} (h : fr S m m') {k : Nat} (hk : k ∉ S) : m'.1 k = m.1 k := (h.1 k hk).1
theorem fr_j {S : List Nat} {m m' : zM} (h : fr S m m') {k : Nat} (hk : k ∉ S) : m'.2.1 k = m.2.1 k := (h.1 k hk).2
/-- the goal of a call: both sides, one behind the other -/
theorem alk {Inv : zM → zM → Prop} {x y : Option (Int32 × zM)} (h : ok x (fun p => ok y (fun q => p.1 = q.1 ∧ Inv p.2 q.2))) : ∃ (r : Int32) (mx' mm' : zM), x = some (r, mx') ∧ y = some (r, mm') ∧ Inv mx' mm' := by
  obtain ⟨p, e, q, e', h1, h2⟩ := h
  refine ⟨p.1, p.2, q.2, e, ?_, h2⟩
  rw [e', h1]
theorem nI_ofNat (n : Nat) : Int32.ofNat n = nI n := rfl
theorem nI_lit0 : (0 : Int32) = nI 0 := rfl
theorem le_nI {a b : Nat} {x y : Int32} (hx : x = nI a) (hy : y = nI b) (ha : a < 2 ^ 31) (hb : b < 2 ^ 31) : x ≤ y ↔ a ≤ b := by rw [hx, hy]; exact nI_leI ha hb
theorem lt_nI {a b : Nat} {x y : Int32} (hx : x = nI a) (hy : y = nI b) (ha : a < 2 ^ 31) (hb : b < 2 ^ 31) : x < y ↔ a < b := by rw [hx, hy]; exact nI_ltI ha hb
theorem eq_nI {a b : Nat} {x y : Int32} (hx : x = nI a) (hy : y = nI b) (ha : a < 2 ^ 31) (hb : b < 2 ^ 31) : x = y ↔ a = b := by rw [hx, hy]; exact nI_eq ha hb
theorem neg1_lt0 : (-1 : Int32) < 0 := by decide
theorem nI_ne_m1 {n : Nat} (h : n < 2 ^ 31) : nI n ≠ -1 := fun e => nI_pos h (by rw [e]; decide)
