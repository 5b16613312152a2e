/-- how many below n are so -/
def cn (p : Nat → Bool) : Nat → Nat
  | 0 => 0
  | n + 1 => cn p n + (if p n = true then 1 else 0)
theorem cn_mo {p q : Nat → Bool} {n : Nat} (h : ∀ j, j < n → p j = true → q j = true) : cn p n ≤ cn q n := by
  induction n with
  | zero => exact Nat.le_refl _
  | succ n ih =>
    have i := ih (fun j hj => h j (by omega))
    have l := h n (by omega)
    show cn p n + (if p n = true then 1 else 0) ≤ cn q n + (if q n = true then 1 else 0)
    by_cases e : p n = true
    · rw [if_pos e, if_pos (l e)]; omega
    · rw [if_neg e]; omega
theorem cn_cg {p q : Nat → Bool} {n : Nat} (h : ∀ j, j < n → p j = q j) : cn p n = cn q n := Nat.le_antisymm (cn_mo (fun j hj e => (h j hj) ▸ e)) (cn_mo (fun j hj e => (h j hj).symm ▸ e))
theorem cn_le (p : Nat → Bool) (n : Nat) : cn p n ≤ n := by
  induction n with
  | zero => exact Nat.le_refl _
  | succ n ih =>
    show cn p n + (if p n = true then 1 else 0) ≤ n + 1
    split <;> omega
theorem cn_lo {p : Nat → Bool} {n k : Nat} (h : ∀ j, j < n → k ≤ j → p j = false) : cn p n ≤ k := by
  induction n with
  | zero => exact Nat.zero_le _
  | succ n ih =>
    have i := ih (fun j hj => h j (by omega))
    show cn p n + (if p n = true then 1 else 0) ≤ k
    have c := cn_le p n
    by_cases e : k ≤ n
    · rw [h n (by omega) e]; exact i
    · split <;> omega
theorem cn_hi {p : Nat → Bool} {n k : Nat} (hk : k ≤ n) (h : ∀ j, j < k → p j = true) : k ≤ cn p n := by
  induction n generalizing k with
  | zero => omega
  | succ n ih =>
    show k ≤ cn p n + (if p n = true then 1 else 0)
    by_cases e : k = n + 1
    · subst e
      rw [if_pos (h n (by omega))]
      have := ih (Nat.le_refl n) (fun j hj => h j (by omega))
      omega
    · have := ih (k := k) (by omega) h
      omega
theorem cn_sw {p q : Nat → Bool} {n k : Nat} (hk : k + 1 < n) (h1 : q k = p (k + 1)) (h2 : q (k + 1) = p k) (h : ∀ j, j < n → j ≠ k → j ≠ k + 1 → q j = p j) : cn q n = cn p n := by
  induction n with
  | zero => omega
  | succ n ih =>
    by_cases e : k + 1 = n
    · subst e
      have c : cn q k = cn p k := cn_cg (fun j hj => h j (by omega) (by omega) (by omega))
      show cn q k + (if q k = true then 1 else 0) + (if q (k + 1) = true then 1 else 0) = cn p k + (if p k = true then 1 else 0) + (if p (k + 1) = true then 1 else 0)
      rw [c, h1, h2]
      omega
    · show cn q n + (if q n = true then 1 else 0) = cn p n + (if p n = true then 1 else 0)
      rw [ih (by omega) (fun j hj => h j (by omega)), h n (by omega) (by omega) (by omega)]
/-- b is a, in order -/
def Ior (n : Nat) (a b : Nat → Nat) : Prop := ∀ k, k < n → cn (fun j => decide (a j < b k)) n ≤ k ∧ k < cn (fun j => decide (a j ≤ b k)) n
theorem Ior_un {n : Nat} {a b c : Nat → Nat} (h : Ior n a b) (h' : Ior n a c) : ∀ k, k < n → b k = c k := by
  have key : ∀ (b c : Nat → Nat), Ior n a b → Ior n a c → ∀ k, k < n → ¬ b k < c k := by
    intro b c h h' k hk q
    have u := (h k hk).2
    have v := (h' k hk).1
    have : cn (fun j => decide (a j ≤ b k)) n ≤ cn (fun j => decide (a j < c k)) n := cn_mo (fun j _ e => decide_eq_true (by have := of_decide_eq_true e; omega))
    omega
  intro k hk
  have := key b c h h' k hk
  have := key c b h' h k hk
  omega
/-- a and b hold the same, as often -/
def Sm (n : Nat) (a b : Nat → Nat) : Prop := ∀ p : Nat → Bool, cn (fun j => p (a j)) n = cn (fun j => p (b j)) n
theorem Ior_so {n : Nat} {a b : Nat → Nat} (hs : ∀ i j, i ≤ j → j < n → b i ≤ b j) (hm : Sm n a b) : Ior n a b := by
  intro k hk
  rw [hm (fun x => decide (x < b k)), hm (fun x => decide (x ≤ b k))]
  refine ⟨cn_lo (fun j hj hz => decide_eq_false (by have := hs k j hz hj; omega)), ?_⟩
  exact cn_hi (k := k + 1) hk (fun j hj => decide_eq_true (hs j k (by omega) hk))
theorem Sm_rf {n : Nat} {a : Nat → Nat} : Sm n a a := fun _ => rfl
theorem Sm_sw {n k : Nat} {a b c : Nat → Nat} (h : Sm n a b) (hk : k + 1 < n) (h1 : c k = b (k + 1)) (h2 : c (k + 1) = b k) (h3 : ∀ j, j < n → j ≠ k → j ≠ k + 1 → c j = b j) : Sm n a c := by
  intro p
  rw [h p]
  exact (cn_sw hk (by rw [h1]) (by rw [h2]) (fun j hj q q' => by rw [h3 j hj q q'])).symm
/-- what is so of all of a is so of all of b -/
theorem Sm_al {n : Nat} {a b : Nat → Nat} (h : Sm n a b) {p : Nat → Bool} (ha : ∀ j, j < n → p (a j) = true) : ∀ j, j < n → p (b j) = true := by
  have e := h p
  have f : n ≤ cn (fun j => p (a j)) n := cn_hi (Nat.le_refl n) ha
  rw [e] at f
  intro j hj
  by_cases q : p (b j) = true
  · exact q
  · have : cn (fun j => p (b j)) n < n := by
      clear e f h ha
      induction n with
      | zero => omega
      | succ n ih =>
        show cn (fun j => p (b j)) n + (if p (b n) = true then 1 else 0) < n + 1
        have c := cn_le (fun j => p (b j)) n
        by_cases e : j = n
        · subst e
          rw [if_neg q]; omega
        · have := ih (by omega)
          split <;> omega
    omega
