theorem cn_rm {p : Nat → Bool} {n k : Nat} (hk : k < n) (h : p k = true) : cn p n = cn (fun j => p j && decide (j ≠ k)) n + 1 := by
  induction n with
  | zero => omega
  | succ n ih =>
    show cn p n + (if p n = true then 1 else 0) = cn (fun j => p j && decide (j ≠ k)) n + (if (p n && decide (n ≠ k)) = true then 1 else 0) + 1
    by_cases e : n = k
    · subst e
      rw [h, show cn (fun j => p j && decide (j ≠ n)) n = cn p n from cn_cg (fun j hj => by simp [show j ≠ n by omega])]
      simp
    · rw [ih (by omega)]
      simp [e]
      omega
/-- what goes one to one into fewer is not more -/
theorem cn_inj {q p : Nat → Bool} {n m : Nat} (f : Nat → Nat) (hf : ∀ i, i < n → q i = true → f i < m ∧ p (f i) = true) (hi : ∀ i j, i < n → j < n → q i = true → q j = true → f i = f j → i = j) : cn q n ≤ cn p m := by
  induction n generalizing p with
  | zero => exact Nat.zero_le _
  | succ n ih =>
    show cn q n + (if q n = true then 1 else 0) ≤ cn p m
    by_cases e : q n = true
    · obtain ⟨h1, h2⟩ := hf n (by omega) e
      rw [cn_rm h1 h2, if_pos e]
      have := ih (p := fun j => p j && decide (j ≠ f n)) (fun i hi' hq => ⟨(hf i (by omega) hq).1, by
        have h3 := (hf i (by omega) hq).2
        have h4 : f i ≠ f n := fun z => by have := hi i n (by omega) (by omega) hq e z; omega
        simp [h3, h4]⟩) (fun i j h1 h2 => hi i j (by omega) (by omega))
      omega
    · rw [if_neg e]
      exact ih (fun i hi' => hf i (by omega)) (fun i j h1 h2 => hi i j (by omega) (by omega))
theorem cn_all {n : Nat} : cn (fun _ => true) n = n := Nat.le_antisymm (cn_le _ _) (cn_hi (Nat.le_refl _) (fun _ _ => rfl))
theorem cn_non {n : Nat} : cn (fun _ => false) n = 0 := Nat.le_zero.mp (cn_lo (fun _ _ _ => rfl))
theorem pigeon {n m : Nat} (f : Nat → Nat) (hf : ∀ i, i < n → f i < m) (hi : ∀ i j, i < n → j < n → f i = f j → i = j) : n ≤ m := by
  have := cn_inj (q := fun _ => true) (p := fun _ => true) (n := n) (m := m) f (fun i h _ => ⟨hf i h, rfl⟩) (fun i j h1 h2 _ _ => hi i j h1 h2)
  rwa [cn_all, cn_all] at this
theorem cn_not {p : Nat → Bool} {n : Nat} : cn p n + cn (fun j => !p j) n = n := by
  induction n with
  | zero => rfl
  | succ n ih =>
    show cn p n + (if p n = true then 1 else 0) + (cn (fun j => !p j) n + (if (!p n) = true then 1 else 0)) = n + 1
    cases p n <;> simp <;> omega
/-- a count does not change when all are put otherwise -/
theorem cn_pm {p : Nat → Bool} {n : Nat} (f : Nat → Nat) (hf : ∀ i, i < n → f i < n) (hi : ∀ i j, i < n → j < n → f i = f j → i = j) : cn (fun i => p (f i)) n = cn p n := by
  have h1 := cn_inj (q := fun i => p (f i)) (p := p) (n := n) (m := n) f (fun i h e => ⟨hf i h, e⟩) (fun i j h1 h2 _ _ => hi i j h1 h2)
  have h2 := cn_inj (q := fun i => !p (f i)) (p := fun i => !p i) (n := n) (m := n) f (fun i h e => ⟨hf i h, e⟩) (fun i j h1 h2 _ _ => hi i j h1 h2)
  have h3 := cn_not (p := p) (n := n)
  have h4 := cn_not (p := fun i => p (f i)) (n := n)
  omega
/-- the k-th that is so -/
theorem cn_at {p : Nat → Bool} {n k : Nat} (h : k < cn p n) : ∃ j, j < n ∧ p j = true ∧ cn p j = k := by
  induction n with
  | zero => exact absurd h (Nat.not_lt_zero _)
  | succ n ih =>
    by_cases e : k < cn p n
    · obtain ⟨j, h1, h2, h3⟩ := ih e
      exact ⟨j, by omega, h2, h3⟩
    · have h : k < cn p n + (if p n = true then 1 else 0) := h
      by_cases u : p n = true
      · rw [if_pos u] at h
        exact ⟨n, by omega, u, by omega⟩
      · rw [if_neg u] at h
        omega
theorem cn_ms {p : Nat → Bool} {n k : Nat} (h : n ≤ k) : cn p n ≤ cn p k := by
  induction k with
  | zero => rw [show n = 0 by omega]; exact Nat.le_refl _
  | succ k ih =>
    by_cases e : n = k + 1
    · rw [e]; exact Nat.le_refl _
    · have := ih (by omega)
      show cn p n ≤ cn p k + _
      omega
theorem cn_s1 {p : Nat → Bool} {k : Nat} (h : p k = true) : cn p (k + 1) = cn p k + 1 := by show cn p k + (if p k = true then 1 else 0) = _; rw [if_pos h]
theorem cn_s0 {p : Nat → Bool} {k : Nat} (h : p k = false) : cn p (k + 1) = cn p k := by show cn p k + (if p k = true then 1 else 0) = _; rw [h]; rfl
theorem cn_un {p : Nat → Bool} {j k : Nat} (hj : p j = true) (hk : p k = true) (e : cn p j = cn p k) : j = k := by
  rcases Nat.lt_trichotomy j k with h | h | h
  · have := cn_ms (p := p) (show j + 1 ≤ k by omega)
    rw [cn_s1 hj] at this
    omega
  · exact h
  · have := cn_ms (p := p) (show k + 1 ≤ j by omega)
    rw [cn_s1 hk] at this
    omega
/-- the first below n that is so, or n -/
def fi (p : Nat → Bool) : Nat → Nat
  | 0 => 0
  | n + 1 => if fi p n < n then fi p n else if p n = true then n else n + 1
theorem fi_sp (p : Nat → Bool) (n : Nat) : fi p n ≤ n ∧ (∀ j, j < fi p n → p j = false) ∧ (fi p n < n → p (fi p n) = true) := by
  induction n with
  | zero => exact ⟨Nat.le_refl _, fun j hj => absurd hj (Nat.not_lt_zero _), fun h => absurd h (Nat.not_lt_zero _)⟩
  | succ n ih =>
    obtain ⟨h1, h2, h3⟩ := ih
    have e : fi p (n + 1) = if fi p n < n then fi p n else if p n = true then n else n + 1 := rfl
    by_cases u : fi p n < n
    · rw [e, if_pos u]
      exact ⟨by omega, h2, fun _ => h3 u⟩
    · have u' : fi p n = n := by omega
      rw [u'] at h2
      by_cases v : p n = true
      · rw [e, if_neg u, if_pos v]
        exact ⟨by omega, h2, fun _ => v⟩
      · rw [e, if_neg u, if_neg v]
        refine ⟨Nat.le_refl _, fun j hj => ?_, fun h => absurd h (Nat.lt_irrefl _)⟩
        by_cases w : j = n
        · rw [w]; simpa using v
        · exact h2 j (by omega)
theorem fi_eq {p : Nat → Bool} {n k : Nat} (hk : k < n) (h : p k = true) (hb : ∀ j, j < k → p j = false) : fi p n = k := by
  obtain ⟨h1, h2, h3⟩ := fi_sp p n
  rcases Nat.lt_trichotomy (fi p n) k with u | u | u
  · have := h3 (by omega)
    rw [hb _ u] at this
    cases this
  · exact u
  · have := h2 k u
    rw [h] at this
    cases this
theorem fi_no {p : Nat → Bool} {n : Nat} (h : ∀ j, j < n → p j = false) : fi p n = n := by
  obtain ⟨h1, h2, h3⟩ := fi_sp p n
  rcases Nat.lt_or_ge (fi p n) n with u | u
  · have := h3 u
    rw [h _ u] at this
    cases this
  · omega
theorem fi_ex {p : Nat → Bool} {n k : Nat} (hk : k < n) (h : p k = true) : fi p n < n ∧ p (fi p n) = true ∧ fi p n ≤ k := by
  obtain ⟨h1, h2, h3⟩ := fi_sp p n
  have : fi p n ≤ k := by
    rcases Nat.lt_or_ge k (fi p n) with u | u
    · have := h2 k u
      rw [h] at this
      cases this
    · exact u
  exact ⟨by omega, h3 (by omega), this⟩
/-- home and agents of a key -/
def dh : Nat → Nat → Nat
  | 0, x => x
  | n + 1, x => dh n (x / 2058)
def da : Nat → Nat → Nat → Nat
  | 0, _, _ => 0
  | n + 1, x, j => if j = n then x % 2058 else da n (x / 2058) j
theorem da_lt (n x j : Nat) : da n x j < 2058 := by
  induction n generalizing x with
  | zero => show 0 < 2058; decide
  | succ n ih =>
    show (if j = n then x % 2058 else da n (x / 2058) j) < 2058
    split
    · omega
    · exact ih _
theorem ky_d (n x : Nat) : ky 2058 (dh n x) (da n x) n = x := by
  induction n generalizing x with
  | zero => rfl
  | succ n ih =>
    show ky 2058 (dh n (x / 2058)) (da (n + 1) x) n * 2058 + da (n + 1) x n = x
    rw [ky_cg (a' := da n (x / 2058)) (fun j hj => by show (if j = n then _ else _) = _; rw [if_neg (by omega)]), ih, show da (n + 1) x n = x % 2058 from if_pos rfl]
    omega
theorem dk_ky {n h : Nat} {a : Nat → Nat} (ha : ∀ j, j < n → a j < 2058) : dh n (ky 2058 h a n) = h ∧ ∀ j, j < n → da n (ky 2058 h a n) j = a j := ky_in (fun j _ => da_lt _ _ _) ha (ky_d _ _)
/-- a key of a world -/
def kv (n x : Nat) : Prop := 0 < n ∧ n ≤ 4 ∧ dh n x < 7
theorem kv_w {n x : Nat} (h : kv n x) : wV n (dh n x) (da n x) := ⟨h.1, h.2.1, h.2.2, fun j _ => da_lt _ _ _⟩
theorem kv_k {n h : Nat} {a : Nat → Nat} (hv : wV n h a) : kv n (ky 2058 h a n) := ⟨hv.1, hv.2.1, by rw [(dk_ky hv.2.2.2).1]; exact hv.2.2.1⟩
theorem kv_lt {n x : Nat} (h : kv n x) : x < 2 ^ 48 := by
  have := ky4 (kv_w h)
  rwa [ky_d] at this
/-- agents in order -/
def rki (n : Nat) (a : Nat → Nat) (k : Nat) : Nat := fi (fun i => decide (rk n a i = k)) n
def srt (n : Nat) (a : Nat → Nat) (k : Nat) : Nat := a (rki n a k)
theorem rki_rk {n i : Nat} {a : Nat → Nat} (hi : i < n) : rki n a (rk n a i) = i :=
  fi_eq hi (decide_eq_true rfl) (fun j hj => decide_eq_false (fun z => by have := rk_in (a := a) (show j < n by omega) hi z; omega))
theorem srt_rk {n i : Nat} {a : Nat → Nat} (hi : i < n) : srt n a (rk n a i) = a i := by unfold srt; rw [rki_rk hi]
theorem srt_Ior {n : Nat} {a : Nat → Nat} (h4 : n ≤ 4) : Ior n a (srt n a) := rk_Ior h4 (fun _ hi => srt_rk hi)
theorem Ior_cg {n : Nat} {a a' b : Nat → Nat} (h : ∀ j, j < n → a j = a' j) (hi : Ior n a b) : Ior n a' b := by
  intro k hk
  have := hi k hk
  rw [cn_cg (q := fun j => decide (a' j < b k)) (fun j hj => by rw [h j hj]), cn_cg (p := fun j => decide (a j ≤ b k)) (q := fun j => decide (a' j ≤ b k)) (fun j hj => by rw [h j hj])] at this
  exact this
theorem Ior_pm {n : Nat} {a b c : Nat → Nat} (f : Nat → Nat) (hf : ∀ i, i < n → f i < n) (hj : ∀ i j, i < n → j < n → f i = f j → i = j) (hb : ∀ i, i < n → b (f i) = a i) (hi : Ior n a c) : Ior n b c := by
  intro k hk
  have := hi k hk
  rw [← cn_pm (p := fun j => decide (b j < c k)) f hf hj, ← cn_pm (p := fun j => decide (b j ≤ c k)) f hf hj, cn_cg (q := fun j => decide (a j < c k)) (fun j hj => by rw [hb j hj]), cn_cg (p := fun j => decide (b (f j) ≤ c k)) (q := fun j => decide (a j ≤ c k)) (fun j hj => by rw [hb j hj])]
  exact this
theorem Ior_lt {n B : Nat} {a b : Nat → Nat} (hi : Ior n a b) (h4 : n ≤ 4) (ha : ∀ j, j < n → a j < B) : ∀ j, j < n → b j < B := by
  intro j hj
  rw [Ior_un hi (srt_Ior h4) j hj]
  obtain ⟨i, hi', e⟩ := rk_sj (a := a) h4 j hj
  rw [← e, srt_rk hi']
  exact ha i hi'
/-- the folded world -/
def fo (n x : Nat) : Nat := ky 2058 (dh n x) (srt n (da n x)) n
theorem fo_of {n h : Nat} {a b : Nat → Nat} (hv : wV n h a) (hi : Ior n a b) : ky 2058 h b n = fo n (ky 2058 h a n) := by
  obtain ⟨e1, e2⟩ := dk_ky (h := h) hv.2.2.2
  unfold fo
  rw [e1]
  exact ky_cg (Ior_un hi (Ior_cg e2 (srt_Ior hv.2.1)))
theorem fo_pm {n h : Nat} {a b : Nat → Nat} (f : Nat → Nat) (hv : wV n h a) (hv' : wV n h b) (hf : ∀ i, i < n → f i < n) (hj : ∀ i j, i < n → j < n → f i = f j → i = j) (hb : ∀ i, i < n → b (f i) = a i) : fo n (ky 2058 h a n) = fo n (ky 2058 h b n) := by
  have i1 := srt_Ior (a := a) hv.2.1
  rw [← fo_of hv i1, ← fo_of hv' (Ior_pm f hf hj hb i1)]
theorem fo_kv {n x : Nat} (h : kv n x) : kv n (fo n x) := kv_k ⟨h.1, h.2.1, h.2.2, Ior_lt (srt_Ior h.2.1) h.2.1 (fun j _ => da_lt _ _ _)⟩
theorem fo_d {n x : Nat} (h : kv n x) : dh n (fo n x) = dh n x ∧ (∀ j, j < n → da n (fo n x) j = srt n (da n x) j) := dk_ky (Ior_lt (srt_Ior h.2.1) h.2.1 (fun j _ => da_lt _ _ _))
theorem fo_rk {n x i : Nat} (h : kv n x) (hi : i < n) : da n (fo n x) (rk n (da n x) i) = da n x i := by
  rw [(fo_d h).2 _ (rk_lt hi), srt_rk hi]
