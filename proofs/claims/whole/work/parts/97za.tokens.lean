/-- blanks, letters, digits -/
def ibBk (c : Nat) : Bool := decide (c = 32) || decide (c = 10)
def ibL (c : Nat) : Bool := decide (97 ≤ c) && decide (c ≤ 122)
def ibD (c : Nat) : Bool := decide (48 ≤ c) && decide (c ≤ 57)
theorem ibL_i {c : Nat} : ibL c = true ↔ 97 ≤ c ∧ c ≤ 122 := by unfold ibL; rw [Bool.and_eq_true, decide_eq_true_iff, decide_eq_true_iff]
theorem ibD_i {c : Nat} : ibD c = true ↔ 48 ≤ c ∧ c ≤ 57 := by unfold ibD; rw [Bool.and_eq_true, decide_eq_true_iff, decide_eq_true_iff]
theorem ibB_i {c : Nat} : ibBk c = true ↔ c = 32 ∨ c = 10 := by unfold ibBk; rw [Bool.or_eq_true, decide_eq_true_iff, decide_eq_true_iff]
/-- how long from p on all are of a kind -/
def rnK (q : Nat → Bool) (n : Nat) (g : Nat → Nat) (p : Nat) : Nat := fi (fun k => decide (n ≤ p + k) || !q (g (p + k))) (n + 1)
theorem rnK_sp {q : Nat → Bool} {n p : Nat} {g : Nat → Nat} (hp : p ≤ n) : p + rnK q n g p ≤ n ∧ (∀ k, k < rnK q n g p → q (g (p + k)) = true) ∧ (p + rnK q n g p < n → q (g (p + rnK q n g p)) = false) := by
  obtain ⟨a1, a2, a3⟩ := fi_ex (p := fun k => decide (n ≤ p + k) || !q (g (p + k))) (n := n + 1) (k := n - p) (by omega) (by rw [decide_eq_true (by omega)]; rfl)
  have b := (fi_sp (fun k => decide (n ≤ p + k) || !q (g (p + k))) (n + 1)).2.1
  refine ⟨?_, fun k hk => ?_, fun h => ?_⟩
  · unfold rnK; omega
  · have := b k hk
    rw [Bool.or_eq_false_iff] at this
    have h2 := this.2
    cases e : q (g (p + k)) with
    | true => rfl
    | false => rw [e] at h2; cases h2
  · have a2 : (decide (n ≤ p + rnK q n g p) || !q (g (p + rnK q n g p))) = true := a2
    rw [decide_eq_false (by omega), Bool.false_or] at a2
    cases e : q (g (p + rnK q n g p)) with
    | false => rfl
    | true => rw [e] at a2; cases a2
theorem rnK_e {q : Nat → Bool} {n p l : Nat} {g : Nat → Nat} (hl : p + l ≤ n) (h1 : ∀ k, k < l → q (g (p + k)) = true) (h2 : p + l < n → q (g (p + l)) = false) : rnK q n g p = l := by
  refine fi_eq (by omega) ?_ (fun j hj => ?_)
  · by_cases z : p + l < n
    · rw [h2 z, Bool.or_eq_true]; exact Or.inr rfl
    · rw [decide_eq_true (by omega)]; rfl
  · rw [h1 j hj, decide_eq_false (by omega)]; rfl
/-- the first that is no blank -/
def skp (n : Nat) (g : Nat → Nat) (p : Nat) : Nat := p + rnK ibBk n g p
theorem skp_sp {n p : Nat} {g : Nat → Nat} (hp : p ≤ n) : p ≤ skp n g p ∧ skp n g p ≤ n ∧ (skp n g p < n → ibBk (g (skp n g p)) = false) := by
  obtain ⟨a1, a2, a3⟩ := rnK_sp (q := ibBk) (g := g) hp
  exact ⟨by unfold skp; omega, a1, a3⟩
theorem skp_n {n p : Nat} {g : Nat → Nat} (hp : p ≤ n) (h : p = n ∨ ibBk (g p) = false) : skp n g p = p := by
  unfold skp
  rw [rnK_e (l := 0) (by omega) (fun k hk => absurd hk (Nat.not_lt_zero _)) (fun z => by rcases h with y | y; omega; exact y)]
  rfl
theorem skp_b {n p : Nat} {g : Nat → Nat} (hp : p < n) (h : ibBk (g p) = true) : skp n g p = skp n g (p + 1) := by
  obtain ⟨a1, a2, a3⟩ := rnK_sp (q := ibBk) (g := g) (show p + 1 ≤ n by omega)
  unfold skp
  rw [rnK_e (p := p) (l := rnK ibBk n g (p + 1) + 1) (by omega) (fun k hk => ?_) (fun z => ?_)]
  · omega
  · rcases Nat.eq_zero_or_pos k with y | y
    · rw [y]; exact h
    · have := a2 (k - 1) (by omega)
      rw [show p + 1 + (k - 1) = p + k by omega] at this
      exact this
  · rw [show p + (rnK ibBk n g (p + 1) + 1) = p + 1 + rnK ibBk n g (p + 1) by omega]
    exact a3 (by omega)
theorem skp_s {n p : Nat} {g : Nat → Nat} (hp : p ≤ n) : skp n g (skp n g p) = skp n g p := by
  obtain ⟨a1, a2, a3⟩ := skp_sp (g := g) hp
  refine skp_n a2 ?_
  rcases Nat.lt_or_ge (skp n g p) n with z | z
  · exact Or.inr (a3 z)
  · exact Or.inl (by omega)
/-- the length of what stands at p -/
def tln (n : Nat) (g : Nat → Nat) (p : Nat) : Nat := if ibL (g p) = true then rnK ibL n g p else if ibD (g p) = true then rnK ibD n g p else 1
theorem rnK_p {q : Nat → Bool} {n p : Nat} {g : Nat → Nat} (hp : p < n) (h : q (g p) = true) : 0 < rnK q n g p := by
  rcases Nat.eq_zero_or_pos (rnK q n g p) with z | z
  · have := (rnK_sp (q := q) (g := g) (Nat.le_of_lt hp)).2.2
    rw [z, Nat.add_zero] at this
    rw [this (by omega)] at h
    cases h
  · exact z
theorem tln_sp {n p : Nat} {g : Nat → Nat} (hp : p < n) : 0 < tln n g p ∧ p + tln n g p ≤ n := by
  unfold tln
  split
  · rename_i h; exact ⟨rnK_p hp h, (rnK_sp (Nat.le_of_lt hp)).1⟩
  · split
    · rename_i h; exact ⟨rnK_p hp h, (rnK_sp (Nat.le_of_lt hp)).1⟩
    · omega
/-- where the t-th thing of the text begins; where the last word or number before it has ended, and one -/
def tst (n : Nat) (g : Nat → Nat) : Nat → Nat
  | 0 => skp n g 0
  | t + 1 => if tst n g t < n then skp n g (tst n g t + tln n g (tst n g t)) else n
def tle (n : Nat) (g : Nat → Nat) : Nat → Nat
  | 0 => 0
  | t + 1 => if ibL (g (tst n g t)) = true ∨ ibD (g (tst n g t)) = true then tst n g t + tln n g (tst n g t) + 1 else tle n g t
theorem tst_le (n : Nat) (g : Nat → Nat) (t : Nat) : tst n g t ≤ n := by
  cases t with
  | zero => exact (skp_sp (Nat.zero_le n)).2.1
  | succ t =>
    show (if tst n g t < n then _ else n) ≤ n
    split
    · rename_i h; exact (skp_sp (tln_sp h).2).2.1
    · exact Nat.le_refl _
theorem tst_s {n t : Nat} {g : Nat → Nat} (h : tst n g t < n) : tst n g (t + 1) = skp n g (tst n g t + tln n g (tst n g t)) := if_pos h
theorem tst_b {n t : Nat} {g : Nat → Nat} (h : tst n g t < n) : ibBk (g (tst n g t)) = false := by
  cases t with
  | zero => exact (skp_sp (Nat.zero_le n)).2.2 h
  | succ t =>
    by_cases z : tst n g t < n
    · rw [tst_s z] at h ⊢
      exact (skp_sp (tln_sp z).2).2.2 h
    · have : tst n g (t + 1) = n := if_neg z
      omega
theorem tst_k {n t : Nat} {g : Nat → Nat} : skp n g (tst n g t) = tst n g t := by
  refine skp_n (tst_le n g t) ?_
  rcases Nat.lt_or_ge (tst n g t) n with z | z
  · exact Or.inr (tst_b z)
  · have := tst_le n g t; exact Or.inl (by omega)
theorem tle_le (n : Nat) (g : Nat → Nat) (t : Nat) : tle n g t ≤ n + 1 := by
  induction t with
  | zero => exact Nat.zero_le _
  | succ t ih =>
    rw [show tle n g (t + 1) = (if ibL (g (tst n g t)) = true ∨ ibD (g (tst n g t)) = true then tst n g t + tln n g (tst n g t) + 1 else tle n g t) from rfl]
    split
    · rename_i h
      by_cases z : tst n g t < n
      · have := (tln_sp (g := g) z).2; omega
      · have e : tst n g t = n := by have := tst_le n g t; omega
        have : tln n g n ≤ 0 ∨ True := Or.inr trivial
        rw [e]
        unfold tln
        have r1 : rnK ibL n g n = 0 := by have := (rnK_sp (q := ibL) (g := g) (Nat.le_refl n)).1; omega
        have r2 : rnK ibD n g n = 0 := by have := (rnK_sp (q := ibD) (g := g) (Nat.le_refl n)).1; omega
        rw [e] at h
        split
        · omega
        · rename_i u
          rw [if_pos (h.resolve_left u)]
          omega
    · exact ih
/-- it stands at once behind a word or number -/
def glu (n : Nat) (g : Nat → Nat) (t : Nat) : Bool := decide (tst n g t + 1 = tle n g t)
/-- a word: letters, as numbers from 1 -/
def wdf (g : Nat → Nat) (p j : Nat) : Nat := g (p + j) - 96
def pkN (b : Nat) (f : Nat → Nat) : Nat → Nat
  | 0 => 0
  | l + 1 => pkN b f l * b + f l
theorem pkN_lt {b : Nat} {f : Nat → Nat} {l : Nat} (h : ∀ j, j < l → f j < b) : pkN b f l < b ^ l := by
  induction l with
  | zero => show 0 < 1; omega
  | succ l ih =>
    have i := ih (fun j hj => h j (by omega))
    have := h l (by omega)
    show pkN b f l * b + f l < b ^ (l + 1)
    rw [Nat.pow_succ]
    have : (pkN b f l + 1) * b ≤ b ^ l * b := Nat.mul_le_mul_right b i
    rw [Nat.add_mul] at this
    omega
theorem pkN_cg {b : Nat} {f f' : Nat → Nat} {l : Nat} (h : ∀ j, j < l → f j = f' j) : pkN b f l = pkN b f' l := by
  induction l with
  | zero => rfl
  | succ l ih =>
    show pkN b f l * b + f l = pkN b f' l * b + f' l
    rw [ih (fun j hj => h j (by omega)), h l (by omega)]
theorem pkN_in {b : Nat} {f f' : Nat → Nat} : ∀ {l l' : Nat}, (∀ j, j < l → f j < b ∧ 0 < f j) → (∀ j, j < l' → f' j < b ∧ 0 < f' j) → pkN b f l = pkN b f' l' → l = l' ∧ ∀ j, j < l → f j = f' j := by
  intro l
  induction l with
  | zero =>
    intro l' h h' e
    cases l' with
    | zero => exact ⟨rfl, fun j hj => absurd hj (Nat.not_lt_zero _)⟩
    | succ l' =>
      have e : 0 = pkN b f' l' * b + f' l' := e
      have := h' l' (by omega)
      omega
  | succ l ih =>
    intro l' h h' e
    have hl := h l (by omega)
    cases l' with
    | zero =>
      have e : pkN b f l * b + f l = 0 := e
      omega
    | succ l' =>
      have hl' := h' l' (by omega)
      have e : pkN b f l * b + f l = pkN b f' l' * b + f' l' := e
      have m : (pkN b f l * b + f l) % b = (pkN b f' l' * b + f' l') % b := by rw [e]
      have d : (pkN b f l * b + f l) / b = (pkN b f' l' * b + f' l') / b := by rw [e]
      rw [Nat.mul_add_mod_self_right, Nat.mul_add_mod_self_right, Nat.mod_eq_of_lt hl.1, Nat.mod_eq_of_lt hl'.1] at m
      rw [Nat.mul_comm, Nat.mul_comm (pkN b f' l'), Nat.mul_add_div (by omega), Nat.mul_add_div (by omega), Nat.div_eq_of_lt hl.1, Nat.div_eq_of_lt hl'.1] at d
      obtain ⟨i1, i2⟩ := ih (fun j hj => h j (by omega)) (fun j hj => h' j (by omega)) (show pkN b f l = pkN b f' l' by omega)
      subst i1
      refine ⟨rfl, fun j hj => ?_⟩
      rcases Nat.lt_or_ge j l with z | z
      · exact i2 j z
      · rw [show j = l by omega]; exact m
/-- a word of the language, as numbers -/
def owF (w j : Nat) : Nat := (owL w).getD j 0 - 96
theorem owL_ok : ∀ w, w < 19 → 2 ≤ (owL w).length ∧ (owL w).length ≤ 8 ∧ ∀ j, j < (owL w).length → 97 ≤ (owL w).getD j 0 ∧ (owL w).getD j 0 ≤ 122 := by decide
/-- the t-th thing is a word, the word w, a word of the language, a number -/
def iWd (n : Nat) (g : Nat → Nat) (t : Nat) : Prop := tst n g t < n ∧ ibL (g (tst n g t)) = true ∧ glu n g t = false
def iWw (n : Nat) (g : Nat → Nat) (t w : Nat) : Prop := iWd n g t ∧ rnK ibL n g (tst n g t) = (owL w).length ∧ ∀ j, j < (owL w).length → g (tst n g t + j) = (owL w).getD j 0
def iWo (n : Nat) (g : Nat → Nat) (t : Nat) : Prop := ∃ w, w < 19 ∧ iWw n g t w
noncomputable def iWb (n : Nat) (g : Nat → Nat) (t w : Nat) : Bool := cBo (iWw n g t w)
def iNu (n : Nat) (g : Nat → Nat) (t : Nat) : Prop := tst n g t < n ∧ ibD (g (tst n g t)) = true ∧ glu n g t = false
/-- a name at t: its number by 27, or a fault -/
noncomputable def nmR (n : Nat) (g : Nat → Nat) (t : Nat) : (Nat × Nat) ⊕ Nat := if cBo (iWd n g t ∧ ¬ iWo n g t) = true then (if rnK ibL n g (tst n g t) ≤ 6 then .inr (pkN 27 (wdf g (tst n g t)) (rnK ibL n g (tst n g t))) else .inl (1, tst n g t + 6)) else .inl (1, tst n g t)
noncomputable def nuR (n : Nat) (g : Nat → Nat) (t lo hi : Nat) : (Nat × Nat) ⊕ Nat := if cBo (iNu n g t) = true then (if 1 < rnK ibD n g (tst n g t) then .inl (1, tst n g t + 1) else if lo ≤ g (tst n g t) - 48 ∧ g (tst n g t) - 48 ≤ hi then .inr (g (tst n g t) - 48) else .inl (2, tst n g t)) else .inl (1, tst n g t)
/-- a name that is known -/
noncomputable def knR (n : Nat) (g P : Nat → Nat) (k t : Nat) : (Nat × Nat) ⊕ Nat := match nmR n g t with | .inl f => .inl f | .inr u => if fi (fun j => decide (P (10 + 6 * k + j) = u)) (P k) < P k then .inr (fi (fun j => decide (P (10 + 6 * k + j) = u)) (P k)) else .inl (3, tst n g t)
/-- the value of a word of up to twelve letters, the same for a name -/
theorem wdf_ok {n p l : Nat} {g : Nat → Nat} (hp : p ≤ n) (h : l ≤ rnK ibL n g p) : ∀ j, j < l → wdf g p j < 27 ∧ 0 < wdf g p j := by
  intro j hj
  have := ibL_i.mp ((rnK_sp (q := ibL) (g := g) hp).2.1 j (by omega))
  unfold wdf
  omega
theorem nlt_pk {f : Nat → Nat} {l : Nat} (hl : l ≤ 6) (h : ∀ j, j < l → f j < 27 ∧ 0 < f j) : nlt (pkN 27 f l) = l := by
  have lt := pkN_lt (b := 27) (f := f) (l := l) (fun j hj => (h j hj).1)
  have ge : ∀ k, k < l → 27 ^ k ≤ pkN 27 f (k + 1) := by
    intro k
    induction k with
    | zero =>
      intro hk
      have := (h 0 hk).2
      show 1 ≤ 0 * 27 + f 0
      omega
    | succ k ih =>
      intro hk
      have := ih (by omega)
      show 27 ^ (k + 1) ≤ pkN 27 f (k + 1) * 27 + f (k + 1)
      rw [Nat.pow_succ]
      have := Nat.mul_le_mul_right 27 this
      omega
  rcases (show l = 0 ∨ l = 1 ∨ l = 2 ∨ l = 3 ∨ l = 4 ∨ l = 5 ∨ l = 6 by omega) with z | z | z | z | z | z | z <;> subst z
  · rfl
  · have h1 : 27 ^ 0 ≤ pkN 27 f 1 := ge 0 (by omega)
    generalize pkN 27 f 1 = x at lt h1 ⊢
    unfold nlt
    repeat (first | (split <;> rename_i h) | omega)
  · have h1 : 27 ^ 1 ≤ pkN 27 f 2 := ge 1 (by omega)
    generalize pkN 27 f 2 = x at lt h1 ⊢
    unfold nlt
    repeat (first | (split <;> rename_i h) | omega)
  · have h1 : 27 ^ 2 ≤ pkN 27 f 3 := ge 2 (by omega)
    generalize pkN 27 f 3 = x at lt h1 ⊢
    unfold nlt
    repeat (first | (split <;> rename_i h) | omega)
  · have h1 : 27 ^ 3 ≤ pkN 27 f 4 := ge 3 (by omega)
    generalize pkN 27 f 4 = x at lt h1 ⊢
    unfold nlt
    repeat (first | (split <;> rename_i h) | omega)
  · have h1 : 27 ^ 4 ≤ pkN 27 f 5 := ge 4 (by omega)
    generalize pkN 27 f 5 = x at lt h1 ⊢
    unfold nlt
    repeat (first | (split <;> rename_i h) | omega)
  · have h1 : 27 ^ 5 ≤ pkN 27 f 6 := ge 5 (by omega)
    generalize pkN 27 f 6 = x at lt h1 ⊢
    unfold nlt
    repeat (first | (split <;> rename_i h) | omega)
theorem nm5g_pk {f : Nat → Nat} {l : Nat} (h : ∀ j, j < l → f j < 27) : nm5g l (pkN 27 f l) = pkN 32 f l := by
  induction l with
  | zero => rfl
  | succ l ih =>
    have := h l (by omega)
    show nm5g l ((pkN 27 f l * 27 + f l) / 27) * 32 + (pkN 27 f l * 27 + f l) % 27 = pkN 32 f l * 32 + f l
    rw [show (pkN 27 f l * 27 + f l) / 27 = pkN 27 f l by omega, show (pkN 27 f l * 27 + f l) % 27 = f l by omega, ih (fun j hj => h j (by omega))]
theorem nm5_pk {f : Nat → Nat} {l : Nat} (hl : l ≤ 6) (h : ∀ j, j < l → f j < 27 ∧ 0 < f j) : nm5 (pkN 27 f l) = pkN 32 f l * 32 ^ (6 - l) := by
  unfold nm5
  rw [nlt_pk hl h, nm5g_pk (fun j hj => (h j hj).1)]
theorem pkN_dg {f : Nat → Nat} {l : Nat} (h : ∀ j, j < l → f j < 27 ∧ 0 < f j) : ∀ i, i < l → pkN 27 f l / 27 ^ i % 27 ≠ 0 := by
  induction l with
  | zero => exact fun i hi => absurd hi (Nat.not_lt_zero _)
  | succ l ih =>
    intro i hi
    have hl := h l (by omega)
    show (pkN 27 f l * 27 + f l) / 27 ^ i % 27 ≠ 0
    rcases Nat.eq_zero_or_pos i with z | z
    · subst z
      rw [Nat.pow_zero, Nat.div_one]
      omega
    · rw [show i = i - 1 + 1 by omega, Nat.pow_succ, Nat.mul_comm (27 ^ (i - 1)) 27, ← Nat.div_div_eq_div_mul, show (pkN 27 f l * 27 + f l) / 27 = pkN 27 f l by omega]
      exact ih (fun j hj => h j (by omega)) (i - 1) (by omega)
theorem ltO_pk {f : Nat → Nat} {l : Nat} (hl : l ≤ 6) (h : ∀ j, j < l → f j < 27 ∧ 0 < f j) : ltO (pkN 27 f l) := by
  refine ⟨?_, ?_⟩
  · have := pkN_lt (b := 27) (f := f) (l := l) (fun j hj => (h j hj).1)
    have : (27 : Nat) ^ l ≤ 27 ^ 6 := Nat.pow_le_pow_right (by decide) hl
    have : (27 : Nat) ^ 6 = 387420489 := by decide
    omega
  · rw [nlt_pk hl h]; exact pkN_dg h
theorem nm5_in {u v : Nat} (hu : ltO u) (hv : ltO v) (e : nm5 u = nm5 v) : u = v := by
  have d : ∀ j, j < 6 → (if nlt u ≤ j then 0 else u / 27 ^ (nlt u - 1 - j) % 27) = (if nlt v ≤ j then 0 else v / 27 ^ (nlt v - 1 - j) % 27) := fun j hj => by rw [← nm5_dg hj, ← nm5_dg hj, e]
  have lu := nlt_le u
  have lv := nlt_le v
  have el : nlt u = nlt v := by
    rcases Nat.lt_trichotomy (nlt u) (nlt v) with z | z | z
    · have := d (nlt u) (by omega)
      rw [if_pos (Nat.le_refl _), if_neg (by omega)] at this
      exact absurd this.symm (hv.2 _ (by omega))
    · exact z
    · have := d (nlt v) (by omega)
      rw [if_pos (Nat.le_refl (nlt v)), if_neg (by omega)] at this
      exact absurd this (hu.2 _ (by omega))
  have dg : ∀ i, i < nlt u → u / 27 ^ i % 27 = v / 27 ^ i % 27 := by
    intro i hi
    have := d (nlt u - 1 - i) (by omega)
    rw [if_neg (by omega), ← el, if_neg (by omega), show nlt u - 1 - (nlt u - 1 - i) = i by omega] at this
    exact this
  have bd : ∀ x : Nat, x < 387420489 → x < 27 ^ nlt x := by
    intro x hx
    unfold nlt
    repeat (first | (split <;> rename_i h) | omega)
  have bu := bd u hu.1
  have bv := bd v hv.1
  rw [← el] at bv
  have key : ∀ l a b, a < 27 ^ l → b < 27 ^ l → (∀ i, i < l → a / 27 ^ i % 27 = b / 27 ^ i % 27) → a = b := by
    intro l
    induction l with
    | zero => intro a b ha hb _; omega
    | succ l ih =>
      intro a b ha hb h
      have h0 := h 0 (by omega)
      rw [Nat.pow_zero, Nat.div_one, Nat.div_one] at h0
      rw [Nat.pow_succ] at ha hb
      have := ih (a / 27) (b / 27) (Nat.div_lt_of_lt_mul (by omega)) (Nat.div_lt_of_lt_mul (by omega)) (fun i hi => by
        have := h (i + 1) (by omega)
        rw [Nat.pow_succ, Nat.mul_comm (27 ^ i) 27, ← Nat.div_div_eq_div_mul, ← Nat.div_div_eq_div_mul] at this
        exact this)
      omega
  exact key _ u v bu bv dg
