/-- come to in d moves -/
def Rn (E : Nat → Nat → Prop) (s : Nat) : Nat → Nat → Prop
  | 0, x => x = s
  | d + 1, x => ∃ y, Rn E s d y ∧ E y x
def Ds (E : Nat → Nat → Prop) (s x d : Nat) : Prop := Rn E s d x ∧ ∀ e, e < d → ¬ Rn E s e x
/-- all that can be come to, each once, by depth, then by key -/
def Lst (E : Nat → Nat → Prop) (s N : Nat) (W D : Nat → Nat) : Prop := (∀ i, i < N → Ds E s (W i) (D i)) ∧ (∀ d x, Rn E s d x → ∃ i, i < N ∧ W i = x) ∧ ∀ i j, i < j → j < N → D i < D j ∨ (D i = D j ∧ W i < W j)
theorem Ds_un {E : Nat → Nat → Prop} {s x d e : Nat} (h : Ds E s x d) (h' : Ds E s x e) : d = e := by
  rcases Nat.lt_trichotomy d e with u | u | u
  · exact absurd h.1 (h'.2 d u)
  · exact u
  · exact absurd h'.1 (h.2 e u)
theorem Lst_in {E : Nat → Nat → Prop} {s N i j : Nat} {W D : Nat → Nat} (h : Lst E s N W D) (hi : i < N) (hj : j < N) (e : W i = W j) : i = j := by
  have k : ∀ i j, i < j → j < N → W i ≠ W j := by
    intro i j hij hj z
    have h1 := h.1 i (by omega)
    have h2 := h.1 j hj
    rw [z] at h1
    have := Ds_un h1 h2
    have := h.2.2 i j hij hj
    omega
  rcases Nat.lt_trichotomy i j with u | u | u
  · exact absurd e (k i j u hj)
  · exact u
  · exact absurd e.symm (k j i u hi)
theorem Lst_un {E : Nat → Nat → Prop} {s N N' : Nat} {W D W' D' : Nat → Nat} (h : Lst E s N W D) (h' : Lst E s N' W' D') : N = N' ∧ ∀ i, i < N → W i = W' i ∧ D i = D' i := by
  have key : ∀ {N N' : Nat} {W D W' D' : Nat → Nat}, Lst E s N W D → Lst E s N' W' D' → ∀ i, (∀ j, j < i → j < N → j < N' → W j = W' j ∧ D j = D' j) → i < N → i < N' ∧ ¬ (D i < D' i ∨ (D i = D' i ∧ W i < W' i)) := by
    intro N N' W D W' D' h h' i ih hi
    obtain ⟨k, hk, ek⟩ := h'.2.1 _ _ (h.1 i hi).1
    have ki : i ≤ k := by
      rcases Nat.lt_or_ge k i with u | u
      · have := (ih k u (by omega) hk).1
        rw [ek] at this
        have := Lst_in h (by omega) hi this
        omega
      · exact u
    have ed := Ds_un (h.1 i hi) (ek ▸ h'.1 k hk)
    refine ⟨by omega, fun z => ?_⟩
    by_cases e : i = k
    · subst e
      omega
    · have := h'.2.2 i k (by omega) hk
      omega
  have all : ∀ i, ∀ j, j < i → (j < N → j < N') ∧ (j < N' → j < N) ∧ (j < N → j < N' → W j = W' j ∧ D j = D' j) := by
    intro i
    induction i with
    | zero => intro j hj; omega
    | succ i ih =>
      intro j hj
      by_cases e : j = i
      · subst e
        have k1 := key h h' j (fun j hj h1 h2 => (ih j hj).2.2 h1 h2)
        have k2 := key h' h j (fun j hj h1 h2 => ⟨((ih j hj).2.2 h2 h1).1.symm, ((ih j hj).2.2 h2 h1).2.symm⟩)
        refine ⟨fun z => (k1 z).1, fun z => (k2 z).1, fun z z' => ?_⟩
        have := (k1 z).2
        have := (k2 z').2
        omega
      · exact ih j (by omega)
  refine ⟨?_, fun i hi => ?_⟩
  · rcases Nat.lt_trichotomy N N' with u | u | u
    · have := (all (N + 1) N (by omega)).2.1 u; omega
    · exact u
    · have := (all (N' + 1) N' (by omega)).1 u; omega
  · have k := all (i + 1) i (by omega)
    exact k.2.2 hi (k.1 hi)
/-- a search by breadth: w is gone through as far as Q -/
def Bf (E : Nat → Nat → Prop) (s N w : Nat) (Q : Nat → Prop) (fk dp : Nat → Nat) : Prop :=
  (0 < N ∧ fk 0 = s ∧ dp 0 = 0) ∧ (∀ i, i < N → Rn E s (dp i) (fk i)) ∧ (∀ i j, i < N → j < N → fk i = fk j → i = j) ∧ (∀ i j, i ≤ j → j < N → dp i ≤ dp j) ∧ (∀ i, i < N → w < N → dp i ≤ dp w + 1) ∧ (∀ j, j < w → j < N → ∀ y, E (fk j) y → ∃ k, k < N ∧ fk k = y ∧ dp k ≤ dp j + 1) ∧ (∀ y, w < N → Q y → ∃ k, k < N ∧ fk k = y ∧ dp k ≤ dp w + 1)
theorem Bf_0 {E : Nat → Nat → Prop} {s : Nat} {fk dp : Nat → Nat} (h1 : fk 0 = s) (h2 : dp 0 = 0) : Bf E s 1 0 (fun _ => False) fk dp := by
  refine ⟨⟨by omega, h1, h2⟩, fun i hi => ?_, fun i j hi hj _ => by omega, fun i j hi hj => ?_, fun i hi _ => ?_, fun j hj => by omega, fun y _ h => h.elim⟩
  · rw [show i = 0 by omega, h2]; exact h1
  · rw [show i = 0 by omega, show j = 0 by omega]; exact Nat.le_refl _
  · rw [show i = 0 by omega]; omega
theorem Bf_Q {E : Nat → Nat → Prop} {s N w : Nat} {Q Q' : Nat → Prop} {fk dp : Nat → Nat} (h : Bf E s N w Q fk dp) (hq : ∀ y, Q' y → Q y) : Bf E s N w Q' fk dp := ⟨h.1, h.2.1, h.2.2.1, h.2.2.2.1, h.2.2.2.2.1, h.2.2.2.2.2.1, fun y h1 h2 => h.2.2.2.2.2.2 y h1 (hq y h2)⟩
theorem Bf_old {E : Nat → Nat → Prop} {s N w y k : Nat} {Q : Nat → Prop} {fk dp : Nat → Nat} (h : Bf E s N w Q fk dp) (hk : k < N) (e : fk k = y) : Bf E s N w (fun z => Q z ∨ z = y) fk dp := by
  refine ⟨h.1, h.2.1, h.2.2.1, h.2.2.2.1, h.2.2.2.2.1, h.2.2.2.2.2.1, fun z h1 h2 => ?_⟩
  rcases h2 with h2 | h2
  · exact h.2.2.2.2.2.2 z h1 h2
  · exact ⟨k, hk, by rw [h2]; exact e, h.2.2.2.2.1 k hk h1⟩
theorem Bf_new {E : Nat → Nat → Prop} {s N w y : Nat} {Q : Nat → Prop} {fk dp fk' dp' : Nat → Nat} (h : Bf E s N w Q fk dp) (hw : w < N) (hE : E (fk w) y) (hn : ∀ k, k < N → fk k ≠ y) (f1 : ∀ i, i < N → fk' i = fk i ∧ dp' i = dp i) (f2 : fk' N = y) (f3 : dp' N = dp w + 1) : Bf E s (N + 1) w (fun z => Q z ∨ z = y) fk' dp' := by
  obtain ⟨⟨a1, a2, a3⟩, b, c, d, e, f, g⟩ := h
  have sp : ∀ i, i < N + 1 → i = N ∨ i < N := fun i hi => by omega
  refine ⟨⟨by omega, by rw [(f1 0 a1).1]; exact a2, by rw [(f1 0 a1).2]; exact a3⟩, fun i hi => ?_, fun i j hi hj z => ?_, fun i j hi hj => ?_, fun i hi _ => ?_, fun j hj hj' z hz => ?_, fun z _ hz => ?_⟩
  · rcases sp i hi with u | u
    · rw [u, f2, f3]
      exact ⟨fk w, b w hw, hE⟩
    · rw [(f1 i u).1, (f1 i u).2]; exact b i u
  · rcases sp i hi with u | u <;> rcases sp j hj with v | v
    · omega
    · rw [u, f2, (f1 j v).1] at z; exact absurd z.symm (hn j v)
    · rw [v, f2, (f1 i u).1] at z; exact absurd z (hn i u)
    · rw [(f1 i u).1, (f1 j v).1] at z; exact c i j u v z
  · rcases sp i (by omega) with u | u <;> rcases sp j hj with v | v
    · rw [u, v]; exact Nat.le_refl _
    · omega
    · rw [v, f3, (f1 i u).2]; exact e i u hw
    · rw [(f1 i u).2, (f1 j v).2]; exact d i j hi v
  · rw [(f1 w hw).2]
    rcases sp i hi with u | u
    · rw [u, f3]; exact Nat.le_refl _
    · rw [(f1 i u).2]; exact e i u hw
  · have jn : j < N := by omega
    rw [(f1 j jn).1] at hz
    obtain ⟨k, h1, h2, h3⟩ := f j hj jn z hz
    exact ⟨k, by omega, by rw [(f1 k h1).1]; exact h2, by rw [(f1 k h1).2, (f1 j jn).2]; exact h3⟩
  · rw [(f1 w hw).2]
    rcases hz with hz | hz
    · obtain ⟨k, h1, h2, h3⟩ := g z hw hz
      exact ⟨k, by omega, by rw [(f1 k h1).1]; exact h2, by rw [(f1 k h1).2]; exact h3⟩
    · exact ⟨N, by omega, by rw [f2, hz], by rw [f3]; exact Nat.le_refl _⟩
theorem Bf_next {E : Nat → Nat → Prop} {s N w : Nat} {Q : Nat → Prop} {fk dp : Nat → Nat} (h : Bf E s N w Q fk dp) (hw : w < N) (hq : ∀ y, E (fk w) y → Q y) : Bf E s N (w + 1) (fun _ => False) fk dp := by
  obtain ⟨a, b, c, d, e, f, g⟩ := h
  refine ⟨a, b, c, d, fun i hi h1 => ?_, fun j hj hj' y hy => ?_, fun y _ z => z.elim⟩
  · have := e i hi hw
    have := d w (w + 1) (by omega) h1
    omega
  · by_cases u : j = w
    · subst u; exact g y hw (hq y hy)
    · exact f j (by omega) hj' y hy
/-- at its end all is found, at its depth -/
theorem Bf_end {E : Nat → Nat → Prop} {s N w : Nat} {Q : Nat → Prop} {fk dp : Nat → Nat} (h : Bf E s N w Q fk dp) (hw : N ≤ w) : (∀ i, i < N → Ds E s (fk i) (dp i)) ∧ ∀ d x, Rn E s d x → ∃ i, i < N ∧ fk i = x := by
  obtain ⟨a, b, c, d, e, f, g⟩ := h
  have all : ∀ d x, Rn E s d x → ∃ i, i < N ∧ fk i = x ∧ dp i ≤ d := by
    intro d
    induction d with
    | zero => intro x hx; exact ⟨0, a.1, by rw [a.2.1]; exact hx.symm, by rw [a.2.2]; exact Nat.le_refl _⟩
    | succ d ih =>
      rintro x ⟨y, h1, h2⟩
      obtain ⟨j, hj, ej, dj⟩ := ih y h1
      rw [← ej] at h2
      obtain ⟨k, hk, ek, dk⟩ := f j (by omega) hj x h2
      exact ⟨k, hk, ek, by omega⟩
  refine ⟨fun i hi => ⟨b i hi, fun e' he z => ?_⟩, fun d x hx => ?_⟩
  · obtain ⟨k, hk, ek, dk⟩ := all e' _ z
    have := c k i hk hi ek
    rw [this] at dk
    omega
  · obtain ⟨k, hk, ek, -⟩ := all d x hx
    exact ⟨k, hk, ek⟩
/-- what is found and put in order is the list -/
theorem Lst_of {E : Nat → Nat → Prop} {s N : Nat} {fk dp sg W D : Nat → Nat} (h1 : ∀ i, i < N → Ds E s (fk i) (dp i)) (h2 : ∀ d x, Rn E s d x → ∃ i, i < N ∧ fk i = x) (g1 : ∀ i, i < N → sg i < N) (g2 : ∀ k, k < N → ∃ i, i < N ∧ sg i = k) (w : ∀ i, i < N → W i = fk (sg i) ∧ D i = dp (sg i)) (o : ∀ i j, i < j → j < N → D i < D j ∨ (D i = D j ∧ W i < W j)) : Lst E s N W D := by
  refine ⟨fun i hi => ?_, fun d x hx => ?_, o⟩
  · rw [(w i hi).1, (w i hi).2]; exact h1 _ (g1 i hi)
  · obtain ⟨k, hk, ek⟩ := h2 d x hx
    obtain ⟨i, hi, ei⟩ := g2 k hk
    exact ⟨i, hi, by rw [(w i hi).1, ei]; exact ek⟩
/-- more than are there can't be found -/
theorem Lst_no {E E' : Nat → Nat → Prop} {s N M : Nat} {W D fk dp : Nat → Nat} (h : Lst E s N W D) (hE : ∀ x y, E' x y → E x y) (h1 : ∀ i, i < M → Rn E' s (dp i) (fk i)) (h2 : ∀ i j, i < M → j < M → fk i = fk j → i = j) : M ≤ N := by
  have mo : ∀ d x, Rn E' s d x → Rn E s d x := by
    intro d
    induction d with
    | zero => intro x hx; exact hx
    | succ d ih => rintro x ⟨y, h3, h4⟩; exact ⟨y, ih y h3, hE y x h4⟩
  have ex : ∀ i, ∃ k, i < M → k < N ∧ W k = fk i := by
    intro i
    by_cases hi : i < M
    · obtain ⟨k, h3, h4⟩ := h.2.1 _ _ (mo _ _ (h1 i hi))
      exact ⟨k, fun _ => ⟨h3, h4⟩⟩
    · exact ⟨0, fun z => absurd z hi⟩
  have f := fun i => Classical.choose_spec (ex i)
  refine pigeon (fun i => Classical.choose (ex i)) (fun i hi => (f i hi).1) (fun i j hi hj z => ?_)
  have e1 := (f i hi).2
  have e2 := (f j hj).2
  exact h2 i j hi hj (by rw [← e1, ← e2]; exact congrArg W z)
