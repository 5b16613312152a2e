/-- a table: numbers in the places of the reference's row; what may be none is told by one more -/
def tF (P : Nat → Nat) (r k : Nat) : Nat := P (56 + 8 * r + k)
def tpN (k : Nat) : Bool := decide (k = 6) || decide (k = 7) || (decide (56 ≤ k) && (decide ((k - 56) % 8 = 2) || decide ((k - 56) % 8 = 4) || decide ((k - 56) % 8 = 5) || decide ((k - 56) % 8 = 6)))
def tpI (P : Nat → Nat) (k : Nat) : Int32 := if tpN k = true then nI (P k) - 1 else nI (P k)
/-- five bits a letter, out of a name by 27 -/
def nm5g : Nat → Nat → Nat
  | 0, _ => 0
  | k + 1, v => nm5g k (v / 27) * 32 + v % 27
def nlt (v : Nat) : Nat := if v = 0 then 0 else if v < 27 then 1 else if v < 729 then 2 else if v < 19683 then 3 else if v < 531441 then 4 else if v < 14348907 then 5 else 6
def nm5 (v : Nat) : Nat := nm5g (nlt v) v * 32 ^ (6 - nlt v)
def tV (P : Nat → Nat) : Prop :=
  (2 ≤ P 3 ∧ P 3 ≤ 4 ∧ 0 < P 0 ∧ P 0 ≤ 6 ∧ P 1 ≤ 6 ∧ P 2 ≤ 6 ∧ P 4 ≤ 1 ∧ P 5 ≤ 4 ∧ P 6 ≤ 6 ∧ P 7 ≤ 6 ∧ P 8 ≤ 16 ∧ (P 6 = 0 ↔ P 7 = 0)) ∧ (∀ r, r < P 8 → fV (tF P r)) ∧ (∀ k, k < P 5 → P (28 + 7 * k) ≤ 3 ∧ ∀ c, c < P (28 + 7 * k) → P (28 + 7 * k + 1 + 2 * c) ≤ 4 ∧ P (28 + 7 * k + 2 + 2 * c) < 6) ∧ (∀ k j, k < 3 → j < 6 → P (10 + 6 * k + j) < 387420489 ∧ (P k ≤ j → P (10 + 6 * k + j) = 0))
def tX (b : Nat) (P : Nat → Nat) (m : zM) : Prop :=
  (m.1 b 0 = nI (P 3) ∧ m.1 b 3 = nI (P 4) ∧ m.1 b 4 = nI (P 8) ∧ m.1 b 6 = nI (P 5) ∧ m.1 b 10 = nI (P 6) - 1 ∧ m.1 b 11 = nI (P 7) - 1) ∧ (∀ k, k < 3 → m.1 (b + 1) k = nI (P k)) ∧ (∀ r, r < P 8 → rX (b + 7 + r) (tF P r) m) ∧ (∀ k, k < P 5 → m.1 (b + 4) k = nI (P (28 + 7 * k)) ∧ ∀ c, c < P (28 + 7 * k) → m.1 (b + 5) (3 * k + c) = nI (P (28 + 7 * k + 1 + 2 * c)) ∧ m.1 (b + 6) (3 * k + c) = nI (P (28 + 7 * k + 2 + 2 * c))) ∧ (∀ k j, k < 3 → j < P k → m.1 (b + 2) (6 * k + j) = nI (nm5 (P (10 + 6 * k + j))))
def tbv (b : Nat) : Prop := b = 66 ∨ b = 93
def tM (c : Nat) (P : Nat → Nat) (m : zM) : Prop := ∀ k, k < 56 + 8 * P 8 → m.1 c k = tpI P k
theorem tV_F {P : Nat → Nat} {r : Nat} (h : tV P) (hr : r < P 8) : fV (tF P r) := h.2.1 r hr
theorem tM_r {P : Nat → Nat} {m : zM} {r : Nat} (h : tM 23 P m) (hr : r < P 8) : rM r (tF P r) m := by
  intro k hk
  rw [h _ (by omega)]
  unfold tpI fI tpN
  have e : (56 + 8 * r + k - 56) % 8 = k := by omega
  rw [e]
  by_cases q : k = 2 ∨ k = 4 ∨ k = 5 ∨ k = 6
  · rw [if_pos q, if_pos]
    · rfl
    · rw [Bool.or_eq_true, Bool.and_eq_true]
      refine Or.inr ⟨decide_eq_true (by omega), ?_⟩
      rcases q with q | q | q | q <;> rw [q] <;> decide
  · rw [if_neg q, if_neg]
    · rfl
    · have a1 : ¬ 56 + 8 * r + k = 6 := by omega
      have a2 : ¬ 56 + 8 * r + k = 7 := by omega
      have b1 : ¬ k = 2 := fun z => q (Or.inl z)
      have b2 : ¬ k = 4 := fun z => q (Or.inr (Or.inl z))
      have b3 : ¬ k = 5 := fun z => q (Or.inr (Or.inr (Or.inl z)))
      have b4 : ¬ k = 6 := fun z => q (Or.inr (Or.inr (Or.inr z)))
      simp [a1, a2, b1, b2, b3, b4]
theorem tM_n {P : Nat → Nat} {m : zM} {c k : Nat} (h : tM c P m) (hk : k < 56) (hn : tpN k = false) : m.1 c k = nI (P k) := by
  rw [h k (by omega)]
  unfold tpI
  rw [hn]
  rfl
theorem tM_o {P : Nat → Nat} {m : zM} {c k : Nat} (h : tM c P m) (hk : k < 56) (hn : tpN k = true) : m.1 c k = nI (P k) - 1 := by
  rw [h k (by omega)]
  unfold tpI
  rw [hn]
  rfl
/-- cells that are none of a table's -/
def offT (S : List Nat) (F : List (Nat × Nat)) : Bool := S.all (fun s => decide (s < 66) || decide (116 ≤ s) || (decide (89 ≤ s) && decide (s < 93))) && F.all (fun f => decide (f.1 < 66) || decide (116 ≤ f.1) || (decide (89 ≤ f.1) && decide (f.1 < 93)))
theorem inS_T {S : List Nat} {F : List (Nat × Nat)} {k j : Nat} (h : offT S F = true) (hk : (66 ≤ k ∧ k < 89) ∨ (93 ≤ k ∧ k < 116)) : inS S F k j = false := by
  unfold offT at h
  rw [Bool.and_eq_true, List.all_eq_true, List.all_eq_true] at h
  cases e : inS S F k j with
  | false => rfl
  | true =>
    unfold inS at e
    rw [Bool.or_eq_true, List.contains_iff_mem, List.contains_iff_mem] at e
    rcases e with e | e
    · have := h.1 k e
      simp only [Bool.or_eq_true, Bool.and_eq_true, decide_eq_true_eq] at this
      omega
    · have := h.2 _ e
      simp only [Bool.or_eq_true, Bool.and_eq_true, decide_eq_true_eq] at this
      omega
theorem tX_fl {S : List Nat} {F : List (Nat × Nat)} {b : Nat} {P : Nat → Nat} {m m' : zM} (hb : tbv b) (h : tX b P m) (hf : fl2 S F m m') (ho : offT S F = true) (hr : P 8 ≤ 16) : tX b P m' := by
  have k : ∀ c, c < 23 → m'.1 (b + c) = m.1 (b + c) := fun c hc => fl2_ic hf (fun j => inS_T ho (by rcases hb with e | e <;> omega))
  have k0 := k 0 (by decide)
  obtain ⟨h1, h2, h3, h4, h5⟩ := h
  unfold tX
  rw [show m'.1 b = m.1 b from k0, k 1 (by decide), k 2 (by decide), k 4 (by decide), k 5 (by decide), k 6 (by decide)]
  refine ⟨h1, h2, fun r hr' k' hk' => ?_, h4, h5⟩
  rw [show b + 7 + r = b + (7 + r) by omega, k (7 + r) (by omega), show b + (7 + r) = b + 7 + r by omega]
  exact h3 r hr' k' hk'
/-- a move by the code c = 4 * rule + agent -/
def sP (P : Nat → Nat) (x c : Nat) : Option Nat := if c / 4 < P 8 ∧ c % 4 < P 3 then sx (P 4) (P 3) (tF P (c / 4)) x (c % 4) else none
def wx0 (P : Nat → Nat) : Nat := ky 2058 (if P 1 = 0 then 0 else 1) (fun _ => 0) (P 3)
/-- from folded world to folded world, without the rule w -/
def Ed (P : Nat → Nat) (w x y : Nat) : Prop := ∃ c, c < 64 ∧ c / 4 ≠ w ∧ (sP P x c).map (fo (P 3)) = some y
theorem sP_no {P : Nat → Nat} {x c : Nat} (h : ¬ (c / 4 < P 8 ∧ c % 4 < P 3)) : sP P x c = none := if_neg h
theorem sP_ye {P : Nat → Nat} {x r i : Nat} (hr : r < P 8) (hi : i < P 3) (h4 : P 3 ≤ 4) : sP P x (4 * r + i) = sx (P 4) (P 3) (tF P r) x i := by
  unfold sP
  rw [show (4 * r + i) / 4 = r by omega, show (4 * r + i) % 4 = i by omega]
  exact if_pos ⟨hr, hi⟩
theorem sP_kv {P : Nat → Nat} {x y c : Nat} (h : tV P) (hx : kv (P 3) x) (e : sP P x c = some y) : kv (P 3) y := by
  unfold sP at e
  split at e
  · rename_i q
    exact sx_kv (tV_F h q.1) hx q.2 e
  · cases e
theorem wx0_w {P : Nat → Nat} (h : tV P) : wV (P 3) (if P 1 = 0 then 0 else 1) (fun _ => 0) := ⟨by have := h.1; omega, h.1.2.1, by split <;> decide, fun _ _ => by show 0 < 2058; decide⟩
theorem wx0_kv {P : Nat → Nat} (h : tV P) : kv (P 3) (wx0 P) := kv_k (wx0_w h)
theorem wx0_fo {P : Nat → Nat} (h : tV P) : fo (P 3) (wx0 P) = wx0 P := (fo_of (wx0_w h) (Ior_so (fun _ _ _ _ => Nat.le_refl _) Sm_rf)).symm
/-- the moves of a world, by codes, are those of the folded one -/
theorem Ed_fo {P : Nat → Nat} {w x y : Nat} (h : tV P) (hx : kv (P 3) x) : Ed P w (fo (P 3) x) y ↔ ∃ c, c < 64 ∧ c / 4 ≠ w ∧ (sP P x c).map (fo (P 3)) = some y := by
  have n4 := hx.2.1
  have r16 := h.1.2.2.2.2.2.2.2.2.2.2.1
  have key : ∀ r i, r < P 8 → i < P 3 → (sP P (fo (P 3) x) (4 * r + rk (P 3) (da (P 3) x) i)).map (fo (P 3)) = (sP P x (4 * r + i)).map (fo (P 3)) := by
    intro r i hr hi
    rw [sP_ye hr hi n4, sP_ye hr (rk_lt hi) n4]
    exact sx_fo (tV_F h hr) hx hi
  constructor
  · rintro ⟨c, hc, hw, e⟩
    by_cases q : c / 4 < P 8 ∧ c % 4 < P 3
    · obtain ⟨i, hi, ei⟩ := rk_sj (a := da (P 3) x) n4 (c % 4) q.2
      refine ⟨4 * (c / 4) + i, by omega, by omega, ?_⟩
      rw [← key (c / 4) i q.1 hi, ei, show 4 * (c / 4) + c % 4 = c by omega]
      exact e
    · rw [sP_no q] at e; cases e
  · rintro ⟨c, hc, hw, e⟩
    by_cases q : c / 4 < P 8 ∧ c % 4 < P 3
    · have := rk_lt (a := da (P 3) x) q.2
      refine ⟨4 * (c / 4) + rk (P 3) (da (P 3) x) (c % 4), by omega, by omega, ?_⟩
      rw [key (c / 4) (c % 4) q.1 q.2, show 4 * (c / 4) + c % 4 = c by omega]
      exact e
    · rw [sP_no q] at e; cases e
theorem Ed_kv {P : Nat → Nat} {w x y : Nat} (h : tV P) (hx : kv (P 3) x) (e : Ed P w x y) : kv (P 3) y ∧ ∃ z, kv (P 3) z ∧ y = fo (P 3) z := by
  obtain ⟨c, hc, hw, e⟩ := e
  cases em : sP P x c with
  | none => rw [em] at e; cases e
  | some z =>
    rw [em] at e
    cases e
    have := sP_kv h hx em
    exact ⟨fo_kv this, z, this, rfl⟩
theorem Rn_kv {P : Nat → Nat} {w d x : Nat} (h : tV P) (hx : Rn (Ed P w) (wx0 P) d x) : kv (P 3) x ∧ fo (P 3) x = x := by
  have ff : ∀ z, kv (P 3) z → fo (P 3) (fo (P 3) z) = fo (P 3) z := by
    intro z hz
    have k := fo_d hz
    have h1 : fo (P 3) (ky 2058 (dh (P 3) z) (da (P 3) z) (P 3)) = fo (P 3) (ky 2058 (dh (P 3) z) (da (P 3) (fo (P 3) z)) (P 3)) := fo_pm (rk (P 3) (da (P 3) z)) (kv_w hz) ⟨hz.1, hz.2.1, hz.2.2, fun j _ => da_lt _ _ _⟩ (fun _ => rk_lt) (fun _ _ => rk_in) (fun i hi => fo_rk hz hi)
    rw [ky_d] at h1
    have h2 : ky 2058 (dh (P 3) z) (da (P 3) (fo (P 3) z)) (P 3) = fo (P 3) z := by
      have := ky_d (P 3) (fo (P 3) z)
      rwa [k.1] at this
    rw [h2] at h1
    exact h1.symm
  induction d generalizing x with
  | zero =>
    have hx : x = wx0 P := hx
    rw [hx]
    exact ⟨wx0_kv h, wx0_fo h⟩
  | succ d ih =>
    obtain ⟨y, h1, h2⟩ := hx
    obtain ⟨h3, z, hz, e⟩ := Ed_kv h (ih h1).1 h2
    refine ⟨h3, ?_⟩
    rw [e]
    exact ff z hz
