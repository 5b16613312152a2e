theorem ok_le {α : Type} {x y : Int32} {A B : Option α} {K : α → Prop} (a b : Nat) (ht : a ≤ b → ok A K) (hf : b < a → ok B K) (hx : x = nI a := by rfl) (hy : y = nI b := by rfl) (ha : a < 2 ^ 31 := by omega) (hb : b < 2 ^ 31 := by omega) : ok (if x ≤ y then A else B) K :=
  ok_it (fun q => ht ((le_nI hx hy ha hb).mp q)) (fun q => hf (Nat.lt_of_not_le (fun z => q ((le_nI hx hy ha hb).mpr z))))
theorem ok_ll {α : Type} {x y : Int32} {A B : Option α} {K : α → Prop} (a b : Nat) (ht : a < b → ok A K) (hf : b ≤ a → ok B K) (hx : x = nI a := by rfl) (hy : y = nI b := by rfl) (ha : a < 2 ^ 31 := by omega) (hb : b < 2 ^ 31 := by omega) : ok (if x < y then A else B) K :=
  ok_it (fun q => ht ((lt_nI hx hy ha hb).mp q)) (fun q => hf (Nat.le_of_not_lt (fun z => q ((lt_nI hx hy ha hb).mpr z))))
theorem ok_ee {α : Type} {x y : Int32} {A B : Option α} {K : α → Prop} (a b : Nat) (ht : a = b → ok A K) (hf : a ≠ b → ok B K) (hx : x = nI a := by rfl) (hy : y = nI b := by rfl) (ha : a < 2 ^ 31 := by omega) (hb : b < 2 ^ 31 := by omega) : ok (if x = y then A else B) K :=
  ok_it (fun q => ht ((eq_nI hx hy ha hb).mp q)) (fun q => hf (fun z => q ((eq_nI hx hy ha hb).mpr z)))
/-- x is a number less one: none, if it is 0 -/
theorem ok_mm {α : Type} {x : Int32} {A B : Option α} {K : α → Prop} (a : Nat) (ht : a = 0 → ok A K) (hf : 0 < a → ok B K) (hx : x = nI a - 1 := by rfl) (ha : a < 2 ^ 31 := by omega) : ok (if x = -1 then A else B) K :=
  ok_it (fun q => ht ((sd_m1 ha).mp (hx ▸ q))) (fun q => hf (Nat.pos_of_ne_zero (fun z => q (hx ▸ (sd_m1 ha).mpr z))))
theorem ok_tf {α : Type} {b : Bool} {A B : Option α} {K : α → Prop} (ht : b = true → ok A K) (hf : b = false → ok B K) : ok (if b = true then A else B) K :=
  ok_it ht (fun q => hf (by cases b with | true => exact absurd rfl q | false => rfl))
theorem ok_lop {σ ρ ι : Type} {b : σ → Option (ρ ⊕ σ)} {K : ρ → Prop} (J : ι → σ → Prop) (μ : ι → Nat) (hs : ∀ i s, J i s → ok (b s) (lp K (fun s' => ∃ i', μ i' < μ i ∧ J i' s'))) (i : ι) (s : σ) (h : J i s) (hm : μ i < 1000000000) : ok (zloop b FU s) K := by
  have key : ∀ n i s, J i s → μ i < n → ok (zloop b n s) K := by
    intro n
    induction n with
    | zero => intro i s _ h; exact absurd h (Nat.not_lt_zero _)
    | succ n ih =>
      intro i s hI hm
      rw [zloop]
      refine ok_bi (hs i s hI) (fun x hx => ?_)
      cases x with
      | inl r => exact ok_mk hx
      | inr s' =>
        obtain ⟨i', h1, h2⟩ : ∃ i', μ i' < μ i ∧ J i' s' := hx
        exact ih i' s' h2 (by omega)
  exact key FU i s h (by unfold FU; omega)
/-- a loop that counts up to n -/
theorem ok_for {σ ρ : Type} {b : σ → Option (ρ ⊕ σ)} {K : ρ → Prop} {k0 : Nat} {s : σ} (n : Nat) (J : Nat → σ → Prop) (h : J k0 s) (hk : k0 ≤ n) (hs : ∀ k s, k0 ≤ k → k ≤ n → J k s → ok (b s) (lp K (fun s' => k < n ∧ J (k + 1) s'))) (hn : n < 1000000000 := by omega) : ok (zloop b FU s) K := by
  refine ok_lop (fun k s => k0 ≤ k ∧ k ≤ n ∧ J k s) (fun k => n - k) (fun k s ⟨h0, h1, h2⟩ => ok_mo (hs k s h0 h1 h2) (fun x hx => ?_)) k0 s ⟨Nat.le_refl _, hk, h⟩ (by omega)
  cases x with
  | inl r => exact hx
  | inr s' =>
    have hx : k < n ∧ J (k + 1) s' := hx
    exact ⟨k + 1, by omega, by omega, by omega, hx.2⟩
theorem lp_r {σ ρ : Type} {K : ρ → Prop} {J J' : σ → Prop} (h : ∀ s, J s → J' s) : ∀ x, lp K J x → lp K J' x := by
  intro x hx
  cases x with
  | inl r => exact hx
  | inr s => exact h s hx
theorem ix_0 {n i : Nat} {x : Int32} (hx : x = nI i) (hi : i < n) (hn : n ≤ 2000000 := by decide) : ix n x = some i := by rw [hx]; exact ix_nI hi hn
theorem nI_4 {a b : Nat} : nI a * 4 + nI b = nI (4 * a + b) := by rw [show (4 : Int32) = nI 4 from rfl, pk_mul, nI_add, Nat.mul_comm]
theorem nI_pr {k : Nat} (h : 0 < k) : nI k - 1 = nI (k - 1) := by
  obtain ⟨j, rfl⟩ : ∃ j, k = j + 1 := ⟨k - 1, by omega⟩
  rw [nI_pred, Nat.add_sub_cancel]
theorem nI_pm {k : Nat} (h : 0 < k) : nI k + (-1) = nI (k - 1) := by
  obtain ⟨j, rfl⟩ : ∃ j, k = j + 1 := ⟨k - 1, by omega⟩
  rw [pk_m1, Nat.add_sub_cancel]
/-- a row of numbers is filled -/
theorem fillX {c : Nat} {x : Int32} {m : zM} (hl : zlen gX c ≤ 100000) : ok (f_Arrays_fill c x m) (fun p => (∀ i, i < zlen gX c → p.1 c i = x) ∧ fl2 [c] [] m p) := by
  unfold f_Arrays_fill f_Arrays_fill_L5
  refine ok_for (zlen gX c) (fun k (s : Int32 × zM) => s.1 = nI k ∧ (∀ i, i < k → s.2.1 c i = x) ∧ fl2 [c] [] m s.2) ⟨rfl, fun i hi => absurd hi (Nat.not_lt_zero _), fl2_rf⟩ (Nat.zero_le _) ?_
  rintro k ⟨y, m1⟩ - hk ⟨e, h1, h2⟩
  have e : y = nI k := e
  subst e
  unfold f_Arrays_fill_B5
  refine ok_le (zlen gX c) k (fun q => ok_mk ⟨fun i hi => h1 i (by omega), h2⟩) (fun q => ?_)
  refine ok_ix rfl q (by omega) (ok_lt (ok_mk ⟨q, nI_1 k, fun i hi => ?_, fl2_tr h2 (fl2_I (inS_c (by simp)))⟩))
  show (sI m1 c k x).1 c i = x
  by_cases u : i = k
  · rw [u, rd_I1]
  · rw [rd_I0 (by omega)]; exact h1 i (by omega)
