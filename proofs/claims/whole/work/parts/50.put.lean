theorem cn_u {p q : Nat → Bool} {n s : Nat} (h : ∀ j, j < n → j ≠ s → q j = p j) : cn q n ≤ cn p n + 1 := by
  induction n with
  | zero => exact Nat.zero_le _
  | succ n ih =>
    show cn q n + (if q n = true then 1 else 0) ≤ cn p n + (if p n = true then 1 else 0) + 1
    by_cases e : n = s
    · have : cn q n = cn p n := cn_cg (fun j hj => h j (by omega) (by omega))
      rw [this]
      split <;> split <;> omega
    · have i := ih (fun j hj => h j (by omega))
      rw [h n (by omega) e]
      omega
/-- a new key in the slot where the search for it ended keeps the table -/
theorem prb_put {sl sl' : Nat → Int32} {ke ke' : Nat → Int64} {N d : Nat} {v : Int64} (h : prb sl ke N) (hN : N ≤ 608) (hd : d < 2048) (hb : ∀ e, e < d → sl ((hsh v + e) % 2048) ≠ -1) (hs : sl ((hsh v + d) % 2048) = -1) (k1 : ∀ i, i < N → ke' i = ke i) (k2 : ke' N = v) (s1 : sl' ((hsh v + d) % 2048) = nI N) (s2 : ∀ s, s ≠ (hsh v + d) % 2048 → sl' s = sl s) : prb sl' ke' (N + 1) := by
  have nb : ∀ s, sl s ≠ -1 → sl' s ≠ -1 := by
    intro s q
    by_cases e : s = (hsh v + d) % 2048
    · rw [e, s1]; exact nI_ne_m1 (by omega)
    · rw [s2 s e]; exact q
  refine ⟨fun i hi => ?_, fun s hs2 => ?_, ?_⟩
  · by_cases e : i = N
    · subst e
      rw [k2]
      exact ⟨d, hd, s1, fun e he => nb _ (hb e he)⟩
    · obtain ⟨di, h1, h2, h3⟩ := h.1 i (by omega)
      rw [k1 i (by omega)]
      refine ⟨di, h1, ?_, fun e he => nb _ (h3 e he)⟩
      rw [s2 _ (fun z => by rw [z, hs] at h2; exact nI_ne_m1 (by omega) h2.symm)]
      exact h2
  · by_cases e : s = (hsh v + d) % 2048
    · exact Or.inr ⟨N, by omega, by rw [e]; exact s1⟩
    · rw [s2 s e]
      rcases h.2.1 s hs2 with z | ⟨i, hi, z⟩
      · exact Or.inl z
      · exact Or.inr ⟨i, by omega, z⟩
  · have := cn_u (p := fun s => decide (sl s ≠ -1)) (q := fun s => decide (sl' s ≠ -1)) (n := 2048) (s := (hsh v + d) % 2048) (fun j _ hj => by show decide (sl' j ≠ -1) = decide (sl j ≠ -1); rw [s2 j hj])
    have := h.2.2
    omega
