theorem cn_st {p q : Nat → Bool} {n k : Nat} (hk : k < n) (h : ∀ j, j < n → p j = true → q j = true) (h1 : p k = false) (h2 : q k = true) : cn p n < cn q n := by
  induction n with
  | zero => omega
  | succ n ih =>
    show cn p n + (if p n = true then 1 else 0) < cn q n + (if q n = true then 1 else 0)
    by_cases e : k = n
    · subst e
      have := cn_mo (p := p) (q := q) (n := k) (fun j hj => h j (by omega))
      rw [h1, h2, if_neg (by decide), if_pos rfl]
      omega
    · have i := ih (by omega) (fun j hj => h j (by omega))
      have l := h n (by omega)
      by_cases u : p n = true
      · rw [if_pos u, if_pos (l u)]; omega
      · rw [if_neg u]; omega
def rkP (a : Nat → Nat) (i j : Nat) : Bool := decide (a j < a i ∨ (a j = a i ∧ j < i))
/-- which of the n the agent i is, in order -/
def rk (n : Nat) (a : Nat → Nat) (i : Nat) : Nat := cn (rkP a i) n
theorem rk_lt {n i : Nat} {a : Nat → Nat} (hi : i < n) : rk n a i < n := by
  have h1 : rk n a i < cn (fun _ => true) n := cn_st hi (fun _ _ _ => rfl) (decide_eq_false (by omega)) rfl
  have h2 := cn_le (fun _ => true) n
  omega
theorem rk_st {n i i' : Nat} {a : Nat → Nat} (hi : i < n) (h : a i < a i' ∨ (a i = a i' ∧ i < i')) : rk n a i < rk n a i' := by
  refine cn_st hi (fun j _ e => decide_eq_true ?_) (decide_eq_false (by omega)) (decide_eq_true h)
  have := of_decide_eq_true e
  omega
theorem rk_in {n i i' : Nat} {a : Nat → Nat} (hi : i < n) (hi' : i' < n) (e : rk n a i = rk n a i') : i = i' := by
  rcases Nat.lt_trichotomy (a i) (a i') with h | h | h
  · have := rk_st (a := a) hi (Or.inl h); omega
  · rcases Nat.lt_trichotomy i i' with q | q | q
    · have := rk_st (a := a) hi (Or.inr ⟨h, q⟩); omega
    · exact q
    · have := rk_st (a := a) hi' (Or.inr ⟨h.symm, q⟩); omega
  · have := rk_st (a := a) hi' (Or.inl h); omega
theorem sj4 {n : Nat} {f : Nat → Nat} (h4 : n ≤ 4) (hl : ∀ i, i < n → f i < n) (hi : ∀ i j, i < n → j < n → f i = f j → i = j) : ∀ k, k < n → ∃ i, i < n ∧ f i = k := by
  intro k hk
  have ne : ∀ i j, i < n → j < n → i ≠ j → f i ≠ f j := fun i j h1 h2 h3 e => h3 (hi i j h1 h2 e)
  by_cases e0 : f 0 = k
  · exact ⟨0, by omega, e0⟩
  by_cases n1 : n = 1
  · have := hl 0 (by omega); omega
  by_cases e1 : f 1 = k
  · exact ⟨1, by omega, e1⟩
  have l0 := hl 0 (by omega)
  have l1 := hl 1 (by omega)
  have d01 := ne 0 1 (by omega) (by omega) (by decide)
  by_cases n2 : n = 2
  · omega
  by_cases e2 : f 2 = k
  · exact ⟨2, by omega, e2⟩
  have l2 := hl 2 (by omega)
  have d02 := ne 0 2 (by omega) (by omega) (by decide)
  have d12 := ne 1 2 (by omega) (by omega) (by decide)
  by_cases n3 : n = 3
  · omega
  by_cases e3 : f 3 = k
  · exact ⟨3, by omega, e3⟩
  have l3 := hl 3 (by omega)
  have d03 := ne 0 3 (by omega) (by omega) (by decide)
  have d13 := ne 1 3 (by omega) (by omega) (by decide)
  have d23 := ne 2 3 (by omega) (by omega) (by decide)
  omega
theorem rk_sj {n : Nat} {a : Nat → Nat} (h4 : n ≤ 4) : ∀ k, k < n → ∃ i, i < n ∧ rk n a i = k := sj4 h4 (fun _ hi => rk_lt hi) (fun _ _ hi hj e => rk_in hi hj e)
theorem rk_Ior {n : Nat} {a b : Nat → Nat} (h4 : n ≤ 4) (h : ∀ i, i < n → b (rk n a i) = a i) : Ior n a b := by
  intro k hk
  obtain ⟨i, hi, rfl⟩ := rk_sj (a := a) h4 k hk
  rw [h i hi]
  refine ⟨cn_mo (fun j _ e => decide_eq_true (Or.inl (of_decide_eq_true e))), ?_⟩
  refine cn_st hi (fun j _ e => decide_eq_true ?_) (decide_eq_false (by omega)) (decide_eq_true (Nat.le_refl _))
  have := of_decide_eq_true e
  omega
theorem foldX {w n h : Nat} {a : Nat → Nat} {m : zM} (hw : wX w n h a m) (hv : wV n h a) (hz : zlen gX (w + 3) = 4) : ok (f_World_foldedKey w m) (fun p => fl2 [w + 2, w + 3] [] m p.2 ∧ ∃ b, Ior n a b ∧ wV n h b ∧ p.1 = lN (ky 2058 h b n) ∧ ∀ i, i < n → p.2.1 (w + 2) i = nI (rk n a i) ∧ b (rk n a i) = a i) := by
  have n4 := hv.2.1
  have nS : ∀ {c j : Nat}, c ≠ w + 2 → c ≠ w + 3 → inS [w + 2, w + 3] [] c j = false := fun h1 h2 => by simp [inS, h1, h2]
  unfold f_World_foldedKey f_World_foldedKey_L2
  refine ok_loop (fun s : Int32 × zM => ∃ k, k ≤ n ∧ s.1 = nI k ∧ fl2 [w + 2, w + 3] [] m s.2 ∧ ∀ i, i < k → s.2.1 (w + 2) i = nI (rk n a i) ∧ s.2.1 (w + 3) (rk n a i) = nI (a i)) (fun s => n - s.1.toNatClampNeg) ?_ _ ⟨0, by omega, rfl, fl2_rf, fun i hi => absurd hi (Nat.not_lt_zero _)⟩ (by show n - _ < _; omega)
  rintro ⟨x, m1⟩ ⟨k, hk, e1, gf, gn⟩
  have e1 : x = nI k := e1
  subst e1
  have gf : fl2 [w + 2, w + 3] [] m m1 := gf
  have gn : ∀ i, i < k → m1.1 (w + 2) i = nI (rk n a i) ∧ m1.1 (w + 3) (rk n a i) = nI (a i) := gn
  have w1 : m1.1 w 1 = nI n := by rw [fl2_i gf (nS (by omega) (by omega))]; exact hw.2.1
  have w0 : m1.1 w 0 = nI h - 1 := by rw [fl2_i gf (nS (by omega) (by omega))]; exact hw.1
  have wa : ∀ i, i < n → m1.1 (w + 1) i = nI (a i) := fun i hi => by rw [fl2_i gf (nS (by omega) (by omega))]; exact hw.2.2 i hi
  unfold f_World_foldedKey_B2
  rw [w1]
  refine ok_it (fun q => ?_) (fun q => ?_)
  · have := (nI_leI (a := n) (b := k) (by omega) (by omega)).mp q
    have ek : k = n := by omega
    subst ek
    have hb : ∀ i, i < k → (fun j => (m1.1 (w + 3) j).toNatClampNeg) (rk k a i) = a i := by
      intro i hi
      show (m1.1 (w + 3) (rk k a i)).toNatClampNeg = a i
      rw [(gn i hi).2, nI_clamp (by have := hv.2.2.2 i hi; omega)]
    have hr : ∀ j, j < k → m1.1 (w + 3) j = nI ((fun j => (m1.1 (w + 3) j).toNatClampNeg) j) ∧ (fun j => (m1.1 (w + 3) j).toNatClampNeg) j < 2058 := by
      intro j hj
      obtain ⟨i, hi, rfl⟩ := rk_sj (a := a) n4 j hj
      rw [hb i hi]
      exact ⟨(gn i hi).2, hv.2.2.2 i hi⟩
    have vb : wV k h (fun j => (m1.1 (w + 3) j).toNatClampNeg) := ⟨hv.1, n4, hv.2.2.1, fun j hj => (hr j hj).2⟩
    unfold f_World_foldedKey_J91
    refine ok_zl (ok_eb (keyX w0 w1 (fun j hj => (hr j hj).1) hz vb) (ok_mk ⟨gf, _, rk_Ior n4 hb, vb, rfl, fun i hi => ⟨(gn i hi).1, hb i hi⟩⟩))
  · have hkn : k < n := by
      rcases Nat.lt_or_ge k n with z | z
      · exact z
      · exact absurd ((nI_leI (a := n) (b := k) (by omega) (by omega)).mpr z) q
    have ck := hv.2.2.2 k hkn
    unfold f_World_foldedKey_L14
    refine ok_loop (fun s : Int32 × Int32 => ∃ j, j ≤ n ∧ s.2 = nI j ∧ s.1 = nI (cn (rkP a k) j)) (fun s => n - s.2.toNatClampNeg) ?_ _ ⟨0, by omega, rfl, rfl⟩ (by show n - _ < _; omega)
    rintro ⟨y, z⟩ ⟨j, hj, e2, e3⟩
    have e2 : z = nI j := e2
    have e3 : y = nI (cn (rkP a k) j) := e3
    subst e2
    subst e3
    have cl := cn_le (rkP a k) j
    unfold f_World_foldedKey_B14
    rw [w1]
    refine ok_it (fun t => ?_) (fun t => ?_)
    · have := (nI_leI (a := n) (b := j) (by omega) (by omega)).mp t
      have ej : j = n := by omega
      subst ej
      have rl : rk j a k < j := rk_lt hkn
      have er : cn (rkP a k) j = rk j a k := rfl
      rw [er]
      unfold f_World_foldedKey_J66
      refine ok_zl (ok_ix rfl (by omega : k < 4) (by decide) (ok_lt (ok_ix rfl (by omega : k < 4) (by decide) (ok_ix rfl (by omega : rk j a k < 4) (by decide) (ok_lt (ok_mk ⟨⟨k + 1, by omega, nI_1 k, fl2_tr gf (fl2_tr (fl2_I (inS_c (by simp))) (fl2_I (inS_c (by simp)))), fun i hi => ?_⟩, ?_⟩))))))
      · show (sI (sI m1 (w + 2) k (nI (rk j a k))) (w + 3) (rk j a k) _).1 (w + 2) i = _ ∧ (sI (sI m1 (w + 2) k (nI (rk j a k))) (w + 3) (rk j a k) _).1 (w + 3) (rk j a i) = _
        rw [rd_I0 (m := sI m1 (w + 2) k (nI (rk j a k))) (k := w + 2) (by omega)]
        by_cases u : i = k
        · subst u
          rw [rd_I1, rd_I1, rd_I0 (by omega), wa i hkn]
          exact ⟨rfl, rfl⟩
        · have ne : rk j a i ≠ rk j a k := fun z => u (rk_in (by omega) hkn z)
          rw [rd_I0 (by omega), rd_I0 (by omega), rd_I0 (by omega)]
          exact gn i (by omega)
      · show j - (nI k + 1).toNatClampNeg < j - (nI k).toNatClampNeg
        rw [nI_1, nI_clamp (by omega), nI_clamp (by omega)]; omega
    · have hjn : j < n := by
        rcases Nat.lt_or_ge j n with z | z
        · exact z
        · exact absurd ((nI_leI (a := n) (b := j) (by omega) (by omega)).mpr z) t
      have cj := hv.2.2.2 j hjn
      have mu : n - (nI j + 1).toNatClampNeg < n - (nI j).toNatClampNeg := by rw [nI_1, nI_clamp (by omega), nI_clamp (by omega)]; omega
      have es : ∀ b : Bool, rkP a k j = b → cn (rkP a k) (j + 1) = cn (rkP a k) j + (if b = true then 1 else 0) := fun b hb => by rw [← hb]; rfl
      unfold f_World_foldedKey_J57 f_World_foldedKey_J60
      refine ok_ix rfl (by omega : j < 4) (by decide) (ok_ix rfl (by omega : k < 4) (by decide) ?_)
      rw [wa j hjn, wa k hkn]
      refine ok_it (fun u => ?_) (fun u => ?_)
      · have u1 := (nI_ltI (by omega) (by omega)).mp u
        refine ok_mk ⟨⟨j + 1, by omega, nI_1 j, ?_⟩, mu⟩
        show nI (cn (rkP a k) j) + 1 = nI (cn (rkP a k) (j + 1))
        rw [es true (decide_eq_true (Or.inl u1)), nI_1]; rfl
      · have u1 : ¬ a j < a k := fun z => u ((nI_ltI (by omega) (by omega)).mpr z)
        refine ok_ix rfl (by omega : j < 4) (by decide) (ok_ix rfl (by omega : k < 4) (by decide) ?_)
        rw [wa j hjn, wa k hkn]
        refine ok_it (fun v => ?_) (fun v => ?_)
        · have v1 := (nI_eq (by omega) (by omega)).mp v
          refine ok_it (fun t => ?_) (fun t => ?_)
          · have t1 := (nI_leI (a := k) (b := j) (by omega) (by omega)).mp t
            refine ok_mk ⟨⟨j + 1, by omega, nI_1 j, ?_⟩, mu⟩
            show nI (cn (rkP a k) j) = nI (cn (rkP a k) (j + 1))
            rw [es false (decide_eq_false (by omega))]; rfl
          · have t1 : ¬ k ≤ j := fun z => t ((nI_leI (a := k) (b := j) (by omega) (by omega)).mpr z)
            refine ok_mk ⟨⟨j + 1, by omega, nI_1 j, ?_⟩, mu⟩
            show nI (cn (rkP a k) j) + 1 = nI (cn (rkP a k) (j + 1))
            rw [es true (decide_eq_true (by omega)), nI_1]; rfl
        · have v1 : a j ≠ a k := fun z => v (by rw [z])
          refine ok_mk ⟨⟨j + 1, by omega, nI_1 j, ?_⟩, mu⟩
          show nI (cn (rkP a k) j) = nI (cn (rkP a k) (j + 1))
          rw [es false (decide_eq_false (by omega))]; rfl
