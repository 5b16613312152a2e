theorem upn_e {f : Nat → Nat} {k x : Nat} : upn f k x k = x := if_pos rfl
theorem upn_o {f : Nat → Nat} {k x i : Nat} (h : i ≠ k) : upn f k x i = f i := if_neg h
theorem ruV_m {P P' F : Nat → Nat} (h : ruV P F) (h0 : P 0 ≤ P' 0) (h1 : P 1 ≤ P' 1) (h2 : P 2 ≤ P' 2) : ruV P' F := by
  obtain ⟨a, b, c, d⟩ := h
  refine ⟨a, by omega, fun z => ?_, fun z => ?_⟩
  · have := c z; omega
  · have := d z; omega
theorem dV_nm {P : Nat → Nat} {k u : Nat} (h : dV P) (hk : k < 3) (h6 : P k < 6) (hu : ltO u) : dV (upn (upn P (10 + 6 * k + P k) u) k (P k + 1)) := by
  obtain ⟨a, ⟨b1, b2, b3, b4, b5, b6, b7⟩, c, d, e⟩ := h
  have o : ∀ i, i ≠ k → i ≠ 10 + 6 * k + P k → upn (upn P (10 + 6 * k + P k) u) k (P k + 1) i = P i := fun i h1 h2 => by rw [upn_o h1, upn_o h2]
  have ek : upn (upn P (10 + 6 * k + P k) u) k (P k + 1) k = P k + 1 := upn_e
  have en : upn (upn P (10 + 6 * k + P k) u) k (P k + 1) (10 + 6 * k + P k) = u := by rw [upn_o (by omega), upn_e]
  have ge : ∀ i, i < 3 → P i ≤ upn (upn P (10 + 6 * k + P k) u) k (P k + 1) i := by
    intro i hi
    by_cases z : i = k
    · subst z; rw [ek]; omega
    · rw [o i z (by omega)]; exact Nat.le_refl _
  refine ⟨fun i hi => ?_, ?_, fun r hr => ?_, fun i hi => ?_, fun i j hi hj hl => ?_⟩
  · by_cases z : i = k
    · subst z
      rw [ek]
      refine ⟨by omega, fun j hj => ?_⟩
      rcases Nat.lt_or_ge j (P i) with y | y
      · rw [o _ (by omega) (by omega)]; exact (a i hi).2 j y
      · rw [show j = P i by omega, en]; exact hu
    · rw [o i z (by omega)]
      refine ⟨(a i hi).1, fun j hj => ?_⟩
      have := (a i hi).1
      rw [o _ (by omega) (by omega)]; exact (a i hi).2 j hj
  · rw [o 3 (by omega) (by omega), o 4 (by omega) (by omega), o 5 (by omega) (by omega), o 6 (by omega) (by omega), o 7 (by omega) (by omega), o 8 (by omega) (by omega)]
    exact ⟨b1, b2, b3, b4, b5, b6, b7⟩
  · rw [o 8 (by omega) (by omega)] at hr
    have et : tF (upn (upn P (10 + 6 * k + P k) u) k (P k + 1)) r = tF P r := by
      funext j
      unfold tF
      exact o _ (by omega) (by omega)
    rw [et]
    exact ruV_m (c r hr) (ge 0 (by omega)) (ge 1 (by omega)) (ge 2 (by omega))
  · rw [o 5 (by omega) (by omega)] at hi
    rw [o (28 + 7 * i) (by omega) (by omega)]
    refine ⟨(d i hi).1, fun c' hc' => ?_⟩
    rw [o _ (by omega) (by omega), o _ (by omega) (by omega)]
    exact (d i hi).2 c' hc'
  · by_cases z : i = k
    · subst z
      rw [ek] at hl
      rw [o _ (by omega) (by omega)]
      exact e i j hi hj (by omega)
    · rw [o i z (by omega)] at hl
      rw [o _ (by omega) (by omega)]
      exact e i j hi hj hl
/-- one place below 10 that is no count and no number of rules -/
theorem dV_p {P P' : Nat → Nat} (h : dV P) (o : ∀ i, i < 3 ∨ i = 5 ∨ i = 8 ∨ 10 ≤ i → P' i = P i) (hp : P' 3 ≤ 4 ∧ P' 4 ≤ 1 ∧ P' 6 ≤ 6 ∧ P' 7 ≤ 6 ∧ (P' 6 = 0 ↔ P' 7 = 0)) : dV P' := by
  obtain ⟨a, ⟨b1, b2, b3, b4, b5, b6, b7⟩, c, d, e⟩ := h
  refine ⟨fun i hi => ?_, ⟨hp.1, hp.2.1, by rw [o 5 (by omega)]; exact b3, hp.2.2.1, hp.2.2.2.1, by rw [o 8 (by omega)]; exact b6, hp.2.2.2.2⟩, fun r hr => ?_, fun i hi => ?_, fun i j hi hj hl => ?_⟩
  · rw [o i (by omega)]
    refine ⟨(a i hi).1, fun j hj => ?_⟩
    rw [o _ (by omega)]; exact (a i hi).2 j hj
  · rw [o 8 (by omega)] at hr
    have et : tF P' r = tF P r := by
      funext j
      unfold tF
      exact o _ (by omega)
    rw [et]
    exact ruV_m (c r hr) (by rw [o 0 (by omega)]; exact Nat.le_refl _) (by rw [o 1 (by omega)]; exact Nat.le_refl _) (by rw [o 2 (by omega)]; exact Nat.le_refl _)
  · rw [o 5 (by omega)] at hi
    rw [o (28 + 7 * i) (by omega)]
    refine ⟨(d i hi).1, fun c' hc' => ?_⟩
    rw [o _ (by omega), o _ (by omega)]
    exact (d i hi).2 c' hc'
  · rw [o i (by omega)] at hl
    rw [o _ (by omega)]
    exact e i j hi hj hl
/-- a place of what must never be, behind those that are told -/
theorem dV_v {P : Nat → Nat} {i v : Nat} (h : dV P) (hi : 28 + 7 * P 5 ≤ i) (h56 : i < 56) : dV (upn P i v) := by
  obtain ⟨a, ⟨b1, b2, b3, b4, b5, b6, b7⟩, c, d, e⟩ := h
  have o : ∀ j, j < 28 + 7 * P 5 ∨ 56 ≤ j → upn P i v j = P j := fun j hj => upn_o (by omega)
  refine ⟨fun k hk => ?_, ?_, fun r hr => ?_, fun k hk => ?_, fun k j hk hj hl => ?_⟩
  · rw [o k (by omega)]
    have := (a k hk).1
    refine ⟨this, fun j hj => ?_⟩
    rw [o _ (by omega)]; exact (a k hk).2 j hj
  · rw [o 3 (by omega), o 4 (by omega), o 5 (by omega), o 6 (by omega), o 7 (by omega), o 8 (by omega)]
    exact ⟨b1, b2, b3, b4, b5, b6, b7⟩
  · rw [o 8 (by omega)] at hr
    have et : tF (upn P i v) r = tF P r := by
      funext j
      unfold tF
      exact o _ (by omega)
    rw [et]
    exact ruV_m (c r hr) (by rw [o 0 (by omega)]; exact Nat.le_refl _) (by rw [o 1 (by omega)]; exact Nat.le_refl _) (by rw [o 2 (by omega)]; exact Nat.le_refl _)
  · rw [o 5 (by omega)] at hk
    have d1 := (d k hk).1
    rw [o (28 + 7 * k) (by omega)]
    refine ⟨d1, fun c' hc' => ?_⟩
    rw [o _ (by omega), o _ (by omega)]
    exact (d k hk).2 c' hc'
  · rw [o k (by omega)] at hl
    rw [o _ (by omega)]
    exact e k j hk hj hl
theorem dV_5 {P : Nat → Nat} (h : dV P) (h5 : P 5 < 4) (hn : P (28 + 7 * P 5) ≤ 3 ∧ ∀ c, c < P (28 + 7 * P 5) → P (28 + 7 * P 5 + 1 + 2 * c) ≤ 4 ∧ P (28 + 7 * P 5 + 2 + 2 * c) < 6) : dV (upn P 5 (P 5 + 1)) := by
  obtain ⟨a, ⟨b1, b2, b3, b4, b5, b6, b7⟩, c, d, e⟩ := h
  have o : ∀ j, j ≠ 5 → upn P 5 (P 5 + 1) j = P j := fun j hj => upn_o hj
  refine ⟨fun k hk => ?_, ?_, fun r hr => ?_, fun k hk => ?_, fun k j hk hj hl => ?_⟩
  · rw [o k (by omega)]
    refine ⟨(a k hk).1, fun j hj => ?_⟩
    rw [o _ (by omega)]; exact (a k hk).2 j hj
  · rw [o 3 (by omega), o 4 (by omega), upn_e, o 6 (by omega), o 7 (by omega), o 8 (by omega)]
    exact ⟨b1, b2, by omega, b4, b5, b6, b7⟩
  · rw [o 8 (by omega)] at hr
    have et : tF (upn P 5 (P 5 + 1)) r = tF P r := by
      funext j
      unfold tF
      exact o _ (by omega)
    rw [et]
    exact ruV_m (c r hr) (by rw [o 0 (by omega)]; exact Nat.le_refl _) (by rw [o 1 (by omega)]; exact Nat.le_refl _) (by rw [o 2 (by omega)]; exact Nat.le_refl _)
  · rw [upn_e] at hk
    rw [o (28 + 7 * k) (by omega)]
    rcases Nat.lt_or_ge k (P 5) with z | z
    · refine ⟨(d k z).1, fun c' hc' => ?_⟩
      rw [o _ (by omega), o _ (by omega)]
      exact (d k z).2 c' hc'
    · have ek : k = P 5 := by omega
      rw [ek]
      refine ⟨hn.1, fun c' hc' => ?_⟩
      rw [o _ (by omega), o _ (by omega)]
      exact hn.2 c' hc'
  · rw [o k (by omega)] at hl
    rw [o _ (by omega)]
    exact e k j hk hj hl
theorem rwA_o {P F : Nat → Nat} {i : Nat} (h : i ≠ 8) (h2 : i < 56 + 8 * P 8) : rwA P F i = P i := by
  unfold rwA
  rw [if_neg h, if_neg (by omega)]
theorem dV_r {P F : Nat → Nat} (h : dV P) (h8 : P 8 < 16) (hF : ruV P F) : dV (rwA P F) := by
  obtain ⟨a, ⟨b1, b2, b3, b4, b5, b6, b7⟩, c, d, e⟩ := h
  have o : ∀ j, j ≠ 8 → j < 56 + 8 * P 8 → rwA P F j = P j := fun j h1 h2 => rwA_o h1 h2
  have e8 : rwA P F 8 = P 8 + 1 := if_pos rfl
  refine ⟨fun k hk => ?_, ?_, fun r hr => ?_, fun k hk => ?_, fun k j hk hj hl => ?_⟩
  · have := (a k hk).1
    rw [o k (by omega) (by omega)]
    refine ⟨this, fun j hj => ?_⟩
    rw [o _ (by omega) (by omega)]; exact (a k hk).2 j hj
  · rw [o 3 (by omega) (by omega), o 4 (by omega) (by omega), o 5 (by omega) (by omega), o 6 (by omega) (by omega), o 7 (by omega) (by omega), e8]
    exact ⟨b1, b2, b3, b4, b5, by omega, b7⟩
  · rw [e8] at hr
    have k0 : P 0 ≤ rwA P F 0 := by rw [o 0 (by omega) (by omega)]; exact Nat.le_refl _
    have k1 : P 1 ≤ rwA P F 1 := by rw [o 1 (by omega) (by omega)]; exact Nat.le_refl _
    have k2 : P 2 ≤ rwA P F 2 := by rw [o 2 (by omega) (by omega)]; exact Nat.le_refl _
    rcases Nat.lt_or_ge r (P 8) with z | z
    · have cg : ∀ j, j < 8 → tF (rwA P F) r j = tF P r j := fun j hj => o _ (by omega) (by omega)
      obtain ⟨⟨f0, f1, f2, f3, f4, f5, f6, f7⟩, r1, r2, r3⟩ := ruV_m (c r z) k0 k1 k2
      refine ⟨⟨?_, ?_, ?_, ?_, ?_, ?_, ?_, ?_⟩, ?_, ?_, ?_⟩
      · rw [cg 0 (by omega)]; exact f0
      · rw [cg 1 (by omega)]; exact f1
      · rw [cg 2 (by omega)]; exact f2
      · rw [cg 3 (by omega)]; exact f3
      · rw [cg 4 (by omega)]; exact f4
      · rw [cg 5 (by omega)]; exact f5
      · rw [cg 6 (by omega)]; exact f6
      · rw [cg 7 (by omega)]; exact f7
      · rw [cg 4 (by omega)]; exact r1
      · rw [cg 0 (by omega), cg 3 (by omega)]; exact r2
      · rw [cg 0 (by omega), cg 3 (by omega), cg 5 (by omega)]; exact r3
    · have er : r = P 8 := by omega
      have cg : ∀ j, j < 8 → tF (rwA P F) r j = F j := fun j hj => by
        unfold tF rwA
        rw [if_neg (by omega), if_pos (by omega), er]
        congr 1
        omega
      obtain ⟨⟨f0, f1, f2, f3, f4, f5, f6, f7⟩, r1, r2, r3⟩ := ruV_m hF k0 k1 k2
      refine ⟨⟨?_, ?_, ?_, ?_, ?_, ?_, ?_, ?_⟩, ?_, ?_, ?_⟩
      · rw [cg 0 (by omega)]; exact f0
      · rw [cg 1 (by omega)]; exact f1
      · rw [cg 2 (by omega)]; exact f2
      · rw [cg 3 (by omega)]; exact f3
      · rw [cg 4 (by omega)]; exact f4
      · rw [cg 5 (by omega)]; exact f5
      · rw [cg 6 (by omega)]; exact f6
      · rw [cg 7 (by omega)]; exact f7
      · rw [cg 4 (by omega)]; exact r1
      · rw [cg 0 (by omega), cg 3 (by omega)]; exact r2
      · rw [cg 0 (by omega), cg 3 (by omega), cg 5 (by omega)]; exact r3
  · rw [o 5 (by omega) (by omega)] at hk
    rw [o (28 + 7 * k) (by omega) (by omega)]
    have := (d k hk).1
    refine ⟨this, fun c' hc' => ?_⟩
    rw [o _ (by omega) (by omega), o _ (by omega) (by omega)]
    exact (d k hk).2 c' hc'
  · rw [o k (by omega) (by omega)] at hl
    rw [o _ (by omega) (by omega)]
    exact e k j hk hj hl
/-- what is read keeps a table a table -/
theorem nmsR_k {n k : Nat} {g : Nat → Nat} (hk : k < 3) : ∀ (f t : Nat) (P : Nat → Nat) (t' : Nat) (P' : Nat → Nat), dV P → P k + f = 6 → (∀ t u, nmR n g t = .inr u → ltO u) → nmsR n g k f t P = .inr (t', P') → dV P' ∧ P k < P' k ∧ ∀ i, i ≠ k → i < 10 → P' i = P i := by
  intro f
  induction f with
  | zero => intro t P t' P' h e hu z; cases z
  | succ f ih =>
    intro t P t' P' h e hu z
    unfold nmsR at z
    cases en : nmR n g t with
    | inl c => rw [en] at z; cases z
    | inr u =>
      rw [en] at z
      have z : (if cBo (tkn P u) = true then .inl (3, tst n g t) else if cBo (iSg n g (t + 1) 44) = true then nmsR n g k f (t + 2) (upn (upn P (10 + 6 * k + P k) u) k (P k + 1)) else .inr (t + 1, upn (upn P (10 + 6 * k + P k) u) k (P k + 1))) = (.inr (t', P') : PRs) := z
      have d1 := dV_nm h hk (by omega) (hu t u en)
      have ek : upn (upn P (10 + 6 * k + P k) u) k (P k + 1) k = P k + 1 := upn_e
      have o : ∀ i, i ≠ k → i < 10 → upn (upn P (10 + 6 * k + P k) u) k (P k + 1) i = P i := fun i h1 h2 => by rw [upn_o h1, upn_o (by omega)]
      split at z
      · cases z
      · split at z
        · obtain ⟨i1, i2, i3⟩ := ih _ _ t' P' d1 (by rw [ek]; omega) hu z
          rw [ek] at i2
          exact ⟨i1, by omega, fun i h1 h2 => (i3 i h1 h2).trans (o i h1 h2)⟩
        · cases z
          exact ⟨d1, by rw [ek]; omega, o⟩
theorem nmR_l {n : Nat} {g : Nat → Nat} : ∀ t u, nmR n g t = .inr u → ltO u := by
  intro t u h
  unfold nmR at h
  split at h
  · rename_i q
    have iW := cBo_iff.mp q
    split at h
    · rename_i l
      cases h
      exact ltO_pk l (wdf_ok (Nat.le_of_lt iW.1.1) (Nat.le_refl _))
    · cases h
  · cases h
theorem knR_l {n k t j : Nat} {g P : Nat → Nat} (h : knR n g P k t = .inr j) : j < P k := by
  unfold knR at h
  cases e : nmR n g t with
  | inl c => rw [e] at h; cases h
  | inr u =>
    rw [e] at h
    have h : (if fi (fun j => decide (P (10 + 6 * k + j) = u)) (P k) < P k then .inr (fi (fun j => decide (P (10 + 6 * k + j) = u)) (P k)) else .inl (3, tst n g t)) = (.inr j : (Nat × Nat) ⊕ Nat) := h
    split at h
    · rename_i q; cases h; exact q
    · cases h
theorem nuR_l {n t lo hi v : Nat} {g : Nat → Nat} (h : nuR n g t lo hi = .inr v) : lo ≤ v ∧ v ≤ hi := by
  unfold nuR at h
  split at h
  · split at h
    · cases h
    · split at h
      · rename_i q; cases h; exact q
      · cases h
  · cases h
theorem mbR_l {n w k t t' v : Nat} {g P : Nat → Nat} (h : mbR n g P w k t = .inr (t', v)) : v ≤ P k := by
  unfold mbR at h
  split at h
  · cases e : knR n g P k (t + 1) with
    | inl c => rw [e] at h; cases h
    | inr j =>
      rw [e] at h
      cases h
      exact knR_l e
  · cases h; exact Nat.zero_le _
