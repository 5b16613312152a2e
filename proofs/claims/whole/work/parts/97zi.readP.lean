theorem nvR_k {n : Nat} {g : Nat → Nat} : ∀ (f t : Nat) (P : Nat → Nat) (c t' : Nat) (P' : Nat → Nat), dV P → P 5 < 4 → c + f = 3 → (∀ c', c' < c → P (28 + 7 * P 5 + 1 + 2 * c') ≤ 4 ∧ P (28 + 7 * P 5 + 2 + 2 * c') < 6) → nvR n g f t P c = .inr (t', P') → dV P' ∧ ∀ i, i ≠ 5 → i < 10 → P' i = P i := by
  intro f
  induction f with
  | zero => intro t P c t' P' h h5 e hc z; cases z
  | succ f ih =>
    intro t P c t' P' h h5 e hc z
    unfold nvR at z
    cases en : nuR n g t 1 4 with
    | inl x => rw [en] at z; cases z
    | inr v =>
      rw [en] at z
      cases ek : knR n g P 0 (t + 1) with
      | inl x => rw [ek] at z; cases z
      | inr s =>
        rw [ek] at z
        have z : (if iWb n g (t + 2) 8 = true then nvR n g f (t + 3) (upn (upn P (28 + 7 * P 5 + 1 + 2 * c) v) (28 + 7 * P 5 + 2 + 2 * c) s) (c + 1) else .inr (t + 2, upn (upn (upn (upn P (28 + 7 * P 5 + 1 + 2 * c) v) (28 + 7 * P 5 + 2 + 2 * c) s) (28 + 7 * P 5) (c + 1)) 5 (P 5 + 1))) = (.inr (t', P') : PRs) := z
        have hv := nuR_l en
        have hs := knR_l ek
        have p0 := (h.1 0 (by decide)).1
        have d1 : dV (upn P (28 + 7 * P 5 + 1 + 2 * c) v) := dV_v h (by omega) (by omega)
        have q5 : upn P (28 + 7 * P 5 + 1 + 2 * c) v 5 = P 5 := upn_o (by omega)
        have d2 : dV (upn (upn P (28 + 7 * P 5 + 1 + 2 * c) v) (28 + 7 * P 5 + 2 + 2 * c) s) := dV_v d1 (by rw [q5]; omega) (by omega)
        have r5 : upn (upn P (28 + 7 * P 5 + 1 + 2 * c) v) (28 + 7 * P 5 + 2 + 2 * c) s 5 = P 5 := by rw [upn_o (by omega), q5]
        have o : ∀ i, i < 10 → upn (upn P (28 + 7 * P 5 + 1 + 2 * c) v) (28 + 7 * P 5 + 2 + 2 * c) s i = P i := fun i hi => by rw [upn_o (by omega), upn_o (by omega)]
        have en' : ∀ c', c' < c + 1 → upn (upn P (28 + 7 * P 5 + 1 + 2 * c) v) (28 + 7 * P 5 + 2 + 2 * c) s (28 + 7 * P 5 + 1 + 2 * c') ≤ 4 ∧ upn (upn P (28 + 7 * P 5 + 1 + 2 * c) v) (28 + 7 * P 5 + 2 + 2 * c) s (28 + 7 * P 5 + 2 + 2 * c') < 6 := by
          intro c' hc'
          rcases Nat.lt_or_ge c' c with y | y
          · rw [upn_o (by omega), upn_o (by omega), upn_o (by omega), upn_o (by omega)]; exact hc c' y
          · rw [show c' = c by omega, upn_o (by omega), upn_e, upn_e]
            omega
        split at z
        · obtain ⟨i1, i2⟩ := ih _ _ _ t' P' d2 (by rw [r5]; exact h5) (by omega) (by rw [r5]; exact en') z
          exact ⟨i1, fun i h1 h2 => (i2 i h1 h2).trans (o i h2)⟩
        · cases z
          have d3 := dV_v (i := 28 + 7 * P 5) (v := c + 1) d2 (by rw [r5]; exact Nat.le_refl _) (by omega)
          have s5 : upn (upn (upn P (28 + 7 * P 5 + 1 + 2 * c) v) (28 + 7 * P 5 + 2 + 2 * c) s) (28 + 7 * P 5) (c + 1) 5 = P 5 := by rw [upn_o (by omega), r5]
          have d4 := dV_5 d3 (by rw [s5]; exact h5) (by
            rw [s5, upn_e]
            refine ⟨by omega, fun c' hc' => ⟨?_, ?_⟩⟩
            · rw [upn_o (by omega)]; exact (en' c' hc').1
            · rw [upn_o (by omega)]; exact (en' c' hc').2)
          rw [s5] at d4
          exact ⟨d4, fun i h1 h2 => by rw [upn_o h1, upn_o (by omega)]; exact o i h2⟩
theorem agR_k {n t t' : Nat} {g P P' : Nat → Nat} (h : dV P) (h8 : P 8 < 16) (z : agR n g t P = .inr (t', P')) : dV P' ∧ ∀ i, i ≠ 8 → i < 10 → P' i = P i := by
  have p0 := (h.1 0 (by decide)).1
  have p2 := (h.1 2 (by decide)).1
  unfold agR at z
  cases e1 : knR n g P 0 t with
  | inl x => rw [e1] at z; cases z
  | inr a =>
    rw [e1] at z
    cases e2 : mbR n g P 11 2 (t + 1) with
    | inl x => simp only [e2] at z; cases z
    | inr x =>
      obtain ⟨t2, w⟩ := x
      simp only [e2] at z
      split at z
      · cases e3 : knR n g P 0 (t2 + 1) with
        | inl x => simp only [e3] at z; cases z
        | inr d =>
          simp only [e3] at z
          cases e4 : mbR n g P 13 2 (t2 + 2) with
          | inl x => simp only [e4] at z; cases z
          | inr x =>
            obtain ⟨t4, gv⟩ := x
            simp only [e4] at z
            cases z
            have h1 := knR_l e1
            have h2 := mbR_l e2
            have h3 := knR_l e3
            have h4 := mbR_l e4
            refine ⟨dV_r h h8 ⟨⟨?_, ?_, ?_, ?_, ?_, ?_, ?_, ?_⟩, ?_, ?_, ?_⟩, fun i h1 h2 => rwA_o h1 (by omega)⟩
            · show 0 ≤ 1; omega
            · show a < 6; omega
            · show w < 7; omega
            · show d < 6; omega
            · show gv < 7; omega
            · show 0 < 7; omega
            · show 0 < 7; omega
            · show 0 ≤ 1; omega
            · exact h4
            · exact fun _ => h3
            · exact fun y => absurd rfl y
      · cases z
theorem hmR_k {n t t' : Nat} {g P P' : Nat → Nat} (h : dV P) (h8 : P 8 < 16) (z : hmR n g t P = .inr (t', P')) : dV P' ∧ ∀ i, i ≠ 8 → i < 10 → P' i = P i := by
  have p0 := (h.1 0 (by decide)).1
  have p1 := (h.1 1 (by decide)).1
  have p2 := (h.1 2 (by decide)).1
  unfold hmR at z
  cases e1 : knR n g P 1 t with
  | inl x => rw [e1] at z; cases z
  | inr a =>
    simp only [e1] at z
    split at z
    · cases e2 : knR n g P 2 (t + 2) with
      | inl x => simp only [e2] at z; cases z
      | inr w =>
        simp only [e2] at z
        split at z
        · cases e3 : knR n g P 1 (t + 4) with
          | inl x => simp only [e3] at z; cases z
          | inr d =>
            simp only [e3] at z
            cases e4 : mbR n g P 15 2 (t + 5) with
            | inl x => simp only [e4] at z; cases z
            | inr x =>
              obtain ⟨t2, gv⟩ := x
              simp only [e4] at z
              cases e5 : mbR n g P 16 2 t2 with
              | inl x => simp only [e5] at z; cases z
              | inr x =>
                obtain ⟨t3, tl⟩ := x
                simp only [e5] at z
                cases e6 : mbR n g P (if iWb n g t3 18 = true then 18 else 17) 0 t3 with
                | inl x => simp only [e6] at z; cases z
                | inr x =>
                  obtain ⟨t4, ot⟩ := x
                  simp only [e6] at z
                  cases z
                  have h1 := knR_l e1
                  have h2 := knR_l e2
                  have h3 := knR_l e3
                  have h4 := mbR_l e4
                  have h5 := mbR_l e5
                  have h6 := mbR_l e6
                  refine ⟨dV_r h h8 ⟨⟨?_, ?_, ?_, ?_, ?_, ?_, ?_, ?_⟩, ?_, ?_, ?_⟩, fun i h1 h2 => rwA_o h1 (by omega)⟩
                  · show 1 ≤ 1; omega
                  · show a < 6; omega
                  · show w + 1 < 7; omega
                  · show d < 6; omega
                  · show gv < 7; omega
                  · show tl < 7; omega
                  · show ot < 7; omega
                  · show (if iWb n g t3 18 = true then 1 else 0) ≤ 1
                    split <;> omega
                  · exact h4
                  · exact fun y => absurd y (show ¬ (1 : Nat) = 0 by omega)
                  · exact fun _ => ⟨h3, h5⟩
        · cases z
    · cases z
theorem wnR_k {n t t' : Nat} {g P P' : Nat → Nat} (h : dV P) (z : wnR n g t P = .inr (t', P')) : dV P' ∧ P' 6 ≠ 0 ∧ ∀ i, i ≠ 6 → i ≠ 7 → P' i = P i := by
  have p0 := (h.1 0 (by decide)).1
  unfold wnR at z
  cases e1 : knR n g P 0 t with
  | inl x => rw [e1] at z; cases z
  | inr a =>
    simp only [e1] at z
    cases e2 : knR n g P 0 (t + 1) with
    | inl x => simp only [e2] at z; cases z
    | inr c =>
      simp only [e2] at z
      cases z
      have h1 := knR_l e1
      have h2 := knR_l e2
      have o : ∀ i, i ≠ 6 → i ≠ 7 → upn (upn P 6 (a + 1)) 7 (c + 1) i = P i := fun i u v => by rw [upn_o v, upn_o u]
      have e6 : upn (upn P 6 (a + 1)) 7 (c + 1) 6 = a + 1 := by rw [upn_o (by omega), upn_e]
      have e7 : upn (upn P 6 (a + 1)) 7 (c + 1) 7 = c + 1 := upn_e
      refine ⟨dV_p h (fun i hi => o i (by omega) (by omega)) ?_, by rw [e6]; omega, o⟩
      rw [o 3 (by omega) (by omega), o 4 (by omega) (by omega), e6, e7]
      exact ⟨h.2.1.1, h.2.1.2.1, by omega, by omega, by omega⟩
theorem opR_k {n t t' : Nat} {g P P' : Nat → Nat} (h : dV P) (h0 : P 0 = 0) (z : opR n g t P = .inr (t', P')) : dV P' ∧ 2 ≤ P' 3 ∧ 0 < P' 0 ∧ ∀ i, i ≠ 0 → i ≠ 3 → i < 10 → P' i = P i := by
  unfold opR at z
  split at z
  · cases e1 : nuR n g (t + 1) 2 4 with
    | inl x => simp only [e1] at z; cases z
    | inr v =>
      simp only [e1] at z
      split at z
      · have hv := nuR_l e1
        have o : ∀ i, i ≠ 3 → upn P 3 v i = P i := fun i hi => upn_o hi
        have d1 : dV (upn P 3 v) := dV_p h (fun i hi => o i (by omega)) (by
          rw [upn_e, o 4 (by omega), o 6 (by omega), o 7 (by omega)]
          exact ⟨by omega, h.2.1.2.1, h.2.1.2.2.2.1, h.2.1.2.2.2.2.1, h.2.1.2.2.2.2.2.2⟩)
        obtain ⟨a, b, c⟩ := nmsR_k (k := 0) (by decide) 6 _ _ t' P' d1 (by rw [o 0 (by omega), h0]) nmR_l z
        refine ⟨a, ?_, by omega, fun i h1 h2 h3 => (c i h1 h3).trans (o i h2)⟩
        rw [c 3 (by omega) (by omega), upn_e]; omega
      · cases z
  · cases z
theorem stR_k {n t t' : Nat} {g P P' : Nat → Nat} (h : dV P) (z : stmR n g t P = .inr (t', P')) : dV P' ∧ P' 3 = P 3 ∧ P' 0 = P 0 := by
  unfold stmR at z
  split at z
  · split at z
    · rename_i h1
      obtain ⟨a, b, c⟩ := nmsR_k (k := 1) (by decide) 6 _ _ t' P' h (by omega) nmR_l z
      exact ⟨a, c 3 (by omega) (by omega), c 0 (by omega) (by omega)⟩
    · cases z
  · split at z
    · split at z
      · rename_i h1
        obtain ⟨a, b, c⟩ := nmsR_k (k := 2) (by decide) 6 _ _ t' P' h (by omega) nmR_l z
        exact ⟨a, c 3 (by omega) (by omega), c 0 (by omega) (by omega)⟩
      · cases z
    · split at z
      · have o : ∀ v i, i ≠ 4 → upn P 4 v i = P i := fun v i hi => upn_o hi
        have d : ∀ v, v ≤ 1 → dV (upn P 4 v) := fun v hv => dV_p h (fun i hi => o v i (by omega)) (by
          rw [upn_e, o v 3 (by omega), o v 6 (by omega), o v 7 (by omega)]
          exact ⟨h.2.1.1, hv, h.2.1.2.2.2.1, h.2.1.2.2.2.2.1, h.2.1.2.2.2.2.2.2⟩)
        split at z
        · cases z; exact ⟨d 1 (by omega), o 1 3 (by omega), o 1 0 (by omega)⟩
        · split at z
          · cases z; exact ⟨d 0 (by omega), o 0 3 (by omega), o 0 0 (by omega)⟩
          · cases z
      · split at z
        · split at z
          · cases z
          · obtain ⟨a, b⟩ := nvR_k 3 _ P 0 t' P' h (by omega) (by omega) (fun c' hc' => absurd hc' (Nat.not_lt_zero _)) z
            exact ⟨a, b 3 (by omega) (by omega), b 0 (by omega) (by omega)⟩
        · split at z
          · split at z
            · obtain ⟨a, _, b⟩ := wnR_k h z
              exact ⟨a, b 3 (by omega) (by omega), b 0 (by omega) (by omega)⟩
            · cases z
          · split at z
            · split at z
              · cases z
              · obtain ⟨a, b⟩ := agR_k h (by omega) z
                exact ⟨a, b 3 (by omega) (by omega), b 0 (by omega) (by omega)⟩
            · split at z
              · split at z
                · cases z
                · obtain ⟨a, b⟩ := hmR_k h (by omega) z
                  exact ⟨a, b 3 (by omega) (by omega), b 0 (by omega) (by omega)⟩
              · cases z
