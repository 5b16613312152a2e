theorem nm5g_d {d : Nat} : ∀ (n v : Nat), d < n → nm5g n v / 32 ^ d % 32 = v / 27 ^ d % 27 := by
  induction d with
  | zero =>
    intro n v hn
    obtain ⟨k, rfl⟩ : ∃ k, n = k + 1 := ⟨n - 1, by omega⟩
    show (nm5g k (v / 27) * 32 + v % 27) / 32 ^ 0 % 32 = v / 27 ^ 0 % 27
    simp only [Nat.pow_zero, Nat.div_one]
    omega
  | succ d ih =>
    intro n v hn
    obtain ⟨k, rfl⟩ : ∃ k, n = k + 1 := ⟨n - 1, by omega⟩
    show (nm5g k (v / 27) * 32 + v % 27) / 32 ^ (d + 1) % 32 = v / 27 ^ (d + 1) % 27
    rw [Nat.pow_succ, Nat.mul_comm (32 ^ d) 32, ← Nat.div_div_eq_div_mul, show (nm5g k (v / 27) * 32 + v % 27) / 32 = nm5g k (v / 27) by omega, ih k (v / 27) (by omega), Nat.pow_succ, Nat.mul_comm (27 ^ d) 27, Nat.div_div_eq_div_mul]
theorem nm5g_lt : ∀ (n v : Nat), nm5g n v < 32 ^ n := by
  intro n
  induction n with
  | zero => intro v; show 0 < 1; omega
  | succ n ih =>
    intro v
    have := ih (v / 27)
    show nm5g n (v / 27) * 32 + v % 27 < 32 ^ (n + 1)
    rw [Nat.pow_succ]
    omega
theorem nlt_le (v : Nat) : nlt v ≤ 6 := by unfold nlt; split <;> (try omega); split <;> (try omega); split <;> (try omega); split <;> (try omega); split <;> (try omega); split <;> omega
theorem nm5_lt (v : Nat) : nm5 v < 2 ^ 30 := by
  have h := nlt_le v
  have g := nm5g_lt (nlt v) v
  unfold nm5
  have e : 32 ^ nlt v * 32 ^ (6 - nlt v) = 2 ^ 30 := by rw [← Nat.pow_add, show nlt v + (6 - nlt v) = 6 by omega]
  rw [← e]
  exact Nat.mul_lt_mul_of_pos_right g (Nat.pow_pos (by decide))
theorem nm5_dg {v j : Nat} (hj : j < 6) : nm5 v / 32 ^ (5 - j) % 32 = if nlt v ≤ j then 0 else v / 27 ^ (nlt v - 1 - j) % 27 := by
  have h := nlt_le v
  unfold nm5
  by_cases c : nlt v ≤ j
  · rw [if_pos c, show 6 - nlt v = (5 - j) + ((j - nlt v) + 1) by omega, Nat.pow_add, Nat.mul_comm (32 ^ (5 - j)), ← Nat.mul_assoc, Nat.mul_div_cancel _ (Nat.pow_pos (by decide)), Nat.pow_succ, ← Nat.mul_assoc, Nat.mul_mod_left]
  · rw [if_neg c, show 5 - j = (6 - nlt v) + (nlt v - 1 - j) by omega, Nat.pow_add, ← Nat.div_div_eq_div_mul, Nat.mul_div_cancel _ (Nat.pow_pos (by decide)), nm5g_d _ _ (by omega)]
theorem nlt_s {v : Nat} (h : 0 < v) (h6 : v < 387420489) : nlt v = nlt (v / 27) + 1 := by
  have a : v / 27 < 14348907 := by omega
  unfold nlt
  rw [if_neg (by omega : ¬ v = 0)]
  by_cases c1 : v < 27
  · rw [if_pos c1, if_pos (by omega : v / 27 = 0)]
  rw [if_neg c1, if_neg (by omega : ¬ v / 27 = 0)]
  by_cases c2 : v < 729
  · rw [if_pos c2, if_pos (by omega : v / 27 < 27)]
  rw [if_neg c2, if_neg (by omega : ¬ v / 27 < 27)]
  by_cases c3 : v < 19683
  · rw [if_pos c3, if_pos (by omega : v / 27 < 729)]
  rw [if_neg c3, if_neg (by omega : ¬ v / 27 < 729)]
  by_cases c4 : v < 531441
  · rw [if_pos c4, if_pos (by omega : v / 27 < 19683)]
  rw [if_neg c4, if_neg (by omega : ¬ v / 27 < 19683)]
  by_cases c5 : v < 14348907
  · rw [if_pos c5, if_pos (by omega : v / 27 < 531441)]
  rw [if_neg c5, if_neg (by omega : ¬ v / 27 < 531441), if_pos a]
theorem lettersM {v : Nat} (hv : v < 387420489) : f_MO_lettersOf (nI v) = some (nI (nlt v)) := by
  refine ok_eq.mp ?_
  unfold f_MO_lettersOf f_MO_lettersOf_L4
  refine ok_lop (fun (i : Nat × Nat) (s : Int32 × Int32) => i.2 < 387420489 ∧ s.1 = nI i.1 ∧ s.2 = nI i.2 ∧ i.1 + nlt i.2 = nlt v) (fun i => i.2) ?_ (0, v) (0, nI v) ⟨hv, rfl, rfl, Nat.zero_add _⟩ (by show v < _; omega)
  rintro ⟨k, w⟩ ⟨x, y⟩ ⟨h0, e1, e2, e3⟩
  have e1 : x = nI k := e1
  have e2 : y = nI w := e2
  have h0 : w < 387420489 := h0
  have e3 : k + nlt w = nlt v := e3
  subst e1
  subst e2
  unfold f_MO_lettersOf_B4
  refine ok_le w 0 (fun q => ok_mk ?_) (fun q => ok_mk ⟨(k + 1, w / 27), ?_, ?_, nI_1 k, ?_, ?_⟩)
  · show nI k = nI (nlt v)
    rw [← e3, show w = 0 by omega]
    rfl
  · show w / 27 < w
    omega
  · show w / 27 < 387420489
    omega
  · exact pk_div (d := 27) (by omega) (by decide) (by decide)
  · show k + 1 + nlt (w / 27) = nlt v
    rw [nlt_s q h0] at e3
    omega
theorem c_letter {a1 a2 a3 : Int32} {mx mm : zM} (h : IvW mx mm) : Alk ((f_PA_letter a1 a2 a3 mx).bind fun r => some (r, mx)) ((f_MO_letter a1 a2 a3 mm).bind fun r => some (r, mm)) := by
  refine Alk_b ?_
  unfold f_PA_letter f_MO_letter
  obtain ⟨hc, hn | ⟨P, N, W, D, pr, sp, b, ht⟩⟩ := id h
  · rw [if_pos hn.1, if_pos hn.2.1]
    exact ok_mk (ok_mk ⟨rfl, h⟩)
  · have h1 := ht.1.1.1
    have r0 := ht.1.2.1
    have g2 := ht.1.2.2.2.1
    have tm := ht.2.1.2.1
    rw [if_neg (by rw [ht.1.2.2.1]; decide), if_neg (show ¬ mm.1 0 33 = 0 by rw [ht.2.1.1]; decide)]
    rcases num_or a1 3 with ⟨k, hk, e⟩ | e
    rotate_left
    · rw [isIn_d (n := 3) (by decide) (by decide) e]
      have y : ok (some (-1 : Int32)) (fun r => ok ((if (false : Bool) = true then (ix 184 (0 + a1)).bind fun i1 => if f_MO_isIn a2.toInt64 0 ((mm.1 23 i1 - 1).toInt64) = true then if f_MO_isIn a3.toInt64 0 5 = true then (ix 184 (f_MO_nameAt a1 a2)).bind fun i2 => (f_MO_lettersOf (mm.1 23 i2)).bind fun r3 => f_MO_letter_L78 a3 (mm.1 23 i2) r3 (r3 - 1) mm else some (-1) else some (-1) else some (-1)).bind fun r => some (r, mm)) (fun q => r = q.1 ∧ IvW mx q.2)) := ok_mk (ok_mk ⟨rfl, h⟩)
      rcases rng_f (n := 3) (by omega) e with s | s
      · exact ok_ip s y
      · exact ok_it (fun _ => y) (fun _ => ok_ip s y)
    rw [if_pos ((isIn_c (n := 3) (x := a1) (hi := 2) (by decide) (by decide)).mpr ⟨k, hk, e⟩)]
    subst e
    have pk : P k ≤ 6 := by
      rcases (show k = 0 ∨ k = 1 ∨ k = 2 by omega) with z | z | z <;> subst z
      · exact h1.1.2.2.2.1
      · exact h1.1.2.2.2.2.1
      · exact h1.1.2.2.2.2.2.1
    have e1 : mm.1 23 k = nI (P k) := tM_n tm (by omega) (by rcases (show k = 0 ∨ k = 1 ∨ k = 2 by omega) with z | z | z <;> subst z <;> decide)
    refine ok_in (nI_pos (by omega)) (ok_in (nI_ge (b := 3) hk (by decide)) ?_)
    rw [show ix 184 (0 + nI k) = some k by rw [show (0 : Int32) = nI 0 from rfl, nI_add, Nat.zero_add]; exact ix_nI (by omega) (by decide), Option.bind_some, e1]
    have no3 : (∀ j, j < 6 → a3 ≠ nI j) → ok (some (-1 : Int32)) (fun r => ok ((if f_MO_isIn a2.toInt64 0 ((nI (P k) - 1).toInt64) = true then if f_MO_isIn a3.toInt64 0 5 = true then (ix 184 (f_MO_nameAt (nI k) a2)).bind fun i2 => (f_MO_lettersOf (mm.1 23 i2)).bind fun r3 => f_MO_letter_L78 a3 (mm.1 23 i2) r3 (r3 - 1) mm else some (-1) else some (-1)).bind fun r => some (r, mm)) (fun q => r = q.1 ∧ IvW mx q.2)) := by
      intro e
      rw [isIn_d (n := 6) (by decide) (by decide) e]
      refine ok_mk (ok_bi (G := fun r => r = (-1 : Int32)) ?_ (fun r er => ok_mk ⟨er.symm, h⟩))
      exact ok_it (fun _ => ok_mk rfl) (fun _ => ok_mk rfl)
    have no2 : (∀ j, j < P k → a2 ≠ nI j) → ok (some (-1 : Int32)) (fun r => ok ((if f_MO_isIn a2.toInt64 0 ((nI (P k) - 1).toInt64) = true then if f_MO_isIn a3.toInt64 0 5 = true then (ix 184 (f_MO_nameAt (nI k) a2)).bind fun i2 => (f_MO_lettersOf (mm.1 23 i2)).bind fun r3 => f_MO_letter_L78 a3 (mm.1 23 i2) r3 (r3 - 1) mm else some (-1) else some (-1)).bind fun r => some (r, mm)) (fun q => r = q.1 ∧ IvW mx q.2)) := by
      intro e
      rw [isIn_f (by omega) e]
      exact ok_mk (ok_mk ⟨rfl, h⟩)
    rcases num_or a3 6 with ⟨j, hj, e⟩ | e
    rotate_left
    · rcases rng_f (n := 6) (by omega) e with s | s
      · exact ok_ip s (no3 e)
      · exact ok_it (fun _ => no3 e) (fun _ => ok_in (fun y => Int32.lt_irrefl (Int32.lt_of_lt_of_le y s)) (no3 e))
    have e6 := (isIn_c (n := 6) (x := a3) (hi := 5) (by decide) (by decide)).mpr ⟨j, hj, e⟩
    subst e
    refine ok_in (nI_pos (by omega)) (ok_ip ((nI_ltI (b := 6) (by omega) (by decide)).mpr hj) ?_)
    rcases num_or a2 (P k) with ⟨i, hi, e⟩ | e
    rotate_left
    · rcases rng_f (n := P k) (by omega) e with s | s
      · exact ok_ip s (no2 e)
      · refine ok_it (fun _ => no2 e) (fun _ => ok_eb (tb_ok r0.2.1 r0.1) (ok_ix rfl hk (by decide) (ok_in (fun y => ?_) (no2 e))))
        rw [g2.2.1 k hk] at y
        exact Int32.lt_irrefl (Int32.lt_of_lt_of_le y s)
    subst e
    rw [if_pos ((isIn_n (n := P k) (x := nI i) (by omega)).mpr ⟨i, hi, rfl⟩), if_pos e6]
    have hv := (h1.2.2.2 k i hk (by omega)).1
    have en : mm.1 23 (10 + 6 * k + i) = nI (P (10 + 6 * k + i)) := tM_n tm (by omega) (by
      rcases (show k = 0 ∨ k = 1 ∨ k = 2 by omega) with z | z | z <;> subst z <;> rcases (show i = 0 ∨ i = 1 ∨ i = 2 ∨ i = 3 ∨ i = 4 ∨ i = 5 by omega) with z | z | z | z | z | z <;> subst z <;> decide)
    generalize hw : P (10 + 6 * k + i) = v at hv en
    have ea : f_MO_nameAt (nI k) (nI i) = nI (10 + 6 * k + i) := by
      unfold f_MO_nameAt
      rw [show (10 : Int32) = nI 10 from rfl, show (6 : Int32) = nI 6 from rfl, pk_mul, nI_add, nI_add]
    have nl := nlt_le v
    have M : ok (f_MO_letter_L78 (nI j) (nI v) (nI (nlt v)) (nI (nlt v) - 1) mm) (fun r => r = nI (nm5 v / 32 ^ (5 - j) % 32)) := by
      rw [nm5_dg hj]
      have fin : ∀ w : Nat, w < 387420489 → (nlt v ≤ j ∨ w = v / 27 ^ (nlt v - 1 - j)) → ok (f_MO_letter_J97 (nI j) (nI w) (nI (nlt v)) mm) (fun r => r = nI (if nlt v ≤ j then 0 else v / 27 ^ (nlt v - 1 - j) % 27)) := by
        intro w hw hh
        unfold f_MO_letter_J97
        refine ok_le (nlt v) j (fun q => ok_mk ?_) (fun q => ok_mk ?_)
        · rw [if_pos q]; rfl
        · rw [if_neg (by omega)]
          rcases hh with z | z
          · omega
          · rw [← z]; exact pk_rem (d := 27) (by omega) (by decide) (by decide)
      unfold f_MO_letter_L78
      rcases Nat.lt_or_ge j (nlt v) with c | c
      · rw [nI_pr (by omega)]
        refine ok_for (nlt v - 1 - j) (fun d (s : Int32 × Int32) => s.1 = nI (v / 27 ^ d) ∧ s.2 = nI (nlt v - 1 - d)) (k0 := 0) ⟨by show nI v = nI (v / 1); rw [Nat.div_one], rfl⟩ (Nat.zero_le _) ?_
        rintro d ⟨x, y⟩ - hd ⟨e1, e2⟩
        have e1 : x = nI (v / 27 ^ d) := e1
        have e2 : y = nI (nlt v - 1 - d) := e2
        subst e1
        subst e2
        have vl : v / 27 ^ d ≤ v := Nat.div_le_self _ _
        unfold f_MO_letter_B78
        refine ok_le (nlt v - 1 - d) j (fun q => ok_zl (fin _ (by omega) (Or.inr (by rw [show d = nlt v - 1 - j by omega])))) (fun q => ok_mk ⟨by omega, ?_, ?_⟩)
        · show nI (v / 27 ^ d) / 27 = nI (v / 27 ^ (d + 1))
          rw [Nat.pow_succ, ← Nat.div_div_eq_div_mul]
          exact pk_div (d := 27) (by omega) (by decide) (by decide)
        · show nI (nlt v - 1 - d) + -1 = nI (nlt v - 1 - (d + 1))
          rw [nI_pm (by omega)]
          rfl
      · refine ok_for 0 (fun d (s : Int32 × Int32) => s = (nI v, nI (nlt v) - 1)) (k0 := 0) rfl (Nat.zero_le _) ?_
        rintro d s - hd e
        subst e
        unfold f_MO_letter_B78
        refine ok_ip ?_ (ok_zl (fin v hv (Or.inl c)))
        show nI (nlt v) - 1 ≤ nI j
        rcases Nat.eq_zero_or_pos (nlt v) with z | z
        · rw [z]
          exact Int32.le_trans (show nI 0 - 1 ≤ 0 by decide) (nI_pos' (by omega))
        · rw [nI_pr z]
          exact (nI_leI (by omega) (by omega)).mpr (by omega)
    have X : ok (f_Table_name b (nI k) (nI i) mx) (fun r => r = nI (nm5 v)) := by
      unfold f_Table_name
      refine ok_in (nI_pos (by omega)) (ok_ix rfl hk (by decide) (ok_in ?_ (ok_ix (i := 6 * k + i) ?_ (by omega) (by decide) (ok_mk ?_))))
      · rw [g2.2.1 k hk]; exact nI_ge hi (by omega)
      · rw [show (6 : Int32) = nI 6 from rfl, pk_mul, nI_add, Nat.mul_comm]
      · rw [g2.2.2.2.2 k i hk hi, hw]
    refine ok_in (nI_pos (by omega)) (ok_eb (tb_ok r0.2.1 r0.1) (ok_ix rfl hk (by decide) (ok_ip (by rw [g2.2.1 k hk]; exact (nI_ltI (by omega) (by omega)).mpr hi) (ok_eb (tb_ok r0.2.1 r0.1) (ok_bi X (fun r er => ok_mk ?_))))))
    rw [ea, ix_nI (by omega) (by decide), Option.bind_some, en, lettersM hv, Option.bind_some]
    refine ok_bi M (fun r' er' => ok_mk ⟨?_, h⟩)
    show f_PA_letterOf r (nI j) = r'
    have n30 := nm5_lt v
    rw [er, er']
    unfold f_PA_letterOf
    have sh : shr (nI (nm5 v)) (5 * (5 - nI j)) = nI (nm5 v / 32 ^ (5 - j)) := by
      unfold shr
      rcases (show j = 0 ∨ j = 1 ∨ j = 2 ∨ j = 3 ∨ j = 4 ∨ j = 5 by omega) with z | z | z | z | z | z <;> subst z
      · exact pk_shrN (by omega) _ 25 (by decide)
      · exact pk_shrN (by omega) _ 20 (by decide)
      · exact pk_shrN (by omega) _ 15 (by decide)
      · exact pk_shrN (by omega) _ 10 (by decide)
      · exact pk_shrN (by omega) _ 5 (by decide)
      · exact pk_shrN (by omega) _ 0 (by decide)
    have dl : nm5 v / 32 ^ (5 - j) ≤ nm5 v := Nat.div_le_self _ _
    rw [sh, pk_andN (by omega) 5 (by decide)]
