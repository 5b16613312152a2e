def sumI (f : Nat → Int32) : Nat → Int32
  | 0 => 0
  | n + 1 => sumI f n + f n
theorem sumI_cg {f g : Nat → Int32} {n : Nat} (h : ∀ i, i < n → f i = g i) : sumI f n = sumI g n := by
  induction n with
  | zero => rfl
  | succ n ih => show sumI f n + f n = sumI g n + g n; rw [ih (fun i hi => h i (by omega)), h n (by omega)]
theorem allWorldsX {P : Nat → Nat} {N : Nat} {W D pr sp : Nat → Nat} {m : zM} (hA : AXm P N W D pr sp m) (hN : N ≤ 600) : f_Atlas_allWorlds m = some (sumI (fun w => timesOf P (W w)) N) := by
  refine ok_eq.mp ?_
  unfold f_Atlas_allWorlds f_Atlas_allWorlds_L4
  refine ok_for N (fun k (s : Int32 × Int32) => s.2 = nI k ∧ s.1 = sumI (fun w => timesOf P (W w)) k) ⟨rfl, rfl⟩ (Nat.zero_le _) ?_
  rintro k ⟨x, y⟩ - hk ⟨e1, e2⟩
  have e1 : y = nI k := e1
  have e2 : x = _ := e2
  subst e1
  subst e2
  unfold f_Atlas_allWorlds_B4
  refine ok_le N k (fun q => ok_mk (show sumI _ k = sumI _ N by rw [show k = N by omega])) (fun q => ?_) (hx := hA.1.1.1)
  refine ok_ix rfl (show k < 600 by omega) (by decide) (ok_mk ⟨q, nI_1 k, ?_⟩)
  show sumI _ k + m.1 32 k = sumI _ k + timesOf P (W k)
  rw [(hA.2.1 k q).1]
theorem movesFX {P : Nat → Nat} {N k : Nat} {W D pr sp : Nat → Nat} {m : zM} (hA : AXm P N W D pr sp m) (hN : N ≤ 600) (hk : k < N) : f_Atlas_movesFrom (nI k) m = some (nI (cn (psb P (W k)) 64)) := by
  unfold f_Atlas_movesFrom
  have a := hA.2.2.1
  rw [nI_1, ix_nI (show k + 1 < 601 by omega) (by decide), Option.bind_some, ix_nI (show k < 601 by omega) (by decide), Option.bind_some, a _ (by omega), a k (by omega), show frm P W (k + 1) = frm P W k + cn (psb P (W k)) 64 from rfl, pk_sub (by omega), Nat.add_sub_cancel_left]
theorem allBadX {P : Nat → Nat} {N : Nat} {W D pr sp : Nat → Nat} {m : zM} (hA : AXm P N W D pr sp m) (hN : N ≤ 600) : f_Atlas_allBad m = some (sumI (fun w => if bd P (W w) = true then timesOf P (W w) else 0) N) := by
  refine ok_eq.mp ?_
  unfold f_Atlas_allBad f_Atlas_allBad_L4
  refine ok_for N (fun k (s : Int32 × Int32) => s.2 = nI k ∧ s.1 = sumI (fun w => if bd P (W w) = true then timesOf P (W w) else 0) k) ⟨rfl, rfl⟩ (Nat.zero_le _) ?_
  rintro k ⟨x, y⟩ - hk ⟨e1, e2⟩
  have e1 : y = nI k := e1
  have e2 : x = _ := e2
  subst e1
  subst e2
  unfold f_Atlas_allBad_B4 f_Atlas_allBad_J32
  refine ok_le N k (fun q => ok_mk (show sumI _ k = sumI _ N by rw [show k = N by omega])) (fun q => ?_) (hx := hA.1.1.1)
  obtain ⟨a1, a2, _⟩ := hA.2.1 k q
  refine ok_ix rfl (show k < 600 by omega) (by decide) ?_
  rw [a2]
  refine ok_it (fun z => ok_mk ⟨q, nI_1 k, ?_⟩) (fun z => ok_ix rfl (show k < 600 by omega) (by decide) (ok_mk ⟨q, nI_1 k, ?_⟩))
  · show sumI _ k + 0 = sumI _ k + (if bd P (W k) = true then _ else 0)
    rw [if_neg (by rw [b2i_0.mp z]; decide)]
  · show sumI _ k + m.1 32 k = sumI _ k + (if bd P (W k) = true then timesOf P (W k) else 0)
    rw [a1, if_pos]
    cases e : bd P (W k) with
    | true => rfl
    | false => exact absurd (b2i_0.mpr e) z
theorem allStuckX {P : Nat → Nat} {N : Nat} {W D pr sp : Nat → Nat} {m : zM} (hA : AXm P N W D pr sp m) (hN : N ≤ 600) : f_Atlas_allStuck m = some (sumI (fun w => if cn (psb P (W w)) 64 = 0 then timesOf P (W w) else 0) N) := by
  refine ok_eq.mp ?_
  unfold f_Atlas_allStuck f_Atlas_allStuck_L4
  refine ok_for N (fun k (s : Int32 × Int32) => s.2 = nI k ∧ s.1 = sumI (fun w => if cn (psb P (W w)) 64 = 0 then timesOf P (W w) else 0) k) ⟨rfl, rfl⟩ (Nat.zero_le _) ?_
  rintro k ⟨x, y⟩ - hk ⟨e1, e2⟩
  have e1 : y = nI k := e1
  have e2 : x = _ := e2
  subst e1
  subst e2
  unfold f_Atlas_allStuck_B4 f_Atlas_allStuck_J31
  refine ok_le N k (fun q => ok_mk (show sumI _ k = sumI _ N by rw [show k = N by omega])) (fun q => ?_) (hx := hA.1.1.1)
  have cl := cn_le (psb P (W k)) 64
  refine ok_eb (movesFX hA hN q) ?_
  refine ok_ee (cn (psb P (W k)) 64) 0 (fun z => ok_ix rfl (show k < 600 by omega) (by decide) (ok_mk ⟨q, nI_1 k, ?_⟩)) (fun z => ok_mk ⟨q, nI_1 k, ?_⟩)
  · show sumI _ k + m.1 32 k = sumI _ k + (if cn (psb P (W k)) 64 = 0 then timesOf P (W k) else 0)
    rw [(hA.2.1 k q).1, if_pos z]
  · show sumI _ k + 0 = sumI _ k + (if cn (psb P (W k)) 64 = 0 then timesOf P (W k) else 0)
    rw [if_neg z]
/-- times a number of moves -/
theorem mul_1 (t : Int32) (k : Nat) : t * nI (k + 1) = t * nI k + t := by
  rw [← nI_1, Int32.mul_add, Int32.mul_one]
theorem allMovesX {P : Nat → Nat} {N : Nat} {W D pr sp : Nat → Nat} {rl : Int32} {q : Nat → Bool} {m : zM} (hP : tV P) (hN : N ≤ 600) (hL : Lst (Ed P 16) (wx0 P) N W D) (hA : AXm P N W D pr sp m) (hq : (rl = -1 ∧ ∀ c, q c = true) ∨ ∃ r, r < 16 ∧ rl = nI r ∧ ∀ c, q c = decide (c / 4 = r)) : f_Atlas_allMoves rl m = some (sumI (fun w => timesOf P (W w) * nI (cn (fun e => q (cea P (W w) e)) (cn (psb P (W w)) 64))) N) := by
  have r16 := hP.1.2.2.2.2.2.2.2.2.2.2.1
  refine ok_eq.mp ?_
  unfold f_Atlas_allMoves f_Atlas_allMoves_L4
  refine ok_for N (fun k (s : Int32 × Int32) => s.2 = nI k ∧ s.1 = sumI (fun w => timesOf P (W w) * nI (cn (fun e => q (cea P (W w) e)) (cn (psb P (W w)) 64))) k) ⟨rfl, rfl⟩ (Nat.zero_le _) ?_
  rintro k ⟨x, y⟩ - hk ⟨e1, e2⟩
  have e1 : y = nI k := e1
  have e2 : x = _ := e2
  subst e1
  subst e2
  unfold f_Atlas_allMoves_B4
  refine ok_le N k (fun q' => ok_mk (show sumI _ k = sumI _ N by rw [show k = N by omega])) (fun q' => ?_) (hx := hA.1.1.1)
  refine ok_ix rfl (show k < 601 by omega) (by decide) ?_
  have a36 := hA.2.2.1
  rw [a36 k (by omega)]
  have fr := frm_le P W (k + 1)
  have fe : frm P W (k + 1) = frm P W k + cn (psb P (W k)) 64 := rfl
  unfold f_Atlas_allMoves_L20
  refine ok_for (cn (psb P (W k)) 64) (fun e (s : Int32 × Int32) => s.2 = nI (frm P W k + e) ∧ s.1 = sumI (fun w => timesOf P (W w) * nI (cn (fun e => q (cea P (W w) e)) (cn (psb P (W w)) 64))) k + timesOf P (W k) * nI (cn (fun e => q (cea P (W k) e)) e)) (k0 := 0) ⟨rfl, ?_⟩ (Nat.zero_le _) ?_ (by omega)
  · show sumI _ k = sumI _ k + timesOf P (W k) * 0
    rw [Int32.mul_zero, Int32.add_zero]
  rintro e ⟨x, y⟩ - he ⟨e1, e2⟩
  have e1 : y = nI (frm P W k + e) := e1
  have e2 : x = _ := e2
  subst e1
  subst e2
  unfold f_Atlas_allMoves_B20 f_Atlas_allMoves_J67 f_Atlas_allMoves_J49 f_Atlas_allMoves_J59
  rw [nI_1]
  refine ok_ix rfl (show k + 1 < 601 by omega) (by decide) ?_
  refine ok_le (frm P W (k + 1)) (frm P W k + e) (fun z => ok_zl (ok_mk ⟨q', rfl, ?_⟩)) (fun z => ?_) (hx := a36 _ (by omega))
  · show _ = sumI _ k + _
    rw [show e = cn (psb P (W k)) 64 by omega]
  · have qe : e < cn (psb P (W k)) 64 := by omega
    obtain ⟨b1, b2, b3, b4, b5, b6, b7⟩ := movA hP hN hL hA q' qe
    have yes : q (cea P (W k) e) = true → ok ((ix 600 (nI k)).bind fun i4 => some (Sum.inr (sumI (fun w => timesOf P (W w) * nI (cn (fun e => q (cea P (W w) e)) (cn (psb P (W w)) 64))) k + timesOf P (W k) * nI (cn (fun e => q (cea P (W k) e)) e) + m.1 32 i4, nI (frm P W k + e) + 1))) (lp (lp (fun b => b = sumI (fun w => timesOf P (W w) * nI (cn (fun e => q (cea P (W w) e)) (cn (psb P (W w)) 64))) N) (fun s' : Int32 × Int32 => k < N ∧ s'.2 = nI (k + 1) ∧ s'.1 = sumI (fun w => timesOf P (W w) * nI (cn (fun e => q (cea P (W w) e)) (cn (psb P (W w)) 64))) (k + 1))) (fun s' : Int32 × Int32 => e < cn (psb P (W k)) 64 ∧ s'.2 = nI (frm P W k + (e + 1)) ∧ s'.1 = sumI (fun w => timesOf P (W w) * nI (cn (fun e => q (cea P (W w) e)) (cn (psb P (W w)) 64))) k + timesOf P (W k) * nI (cn (fun e => q (cea P (W k) e)) (e + 1)))) := by
      intro hy
      refine ok_ix rfl (show k < 600 by omega) (by decide) (ok_mk ⟨qe, nI_1 _, ?_⟩)
      show _ + m.1 32 k = _
      rw [(hA.2.1 k q').1, cn_s1 (p := fun e => q (cea P (W k) e)) hy, mul_1, Int32.add_assoc]
    rcases hq with ⟨h1, h2⟩ | ⟨r, h1, h2, h3⟩
    · exact ok_ip h1 (yes (h2 _))
    · obtain ⟨c1, c2, c3⟩ := cea_sp qe
      refine ok_in (by rw [h2]; exact nI_ne_m1 (by omega)) (ok_eb b5 ?_)
      refine ok_ee (cea P (W k) e / 4) r (fun y => yes (by rw [h3]; exact decide_eq_true y)) (fun y => ok_mk ⟨qe, nI_1 _, ?_⟩) (hy := h2)
      show _ + 0 = _
      rw [cn_s0 (p := fun e => q (cea P (W k) e)) (by show q (cea P (W k) e) = false; rw [h3]; exact decide_eq_false y), Int32.add_zero]
theorem firstBadX {P : Nat → Nat} {N : Nat} {W D pr sp : Nat → Nat} {m : zM} (hA : AXm P N W D pr sp m) (hN : N ≤ 600) : f_Atlas_firstBad m = some (if fi (fun w => bd P (W w)) N < N then nI (fi (fun w => bd P (W w)) N) else -1) := by
  refine ok_eq.mp ?_
  unfold f_Atlas_firstBad f_Atlas_firstBad_L2
  refine ok_for N (fun k (s : Int32) => s = nI k ∧ ∀ j, j < k → bd P (W j) = false) ⟨rfl, fun j hj => absurd hj (Nat.not_lt_zero _)⟩ (Nat.zero_le _) ?_
  rintro k x - hk ⟨rfl, g⟩
  unfold f_Atlas_firstBad_B2
  refine ok_le N k (fun q => ok_mk ?_) (fun q => ?_) (hx := hA.1.1.1)
  · show (-1 : Int32) = _
    rw [fi_no (fun j hj => g j (by omega)), if_neg (Nat.lt_irrefl _)]
  · refine ok_ix rfl (show k < 600 by omega) (by decide) ?_
    rw [(hA.2.1 k q).2.1]
    refine ok_it (fun z => ok_mk ⟨q, nI_1 k, fun j hj => ?_⟩) (fun z => ok_mk ?_)
    · by_cases y : j = k
      · rw [y]; exact b2i_0.mp z
      · exact g j (by omega)
    · show nI k = _
      have : fi (fun w => bd P (W w)) N = k := fi_eq q (by
        cases e : bd P (W k) with
        | true => rfl
        | false => exact absurd (b2i_0.mpr e) z) g
      rw [this, if_pos q]
theorem firstStuckX {P : Nat → Nat} {N : Nat} {W D pr sp : Nat → Nat} {m : zM} (hA : AXm P N W D pr sp m) (hN : N ≤ 600) : f_Atlas_firstStuck m = some (if fi (fun w => decide (cn (psb P (W w)) 64 = 0)) N < N then nI (fi (fun w => decide (cn (psb P (W w)) 64 = 0)) N) else -1) := by
  refine ok_eq.mp ?_
  unfold f_Atlas_firstStuck f_Atlas_firstStuck_L2
  refine ok_for N (fun k (s : Int32) => s = nI k ∧ ∀ j, j < k → decide (cn (psb P (W j)) 64 = 0) = false) ⟨rfl, fun j hj => absurd hj (Nat.not_lt_zero _)⟩ (Nat.zero_le _) ?_
  rintro k x - hk ⟨rfl, g⟩
  unfold f_Atlas_firstStuck_B2
  refine ok_le N k (fun q => ok_mk ?_) (fun q => ?_) (hx := hA.1.1.1)
  · show (-1 : Int32) = _
    rw [fi_no (fun j hj => g j (by omega)), if_neg (Nat.lt_irrefl _)]
  · have cl := cn_le (psb P (W k)) 64
    refine ok_eb (movesFX hA hN q) ?_
    refine ok_ee (cn (psb P (W k)) 64) 0 (fun z => ok_mk ?_) (fun z => ok_mk ⟨q, nI_1 k, fun j hj => ?_⟩)
    · show nI k = _
      rw [fi_eq (p := fun w => decide (cn (psb P (W w)) 64 = 0)) q (decide_eq_true z) g, if_pos q]
    · by_cases y : j = k
      · rw [y]; exact decide_eq_false z
      · exact g j (by omega)
theorem firstWithX {P : Nat → Nat} {N c : Nat} {W D pr sp : Nat → Nat} {B : Nat → Bool} {m : zM} (hA : AXm P N W D pr sp m) (hN : N ≤ 600) (hc : c = 122 ∨ c = 123) (hm : ∀ v, v < 4 * N → m.1 c v = b2i (B v)) : f_Study_firstWith c m = some (if fi B (4 * N) < 4 * N then nI (fi B (4 * N) / 4) else -1) := by
  have hz : zlen gX c = 2400 := by rcases hc with e | e <;> rw [e] <;> rfl
  refine ok_eq.mp ?_
  unfold f_Study_firstWith f_Study_firstWith_L2
  refine ok_for (4 * N) (fun k (s : Int32) => s = nI k ∧ ∀ j, j < k → B j = false) ⟨rfl, fun j hj => absurd hj (Nat.not_lt_zero _)⟩ (Nat.zero_le _) ?_
  rintro k x - hk ⟨rfl, g⟩
  unfold f_Study_firstWith_B2 f_Study_firstWith_J21
  have e24 : m.1 24 0 * 4 = nI (4 * N) := by rw [hA.1.1.1, show (4 : Int32) = nI 4 from rfl, pk_mul, Nat.mul_comm]
  refine ok_le (4 * N) k (fun q => ok_mk ?_) (fun q => ?_) (hx := e24)
  · show (-1 : Int32) = _
    rw [fi_no (fun j hj => g j (by omega)), if_neg (Nat.lt_irrefl _)]
  · refine ok_ix rfl (show k < zlen gX c by omega) (by omega) ?_
    rw [hm k q]
    refine ok_it (fun z => ok_mk ⟨q, nI_1 k, fun j hj => ?_⟩) (fun z => ok_zl (ok_mk ?_))
    · by_cases y : j = k
      · rw [y]; exact b2i_0.mp z
      · exact g j (by omega)
    · show nI k / 4 = _
      have : fi B (4 * N) = k := fi_eq q (by
        cases e : B k with
        | true => rfl
        | false => exact absurd (b2i_0.mpr e) z) g
      rw [this, if_pos q]
      exact pk_div (d := 4) (by omega) (by decide) (by decide)
theorem agentsWX {P : Nat → Nat} {N c : Nat} {W D pr sp : Nat → Nat} {B : Nat → Bool} {m : zM} (hA : AXm P N W D pr sp m) (hN : N ≤ 600) (hc : c = 122 ∨ c = 123) (hm : ∀ v, v < 4 * N → m.1 c v = b2i (B v)) : f_Study_agentsWith c m = some (sumI (fun v => if B v = true then timesOf P (W (v / 4)) else 0) (4 * N)) := by
  have hz : zlen gX c = 2400 := by rcases hc with e | e <;> rw [e] <;> rfl
  refine ok_eq.mp ?_
  unfold f_Study_agentsWith f_Study_agentsWith_L4
  refine ok_for (4 * N) (fun k (s : Int32 × Int32) => s.2 = nI k ∧ s.1 = sumI (fun v => if B v = true then timesOf P (W (v / 4)) else 0) k) ⟨rfl, rfl⟩ (Nat.zero_le _) ?_
  rintro k ⟨x, y⟩ - hk ⟨e1, e2⟩
  have e1 : y = nI k := e1
  have e2 : x = _ := e2
  subst e1
  subst e2
  unfold f_Study_agentsWith_B4 f_Study_agentsWith_J39
  have e24 : m.1 24 0 * 4 = nI (4 * N) := by rw [hA.1.1.1, show (4 : Int32) = nI 4 from rfl, pk_mul, Nat.mul_comm]
  refine ok_le (4 * N) k (fun q => ok_mk (show sumI _ k = sumI _ (4 * N) by rw [show k = 4 * N by omega])) (fun q => ?_) (hx := e24)
  refine ok_ix rfl (show k < zlen gX c by omega) (by omega) ?_
  rw [hm k q, show nI k / 4 = nI (k / 4) from pk_div (d := 4) (by omega) (by decide) (by decide)]
  refine ok_it (fun z => ok_mk ⟨q, nI_1 k, ?_⟩) (fun z => ok_ix rfl (show k / 4 < 600 by omega) (by decide) (ok_mk ⟨q, nI_1 k, ?_⟩))
  · show sumI _ k + 0 = sumI _ k + (if B k = true then _ else 0)
    rw [if_neg (by rw [b2i_0.mp z]; decide)]
  · show sumI _ k + m.1 32 (k / 4) = sumI _ k + (if B k = true then timesOf P (W (k / 4)) else 0)
    rw [(hA.2.1 (k / 4) (by omega)).1, if_pos]
    cases e : B k with
    | true => rfl
    | false => exact absurd (b2i_0.mpr e) z
/-- four nodes of a world at once -/
theorem sumI_4 {n N : Nat} {B : Nat → Bool} {t : Nat → Int32} (hn : n ≤ 4) (hB : ∀ v, B v = true → v % 4 < n) : sumI (fun v => if B v = true then t (v / 4) else 0) (4 * N) = sumI (fun w => t w * nI (cn (fun a => B (4 * w + a)) n)) N := by
  induction N with
  | zero => rfl
  | succ N ih =>
    have c4 : cn (fun a => B (4 * N + a)) n = cn (fun a => B (4 * N + a)) 4 := by
      have : ∀ k, n ≤ k → k ≤ 4 → cn (fun a => B (4 * N + a)) k = cn (fun a => B (4 * N + a)) n := by
        intro k
        induction k with
        | zero => intro h _; rw [show n = 0 by omega]
        | succ k ih =>
          intro h1 h2
          by_cases q : n = k + 1
          · rw [q]
          · rw [cn_s0 (p := fun a => B (4 * N + a)) (by
              show B (4 * N + k) = false
              cases e : B (4 * N + k) with
              | false => rfl
              | true => have := hB _ e; omega), ih (by omega) (by omega)]
      exact (this 4 hn (Nat.le_refl _)).symm
    show sumI _ (4 * N) + (if B (4 * N) = true then t (4 * N / 4) else 0) + (if B (4 * N + 1) = true then t ((4 * N + 1) / 4) else 0) + (if B (4 * N + 2) = true then t ((4 * N + 2) / 4) else 0) + (if B (4 * N + 3) = true then t ((4 * N + 3) / 4) else 0) = sumI _ N + t N * nI (cn (fun a => B (4 * N + a)) n)
    rw [ih, c4, show 4 * N / 4 = N by omega, show (4 * N + 1) / 4 = N by omega, show (4 * N + 2) / 4 = N by omega, show (4 * N + 3) / 4 = N by omega]
    have ad : ∀ (k : Nat), t N * nI (cn (fun a => B (4 * N + a)) (k + 1)) = t N * nI (cn (fun a => B (4 * N + a)) k) + (if B (4 * N + k) = true then t N else 0) := by
      intro k
      by_cases q : B (4 * N + k) = true
      · rw [cn_s1 (p := fun a => B (4 * N + a)) q, mul_1, if_pos q]
      · rw [cn_s0 (p := fun a => B (4 * N + a)) (by simpa using q), if_neg q, Int32.add_zero]
    rw [ad 3, ad 2, ad 1, ad 0, show cn (fun a => B (4 * N + a)) 0 = 0 from rfl, show nI 0 = 0 from rfl, Int32.mul_zero, Int32.zero_add, Nat.add_zero]
    simp only [Int32.add_assoc]
    rfl
theorem partWX {P : Nat → Nat} {N k : Nat} {W D pr sp : Nat → Nat} {m : zM} (hA : AXm P N W D pr sp m) (hp : PXm P N W m) (hN : N ≤ 600) (hk : k < 2 ^ 31) : f_Study_worldsOfPart (nI k) m = some (sumI (fun w => if pno (smw P N W) w = k then timesOf P (W w) else 0) N) := by
  refine ok_eq.mp ?_
  have E := smw_eqv (P := P) (N := N) (W := W)
  unfold f_Study_worldsOfPart f_Study_worldsOfPart_L4
  refine ok_for N (fun i (s : Int32 × Int32) => s.2 = nI i ∧ s.1 = sumI (fun w => if pno (smw P N W) w = k then timesOf P (W w) else 0) i) ⟨rfl, rfl⟩ (Nat.zero_le _) ?_
  rintro i ⟨x, y⟩ - hi ⟨e1, e2⟩
  have e1 : y = nI i := e1
  have e2 : x = _ := e2
  subst e1
  subst e2
  unfold f_Study_worldsOfPart_B4 f_Study_worldsOfPart_J39
  refine ok_le N i (fun q => ok_mk (show sumI _ i = sumI _ N by rw [show i = N by omega])) (fun q => ?_) (hx := hA.1.1.1)
  have pl := pno_lt (n := N) E q
  have cl := cn_le (isf (smw P N W)) N
  refine ok_ix rfl (show i < 600 by omega) (by decide) ?_
  refine ok_ee (pno (smw P N W) i) k (fun z => ok_ix rfl (show i < 600 by omega) (by decide) (ok_mk ⟨q, nI_1 i, ?_⟩)) (fun z => ok_mk ⟨q, nI_1 i, ?_⟩) (hx := hp.2.1 i q)
  · show sumI _ i + m.1 32 i = sumI _ i + (if pno (smw P N W) i = k then timesOf P (W i) else 0)
    rw [(hA.2.1 i q).1, if_pos z]
  · show sumI _ i + 0 = sumI _ i + (if pno (smw P N W) i = k then timesOf P (W i) else 0)
    rw [if_neg z]
theorem leadingX {P : Nat → Nat} {N i r a : Nat} {W D pr sp : Nat → Nat} {m : zM} (hP : tV P) (hN : N ≤ 600) (hL : Lst (Ed P 16) (wx0 P) N W D) (hA : AXm P N W D pr sp m) (hi : i < N) (hr : r < P 8) (ha : a < P 3) : f_Atlas_leading (nI i) (nI r) (nI a) m = some (nI (nxw P 16 N W i (4 * r + a)) - 1) := by
  have n4 := hP.1.2.1
  have r16 := hP.1.2.2.2.2.2.2.2.2.2.2.1
  have a36 := hA.2.2.1
  have fr := frm_le P W (i + 1)
  have fe : frm P W (i + 1) = frm P W i + cn (psb P (W i)) 64 := rfl
  refine ok_eq.mp ?_
  unfold f_Atlas_leading
  refine ok_ix rfl (show i < 601 by omega) (by decide) ?_
  rw [a36 i (by omega)]
  unfold f_Atlas_leading_L8
  refine ok_for (cn (psb P (W i)) 64) (fun e (s : Int32) => s = nI (frm P W i + e) ∧ ∀ e', e' < e → cea P (W i) e' ≠ 4 * r + a) (k0 := 0) ⟨rfl, fun e' he => absurd he (Nat.not_lt_zero _)⟩ (Nat.zero_le _) ?_ (by omega)
  rintro e x - he ⟨rfl, g⟩
  unfold f_Atlas_leading_B8 f_Atlas_leading_J48 f_Atlas_leading_J41
  rw [nI_1]
  refine ok_ix rfl (show i + 1 < 601 by omega) (by decide) ?_
  refine ok_le (frm P W (i + 1)) (frm P W i + e) (fun q => ok_mk ?_) (fun q => ?_) (hx := a36 _ (by omega))
  · show (-1 : Int32) = _
    have : nxw P 16 N W i (4 * r + a) = 0 := by
      by_cases z : nxw P 16 N W i (4 * r + a) = 0
      · exact z
      · obtain ⟨k1, k2⟩ := cea_cn (show 4 * r + a < 64 by omega) (nxw_nz.mp z).1
        exact absurd k2 (g _ (by omega))
    rw [this]; decide
  · have qe : e < cn (psb P (W i)) 64 := by omega
    obtain ⟨b1, b2, b3, b4, b5, b6, b7⟩ := movA hP hN hL hA hi qe
    obtain ⟨c1, c2, c3⟩ := cea_sp qe
    have nxt : cea P (W i) e ≠ 4 * r + a → ok (some (Sum.inr (nI (frm P W i + e) + 1))) (lp (fun b : Int32 => b = nI (nxw P 16 N W i (4 * r + a)) - 1) (fun s' : Int32 => e < cn (psb P (W i)) 64 ∧ s' = nI (frm P W i + (e + 1)) ∧ ∀ e', e' < e + 1 → cea P (W i) e' ≠ 4 * r + a)) := fun h => ok_mk ⟨qe, nI_1 _, fun e' he' => by
      by_cases y : e' = e
      · rw [y]; exact h
      · exact g e' (by omega)⟩
    refine ok_eb b5 ?_
    refine ok_ee (cea P (W i) e / 4) r (fun z => ?_) (fun z => nxt (by omega))
    refine ok_eb b6 ?_
    refine ok_ee (cea P (W i) e % 4) a (fun y => ok_zl (ok_eb b4 (ok_mk ?_))) (fun y => nxt (by omega))
    show nI _ = _
    rw [← show cea P (W i) e = 4 * r + a by omega]
    exact (nI_pr b2).symm
