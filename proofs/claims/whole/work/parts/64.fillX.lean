/-- the first agent that is just like, in a world in order -/
def lkf (a : Nat → Nat) : Nat → Nat
  | 0 => 0
  | i + 1 => if a (i + 1) = a i then lkf a i else i + 1
theorem lkf_le (a : Nat → Nat) (i : Nat) : lkf a i ≤ i := by
  induction i with
  | zero => exact Nat.le_refl _
  | succ i ih =>
    show (if a (i + 1) = a i then lkf a i else i + 1) ≤ i + 1
    split <;> omega
theorem describeX {P : Nat → Nat} {b w x : Nat} {m : zM} (hP : tV P) (ht : tX b P m) (hx : kv (P 3) x) (hw : wX 40 (P 3) (dh (P 3) x) (da (P 3) x) m) (h24 : m.1 24 1 = nI (P 3)) (hw6 : w < 600) : ok (f_Atlas_describe (nI w) b m) (fun p => fl2 [32, 33, 34, 35] [] m p ∧ (p.1 32 w = timesOf P x ∧ p.1 33 w = b2i (bd P x) ∧ ∀ a, a < P 3 → p.1 34 (4 * w + a) = nI (da (P 3) x a) ∧ p.1 35 (4 * w + a) = nI (lkf (da (P 3) x) a)) ∧ (∀ i, i ≠ w → p.1 32 i = m.1 32 i ∧ p.1 33 i = m.1 33 i) ∧ ∀ j, j < 4 * w → p.1 34 j = m.1 34 j ∧ p.1 35 j = m.1 35 j) := by
  have n4 := hP.1.2.1
  unfold f_Atlas_describe
  refine ok_eb (isBadX hP ht hx hw) (ok_ix rfl hw6 (by decide) (ok_lt ?_))
  unfold f_Atlas_describe_L22
  refine ok_for (P 3) (fun k (s : Int32 × Int32 × Int32 × zM) => s.2.2.1 = nI k ∧ s.2.1 = nI (tmr (da (P 3) x) k) ∧ s.1 = tmw (da (P 3) x) k ∧ fl2 [34, 35] [] (sI m 33 w (b2i (bd P x))) s.2.2.2 ∧ (∀ a, a < k → s.2.2.2.1 34 (4 * w + a) = nI (da (P 3) x a) ∧ s.2.2.2.1 35 (4 * w + a) = nI (lkf (da (P 3) x) a)) ∧ ∀ j, j < 4 * w → s.2.2.2.1 34 j = m.1 34 j ∧ s.2.2.2.1 35 j = m.1 35 j) ⟨rfl, rfl, rfl, fl2_rf, fun a ha => absurd ha (Nat.not_lt_zero _), fun j hj => ⟨rd_I0 (by omega), rd_I0 (by omega)⟩⟩ (Nat.zero_le _) ?_
  rintro k ⟨v3, v4, v5, m1⟩ - hk ⟨e1, e2, e3, f1, g1, g2⟩
  have e1 : v5 = nI k := e1
  have e2 : v4 = nI (tmr (da (P 3) x) k) := e2
  have e3 : v3 = tmw (da (P 3) x) k := e3
  subst e1
  subst e2
  subst e3
  have f1 : fl2 [34, 35] [] (sI m 33 w (b2i (bd P x))) m1 := f1
  have g1 : ∀ a, a < k → m1.1 34 (4 * w + a) = nI (da (P 3) x a) ∧ m1.1 35 (4 * w + a) = nI (lkf (da (P 3) x) a) := g1
  have g2 : ∀ j, j < 4 * w → m1.1 34 j = m.1 34 j ∧ m1.1 35 j = m.1 35 j := g2
  have e24 : m1.1 24 1 = nI (P 3) := by rw [fl2_i f1 (by decide), rd_I0 (by omega)]; exact h24
  have c41 : ∀ i, i < P 3 → m1.1 41 i = nI (da (P 3) x i) := fun i hi => by
    rw [fl2_i f1 (by simp [inS]), rd_I0 (by omega)]; exact hw.2.2 i hi
  unfold f_Atlas_describe_B22
  refine ok_le (P 3) k (fun q => ok_zl ?_) (fun q => ?_) (hx := e24)
  · have : k = P 3 := by omega
    subst this
    unfold f_Atlas_describe_J150
    refine ok_ix rfl hw6 (by decide) (ok_lt (ok_mk ⟨?_, ⟨rd_I1 _ _ _ _, ?_, fun a ha => ?_⟩, fun i hi => ⟨?_, ?_⟩, fun j hj => ?_⟩))
    · exact fl2_tr (fl2_I (inS_c (by simp))) (fl2_tr (fl2_su f1 (by decide)) (fl2_I (inS_c (by simp))))
    · rw [rd_I0 (by omega), fl2_i f1 (by simp [inS]), rd_I1]
    · rw [rd_I0 (by omega), rd_I0 (by omega)]; exact g1 a ha
    · rw [rd_I0 (by omega), fl2_i f1 (by simp [inS]), rd_I0 (by omega)]
    · rw [rd_I0 (by omega), fl2_i f1 (by simp [inS]), rd_I0 (by omega)]
    · rw [rd_I0 (by omega), rd_I0 (by omega)]; exact g2 j hj
  · rw [nI_4]
    refine ok_ix rfl (show k < 4 by omega) (by decide) (ok_ix rfl (show 4 * w + k < 2400 by omega) (by decide) (ok_lt ?_))
    have bb := tmr_b (da (P 3) x) k
    have bb' := tmr_b (da (P 3) x) (k + 1)
    rw [show (m1.1 (40 + 1) k) = nI (da (P 3) x k) from c41 k q]
    have c41' : ∀ i, i < P 3 → (sI m1 34 (4 * w + k) (nI (da (P 3) x k))).1 (40 + 1) i = nI (da (P 3) x i) := fun i hi => by rw [rd_I0 (by omega)]; exact c41 i hi
    have go : ∀ (s : Bool), (s = true ↔ 0 < k ∧ da (P 3) x k = da (P 3) x (k - 1)) → ok (f_Atlas_describe_J91 (nI w) (tmw (da (P 3) x) k) (nI (tmr (da (P 3) x) k)) (nI k) (nI (4 * w + k)) s (sI m1 34 (4 * w + k) (nI (da (P 3) x k)))) (lp (fun p => fl2 [32, 33, 34, 35] [] m p ∧ (p.1 32 w = timesOf P x ∧ p.1 33 w = b2i (bd P x) ∧ ∀ a, a < P 3 → p.1 34 (4 * w + a) = nI (da (P 3) x a) ∧ p.1 35 (4 * w + a) = nI (lkf (da (P 3) x) a)) ∧ (∀ i, i ≠ w → p.1 32 i = m.1 32 i ∧ p.1 33 i = m.1 33 i) ∧ ∀ j, j < 4 * w → p.1 34 j = m.1 34 j ∧ p.1 35 j = m.1 35 j) (fun s' : Int32 × Int32 × Int32 × zM => k < P 3 ∧ s'.2.2.1 = nI (k + 1) ∧ s'.2.1 = nI (tmr (da (P 3) x) (k + 1)) ∧ s'.1 = tmw (da (P 3) x) (k + 1) ∧ fl2 [34, 35] [] (sI m 33 w (b2i (bd P x))) s'.2.2.2 ∧ (∀ a, a < k + 1 → s'.2.2.2.1 34 (4 * w + a) = nI (da (P 3) x a) ∧ s'.2.2.2.1 35 (4 * w + a) = nI (lkf (da (P 3) x) a)) ∧ ∀ j, j < 4 * w → s'.2.2.2.1 34 j = m.1 34 j ∧ s'.2.2.2.1 35 j = m.1 35 j)) := by
      intro s hs
      have g3 : ∀ t2 : Int32, t2 = nI (lkf (da (P 3) x) k) → ok (f_Atlas_describe_J118 (nI w) (tmw (da (P 3) x) k) (nI (tmr (da (P 3) x) k)) (nI k) s 35 (nI (4 * w + k)) t2 (sI m1 34 (4 * w + k) (nI (da (P 3) x k)))) (lp (fun p => fl2 [32, 33, 34, 35] [] m p ∧ (p.1 32 w = timesOf P x ∧ p.1 33 w = b2i (bd P x) ∧ ∀ a, a < P 3 → p.1 34 (4 * w + a) = nI (da (P 3) x a) ∧ p.1 35 (4 * w + a) = nI (lkf (da (P 3) x) a)) ∧ (∀ i, i ≠ w → p.1 32 i = m.1 32 i ∧ p.1 33 i = m.1 33 i) ∧ ∀ j, j < 4 * w → p.1 34 j = m.1 34 j ∧ p.1 35 j = m.1 35 j) (fun s' : Int32 × Int32 × Int32 × zM => k < P 3 ∧ s'.2.2.1 = nI (k + 1) ∧ s'.2.1 = nI (tmr (da (P 3) x) (k + 1)) ∧ s'.1 = tmw (da (P 3) x) (k + 1) ∧ fl2 [34, 35] [] (sI m 33 w (b2i (bd P x))) s'.2.2.2 ∧ (∀ a, a < k + 1 → s'.2.2.2.1 34 (4 * w + a) = nI (da (P 3) x a) ∧ s'.2.2.2.1 35 (4 * w + a) = nI (lkf (da (P 3) x) a)) ∧ ∀ j, j < 4 * w → s'.2.2.2.1 34 j = m.1 34 j ∧ s'.2.2.2.1 35 j = m.1 35 j)) := by
        intro t2 ht2
        have g4 : ∀ t0 : Int32, t0 = nI (tmr (da (P 3) x) (k + 1)) → ok (f_Atlas_describe_J132 (nI w) (tmw (da (P 3) x) k) (nI k) t0 (sI (sI m1 34 (4 * w + k) (nI (da (P 3) x k))) 35 (4 * w + k) t2)) (lp (fun p => fl2 [32, 33, 34, 35] [] m p ∧ (p.1 32 w = timesOf P x ∧ p.1 33 w = b2i (bd P x) ∧ ∀ a, a < P 3 → p.1 34 (4 * w + a) = nI (da (P 3) x a) ∧ p.1 35 (4 * w + a) = nI (lkf (da (P 3) x) a)) ∧ (∀ i, i ≠ w → p.1 32 i = m.1 32 i ∧ p.1 33 i = m.1 33 i) ∧ ∀ j, j < 4 * w → p.1 34 j = m.1 34 j ∧ p.1 35 j = m.1 35 j) (fun s' : Int32 × Int32 × Int32 × zM => k < P 3 ∧ s'.2.2.1 = nI (k + 1) ∧ s'.2.1 = nI (tmr (da (P 3) x) (k + 1)) ∧ s'.1 = tmw (da (P 3) x) (k + 1) ∧ fl2 [34, 35] [] (sI m 33 w (b2i (bd P x))) s'.2.2.2 ∧ (∀ a, a < k + 1 → s'.2.2.2.1 34 (4 * w + a) = nI (da (P 3) x a) ∧ s'.2.2.2.1 35 (4 * w + a) = nI (lkf (da (P 3) x) a)) ∧ ∀ j, j < 4 * w → s'.2.2.2.1 34 j = m.1 34 j ∧ s'.2.2.2.1 35 j = m.1 35 j)) := by
          intro t0 ht0
          unfold f_Atlas_describe_J132 nz
          rw [if_neg (by rw [ht0]; exact nI_ne0 (by omega) (by omega))]
          refine ok_mk ⟨q, nI_1 k, ht0, ?_, fl2_tr f1 (fl2_tr (fl2_I (inS_c (by simp))) (fl2_I (inS_c (by simp)))), fun a ha => ?_, fun j hj => ?_⟩
          · show tmw (da (P 3) x) k * (nI k + 1) / t0 = _
            rw [ht0]; rfl
          · show (sI (sI m1 34 (4 * w + k) (nI (da (P 3) x k))) 35 (4 * w + k) t2).1 34 (4 * w + a) = _ ∧ (sI (sI m1 34 (4 * w + k) (nI (da (P 3) x k))) 35 (4 * w + k) t2).1 35 (4 * w + a) = _
            rw [rd_I0 (k := 34) (by omega)]
            by_cases u : a = k
            · rw [u, rd_I1, rd_I1]; exact ⟨rfl, ht2⟩
            · rw [rd_I0 (by omega), rd_I0 (by omega), rd_I0 (by omega)]; exact g1 a (by omega)
          · show (sI (sI m1 34 (4 * w + k) (nI (da (P 3) x k))) 35 (4 * w + k) t2).1 34 j = _ ∧ (sI (sI m1 34 (4 * w + k) (nI (da (P 3) x k))) 35 (4 * w + k) t2).1 35 j = _
            rw [rd_I0 (by omega), rd_I0 (by omega), rd_I0 (by omega), rd_I0 (by omega)]; exact g2 j hj
        unfold f_Atlas_describe_J118
        refine ok_ix rfl (show 4 * w + k < zlen gX 35 from (show 4 * w + k < 2400 by omega)) (by decide) (ok_lt ?_)
        refine ok_it (fun z => g4 _ ?_) (fun z => g4 _ ?_)
        · show nI _ + 1 = nI (if 0 < k ∧ _ then _ else 1)
          rw [if_pos (hs.mp z), nI_1]
        · show (1 : Int32) = nI (if 0 < k ∧ _ then _ else 1)
          rw [if_neg (fun y => z (hs.mpr y))]; rfl
      unfold f_Atlas_describe_J91
      refine ok_it (fun z => ?_) (fun z => g3 _ ?_)
      · obtain ⟨z1, z2⟩ := hs.mp z
        rw [nI_pr (show 0 < 4 * w + k by omega)]
        refine ok_ix rfl (show 4 * w + k - 1 < 2400 by omega) (by decide) (g3 _ ?_)
        rw [rd_I0 (by omega), show 4 * w + k - 1 = 4 * w + (k - 1) by omega, (g1 (k - 1) (by omega)).2]
        obtain ⟨j, rfl⟩ : ∃ j, k = j + 1 := ⟨k - 1, by omega⟩
        show nI (lkf (da (P 3) x) (j + 1 - 1)) = nI (if da (P 3) x (j + 1) = da (P 3) x j then lkf (da (P 3) x) j else j + 1)
        rw [if_pos (show da (P 3) x (j + 1) = da (P 3) x j from z2)]; rfl
      · rcases Nat.eq_zero_or_pos k with k0 | k0
        · rw [k0]; rfl
        · obtain ⟨j, rfl⟩ : ∃ j, k = j + 1 := ⟨k - 1, by omega⟩
          show nI (j + 1) = nI (if da (P 3) x (j + 1) = da (P 3) x j then lkf (da (P 3) x) j else j + 1)
          rw [if_neg (fun y : da (P 3) x (j + 1) = da (P 3) x j => z (hs.mpr ⟨k0, y⟩))]
    unfold f_Atlas_describe_J90
    refine ok_le k 0 (fun q2 => go false ⟨fun h => (by cases h), fun h => by omega⟩) (fun q2 => ?_)
    rw [nI_pr q2]
    refine ok_ix rfl (show k < 4 by omega) (by decide) (ok_ix rfl (show k - 1 < 4 by omega) (by decide) ?_)
    have b1 := da_lt (P 3) x k
    have b2 := da_lt (P 3) x (k - 1)
    refine ok_ee (da (P 3) x k) (da (P 3) x (k - 1)) (fun z => go true ⟨fun _ => ⟨q2, z⟩, fun _ => rfl⟩) (fun z => go false ⟨fun h => (by cases h), fun h => absurd h.2 z⟩) (hx := c41' k q) (hy := c41' (k - 1) (by omega))
/-- where the agents are put, two bits each -/
def ppq (f : Nat → Nat) : Nat → Nat
  | 0 => 0
  | k + 1 => ppq f k + f k * 4 ^ k
theorem ppq_lt {f : Nat → Nat} {n : Nat} (h : ∀ i, i < n → f i < 4) : ppq f n < 4 ^ n := by
  induction n with
  | zero => show 0 < 1; decide
  | succ n ih =>
    have a := ih (fun i hi => h i (by omega))
    have b := h n (by omega)
    show ppq f n + f n * 4 ^ n < 4 ^ n * 4
    have : f n * 4 ^ n ≤ 3 * 4 ^ n := Nat.mul_le_mul_right _ (by omega)
    omega
theorem ppq_at {f : Nat → Nat} {n a : Nat} (h : ∀ i, i < n → f i < 4) (hn : n ≤ 4) (ha : a < n) : ppq f n / 4 ^ a % 4 = f a := by
  have h0 := h 0
  have h1 := h 1
  have h2 := h 2
  have h3 := h 3
  rcases (show n = 1 ∨ n = 2 ∨ n = 3 ∨ n = 4 by omega) with z | z | z | z <;> subst z <;> rcases (show a = 0 ∨ a = 1 ∨ a = 2 ∨ a = 3 by omega) with z | z | z | z <;> subst z <;> simp only [ppq, Nat.reducePow] <;> omega
def mpk (t c q : Nat) : Nat := (t * 64 + c) * 256 + q
theorem or_put : ∀ k, k < 4 → ∀ p, p < 4 → ∀ q, q < 64 → q < 4 ^ k → nI q ||| shl (nI p) (2 * nI k) = nI (q + p * 4 ^ k) := by decide +kernel
theorem or_256 {A q : Nat} (h : A * 256 + q < 2 ^ 31) (hq : q < 256) : shl (nI A) 8 ||| nI q = nI (A * 256 + q) := by
  apply Int32.toBitVec_inj.mp
  apply BitVec.eq_of_toNat_eq
  show ((shl (nI A) 8).toBitVec ||| (nI q).toBitVec).toNat = _
  unfold shl
  have e1 : A * 2 ^ 8 % 2 ^ 32 = A * 256 := by omega
  rw [BitVec.toNat_or, pk_shl _ _ 8 (by decide), pk_tn (n := A) (by omega), pk_tn (n := q) (by omega), pk_tn (n := A * 256 + q) (by omega), e1]
  have := Nat.shiftLeft_add_eq_or_of_lt (i := 8) (b := q) hq A
  rw [Nat.shiftLeft_eq] at this
  exact this.symm
theorem packX {n t c : Nat} {f : Nat → Nat} {v1 v2 v3 : Int32} {m : zM} (h24 : m.1 24 1 = nI n) (hn : n ≤ 4) (hf : ∀ i, i < n → f i < 4) (h46 : ∀ i, i < n → m.1 46 i = nI (f i)) (ht : t < 600) (hc : c < 64) (h1 : v1 = nI t) (h2 : v2 = nI (c / 4)) (h3 : v3 = nI (c % 4)) : f_Atlas_pack v1 v2 v3 m = some (nI (mpk t c (ppq f n))) := by
  refine ok_eq.mp ?_
  unfold f_Atlas_pack f_Atlas_pack_L6
  refine ok_for n (fun k (s : Int32 × Int32) => s.2 = nI k ∧ s.1 = nI (ppq f k)) ⟨rfl, rfl⟩ (Nat.zero_le _) ?_
  rintro k ⟨x, y⟩ - hk ⟨e1, e2⟩
  have e1 : y = nI k := e1
  have e2 : x = nI (ppq f k) := e2
  subst e1
  subst e2
  have pl := ppq_lt (f := f) (n := k) (fun i hi => hf i (by omega))
  have p4 : (4 : Nat) ^ k ≤ 4 ^ 4 := Nat.pow_le_pow_right (by decide) (by omega)
  unfold f_Atlas_pack_B6
  refine ok_le n k (fun q => ok_zl ?_) (fun q => ?_) (hx := h24)
  · unfold f_Atlas_pack_J41
    refine ok_mk (show _ = nI (mpk t c (ppq f n)) from ?_)
    rw [h1, h2, h3, show (16 : Int32) = nI 16 from rfl, show (4 : Int32) = nI 4 from rfl, pk_mul, nI_add, pk_mul, nI_add, show (t * 16 + c / 4) * 4 + c % 4 = t * 64 + c by omega, or_256 (by omega) (by omega), show k = n by omega]
    rfl
  · have p3 : (4 : Nat) ^ k ≤ 4 ^ 3 := Nat.pow_le_pow_right (by decide) (by omega)
    refine ok_ix rfl (show k < 4 by omega) (by decide) (ok_mk ⟨q, nI_1 k, ?_⟩)
    show nI (ppq f k) ||| shl (m.1 46 k) (2 * nI k) = nI (ppq f k + f k * 4 ^ k)
    rw [h46 k q]
    exact or_put k (by omega) _ (hf k q) _ (by omega) pl
def psb (P : Nat → Nat) (x c : Nat) : Bool := (sP P x c).isSome
def frm (P W : Nat → Nat) : Nat → Nat
  | 0 => 0
  | i + 1 => frm P W i + cn (psb P (W i)) 64
theorem frm_le (P W : Nat → Nat) (i : Nat) : frm P W i ≤ 64 * i := by
  induction i with
  | zero => exact Nat.le_refl _
  | succ i ih =>
    show frm P W i + cn (psb P (W i)) 64 ≤ _
    have := cn_le (psb P (W i)) 64
    omega
theorem frm_mo {P W : Nat → Nat} {i j : Nat} (h : i ≤ j) : frm P W i ≤ frm P W j := by
  induction j with
  | zero => rw [show i = 0 by omega]; exact Nat.le_refl _
  | succ j ih =>
    by_cases e : i = j + 1
    · rw [e]; exact Nat.le_refl _
    · have := ih (by omega)
      show _ ≤ frm P W j + _
      omega
/-- the row of a move -/
def mrw (P : Nat → Nat) (N : Nat) (W : Nat → Nat) (i c y : Nat) : Nat := mpk (nxw P 16 N W i c - 1) c (ppq (rk (P 3) (da (P 3) y)) (P 3))
theorem addMovesX {P : Nat → Nat} {b N i made : Nat} {W D pr sp : Nat → Nat} {m : zM} (hb : tbv b) (hP : tV P) (ht : tX b P m) (hL : Lst (Ed P 16) (wx0 P) N W D) (hN : N ≤ 600) (hA : AXk (P 3) N W D pr sp m) (hi : i < N) (hw : wX 40 (P 3) (dh (P 3) (W i)) (da (P 3) (W i)) m) (hm : made + 64 ≤ 38400) : ok (f_Atlas_addMoves (nI made) b m) (fun p => p.1 = nI (made + cn (psb P (W i)) 64) ∧ fl2 [37, 44, 45, 46, 47] [] m p.2 ∧ (∀ j, j < made → p.2.1 37 j = m.1 37 j) ∧ ∀ c, c < 64 → ∀ y, sP P (W i) c = some y → p.2.1 37 (made + cn (psb P (W i)) c) = nI (mrw P N W i c y)) := by
  have n4 := hP.1.2.1
  have r16 := hP.1.2.2.2.2.2.2.2.2.2.2.1
  have kw := (Rn_kv hP (hL.1 i hi).1).1
  unfold f_Atlas_addMoves f_Atlas_addMoves_L5
  refine ok_for (P 8) (fun r (s : Int32 × Int32 × zM) => s.2.1 = nI r ∧ s.1 = nI (made + cn (psb P (W i)) (4 * r)) ∧ fl2 [37, 44, 45, 46, 47] [] m s.2.2 ∧ (∀ j, j < made → s.2.2.1 37 j = m.1 37 j) ∧ ∀ c, c < 4 * r → ∀ y, sP P (W i) c = some y → s.2.2.1 37 (made + cn (psb P (W i)) c) = nI (mrw P N W i c y)) (k0 := 0) ⟨rfl, rfl, fl2_rf, fun _ _ => rfl, fun c hc => absurd hc (Nat.not_lt_zero _)⟩ (Nat.zero_le _) ?_
  rintro r ⟨x, y, m1⟩ - hr ⟨e1, e2, f1, g1, g2⟩
  have e1 : y = nI r := e1
  have e2 : x = nI (made + cn (psb P (W i)) (4 * r)) := e2
  subst e1
  subst e2
  have f1 : fl2 [37, 44, 45, 46, 47] [] m m1 := f1
  have t1 : tX b P m1 := tX_fl hb ht f1 (by decide) r16
  unfold f_Atlas_addMoves_B5
  refine ok_le (P 8) r (fun q => ?_) (fun q => ?_) (hx := t1.1.2.2.1)
  · have ec : cn (psb P (W i)) 64 = cn (psb P (W i)) (4 * r) := by
      have : ∀ k, 4 * r ≤ k → k ≤ 64 → cn (psb P (W i)) k = cn (psb P (W i)) (4 * r) := by
        intro k
        induction k with
        | zero => intro h _; rw [show 4 * r = 0 by omega]
        | succ k ih =>
          intro h h2
          by_cases u : 4 * r = k + 1
          · rw [u]
          · rw [cn_s0 (show psb P (W i) k = false by unfold psb; rw [sP_no (by omega)]; rfl), ih (by omega) (by omega)]
      exact this 64 (by omega) (Nat.le_refl _)
    refine ok_mk ⟨by rw [ec], f1, g1, fun c hc y hy => ?_⟩
    rcases Nat.lt_or_ge c (4 * r) with u | u
    · exact g2 c u y hy
    · rw [sP_no (by omega)] at hy; cases hy
  · unfold f_Atlas_addMoves_L17
    refine ok_for (P 3) (fun a (s : Int32 × Int32 × zM) => s.2.1 = nI a ∧ s.1 = nI (made + cn (psb P (W i)) (4 * r + a)) ∧ fl2 [37, 44, 45, 46, 47] [] m s.2.2 ∧ (∀ j, j < made → s.2.2.1 37 j = m.1 37 j) ∧ ∀ c, c < 4 * r + a → ∀ y, sP P (W i) c = some y → s.2.2.1 37 (made + cn (psb P (W i)) c) = nI (mrw P N W i c y)) ⟨rfl, rfl, f1, g1, g2⟩ (Nat.zero_le _) ?_
    rintro a ⟨x, y, m2⟩ - ha ⟨e1, e2, f2, g3, g4⟩
    have e1 : y = nI a := e1
    have e2 : x = nI (made + cn (psb P (W i)) (4 * r + a)) := e2
    subst e1
    subst e2
    have f2 : fl2 [37, 44, 45, 46, 47] [] m m2 := f2
    have g3 : ∀ j, j < made → m2.1 37 j = m.1 37 j := g3
    have g4 : ∀ c, c < 4 * r + a → ∀ y, sP P (W i) c = some y → m2.1 37 (made + cn (psb P (W i)) c) = nI (mrw P N W i c y) := g4
    have t2 : tX b P m2 := tX_fl hb ht f2 (by decide) r16
    have A2 := AXk_fl hA f2 (by decide)
    have cl := cn_le (psb P (W i)) (4 * r + a)
    unfold f_Atlas_addMoves_B17
    refine ok_le (P 3) a (fun q' => ok_zl ?_) (fun q' => ?_) (hx := A2.1.2)
    · unfold f_Atlas_addMoves_J82
      have ec : cn (psb P (W i)) (4 * (r + 1)) = cn (psb P (W i)) (4 * r + a) := by
        have : ∀ k, 4 * r + a ≤ k → k ≤ 4 * (r + 1) → cn (psb P (W i)) k = cn (psb P (W i)) (4 * r + a) := by
          intro k
          induction k with
          | zero => intro h _; rw [show 4 * r + a = 0 by omega]
          | succ k ih =>
            intro h h2
            by_cases u : 4 * r + a = k + 1
            · rw [u]
            · rw [cn_s0 (show psb P (W i) k = false by unfold psb; rw [sP_no (by omega)]; rfl), ih (by omega) (by omega)]
        exact this (4 * (r + 1)) (by omega) (Nat.le_refl _)
      refine ok_mk ⟨q, nI_1 r, by rw [ec], f2, g3, fun c hc y hy => ?_⟩
      rcases Nat.lt_or_ge c (4 * r + a) with u | u
      · exact g4 c u y hy
      · rw [sP_no (by omega)] at hy; cases hy
    · refine ok_le 38400 (made + cn (psb P (W i)) (4 * r + a)) (fun z => by omega) (fun q3 => ?_)
      have w2 : wX 40 (P 3) (dh (P 3) (W i)) (da (P 3) (W i)) m2 := wX_fl hw f2 (by decide)
      refine ok_bi (goP hb hP t2 kw w2 q q' (by decide) (by decide) (by decide) (by decide)) (fun p1 ⟨h1, h2, h3⟩ => ?_)
      have f3 : fl2 [37, 44, 45, 46, 47] [] m p1.2 := fl2_tr f2 (fl2_su h1 (by decide))
      have k37 : ∀ j, p1.2.1 37 j = m2.1 37 j := fun j => fl2_i h1 (by simp [inS])
      cases em : sP P (W i) (4 * r + a) with
      | none =>
        rw [h3 em]
        refine ok_in (by decide) (ok_mk ⟨q', nI_1 a, ?_, f3, fun j hj => by show p1.2.1 37 j = _; rw [k37]; exact g3 j hj, fun c hc y hy => ?_⟩)
        · show nI _ = _
          rw [show 4 * r + (a + 1) = 4 * r + a + 1 by omega, cn_s0 (show psb P (W i) (4 * r + a) = false by unfold psb; rw [em]; rfl)]
        · show p1.2.1 37 _ = _
          by_cases u : c = 4 * r + a
          · rw [u, em] at hy; cases hy
          · rw [k37]; exact g4 c (by omega) y hy
      | some z =>
        obtain ⟨y1, y2, y3⟩ := h2 z em
        rw [y1]
        refine ok_ip rfl ?_
        unfold f_Atlas_number
        refine ok_bi (G := fun p2 : Int32 × zM => fl2 [46, 47] [] p1.2 p2.2 ∧ (∀ j, j < P 3 → p2.2.1 46 j = nI (rk (P 3) (da (P 3) z) j)) ∧ p2.1 = nI (nxw P 16 N W i (4 * r + a) - 1) ∧ nxw P 16 N W i (4 * r + a) - 1 < N) ?_ (fun p2 ⟨b1, b2, b3, b4⟩ => ?_)
        · refine ok_bi (foldK y3 y2 (by decide)) (fun p4 ⟨c1, c2, c3⟩ => ?_)
          have A4 := AXk_fl (AXk_fl hA f3 (by decide)) c1 (by decide)
          rw [c2]
          obtain ⟨t, ht', et, en⟩ := nxw_e hL hi (show 4 * r + a < 64 by omega) (by omega) em
          refine ok_bi (findX (v := lN (fo (P 3) z)) A4.2.2.1 A4.2.2.2 (by omega)) (fun r2 hr2 => ok_mk ⟨c1, c3, ?_, by omega⟩)
          rw [en, Nat.add_sub_cancel]
          have fz := kv_lt (fo_kv y2)
          rcases hr2 with ⟨j, hj, d1, d2⟩ | ⟨_, d1⟩
          · have wj := kv_lt (Rn_kv hP (hL.1 j hj).1).1
            have := (pk_lEQ (by omega) (by omega)).mp d1
            show r2 = nI t
            rw [d2, Lst_in hL hj ht' (this.trans et.symm)]
          · exact absurd (show lN (W t) = lN (fo (P 3) z) by rw [et]) (d1 t ht')
        · have A5 := AXk_fl (AXk_fl hA f3 (by decide)) b1 (by decide)
          have f5 : fl2 [37, 44, 45, 46, 47] [] m p2.2 := fl2_tr f3 (fl2_su b1 (by decide))
          have k37' : ∀ j, p2.2.1 37 j = m2.1 37 j := fun j => by rw [fl2_i b1 (by simp [inS]), k37]
          refine ok_eb (packX (f := rk (P 3) (da (P 3) z)) (c := 4 * r + a) A5.1.2 n4 (fun j hj => by have := rk_lt (a := da (P 3) z) hj; omega) b2 (show nxw P 16 N W i (4 * r + a) - 1 < 600 by omega) (by omega) b3 (by rw [show (4 * r + a) / 4 = r by omega]) (by rw [show (4 * r + a) % 4 = a by omega])) ?_
          refine ok_ix rfl (show made + cn (psb P (W i)) (4 * r + a) < 38400 by omega) (by decide) (ok_lt (ok_mk ⟨q', nI_1 a, ?_, fl2_tr f5 (fl2_I (inS_c (by simp))), fun j hj => ?_, fun c hc y hy => ?_⟩))
          · show nI _ + 1 = _
            rw [show 4 * r + (a + 1) = 4 * r + a + 1 by omega, cn_s1 (show psb P (W i) (4 * r + a) = true by unfold psb; rw [em]; rfl), nI_1, Nat.add_assoc]
          · show (sI p2.2 37 (made + cn (psb P (W i)) (4 * r + a)) _).1 37 j = _
            rw [rd_I0 (by omega), k37']; exact g3 j hj
          · show (sI p2.2 37 (made + cn (psb P (W i)) (4 * r + a)) _).1 37 (made + cn (psb P (W i)) c) = _
            by_cases u : c = 4 * r + a
            · rw [u, em] at hy
              cases hy
              rw [u, rd_I1]
              rfl
            · have pc : psb P (W i) c = true := by unfold psb; rw [hy]; rfl
              have pz : psb P (W i) (4 * r + a) = true := by unfold psb; rw [em]; rfl
              rw [rd_I0 (fun z => u (cn_un pc pz (by omega))), k37']
              exact g4 c (by omega) y hy
/-- the class's atlas -/
def AXm (P : Nat → Nat) (N : Nat) (W D pr sp : Nat → Nat) (m : zM) : Prop := AXk (P 3) N W D pr sp m ∧ (∀ i, i < N → m.1 32 i = timesOf P (W i) ∧ m.1 33 i = b2i (bd P (W i)) ∧ ∀ a, a < P 3 → m.1 34 (4 * i + a) = nI (da (P 3) (W i) a) ∧ m.1 35 (4 * i + a) = nI (lkf (da (P 3) (W i)) a)) ∧ (∀ i, i ≤ N → m.1 36 i = nI (frm P W i)) ∧ ∀ i, i < N → ∀ c, c < 64 → ∀ y, sP P (W i) c = some y → m.1 37 (frm P W i + cn (psb P (W i)) c) = nI (mrw P N W i c y)
theorem AXm_fl {P : Nat → Nat} {N : Nat} {W D pr sp : Nat → Nat} {m m' : zM} {S : List Nat} {F : List (Nat × Nat)} (h : AXm P N W D pr sp m) (hf : fl2 S F m m') (hk : kps [26, 27, 28, 29, 30, 31, 32, 33, 34, 35, 36, 37] [(24, 0), (24, 1)] S F = true) : AXm P N W D pr sp m' := by
  have ci : ∀ c, c ∈ [26, 27, 28, 29, 30, 31, 32, 33, 34, 35, 36, 37] → m'.1 c = m.1 c := fun c hc => fl2_ic hf (kps_c hk hc)
  have cj : ∀ c, c ∈ [26, 27, 28, 29, 30, 31, 32, 33, 34, 35, 36, 37] → m'.2.1 c = m.2.1 c := fun c hc => fl2_jc hf (kps_c hk hc)
  obtain ⟨⟨h1, h2, h3, h4⟩, h5, h6, h7⟩ := h
  refine ⟨⟨by rw [fl2_i hf (kps_g hk (by simp)), fl2_i hf (kps_g hk (by simp))]; exact h1, ?_, ?_, ?_⟩, ?_, ?_, ?_⟩
  · rw [cj 28 (by simp), ci 29 (by simp), ci 30 (by simp), ci 31 (by simp)]; exact h2
  · rw [ci 27 (by simp)]; exact h3
  · unfold sky
    rw [ci (25 + 2) (by simp), cj (25 + 1) (by simp)]; exact h4
  · rw [ci 32 (by simp), ci 33 (by simp), ci 34 (by simp), ci 35 (by simp)]; exact h5
  · rw [ci 36 (by simp)]; exact h6
  · rw [ci 37 (by simp)]; exact h7
def AFr (m m' : zM) : Prop := fl2 [26, 27, 28, 29, 30, 31, 32, 33, 34, 35, 36, 37, 38, 39, 40, 41, 44, 45, 46, 47] [(24, 0), (24, 1)] m m'
theorem fillA {P : Nat → Nat} {b N : Nat} {ow fk dp pa st : Nat → Nat} {m : zM} (hb : tbv b) (hP : tV P) (ht : tX b P m) (hS : SF P N ow fk dp pa st m) : ok (f_Atlas_fill b m) (fun p => AFr m p ∧ ∃ W D pr sp : Nat → Nat, Lst (Ed P 16) (wx0 P) N W D ∧ AXm P N W D pr sp p ∧ WyL P N W D pr sp) := by
  have r16 := hP.1.2.2.2.2.2.2.2.2.2.2.1
  have n4 := hP.1.2.1
  refine fillK hb hP ht hS (fun m' W D pr sp f1 hL hA hW => ?_)
  have hN := hS.2.1
  unfold f_Atlas_fill_J138 f_Atlas_fill_L143
  refine ok_for N (fun k (s : Int32 × Int32 × zM) => s.2.1 = nI k ∧ s.1 = nI (frm P W k) ∧ fl2 [32, 33, 34, 35, 36, 37, 40, 41, 44, 45, 46, 47] [] m' s.2.2 ∧ (∀ i, i < k → s.2.2.1 32 i = timesOf P (W i) ∧ s.2.2.1 33 i = b2i (bd P (W i)) ∧ ∀ a, a < P 3 → s.2.2.1 34 (4 * i + a) = nI (da (P 3) (W i) a) ∧ s.2.2.1 35 (4 * i + a) = nI (lkf (da (P 3) (W i)) a)) ∧ (∀ i, i < k → s.2.2.1 36 i = nI (frm P W i)) ∧ ∀ i, i < k → ∀ c, c < 64 → ∀ y, sP P (W i) c = some y → s.2.2.1 37 (frm P W i + cn (psb P (W i)) c) = nI (mrw P N W i c y)) ⟨rfl, rfl, fl2_rf, fun i hi => absurd hi (Nat.not_lt_zero _), fun i hi => absurd hi (Nat.not_lt_zero _), fun i hi => absurd hi (Nat.not_lt_zero _)⟩ (Nat.zero_le _) ?_
  rintro k ⟨x, y, m1⟩ - hk ⟨e1, e2, f2, g1, g2, g3⟩
  have e1 : y = nI k := e1
  have e2 : x = nI (frm P W k) := e2
  subst e1
  subst e2
  have f2 : fl2 [32, 33, 34, 35, 36, 37, 40, 41, 44, 45, 46, 47] [] m' m1 := f2
  have g1 : ∀ i, i < k → m1.1 32 i = timesOf P (W i) ∧ m1.1 33 i = b2i (bd P (W i)) ∧ ∀ a, a < P 3 → m1.1 34 (4 * i + a) = nI (da (P 3) (W i) a) ∧ m1.1 35 (4 * i + a) = nI (lkf (da (P 3) (W i)) a) := g1
  have g2 : ∀ i, i < k → m1.1 36 i = nI (frm P W i) := g2
  have g3 : ∀ i, i < k → ∀ c, c < 64 → ∀ y, sP P (W i) c = some y → m1.1 37 (frm P W i + cn (psb P (W i)) c) = nI (mrw P N W i c y) := g3
  have A1 := AXk_fl hA f2 (by decide)
  have fl := frm_le P W k
  unfold f_Atlas_fill_B143
  refine ok_le N k (fun q => ok_zl ?_) (fun q => ?_) (hx := A1.1.1)
  · have : k = N := by omega
    subst this
    unfold f_Atlas_fill_J198
    refine ok_ix A1.1.1 (show k < 601 by omega) (by decide) (ok_lt (ok_mk ⟨fl2_tr (fl2_su f1 (by decide)) (fl2_tr (fl2_su f2 (by decide)) (fl2_I (inS_c (by simp)))), W, D, pr, sp, hL, ⟨AXk_fl A1 (fl2_I (S := [36]) (F := []) (inS_c (by simp))) (by decide), fun i hi => ?_, fun i hi => ?_, fun i hi c hc y hy => ?_⟩, hW⟩))
    · obtain ⟨a1, a2, a3⟩ := g1 i hi
      exact ⟨by rw [rd_I0 (by omega)]; exact a1, by rw [rd_I0 (by omega)]; exact a2, fun a ha => by rw [rd_I0 (by omega), rd_I0 (by omega)]; exact a3 a ha⟩
    · by_cases u : i = k
      · rw [u, rd_I1]
      · rw [rd_I0 (by omega)]; exact g2 i (by omega)
    · rw [rd_I0 (by omega)]; exact g3 i hi c hc y hy
  · have kw := (Rn_kv hP (hL.1 k q).1).1
    have t2 : tX b P (sI m1 36 k (nI (frm P W k))) := tX_fl hb (tX_fl hb (tX_fl hb ht f1 (by decide) r16) f2 (by decide) r16) (fl2_I (S := [36]) (F := []) (inS_c (by simp))) (by decide) r16
    refine ok_ix rfl (show k < 601 by omega) (by decide) (ok_lt (ok_ix rfl (show k < 600 by omega) (by decide) ?_))
    have A2 := AXk_fl A1 (fl2_I (m := m1) (a := 36) (i := k) (x := nI (frm P W k)) (S := [36]) (F := []) (inS_c (by simp))) (by decide)
    rw [(A2.2.1 k q).1, A2.1.2]
    have ld := loadX (w := 40) (m := sI m1 36 k (nI (frm P W k))) (kv_w kw)
    rw [ky_d] at ld
    refine ok_bi ld (fun p18 ⟨l1, l2⟩ => ?_)
    have t3 := tX_fl hb t2 l1 (by decide) r16
    have A3 := AXk_fl A2 l1 (by decide)
    refine ok_bi (describeX hP t3 kw l2 A3.1.2 (show k < 600 by omega)) (fun p19 ⟨d1, d2, d3, d4⟩ => ?_)
    have t4 := tX_fl hb t3 d1 (by decide) r16
    have A4 := AXk_fl A3 d1 (by decide)
    refine ok_bi (addMovesX hb hP t4 hL hN A4 q (wX_fl l2 d1 (by decide)) (by omega)) (fun p20 ⟨h1, h2, h3, h4⟩ => ok_mk ⟨q, nI_1 k, h1, ?_, fun i hi => ?_, fun i hi => ?_, fun i hi c hc y hy => ?_⟩)
    · exact fl2_tr f2 (fl2_tr (fl2_I (inS_c (by simp))) (fl2_tr (fl2_su l1 (by decide)) (fl2_tr (fl2_su d1 (by decide)) (fl2_su h2 (by decide)))))
    · show p20.2.1 32 i = _ ∧ p20.2.1 33 i = _ ∧ ∀ a, a < P 3 → p20.2.1 34 (4 * i + a) = _ ∧ p20.2.1 35 (4 * i + a) = _
      rw [show p20.2.1 32 = p19.1 32 from fl2_ic h2 (fun j => by simp [inS]), show p20.2.1 33 = p19.1 33 from fl2_ic h2 (fun j => by simp [inS]), show p20.2.1 34 = p19.1 34 from fl2_ic h2 (fun j => by simp [inS]), show p20.2.1 35 = p19.1 35 from fl2_ic h2 (fun j => by simp [inS])]
      by_cases u : i = k
      · rw [u]; exact d2
      · obtain ⟨a1, a2, a3⟩ := g1 i (by omega)
        have l32 : ∀ c, c = 32 ∨ c = 33 ∨ c = 34 ∨ c = 35 → ∀ j, p18.1 c j = m1.1 c j := fun c hc j => by
          rw [fl2_i l1 (by rcases hc with z | z | z | z <;> rw [z] <;> simp [inS]), rd_I0 (by omega)]
        refine ⟨?_, ?_, fun a ha => ⟨?_, ?_⟩⟩
        · rw [(d3 i u).1, l32 32 (by omega)]; exact a1
        · rw [(d3 i u).2, l32 33 (by omega)]; exact a2
        · rw [(d4 (4 * i + a) (by omega)).1, l32 34 (by omega)]; exact (a3 a ha).1
        · rw [(d4 (4 * i + a) (by omega)).2, l32 35 (by omega)]; exact (a3 a ha).2
    · show p20.2.1 36 i = _
      rw [fl2_i h2 (by simp [inS]), fl2_i d1 (by simp [inS]), fl2_i l1 (by simp [inS])]
      by_cases u : i = k
      · rw [u, rd_I1]
      · rw [rd_I0 (by omega)]; exact g2 i (by omega)
    · show p20.2.1 37 _ = _
      by_cases u : i = k
      · rw [u] at hy ⊢; exact h4 c hc y hy
      · have pc : psb P (W i) c = true := by unfold psb; rw [hy]; rfl
        have c1 := cn_ms (p := psb P (W i)) (show c + 1 ≤ 64 by omega)
        rw [cn_s1 pc] at c1
        have c2 := frm_mo (P := P) (W := W) (show i + 1 ≤ k by omega)
        have c3 : frm P W (i + 1) = frm P W i + cn (psb P (W i)) 64 := rfl
        rw [h3 _ (by omega), fl2_i d1 (by simp [inS]), fl2_i l1 (by simp [inS]), rd_I0 (by omega)]
        exact g3 i (by omega) c hc y hy
