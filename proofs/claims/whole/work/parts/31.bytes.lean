/-- locations that may have changed: all of the cells S, and single fields F -/
def inS (S : List Nat) (F : List (Nat × Nat)) (k j : Nat) : Bool := S.contains k || F.contains (k, j)
def fl2 (S : List Nat) (F : List (Nat × Nat)) (m m' : zM) : Prop := (∀ k j, inS S F k j = false → m'.1 k j = m.1 k j ∧ m'.2.1 k j = m.2.1 k j) ∧ m'.2.2 = m.2.2
theorem fl2_rf {S : List Nat} {F : List (Nat × Nat)} {m : zM} : fl2 S F m m := ⟨fun _ _ _ => ⟨rfl, rfl⟩, rfl⟩
theorem fl2_tr {S : List Nat} {F : List (Nat × Nat)} {m m' m'' : zM} (h : fl2 S F m m') (h' : fl2 S F m' m'') : fl2 S F m m'' := ⟨fun k j hk => ⟨(h'.1 k j hk).1.trans (h.1 k j hk).1, (h'.1 k j hk).2.trans (h.1 k j hk).2⟩, h'.2.trans h.2⟩
theorem fl2_I {S : List Nat} {F : List (Nat × Nat)} {m : zM} {a i : Nat} {x : Int32} (ha : inS S F a i = true) : fl2 S F m (sI m a i x) := ⟨fun k j hk => ⟨rd_I0 (fun z => by rw [z.1, z.2, ha] at hk; cases hk), rfl⟩, rfl⟩
theorem fl2_J {S : List Nat} {F : List (Nat × Nat)} {m : zM} {a i : Nat} {x : Int64} (ha : inS S F a i = true) : fl2 S F m (sJ m a i x) := ⟨fun k j hk => ⟨rfl, rd_J0 (fun z => by rw [z.1, z.2, ha] at hk; cases hk)⟩, rfl⟩
theorem fl2_i {S : List Nat} {F : List (Nat × Nat)} {m m' : zM} (h : fl2 S F m m') {k j : Nat} (hk : inS S F k j = false) : m'.1 k j = m.1 k j := (h.1 k j hk).1
theorem fl2_j {S : List Nat} {F : List (Nat × Nat)} {m m' : zM} (h : fl2 S F m m') {k j : Nat} (hk : inS S F k j = false) : m'.2.1 k j = m.2.1 k j := (h.1 k j hk).2
theorem fl2_ic {S : List Nat} {F : List (Nat × Nat)} {m m' : zM} (h : fl2 S F m m') {k : Nat} (hk : ∀ j, inS S F k j = false) : m'.1 k = m.1 k := by funext j; exact fl2_i h (hk j)
theorem fl2_jc {S : List Nat} {F : List (Nat × Nat)} {m m' : zM} (h : fl2 S F m m') {k : Nat} (hk : ∀ j, inS S F k j = false) : m'.2.1 k = m.2.1 k := by funext j; exact fl2_j h (hk j)
theorem inS_c {S : List Nat} {F : List (Nat × Nat)} {k j : Nat} (h : k ∈ S) : inS S F k j = true := by simp [inS, h]
theorem inS_f {S : List Nat} {F : List (Nat × Nat)} {k j : Nat} (h : (k, j) ∈ F) : inS S F k j = true := by simp [inS, h]
/-- Bytes.add behind the n bytes that are there -/
theorem bx_add {b n : Nat} {v : Int32} {m : zM} (hl : m.1 b 1 = nI n) (hn : n < 1600) (hb : b + 1 ≠ b) : f_Bytes_add b v m = some (sI (sI m (b + 1) n (v &&& 255)) b 1 (nI (n + 1))) := by
  unfold f_Bytes_add
  rw [if_neg (by rw [hl]; exact nI_ge (a := n) (b := 1600) hn (by decide)), hl, ix_nI hn (by decide)]
  simp only [Option.bind_some, lt]
  rw [rd_I0 (by omega), hl, nI_1]
/-- the k-th of the bytes of a number -/
def nby (v : Int32) (k : Nat) : Int32 := shr v (nI (24 - 8 * k)) &&& 255
theorem bx_num {b n : Nat} {v : Int32} {m : zM} (hl : m.1 b 1 = nI n) (hn : n + 4 ≤ 1600) : ok (f_Bytes_addNumber b v m) (fun m' => m'.1 b 1 = nI (n + 4) ∧ (∀ j, j < n → m'.1 (b + 1) j = m.1 (b + 1) j) ∧ (∀ k, k < 4 → m'.1 (b + 1) (n + k) = nby v k) ∧ fl2 [b + 1] [(b, 1)] m m') := by
  unfold f_Bytes_addNumber f_Bytes_addNumber_L3
  refine ok_loop (fun s : Int32 × zM => ∃ k, k ≤ 4 ∧ s.1 = nI (24 + 8 - 8 * k) - 8 ∧ s.2.1 b 1 = nI (n + k) ∧ (∀ j, j < n → s.2.1 (b + 1) j = m.1 (b + 1) j) ∧ (∀ i, i < k → s.2.1 (b + 1) (n + i) = nby v i) ∧ fl2 [b + 1] [(b, 1)] m s.2) (fun s => if s.1 < 0 then 0 else 1 + s.1.toNatClampNeg) ?_ _ ⟨0, by omega, (show (24 : Int32) = nI (24 + 8 - 8 * 0) - 8 by decide), hl, fun _ _ => rfl, fun i hi => absurd hi (Nat.not_lt_zero _), fl2_rf⟩ (by show (if (24 : Int32) < 0 then 0 else 1 + (24 : Int32).toNatClampNeg) < _; decide)
  rintro ⟨v2, m1⟩ ⟨k, hk, e, h1, h2, h3, h4⟩
  have e : v2 = nI (32 - 8 * k) - 8 := e
  subst e
  have h1 : m1.1 b 1 = nI (n + k) := h1
  unfold f_Bytes_addNumber_B3
  by_cases hk4 : k = 4
  · subst hk4
    refine ok_ip (show nI (32 - 8 * 4) - 8 < 0 by decide) (ok_mk ?_)
    exact ⟨h1, h2, h3, h4⟩
  · have hk3 : k < 4 := by omega
    have e2 : nI (32 - 8 * k) - 8 = nI (24 - 8 * k) := by
      rw [show (8 : Int32) = nI 8 from rfl, pk_sub (by omega)]
      congr 1
      omega
    have e3 : nI (24 - 8 * k) + (-8) = nI (32 - 8 * (k + 1)) - 8 := by
      have : nI (24 - 8 * k) = nI (32 - 8 * (k + 1)) := by congr 1; omega
      rw [this]
      rcases (show k = 0 ∨ k = 1 ∨ k = 2 ∨ k = 3 by omega) with rfl | rfl | rfl | rfl <;> decide
    rw [e2]
    refine ok_in (nI_pos (by omega)) (ok_eb (bx_add h1 (by omega) (by omega)) (ok_mk ⟨⟨k + 1, by omega, e3, ?_, ?_, ?_, ?_⟩, ?_⟩))
    · exact rd_I1 _ _ _ _
    · intro j hj
      show (sI (sI m1 (b + 1) (n + k) _) b 1 _).1 (b + 1) j = _
      rw [rd_I0 (by omega), rd_I0 (by omega)]
      exact h2 j hj
    · intro i hi
      show (sI (sI m1 (b + 1) (n + k) _) b 1 _).1 (b + 1) (n + i) = _
      rw [rd_I0 (by omega)]
      by_cases hik : i = k
      · subst hik
        rw [rd_I1]
        rfl
      · rw [rd_I0 (by omega)]
        exact h3 i (by omega)
    · exact fl2_tr h4 (fl2_tr (fl2_I (inS_c (by simp))) (fl2_I (inS_f (by simp))))
    · show (if nI (24 - 8 * k) + (-8) < 0 then 0 else 1 + (nI (24 - 8 * k) + (-8)).toNatClampNeg) < (if nI (24 - 8 * k) < 0 then 0 else 1 + (nI (24 - 8 * k)).toNatClampNeg)
      rcases (show k = 0 ∨ k = 1 ∨ k = 2 ∨ k = 3 by omega) with rfl | rfl | rfl | rfl <;> decide

/-- what feed gives, byte by byte -/
def fby (a b c d e : Int32) (k : Nat) : Int32 := nby (if k < 4 then a else if k < 8 then b else if k < 12 then c else if k < 16 then d else e) (k % 4)
theorem refX {i : Nat} (hi : i < 6) (m : zM) : f_PA_refuse (nI i) m = some (-1, sI m 64 i (m.1 64 i + 1)) := by
  unfold f_PA_refuse
  rw [ix_nI hi (by decide)]
  rfl
theorem refM {i : Nat} (hi : i < 6) (m : zM) : f_MO_refuses (nI i) m = some (-1, sI m 2 i (m.1 2 i + 1)) := by
  unfold f_MO_refuses
  rw [ix_nI hi (by decide)]
  rfl
theorem refMb {i : Nat} (hi : i < 6) (m : zM) : f_MO_isRefused (nI i) m = some (false, sI m 2 i (m.1 2 i + 1)) := by
  unfold f_MO_isRefused
  rw [ix_nI hi (by decide)]
  rfl
theorem feedX {n : Nat} {a b c d e : Int32} {m : zM} (hl : m.1 1 1 = nI n) (hn : n ≤ 1600) : ok (f_PA_feed a b c d e m) (fun p => if n + 20 ≤ 1600 then p.1 = nI (n + 20) ∧ p.2.1 1 1 = nI (n + 20) ∧ (∀ j, j < n → p.2.1 2 j = m.1 2 j) ∧ (∀ k, k < 20 → p.2.1 2 (n + k) = fby a b c d e k) ∧ fl2 [2] [(1, 1)] m p.2 else p = (-1, sI m 64 0 (m.1 64 0 + 1))) := by
  unfold f_PA_feed f_Bytes_size
  have e20 : m.1 1 1 + 20 = nI (n + 20) := by rw [hl]; exact nI_add n 20
  rw [e20]
  refine ok_it (fun h => ?_) (fun h => ?_)
  · have hle : n + 20 ≤ 1600 := (le_nI (a := n + 20) (b := 1600) rfl rfl (by omega) (by decide)).mp h
    simp only [if_pos hle]
    refine ok_bi (bx_num hl (by omega)) (fun p1 h1 => ?_)
    refine ok_bi (bx_num h1.1 (by omega)) (fun p2 h2 => ?_)
    refine ok_bi (bx_num h2.1 (by omega)) (fun p3 h3 => ?_)
    refine ok_bi (bx_num h3.1 (by omega)) (fun p4 h4 => ?_)
    refine ok_bi (bx_num h4.1 (by omega)) (fun p5 h5 => ?_)
    refine ok_mk ⟨h5.1, h5.1, fun j hj => ?_, fun k hk => ?_, fl2_tr h1.2.2.2 (fl2_tr h2.2.2.2 (fl2_tr h3.2.2.2 (fl2_tr h4.2.2.2 h5.2.2.2)))⟩
    · rw [h5.2.1 j (by omega), h4.2.1 j (by omega), h3.2.1 j (by omega), h2.2.1 j (by omega), h1.2.1 j hj]
    · unfold fby
      rcases (show k < 4 ∨ (4 ≤ k ∧ k < 8) ∨ (8 ≤ k ∧ k < 12) ∨ (12 ≤ k ∧ k < 16) ∨ (16 ≤ k ∧ k < 20) by omega) with q | q | q | q | q
      · rw [if_pos q, show k % 4 = k by omega, h5.2.1 _ (by omega), h4.2.1 _ (by omega), h3.2.1 _ (by omega), h2.2.1 _ (by omega)]
        exact h1.2.2.1 k q
      · rw [if_neg (by omega), if_pos q.2, show k % 4 = k - 4 by omega, h5.2.1 _ (by omega), h4.2.1 _ (by omega), h3.2.1 _ (by omega), show n + k = n + 4 + (k - 4) by omega]
        exact h2.2.2.1 _ (by omega)
      · rw [if_neg (by omega), if_neg (by omega), if_pos q.2, show k % 4 = k - 8 by omega, h5.2.1 _ (by omega), h4.2.1 _ (by omega), show n + k = n + 4 + 4 + (k - 8) by omega]
        exact h3.2.2.1 _ (by omega)
      · rw [if_neg (by omega), if_neg (by omega), if_neg (by omega), if_pos q.2, show k % 4 = k - 12 by omega, h5.2.1 _ (by omega), show n + k = n + 4 + 4 + 4 + (k - 12) by omega]
        exact h4.2.2.1 _ (by omega)
      · rw [if_neg (by omega), if_neg (by omega), if_neg (by omega), if_neg (by omega), show k % 4 = k - 16 by omega, show n + k = n + 4 + 4 + 4 + 4 + (k - 16) by omega]
        exact h5.2.2.1 _ (by omega)
  · have hle : ¬ n + 20 ≤ 1600 := fun z => h ((le_nI (a := n + 20) (b := 1600) rfl rfl (by omega) (by decide)).mpr z)
    simp only [if_neg hle]
    exact ok_eb (refX (i := 0) (by decide) m) (ok_mk rfl)
theorem feedM {n : Nat} {a b c d e : Int32} {m : zM} (hl : m.1 0 1 = nI n) (hn : n ≤ 1600) : ok (f_MO_feed a b c d e m) (fun p => if n + 20 ≤ 1600 then p.1 = nI (n + 20) ∧ p.2.1 0 1 = nI (n + 20) ∧ (∀ j, j < n → p.2.1 1 j = m.1 1 j) ∧ (∀ k, k < 20 → p.2.1 1 (n + k) = fby a b c d e k) ∧ fl2 [1] [(0, 1)] m p.2 else p = (-1, sI m 2 0 (m.1 2 0 + 1))) := by
  unfold f_MO_feed
  have e20 : m.1 0 1 + 20 = nI (n + 20) := by rw [hl]; exact nI_add n 20
  rw [e20]
  refine ok_it (fun h => ?_) (fun h => ?_)
  · have hle : n + 20 ≤ 1600 := (le_nI (a := n + 20) (b := 1600) rfl rfl (by omega) (by decide)).mp h
    simp only [if_pos hle]
    unfold f_MO_feed_L22
    refine ok_loop (fun s : Int32 × zM => ∃ k, k ≤ 20 ∧ s.1 = nI k ∧ s.2.1 0 1 = nI (n + k) ∧ (∀ j, j < n → s.2.1 1 j = m.1 1 j) ∧ (∀ i, i < k → s.2.1 1 (n + i) = fby a b c d e i) ∧ fl2 [1] [(0, 1)] m s.2) (fun s => 20 - s.1.toNatClampNeg) ?_ _ ⟨0, by omega, rfl, hl, fun _ _ => rfl, fun i hi => absurd hi (Nat.not_lt_zero _), fl2_rf⟩ (by show 20 - _ < _; omega)
    rintro ⟨v6, m1⟩ ⟨k, hk, e1, h1, h2, h3, h4⟩
    have e1 : v6 = nI k := e1
    subst e1
    have h1 : m1.1 0 1 = nI (n + k) := h1
    have step : ∀ {R : Int32 × zM → Prop} (t0 : Int32), k < 20 → fby a b c d e k = nby t0 (k % 4) → ok (f_MO_feed_J75 a b c d e (nI k) t0 m1) (lp R (fun s' : Int32 × zM => (∃ k, k ≤ 20 ∧ s'.1 = nI k ∧ s'.2.1 0 1 = nI (n + k) ∧ (∀ j, j < n → s'.2.1 1 j = m.1 1 j) ∧ (∀ i, i < k → s'.2.1 1 (n + i) = fby a b c d e i) ∧ fl2 [1] [(0, 1)] m s'.2) ∧ 20 - s'.1.toNatClampNeg < 20 - (nI k).toNatClampNeg)) := by
      intro R t0 hk20 hby
      unfold f_MO_feed_J75
      refine ok_ix h1 (by omega) (by decide) ?_
      have e4 : ir (nI k) 4 = nI (k % 4) := pk_rem (a := k) (d := 4) (by omega) (by decide) (by decide)
      have e5 : (8 : Int32) * (3 - ir (nI k) 4) = nI (24 - 8 * (k % 4)) := by
        rw [e4, show (3 : Int32) = nI 3 from rfl, show (8 : Int32) = nI 8 from rfl, pk_sub (by omega), pk_mul]
        congr 1
        omega
      rw [e5]
      refine ok_mk ⟨⟨k + 1, by omega, nI_1 k, ?_, ?_, ?_, ?_⟩, ?_⟩
      · show (sI (sI m1 1 (n + k) _) 0 1 _).1 0 1 = _
        rw [rd_I1, rd_I0 (by omega), h1, nI_1]
        rfl
      · intro j hj
        show (sI (sI m1 1 (n + k) _) 0 1 _).1 1 j = _
        rw [rd_I0 (by omega), rd_I0 (by omega)]
        exact h2 j hj
      · intro i hi
        show (sI (sI m1 1 (n + k) _) 0 1 _).1 1 (n + i) = _
        rw [rd_I0 (by omega)]
        by_cases hik : i = k
        · subst hik
          rw [rd_I1, hby]
          rfl
        · rw [rd_I0 (by omega)]
          exact h3 i (by omega)
      · exact fl2_tr h4 (fl2_tr (fl2_I (inS_c (by simp))) (fl2_I (inS_f (by simp))))
      · show 20 - (nI k + 1).toNatClampNeg < 20 - (nI k).toNatClampNeg
        rw [nI_1, nI_clamp (by omega), nI_clamp (by omega)]
        omega
    have cmp : ∀ t : Nat, t < 2 ^ 31 → (nI t ≤ nI k ↔ t ≤ k) := fun t ht => nI_leI ht (by omega)
    unfold f_MO_feed_B22
    refine ok_it (fun q => ?_) (fun q => ?_)
    · have hk20 : k = 20 := by have := (cmp 20 (by decide)).mp q; omega
      subst hk20
      exact ok_zl (ok_mk ⟨h1, h1, h2, h3, h4⟩)
    · have hk20 : k < 20 := by
        rcases Nat.lt_or_ge k 20 with z | z
        · exact z
        · exact absurd ((cmp 20 (by decide)).mpr z) q
      refine ok_it (fun q4 => ?_) (fun q4 => ?_)
      · have c4 := (cmp 4 (by decide)).mp q4
        refine ok_it (fun q8 => ?_) (fun q8 => ?_)
        · have c8 := (cmp 8 (by decide)).mp q8
          refine ok_it (fun q12 => ?_) (fun q12 => ?_)
          · have c12 := (cmp 12 (by decide)).mp q12
            refine ok_it (fun q16 => ?_) (fun q16 => ?_)
            · have c16 := (cmp 16 (by decide)).mp q16
              exact step _ hk20 (by unfold fby; rw [if_neg (by omega), if_neg (by omega), if_neg (by omega), if_neg (by omega)])
            · have c16 : ¬ 16 ≤ k := fun z => q16 ((cmp 16 (by decide)).mpr z)
              exact step _ hk20 (by unfold fby; rw [if_neg (by omega), if_neg (by omega), if_neg (by omega), if_pos (by omega)])
          · have c12 : ¬ 12 ≤ k := fun z => q12 ((cmp 12 (by decide)).mpr z)
            exact step _ hk20 (by unfold fby; rw [if_neg (by omega), if_neg (by omega), if_pos (by omega)])
        · have c8 : ¬ 8 ≤ k := fun z => q8 ((cmp 8 (by decide)).mpr z)
          exact step _ hk20 (by unfold fby; rw [if_neg (by omega), if_pos (by omega)])
      · have c4 : ¬ 4 ≤ k := fun z => q4 ((cmp 4 (by decide)).mpr z)
        exact step _ hk20 (by unfold fby; rw [if_pos (by omega)])
  · have hle : ¬ n + 20 ≤ 1600 := fun z => h ((le_nI (a := n + 20) (b := 1600) rfl rfl (by omega) (by decide)).mpr z)
    simp only [if_neg hle]
    exact ok_eb (refM (i := 0) (by decide) m) (ok_mk rfl)
