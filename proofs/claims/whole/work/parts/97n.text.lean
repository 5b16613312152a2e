/-- a text as a row of bytes -/
def TxX (v : Nat) (l : List Nat) (m : zM) : Prop := m.1 v 1 = nI l.length ∧ ∀ j, j < l.length → m.1 (v + 1) j = nI (l.getD j 0)
def TxM (l : List Nat) (m : zM) : Prop := m.1 0 83 = nI l.length ∧ ∀ j, j < l.length → m.1 56 j = nI (l.getD j 0)
theorem gD_l {l k : List Nat} {j : Nat} (h : j < l.length) : (l ++ k).getD j 0 = l.getD j 0 := by
  rw [List.getD_eq_getElem?_getD, List.getD_eq_getElem?_getD, List.getElem?_append_left h]
theorem gD_r {l k : List Nat} {j : Nat} (h : l.length ≤ j) : (l ++ k).getD j 0 = k.getD (j - l.length) 0 := by
  rw [List.getD_eq_getElem?_getD, List.getD_eq_getElem?_getD, List.getElem?_append_right h]
theorem txA {v c : Nat} {l : List Nat} {x : Int32} {m : zM} (h : TxX v l m) (hn : l.length < 1600) (hx : x = nI c) (hc : c < 256) : ok (f_Bytes_add v x m) (fun p => fl2 [v + 1] [(v, 1)] m p ∧ TxX v (l ++ [c]) p) := by
  rw [bx_add h.1 hn (by omega)]
  refine ok_mk ⟨fl2_tr (fl2_I (inS_c (by simp))) (fl2_I (inS_f (by simp))), ?_, fun j hj => ?_⟩
  · rw [rd_I1, List.length_append]; rfl
  · rw [List.length_append] at hj
    have hj : j < l.length + 1 := hj
    rw [rd_I0 (by omega), rd_I]
    by_cases u : j = l.length
    · rw [if_pos ⟨rfl, u⟩, gD_r (by omega), u, Nat.sub_self, hx]
      show nI c &&& 255 = nI c
      rw [pk_andN (by omega) 8 (by decide), Nat.mod_eq_of_lt hc]
    · rw [if_neg (fun z => u z.2), gD_l (by omega)]
      exact h.2 j (by omega)
theorem txW {c : Nat} {l : List Nat} {x : Int32} {m : zM} (h : TxM l m) (hn : l.length < 130) (hx : x = nI c) : ok (f_MO_writes x m) (fun p => fl2 [56] [(0, 83)] m p ∧ TxM (l ++ [c]) p) := by
  unfold f_MO_writes
  refine ok_ix h.1 hn (by decide) (ok_lt (ok_lt (ok_mk ⟨fl2_tr (fl2_I (inS_c (by simp))) (fl2_I (inS_f (by simp))), ?_, fun j hj => ?_⟩)))
  · rw [rd_I1, rd_I0 (by omega), h.1, nI_1, List.length_append]; rfl
  · rw [List.length_append] at hj
    have hj : j < l.length + 1 := hj
    rw [rd_I0 (by omega), rd_I]
    by_cases u : j = l.length
    · rw [if_pos ⟨rfl, u⟩, gD_r (by omega), u, Nat.sub_self, hx]
      rfl
    · rw [if_neg (fun z => u z.2), gD_l (by omega)]
      exact h.2 j (by omega)
/-- the letters of a name -/
def nmL (u : Nat) : List Nat := (List.range (nlt u)).map (fun k => 96 + u / 27 ^ (nlt u - 1 - k) % 27)
theorem nmL_n (u : Nat) : (nmL u).length = nlt u := by unfold nmL; rw [List.length_map, List.length_range]
theorem nmL_6 (u : Nat) : (nmL u).length ≤ 6 := by rw [nmL_n]; exact nlt_le u
theorem nmL_g {u k : Nat} (h : k < nlt u) : (nmL u).getD k 0 = 96 + u / 27 ^ (nlt u - 1 - k) % 27 := by
  unfold nmL
  rw [List.getD_eq_getElem?_getD, List.getElem?_map, List.getElem?_range h]
  rfl
theorem nmL_t {u k : Nat} (h : k < nlt u) : (nmL u).take (k + 1) = (nmL u).take k ++ [96 + u / 27 ^ (nlt u - 1 - k) % 27] := by
  have hl : k < (nmL u).length := by rw [nmL_n]; exact h
  rw [List.take_succ, List.getElem?_eq_getElem hl]
  have := nmL_g h
  rw [List.getD_eq_getElem?_getD, List.getElem?_eq_getElem hl] at this
  have this : (nmL u)[k] = _ := this
  rw [this]
  rfl
theorem ltrX {u j : Nat} (hj : j < 6) : f_PA_letterOf (nI (nm5 u)) (nI j) = nI (if nlt u ≤ j then 0 else u / 27 ^ (nlt u - 1 - j) % 27) := by
  have n30 := nm5_lt u
  unfold f_PA_letterOf
  have sh : shr (nI (nm5 u)) (5 * (5 - nI j)) = nI (nm5 u / 32 ^ (5 - j)) := by
    unfold shr
    rcases (show j = 0 ∨ j = 1 ∨ j = 2 ∨ j = 3 ∨ j = 4 ∨ j = 5 by omega) with z | z | z | z | z | z <;> subst z
    · exact pk_shrN (by omega) _ 25 (by decide)
    · exact pk_shrN (by omega) _ 20 (by decide)
    · exact pk_shrN (by omega) _ 15 (by decide)
    · exact pk_shrN (by omega) _ 10 (by decide)
    · exact pk_shrN (by omega) _ 5 (by decide)
    · exact pk_shrN (by omega) _ 0 (by decide)
  have dl : nm5 u / 32 ^ (5 - j) ≤ nm5 u := Nat.div_le_self _ _
  rw [sh, ← nm5_dg hj]
  exact pk_andN (by omega) 5 (by decide)
/-- names of letters -/
def ltO (u : Nat) : Prop := u < 387420489 ∧ ∀ i, i < nlt u → u / 27 ^ i % 27 ≠ 0
theorem nmX {v u : Nat} {l : List Nat} {m : zM} (hu : ltO u) (h : TxX v l m) (hn : l.length + 6 < 1600) : ok (f_Bytes_addName v (nI (nm5 u)) m) (fun p => fl2 [v + 1] [(v, 1)] m p ∧ TxX v (l ++ nmL u) p) := by
  have n6 := nlt_le u
  have tk0 : ∀ k, nlt u ≤ k → (nmL u).take k = nmL u := fun k hk => List.take_of_length_le (by rw [nmL_n]; exact hk)
  unfold f_Bytes_addName f_Bytes_addName_L2
  refine ok_for 6 (fun k (s : Int32 × zM) => s.1 = nI k ∧ fl2 [v + 1] [(v, 1)] m s.2 ∧ TxX v (l ++ (nmL u).take k) s.2) (k0 := 0) ⟨rfl, fl2_rf, by rw [List.take_zero, List.append_nil]; exact h⟩ (Nat.zero_le _) ?_
  rintro k ⟨x, m1⟩ - hk ⟨e, f1, h1⟩
  have e : x = nI k := e
  subst e
  have f1 : fl2 [v + 1] [(v, 1)] m m1 := f1
  have h1 : TxX v (l ++ (nmL u).take k) m1 := h1
  unfold f_Bytes_addName_B2 f_Bytes_addName_J26
  refine ok_le 6 k (fun q => ok_mk ⟨f1, by rw [← tk0 k (by omega)]; exact h1⟩) (fun q => ?_)
  rw [ltrX q]
  rcases Nat.lt_or_ge k (nlt u) with c | c
  · rw [if_neg (show ¬ nlt u ≤ k by omega)]
    have d0 := hu.2 (nlt u - 1 - k) (by omega)
    have d1 : u / 27 ^ (nlt u - 1 - k) % 27 < 27 := Nat.mod_lt _ (by decide)
    refine ok_le (u / 27 ^ (nlt u - 1 - k) % 27) 0 (fun z => absurd z (by omega)) (fun z => ?_)
    have ll : (l ++ (nmL u).take k).length < 1600 := by rw [List.length_append, List.length_take]; omega
    refine ok_bi (txA (c := 96 + u / 27 ^ (nlt u - 1 - k) % 27) h1 ll (nI_add 96 _) (by omega)) (fun p ⟨f2, h2⟩ => ok_mk ⟨q, nI_1 k, fl2_tr f1 f2, ?_⟩)
    rw [nmL_t c, ← List.append_assoc]; exact h2
  · rw [if_pos c]
    refine ok_le 0 0 (fun _ => ok_mk ⟨q, nI_1 k, f1, ?_⟩) (fun z => absurd z (by omega))
    rw [tk0 (k + 1) (by omega), ← tk0 k c]; exact h1
theorem nmM {P : Nat → Nat} {k j : Nat} {l : List Nat} {x y : Int32} {m : zM} (ht : tM 23 P m) (hk : k < 3) (hj : j < 6) (hu : ltO (P (10 + 6 * k + j))) (h : TxM l m) (hn : l.length + 6 ≤ 130) (ex : x = nI k) (ey : y = nI j) : ok (f_MO_writesName x y m) (fun p => fl2 [56] [(0, 83)] m p ∧ TxM (l ++ nmL (P (10 + 6 * k + j))) p) := by
  generalize eu : P (10 + 6 * k + j) = u at hu ⊢
  have n6 := nlt_le u
  have en : m.1 23 (10 + 6 * k + j) = nI u := by
    rw [tM_n ht (by omega) ?_, eu]
    rcases (show k = 0 ∨ k = 1 ∨ k = 2 by omega) with z | z | z <;> rcases (show j = 0 ∨ j = 1 ∨ j = 2 ∨ j = 3 ∨ j = 4 ∨ j = 5 by omega) with y | y | y | y | y | y <;> subst z <;> subst y <;> decide
  unfold f_MO_writesName f_MO_nameAt
  refine ok_ix (i := 10 + 6 * k + j) ?_ (by omega) (by decide) ?_
  · rw [ex, ey, show (6 : Int32) = nI 6 from rfl, pk_mul, show (10 : Int32) = nI 10 from rfl, nI_add, nI_add]
  rw [en]
  refine ok_eb (lettersM hu.1) (ok_lt ?_)
  have f0 : fl2 [56] [(0, 83)] m (sI m 0 83 (m.1 0 83 + nI (nlt u))) := fl2_I (inS_f (by simp))
  unfold f_MO_writesName_L31
  refine ok_for (nlt u + 1) (fun i (s : Int32 × Int32 × zM) => s.1 = nI (u / 27 ^ (i - 1)) ∧ s.2.1 = nI i ∧ fl2 [56] [(0, 83)] m s.2.2 ∧ s.2.2.1 0 83 = nI (l.length + nlt u) ∧ (∀ j, j < l.length → s.2.2.1 56 j = nI (l.getD j 0)) ∧ ∀ t, 1 ≤ t → t < i → s.2.2.1 56 (l.length + nlt u - t) = nI (96 + u / 27 ^ (t - 1) % 27)) (k0 := 1) ⟨by show nI u = nI (u / 1); rw [Nat.div_one], rfl, f0, by show (sI m 0 83 _).1 0 83 = _; rw [rd_I1, h.1, nI_add], fun j hj => by show (sI m 0 83 _).1 56 j = _; rw [rd_I0 (by omega)]; exact h.2 j hj, fun t h1 h2 => by omega⟩ (by omega) ?_
  rintro i ⟨a, b, m1⟩ i1 i2 ⟨e1, e2, f1, g1, g2, g3⟩
  have e1 : a = nI (u / 27 ^ (i - 1)) := e1
  have e2 : b = nI i := e2
  subst e1 e2
  have f1 : fl2 [56] [(0, 83)] m m1 := f1
  have g1 : m1.1 0 83 = nI (l.length + nlt u) := g1
  have g2 : ∀ j, j < l.length → m1.1 56 j = nI (l.getD j 0) := g2
  have g3 : ∀ t, 1 ≤ t → t < i → m1.1 56 (l.length + nlt u - t) = nI (96 + u / 27 ^ (t - 1) % 27) := g3
  have ul : u / 27 ^ (i - 1) ≤ u := Nat.div_le_self _ _
  have u6 := hu.1
  unfold f_MO_writesName_B31
  refine ok_ll (nlt u) i (fun q => ok_mk ⟨f1, ?_, fun j hj => ?_⟩) (fun q => ?_)
  · rw [g1, List.length_append, nmL_n]
  · rw [List.length_append, nmL_n] at hj
    rcases Nat.lt_or_ge j l.length with z | z
    · rw [gD_l z]; exact g2 j z
    · rw [gD_r z, nmL_g (by omega)]
      have := g3 (l.length + nlt u - j) (by omega) (by omega)
      rw [show l.length + nlt u - (l.length + nlt u - j) = j by omega, show l.length + nlt u - j - 1 = nlt u - 1 - (j - l.length) by omega] at this
      exact this
  · refine ok_ix (i := l.length + nlt u - i) ?_ (by omega) (by decide) (ok_lt (ok_mk ⟨by omega, ?_, nI_1 i, fl2_tr f1 (fl2_I (inS_c (by simp))), ?_, fun j hj => ?_, fun t h1 h2 => ?_⟩))
    · rw [g1]
      exact pk_sub (by omega)
    · show nI (u / 27 ^ (i - 1)) / 27 = nI (u / 27 ^ (i + 1 - 1))
      rw [show i + 1 - 1 = i - 1 + 1 by omega, Nat.pow_succ, ← Nat.div_div_eq_div_mul]
      exact pk_div (d := 27) (by omega) (by decide) (by decide)
    · show (sI m1 56 _ _).1 0 83 = _
      rw [rd_I0 (by omega)]; exact g1
    · show (sI m1 56 _ _).1 56 j = _
      rw [rd_I0 (by omega)]; exact g2 j hj
    · show (sI m1 56 _ _).1 56 (l.length + nlt u - t) = _
      by_cases z : t = i
      · rw [z, rd_I1, show ir (nI (u / 27 ^ (i - 1))) 27 = nI (u / 27 ^ (i - 1) % 27) from pk_rem (d := 27) (by omega) (by decide) (by decide)]
        exact nI_add 96 _
      · rw [rd_I0 (by omega)]; exact g3 t h1 (by omega)
