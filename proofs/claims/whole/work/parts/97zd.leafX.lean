theorem wordX {n T t w : Nat} {g : Nat → Nat} {m : zM} (hC : CsX n g T t m) (hw : w < 19) : ok (f_Reader_word (wsI w) m) (fun p => p.1 = iWb n g t w ∧ fl2 [] [(65, 5)] m p.2 ∧ CsX n g T (if iWb n g t w = true then t + 1 else t) p.2) := by
  unfold f_Reader_word f_Reader_word_J20
  refine ok_eb (iNxtRX hC hw) (ok_tf (fun z => ok_lt (ok_mk ⟨rfl, fl2_I (inS_f (by simp)), ?_⟩)) (fun z => ok_lt (ok_mk ⟨rfl, fl2_I (inS_f (by simp)), ?_⟩)))
  · rw [if_pos z]
    refine CsX_n (S := []) (F := [(65, 5)]) hC ((CsX_lt hC).mpr (cBo_iff.mp z).1.1) (fl2_I (inS_f (by simp))) (by decide) ?_
    rw [rd_I1, hC.2.1]; exact nI_1 t
  · rw [if_neg (by rw [z]; decide)]
    refine ⟨TKx_f (S := []) (F := [(65, 5)]) hC.1 (fl2_I (inS_f (by simp))) (by decide), ?_, hC.2.2.1, hC.2.2.2.1, by rw [rd_I0 (by omega)]; exact hC.2.2.2.2.1, by rw [rd_I0 (by omega)]; exact hC.2.2.2.2.2⟩
    rw [rd_I1, hC.2.1]; exact Int32.add_zero _
theorem unexX {n T t : Nat} {g : Nat → Nat} {m : zM} (hC : CsX n g T t m) : ok (f_Reader_unexpected m) (fun p => p.1 = false ∧ fl2 [] [(65, 7), (65, 8)] m p.2 ∧ FlX 1 (tst n g t) p.2) := by
  have T16 := hC.1.1
  have tl := hC.2.2.1
  have n16 := hC.2.2.2.1
  unfold f_Reader_unexpected
  refine ok_lt (ok_ix (i := t) (by rw [rd_I0 (by omega)]; exact hC.2.1) (by omega) (by decide) (ok_lt (ok_mk ⟨rfl, fl2_tr (fl2_I (inS_f (by simp))) (fl2_I (inS_f (by simp))), ?_, ?_⟩)))
  · rw [rd_I0 (by omega), rd_I1]; rfl
  · rw [rd_I1, rd_I0 (by omega)]; exact CsX_p hC
theorem refuX {c q : Nat} {m : zM} {x y : Int32} (hx : x = nI c) (hy : y = nI q) : (f_Reader_refuse x y m).1 = false ∧ fl2 [] [(65, 7), (65, 8)] m (f_Reader_refuse x y m).2 ∧ FlX c q (f_Reader_refuse x y m).2 := by
  rw [hx, hy]
  unfold f_Reader_refuse lt
  refine ⟨rfl, fl2_tr (fl2_I (inS_f (by simp))) (fl2_I (inS_f (by simp))), ?_, rd_I1 _ _ _ _⟩
  rw [rd_I0 (by omega), rd_I1]
def RdF : List (Nat × Nat) := [(65, 5), (65, 6), (65, 7), (65, 8)]
theorem askX {n T t w : Nat} {g : Nat → Nat} {m : zM} (hC : CsX n g T t m) (hw : w < 19) : ok (f_Reader_ask (wsI w) m) (fun p => (iWw n g t w ∧ p.1 = true ∧ fl2 [] [(65, 5)] m p.2 ∧ CsX n g T (t + 1) p.2) ∨ (¬ iWw n g t w ∧ p.1 = false ∧ fl2 [] RdF m p.2 ∧ FlX 1 (tst n g t) p.2)) := by
  unfold f_Reader_ask f_Reader_ask_J15
  refine ok_bi (wordX hC hw) (fun p ⟨e1, f1, c1⟩ => ?_)
  rw [e1]
  refine ok_tf (fun z => ok_mk (Or.inl ⟨cBo_iff.mp z, rfl, f1, ?_⟩)) (fun z => ?_)
  · rw [if_pos z] at c1; exact c1
  · rw [if_neg (by rw [z]; decide)] at c1
    refine ok_bi (unexX c1) (fun p2 ⟨e2, f2, h2⟩ => ok_in (by rw [e2]; decide) (ok_mk (Or.inr ⟨fun y => ?_, rfl, fl2_tr (fl2_su f1 (by decide)) (fl2_su f2 (by decide)), h2⟩)))
    rw [show iWb n g t w = true from cBo_t y] at z
    cases z
theorem numbX {n T t lo hi : Nat} {g : Nat → Nat} {m : zM} (hC : CsX n g T t m) (hlo : lo ≤ 9) (hhi : hi ≤ 9) : ok (f_Reader_number (nI lo) (nI hi) m) (fun p => (∃ v, nuR n g t lo hi = .inr v ∧ v ≤ hi ∧ lo ≤ v ∧ p.1 = true ∧ fl2 [] [(65, 5), (65, 6)] m p.2 ∧ p.2.1 65 6 = nI v ∧ CsX n g T (t + 1) p.2) ∨ (∃ c q, nuR n g t lo hi = .inl (c, q) ∧ p.1 = false ∧ fl2 [] RdF m p.2 ∧ FlX c q p.2)) := by
  have T16 := hC.1.1
  have tl := hC.2.2.1
  have n16 := hC.2.2.2.1
  unfold f_Reader_number
  have no : ¬ iNu n g t → ok ((f_Reader_unexpected m).bind fun p8 => some (p8.1, p8.2)) (fun p => (∃ v, nuR n g t lo hi = .inr v ∧ v ≤ hi ∧ lo ≤ v ∧ p.1 = true ∧ fl2 [] [(65, 5), (65, 6)] m p.2 ∧ p.2.1 65 6 = nI v ∧ CsX n g T (t + 1) p.2) ∨ (∃ c q, nuR n g t lo hi = .inl (c, q) ∧ p.1 = false ∧ fl2 [] RdF m p.2 ∧ FlX c q p.2)) := fun hno => ok_bi (unexX hC) (fun p2 ⟨e2, f2, h2⟩ => ok_mk (Or.inr ⟨1, tst n g t, if_neg (by rw [cBo_f hno]; decide), e2, fl2_su f2 (by decide), h2⟩))
  refine ok_ix hC.2.1 (by omega : t < 1601) (by decide) ?_
  rcases Nat.lt_or_ge t T with u | u
  rotate_left
  · have et : t = T := by omega
    refine ok_in (by rw [et, hC.1.2.2.2.1]; decide) (no (fun z => ?_))
    have := z.1
    rw [et, hC.1.2.1] at this
    omega
  obtain ⟨a1, a2, a3, a4, a5⟩ := hC.1.2.2.1 t u
  have kl := kdT_le n g t
  refine ok_ee (kdT n g t) 3 (fun v => ?_) (fun v => no (fun z => v ((kdT_2 a1).2.2.1.mpr z))) (hx := a4)
  have iN := (kdT_2 a1).2.2.1.mp v
  have nl : ¬ ibL (g (tst n g t)) = true := fun a => by have := ibL_i.mp a; have := ibD_i.mp iN.2.1; omega
  have dg := ibD_i.mp iN.2.1
  have el : tln n g (tst n g t) = rnK ibD n g (tst n g t) := by unfold tln; rw [if_neg nl, if_pos iN.2.1]
  have ev : va0 n g (tst n g t) = g (tst n g t) - 48 := by unfold va0; rw [if_neg nl, if_pos iN.2.1]
  have nx : nuR n g t lo hi = if 1 < rnK ibD n g (tst n g t) then .inl (1, tst n g t + 1) else if lo ≤ g (tst n g t) - 48 ∧ g (tst n g t) - 48 ≤ hi then .inr (g (tst n g t) - 48) else .inl (2, tst n g t) := if_pos (cBo_t iN)
  rw [el] at a3
  have rl := (rnK_sp (q := ibD) (g := g) (Nat.le_of_lt a1)).1
  have rp := rnK_p a1 iN.2.1
  refine ok_ix hC.2.1 (by omega : t < 1601) (by decide) ?_
  have tn : tst n g t < 2 ^ 31 - 10 ∨ 2 ^ 31 - 10 ≤ tst n g t := Nat.lt_or_ge _ _
  by_cases big : rnK ibD n g (tst n g t) ≤ 1
  · refine ok_ip (by rw [a3]; exact (nI_leI (b := 1) (by omega) (by decide)).mpr big) (ok_ix hC.2.1 (by omega : t < 1601) (by decide) (ok_lt ?_))
    rw [if_neg (by omega)] at nx
    rw [a5, ev, lN_i]
    generalize hv : g (tst n g t) - 48 = v at *
    have v9 : v ≤ 9 := by omega
    have f1 : fl2 [] [(65, 6)] m (sI m 65 6 (nI v)) := fl2_I (inS_f (by simp))
    have C1 := CsX_f hC f1 (by decide) (by decide)
    have J78 : nuR n g t lo hi = .inl (2, tst n g t) → ok (f_Reader_number_J78 (sI m 65 6 (nI v))) (fun p => (∃ v, nuR n g t lo hi = .inr v ∧ v ≤ hi ∧ lo ≤ v ∧ p.1 = true ∧ fl2 [] [(65, 5), (65, 6)] m p.2 ∧ p.2.1 65 6 = nI v ∧ CsX n g T (t + 1) p.2) ∨ (∃ c q, nuR n g t lo hi = .inl (c, q) ∧ p.1 = false ∧ fl2 [] RdF m p.2 ∧ FlX c q p.2)) := by
      intro hr
      unfold f_Reader_number_J78
      refine ok_ix C1.2.1 (by omega : t < 1601) (by decide) (ok_lt ?_)
      obtain ⟨e2, f2, h2⟩ := refuX (m := sI m 65 6 (nI v)) (c := 2) (x := 2) rfl (CsX_p C1)
      exact ok_mk (Or.inr ⟨2, tst n g t, hr, e2, fl2_tr (fl2_su f1 (by decide)) (fl2_su f2 (by decide)), h2⟩)
    refine ok_ll v lo (fun z => J78 (by rw [nx, if_neg (by omega)])) (fun z => ?_) (hx := rd_I1 _ _ _ _)
    refine ok_le v hi (fun y => ok_lt (ok_mk (Or.inl ⟨v, by rw [nx, if_pos ⟨z, y⟩], y, z, rfl, fl2_tr (fl2_su f1 (by decide)) (fl2_I (inS_f (by simp))), ?_, ?_⟩))) (fun y => J78 (by rw [nx, if_neg (by omega)])) (hx := rd_I1 _ _ _ _)
    · rw [rd_I0 (by omega), rd_I1]
    · refine CsX_n (S := []) (F := [(65, 5)]) C1 u (fl2_I (inS_f (by simp))) (by decide) ?_
      rw [rd_I1, C1.2.1, nI_1]
  · refine ok_in (by rw [a3]; exact fun z => big ((nI_leI (b := 1) (by omega) (by decide)).mp z)) (ok_ix hC.2.1 (by omega : t < 1601) (by decide) (ok_lt ?_))
    rw [if_pos (by omega)] at nx
    obtain ⟨e2, f2, h2⟩ := refuX (m := m) (c := 1) (x := 1) (q := tst n g t + 1) (y := m.1 90 t + 1) rfl (by rw [CsX_p hC, nI_1])
    exact ok_mk (Or.inr ⟨1, tst n g t + 1, nx, e2, fl2_su f2 (by decide), h2⟩)
theorem nameRX {n T t : Nat} {g : Nat → Nat} {m : zM} (hC : CsX n g T t m) : ok (f_Reader_name m) (fun p => (∃ u, nmR n g t = .inr u ∧ ltO u ∧ t < T ∧ p.1 = true ∧ fl2 [] [(65, 6)] m p.2 ∧ p.2.1 65 6 = nI (nm5 u)) ∨ (∃ c q, nmR n g t = .inl (c, q) ∧ p.1 = false ∧ fl2 [] RdF m p.2 ∧ FlX c q p.2)) := by
  have T16 := hC.1.1
  have tl := hC.2.2.1
  have n16 := hC.2.2.2.1
  unfold f_Reader_name
  have no : ¬ (iWd n g t ∧ ¬ iWo n g t) → ok ((f_Reader_unexpected m).bind fun p8 => some (p8.1, p8.2)) (fun p => (∃ u, nmR n g t = .inr u ∧ ltO u ∧ t < T ∧ p.1 = true ∧ fl2 [] [(65, 6)] m p.2 ∧ p.2.1 65 6 = nI (nm5 u)) ∨ (∃ c q, nmR n g t = .inl (c, q) ∧ p.1 = false ∧ fl2 [] RdF m p.2 ∧ FlX c q p.2)) := fun hno => ok_bi (unexX hC) (fun p2 ⟨e2, f2, h2⟩ => ok_mk (Or.inr ⟨1, tst n g t, if_neg (by rw [cBo_f hno]; decide), e2, fl2_su f2 (by decide), h2⟩))
  refine ok_ix hC.2.1 (by omega : t < 1601) (by decide) ?_
  rcases Nat.lt_or_ge t T with u | u
  rotate_left
  · have et : t = T := by omega
    refine ok_in (by rw [et, hC.1.2.2.2.1]; decide) (no (fun z => ?_))
    have := z.1.1
    rw [et, hC.1.2.1] at this
    omega
  obtain ⟨a1, a2, a3, a4, a5⟩ := hC.1.2.2.1 t u
  have kl := kdT_le n g t
  refine ok_ee (kdT n g t) 1 (fun v => ?_) (fun v => no (fun z => v ((kdT_2 a1).2.1.mpr z))) (hx := a4)
  have iN := (kdT_2 a1).2.1.mp v
  have el : tln n g (tst n g t) = rnK ibL n g (tst n g t) := if_pos iN.1.2.1
  have ev : va0 n g (tst n g t) = wvN n g (tst n g t) := if_pos iN.1.2.1
  have nx : nmR n g t = if rnK ibL n g (tst n g t) ≤ 6 then .inr (pkN 27 (wdf g (tst n g t)) (rnK ibL n g (tst n g t))) else .inl (1, tst n g t + 6) := if_pos (cBo_t iN)
  rw [el] at a3
  rw [ev] at a5
  have rl := (rnK_sp (q := ibL) (g := g) (Nat.le_of_lt a1)).1
  have rp := rnK_p a1 iN.1.2.1
  have tm : rnK ibL n g (tst n g t) < 2 ^ 31 ∨ 2 ^ 31 ≤ rnK ibL n g (tst n g t) := Nat.lt_or_ge _ _
  refine ok_ix hC.2.1 (by omega : t < 1601) (by decide) ?_
  have wo := wdf_ok (l := rnK ibL n g (tst n g t)) (Nat.le_of_lt a1) (Nat.le_refl _)
  refine ok_le (rnK ibL n g (tst n g t)) 6 (fun z => ok_ix hC.2.1 (by omega : t < 1601) (by decide) (ok_ix hC.2.1 (by omega : t < 1601) (by decide) (ok_lt (ok_mk (Or.inl ⟨_, by rw [nx, if_pos z], ltO_pk z wo, u, rfl, fl2_I (inS_f (by simp)), ?_⟩))))) (fun z => ok_ix hC.2.1 (by omega : t < 1601) (by decide) (ok_lt ?_)) (hx := a3)
  · rw [rd_I1, nm5_pk z wo, a5, a3]
    unfold wvN
    rw [show min 12 (rnK ibL n g (tst n g t)) = rnK ibL n g (tst n g t) by omega]
    generalize rnK ibL n g (tst n g t) = l at *
    have pl := pkN_lt (b := 32) (f := wdf g (tst n g t)) (l := l) (fun j hj => by have := (wo j hj).1; omega)
    generalize pkN 32 (wdf g (tst n g t)) l = x at *
    have key : ∀ k : Nat, k ≤ 5 → l = 6 - k → (lsl (lN x) (5 * (6 - nI l))).toInt32 = nI (x * 32 ^ k) := by
      intro k hk el
      have pw : (32 : Nat) ^ l * 32 ^ k = 2 ^ 30 := by
        rw [← Nat.pow_add, show l + k = 6 by omega]
      have xb : x * 32 ^ k < 2 ^ 30 := by
        rw [← pw]
        exact Nat.mul_lt_mul_of_pos_right pl (Nat.pow_pos (by decide))
      have sh : lsl (lN x) (5 * (6 - nI l)) = lN (x * 32 ^ k) := by
        apply Int64.toBitVec_inj.mp
        apply BitVec.eq_of_toNat_eq
        unfold lsl
        have p5 : (32 : Nat) ^ k = 2 ^ (5 * k) := by rw [Nat.pow_mul]
        rw [lq_shl _ _ (5 * k) ?_, lq_tn (n := x) (by have := Nat.le_mul_of_pos_right x (Nat.pow_pos (n := k) (show 0 < 32 by decide)); omega), lq_tn (n := x * 32 ^ k) (by omega), ← p5, Nat.mod_eq_of_lt (by omega)]
        rcases (show k = 0 ∨ k = 1 ∨ k = 2 ∨ k = 3 ∨ k = 4 ∨ k = 5 by omega) with y | y | y | y | y | y <;> subst y <;> subst el <;> decide
      rw [sh, lN_i]
    exact key (6 - l) (by omega) (by omega)
  · rw [if_neg (by omega)] at nx
    obtain ⟨e2, f2, h2⟩ := refuX (m := m) (c := 1) (x := 1) (q := tst n g t + 6) (y := m.1 90 t + 6) rfl (by rw [CsX_p hC]; exact nI_add _ 6)
    exact ok_mk (Or.inr ⟨1, tst n g t + 6, nx, e2, fl2_su f2 (by decide), h2⟩)
