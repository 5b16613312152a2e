def nrm (N : Nat) (f : Nat → Nat) (i : Nat) : Nat := if i < N then f i else 0
def nmz (N : Nat) (f : Nat → Nat) : Prop := ∀ i, N ≤ i → f i = 0
theorem nrm_z {N : Nat} {f : Nat → Nat} : nmz N (nrm N f) := fun i hi => if_neg (by omega)
theorem nrm_i {N i : Nat} {f : Nat → Nat} (h : i < N) : nrm N f i = f i := if_pos h
theorem Lst_cg {E : Nat → Nat → Prop} {s N : Nat} {W D W' D' : Nat → Nat} (h : Lst E s N W D) (e : ∀ i, i < N → W' i = W i ∧ D' i = D i) : Lst E s N W' D' := by
  refine ⟨fun i hi => by rw [(e i hi).1, (e i hi).2]; exact h.1 i hi, fun d x hx => ?_, fun i j hi hj => by rw [(e i (by omega)).1, (e i (by omega)).2, (e j hj).1, (e j hj).2]; exact h.2.2 i j hi hj⟩
  obtain ⟨i, h1, h2⟩ := h.2.1 d x hx
  exact ⟨i, h1, by rw [(e i h1).1]; exact h2⟩
theorem Lst_eq {E : Nat → Nat → Prop} {s N N' : Nat} {W D W' D' : Nat → Nat} (h : Lst E s N W D) (h' : Lst E s N' W' D') (z1 : nmz N W) (z2 : nmz N D) (z3 : nmz N' W') (z4 : nmz N' D') : N = N' ∧ W = W' ∧ D = D' := by
  obtain ⟨e, k⟩ := Lst_un h h'
  subst e
  refine ⟨rfl, funext fun i => ?_, funext fun i => ?_⟩
  · by_cases q : i < N
    · exact (k i q).1
    · rw [z1 i (by omega), z3 i (by omega)]
  · by_cases q : i < N
    · exact (k i q).2
    · rw [z2 i (by omega), z4 i (by omega)]
theorem fi_cg {p q : Nat → Bool} {n : Nat} (h : ∀ j, j < n → p j = q j) : fi p n = fi q n := by
  induction n with
  | zero => rfl
  | succ n ih =>
    show (if fi p n < n then fi p n else if p n = true then n else n + 1) = (if fi q n < n then fi q n else if q n = true then n else n + 1)
    rw [ih (fun j hj => h j (by omega)), h n (by omega)]
theorem nxw_cg {P : Nat → Nat} {w N i c : Nat} {W W' : Nat → Nat} (e : ∀ i, i < N → W' i = W i) (hi : i < N) : nxw P w N W' i c = nxw P w N W i c := by
  unfold nxw
  rw [e i hi]
  by_cases q : c / 4 = w
  · rw [if_pos q, if_pos q]
  · rw [if_neg q, if_neg q]
    cases sP P (W i) c with
    | none => rfl
    | some y =>
      show fi (fun k => decide (W' k = fo (P 3) y)) N + 1 = fi (fun k => decide (W k = fo (P 3) y)) N + 1
      rw [fi_cg (q := fun k => decide (W k = fo (P 3) y)) (fun k hk => by rw [e k hk])]
theorem LMx_cg {P : Nat → Nat} {w N : Nat} {W D W' D' : Nat → Nat} {m : zM} (h : LMx P w N W D m) (e : ∀ i, i < N → W' i = W i ∧ D' i = D i) : LMx P w N W' D' m := by
  obtain ⟨h1, h2, h3, ⟨h4, h5, h6⟩, h7⟩ := h
  refine ⟨h1, h2, Lst_cg h3 e, ⟨h4, fun i hi => by rw [(e i hi).1, (e i hi).2]; exact h5 i hi, h6⟩, fun i hi c hc => ?_⟩
  rw [nxw_cg (fun i hi => (e i hi).1) hi]
  exact h7 i hi c hc
theorem frm_cg {P W W' : Nat → Nat} {N i : Nat} (e : ∀ i, i < N → W' i = W i) (hi : i ≤ N) : frm P W' i = frm P W i := by
  induction i with
  | zero => rfl
  | succ i ih =>
    show frm P W' i + cn (psb P (W' i)) 64 = frm P W i + cn (psb P (W i)) 64
    rw [ih (by omega), e i (by omega)]
theorem AXm_cg {P : Nat → Nat} {N : Nat} {W D W' D' pr sp : Nat → Nat} {m : zM} (h : AXm P N W D pr sp m) (e : ∀ i, i < N → W' i = W i ∧ D' i = D i) : AXm P N W' D' pr sp m := by
  obtain ⟨⟨h1, h2, h3, h4⟩, h5, h6, h7⟩ := h
  refine ⟨⟨h1, fun i hi => by rw [(e i hi).1, (e i hi).2]; exact h2 i hi, prb_cg h3 (fun i hi => by rw [(e i hi).1]), fun s i hs hi he => by show _ = lN (W' i); rw [(e i hi).1]; exact h4 s i hs hi he⟩, fun i hi => by rw [(e i hi).1]; exact h5 i hi, fun i hi => by rw [frm_cg (fun i hi => (e i hi).1) hi]; exact h6 i hi, fun i hi c hc y hy => ?_⟩
  have e' : ∀ i, i < N → W' i = W i := fun i hi => (e i hi).1
  rw [e' i hi] at hy
  rw [frm_cg e' (by omega), e' i hi]
  unfold mrw
  rw [nxw_cg e' hi]
  exact h7 i hi c hc y hy
theorem WyL_cg {P : Nat → Nat} {N : Nat} {W D W' D' pr sp : Nat → Nat} (h : WyL P N W D pr sp) (e : ∀ i, i < N → W' i = W i ∧ D' i = D i) : WyL P N W' D' pr sp := by
  obtain ⟨ow, fk, dp, pa, st, sg, h1, h2, h3⟩ := h
  exact ⟨ow, fk, dp, pa, st, sg, h1, h2, fun i hi => by rw [(e i hi).1, (e i hi).2]; exact h3 i hi⟩
theorem fillN {P : Nat → Nat} {b N : Nat} {ow fk dp pa st : Nat → Nat} {m : zM} (hb : tbv b) (hP : tV P) (ht : tX b P m) (hS : SF P N ow fk dp pa st m) : ok (f_Atlas_fill b m) (fun p => AFr m p ∧ ∃ W D pr sp : Nat → Nat, Lst (Ed P 16) (wx0 P) N W D ∧ AXm P N W D pr sp p ∧ WyL P N W D pr sp ∧ nmz N W ∧ nmz N D) := by
  refine ok_mo (fillA hb hP ht hS) (fun p ⟨h1, W, D, pr, sp, h2, h3, h4⟩ => ⟨h1, nrm N W, nrm N D, pr, sp, Lst_cg h2 (fun i hi => ⟨nrm_i hi, nrm_i hi⟩), AXm_cg h3 (fun i hi => ⟨nrm_i hi, nrm_i hi⟩), WyL_cg h4 (fun i hi => ⟨nrm_i hi, nrm_i hi⟩), nrm_z, nrm_z⟩)
theorem goesN {P : Nat → Nat} {w : Nat} {v1 : Int32} {m : zM} (hP : tV P) (ht : tM 23 P m) (hv : wvl w v1) : ok (f_MO_goesThrough v1 m) (fun p => GFr m p.2 ∧ ((p.1 = true ∧ (∃ (N : Nat) (W D : Nat → Nat), LMx P w N W D p.2 ∧ nmz N W ∧ nmz N D) ∧ p.2.1 0 40 = v1 ∧ p.2.1 0 46 = 0) ∨ (p.1 = false ∧ bigP P w))) := by
  refine ok_mo (goesM hP ht hv) (fun p ⟨h1, h2⟩ => ⟨h1, ?_⟩)
  rcases h2 with ⟨a, ⟨N, W, D, b⟩, c, d⟩ | h2
  · exact Or.inl ⟨a, ⟨N, nrm N W, nrm N D, LMx_cg b (fun i hi => ⟨nrm_i hi, nrm_i hi⟩), nrm_z, nrm_z⟩, c, d⟩
  · exact Or.inr h2
/-- what the reference holds of worlds: all, or those without a rule, or nothing -/
def MCa (P : Nat → Nat) (m : zM) : Prop := m.1 0 40 = -2 ∨ ∃ (w : Nat) (N : Nat) (W D : Nat → Nat), (w = 16 ∨ w < P 8) ∧ wvl w (m.1 0 40) ∧ LMx P w N W D m ∧ nmz N W ∧ nmz N D ∧ (m.1 0 46 ≠ 0 → LKm P w N W m)
def MFl : List Nat := [25, 26, 31, 32, 34, 35, 36, 37, 38, 39, 40, 41, 42, 43, 44, 45, 46]
theorem Ed_16 {P : Nat → Nat} {w x y : Nat} (h : Ed P w x y) : Ed P 16 x y := by
  obtain ⟨c, h1, h2, h3⟩ := h
  exact ⟨c, h1, by omega, h3⟩
theorem atlasM {P : Nat → Nat} {w N : Nat} {W D : Nat → Nat} {v1 : Int32} {m : zM} (hP : tV P) (ht : tM 23 P m) (hw : w = 16 ∨ w < P 8) (hv : wvl w v1) (hL : Lst (Ed P 16) (wx0 P) N W D) (hN : N ≤ 600) (hc : MCa P m) : ok (f_MO_atlas v1 m) (fun p => GFr m p ∧ p.1 0 40 = v1 ∧ ∃ (N' : Nat) (W' D' : Nat → Nat), LMx P w N' W' D' p ∧ nmz N' W' ∧ nmz N' D' ∧ (p.1 0 46 ≠ 0 → LKm P w N' W' p)) := by
  have r16 := hP.1.2.2.2.2.2.2.2.2.2.2.1
  unfold f_MO_atlas
  refine ok_it (fun z => ok_mk ⟨fl2_rf, z, ?_⟩) (fun z => ?_)
  · rcases hc with h | ⟨w', N', W', D', h1, h2, h3, h4, h5, h6⟩
    · rw [h] at z
      rcases hv with ⟨_, y⟩ | ⟨y1, y⟩
      · rw [y] at z; exact absurd z (by decide)
      · rw [y] at z
        exact absurd z (fun s => nI_pos (n := w) (by omega) (by rw [← s]; decide))
    · have : w' = w := by
        rw [z] at h2
        rcases h2 with ⟨a1, a2⟩ | ⟨a1, a2⟩ <;> rcases hv with ⟨b1, b2⟩ | ⟨b1, b2⟩
        · omega
        · rw [b2] at a2; exact absurd a2 (nI_ne_m1 (by omega))
        · rw [b2] at a2; exact absurd a2.symm (nI_ne_m1 (by omega))
        · rw [b2] at a2; exact ((nI_eq (by omega) (by omega)).mp a2).symm
      subst this
      exact ⟨N', W', D', h3, h4, h5, h6⟩
  · refine ok_bi (goesN hP ht hv) (fun p ⟨h1, h2⟩ => ?_)
    rcases h2 with ⟨_, ⟨N', W', D', a1, a2, a3⟩, b, c⟩ | ⟨_, fk, dp, a1, a2⟩
    · exact ok_mk ⟨h1, b, N', W', D', a1, a2, a3, fun y => absurd c y⟩
    · have := Lst_no hL (fun x y => Ed_16 (w := w)) a1 a2
      omega
/-- all worlds, as the class has them -/
theorem askedM {P : Nat → Nat} {N : Nat} {W D : Nat → Nat} {m : zM} (hP : tV P) (ht : tM 23 P m) (h33 : m.1 0 33 ≠ 0) (hL : Lst (Ed P 16) (wx0 P) N W D) (z1 : nmz N W) (z2 : nmz N D) (hN : N ≤ 600) (hc : MCa P m) : ok (f_MO_isAsked m) (fun p => p.1 = true ∧ GFr m p.2 ∧ p.2.1 0 40 = -1 ∧ LMx P 16 N W D p.2 ∧ (p.2.1 0 46 ≠ 0 → LKm P 16 N W p.2)) := by
  unfold f_MO_isAsked
  refine ok_in h33 (ok_bi (atlasM (w := 16) hP ht (Or.inl rfl) (Or.inl ⟨rfl, rfl⟩) hL hN hc) (fun p ⟨h1, h2, N', W', D', h3, h4, h5, h6⟩ => ok_mk ⟨rfl, h1, h2, ?_⟩))
  obtain ⟨e1, e2, e3⟩ := Lst_eq h3.2.2.1 hL h4 h5 z1 z2
  subst e1 e2 e3
  exact ⟨h3, h6⟩
theorem MCa_of {P : Nat → Nat} {w N : Nat} {W D : Nat → Nat} {v1 : Int32} {m : zM} (hw : w = 16 ∨ w < P 8) (hv : wvl w v1) (h40 : m.1 0 40 = v1) (h : LMx P w N W D m) (z1 : nmz N W) (z2 : nmz N D) (hk : m.1 0 46 ≠ 0 → LKm P w N W m) : MCa P m := Or.inr ⟨w, N, W, D, hw, by rw [h40]; exact hv, h, z1, z2, hk⟩
theorem isIn_iff {v lo hi : Int64} : f_MO_isIn v lo hi = true ↔ lo ≤ v ∧ v ≤ hi := by
  unfold f_MO_isIn
  by_cases q : lg_cmp v lo < 0
  · rw [if_pos q]
    have := (lg_cmp_lt v lo).mp q
    exact ⟨fun z => (by cases z), fun z => absurd z.1 (Int64.not_le.mpr this)⟩
  · rw [if_neg q]
    have q' : lo ≤ v := Int64.not_lt.mp (fun z => q ((lg_cmp_lt v lo).mpr z))
    by_cases r : 0 < lg_cmp v hi
    · rw [if_pos r]
      have := (lg_cmp_gt v hi).mp r
      exact ⟨fun z => (by cases z), fun z => absurd z.2 (Int64.not_le.mpr this)⟩
    · rw [if_neg r]
      exact ⟨fun _ => ⟨q', Int64.not_lt.mp (fun z => r ((lg_cmp_gt v hi).mpr z))⟩, fun _ => rfl⟩
/-- a number of 0 .. n - 1 -/
theorem isIn_n {n : Nat} {x : Int32} (hn : n < 2 ^ 30) : f_MO_isIn x.toInt64 0 ((nI n - 1).toInt64) = true ↔ ∃ k, k < n ∧ x = nI k := by
  rw [isIn_iff, Int64.le_iff_toInt_le, Int64.le_iff_toInt_le, Int32.toInt_toInt64, Int32.toInt_toInt64, show (1 : Int32) = nI 1 from rfl, pk_sub_toInt hn (by decide), show (0 : Int64).toInt = 0 from rfl]
  constructor
  · rintro ⟨h1, h2⟩
    have : ¬ x < 0 := fun z => by
      rw [Int32.lt_iff_toInt_lt] at z
      have : (0 : Int32).toInt = 0 := rfl
      omega
    obtain ⟨j, hj, e⟩ := nI_of this
    rw [e, nI_toInt hj] at h2
    exact ⟨j, by omega, e⟩
  · rintro ⟨k, h1, h2⟩
    rw [h2, nI_toInt (by omega)]
    omega
theorem isIn_f {n : Nat} {x : Int32} (hn : n < 2 ^ 30) (h : ∀ k, k < n → x ≠ nI k) : f_MO_isIn x.toInt64 0 ((nI n - 1).toInt64) = false := by
  cases e : f_MO_isIn x.toInt64 0 ((nI n - 1).toInt64) with
  | false => rfl
  | true =>
    obtain ⟨k, h1, h2⟩ := (isIn_n hn).mp e
    exact absurd h2 (h k h1)
/-- a number of 0 .. n - 1, or none -/
theorem num_or (x : Int32) (n : Nat) : (∃ k, k < n ∧ x = nI k) ∨ ∀ k, k < n → x ≠ nI k := by
  by_cases q : ∃ k, k < n ∧ x = nI k
  · exact Or.inl q
  · exact Or.inr (fun k h1 h2 => q ⟨k, h1, h2⟩)
/-- the class's test of the same -/
theorem rng_t {α : Type} {n k : Nat} {x : Int32} {A B : Option α} {K : α → Prop} (hn : n < 2 ^ 31) (hk : k < n) (hx : x = nI k) {y : Int32} (hy : y = nI n) (h : ok B K) : ok (if x < 0 then A else if y ≤ x then A else B) K := by
  subst hx hy
  exact ok_in (nI_pos (by omega)) (ok_in (nI_ge hk hn) h)
theorem rng_f {x : Int32} {n : Nat} (hn : n < 2 ^ 31) (h : ∀ k, k < n → x ≠ nI k) : x < 0 ∨ nI n ≤ x := by
  by_cases q : x < 0
  · exact Or.inl q
  · obtain ⟨j, hj, e⟩ := nI_of q
    right
    rw [e]
    refine nI_le ?_ hj
    rcases Nat.lt_or_ge j n with z | z
    · exact absurd e (h j z)
    · exact z
theorem isWorldM {P : Nat → Nat} {N : Nat} {W D : Nat → Nat} {m : zM} {x : Int32} (hP : tV P) (ht : tM 23 P m) (h33 : m.1 0 33 ≠ 0) (hL : Lst (Ed P 16) (wx0 P) N W D) (z1 : nmz N W) (z2 : nmz N D) (hN : N ≤ 600) (hc : MCa P m) : ok (f_MO_isWorld x m) (fun p => (p.1 = true ↔ ∃ k, k < N ∧ x = nI k) ∧ GFr m p.2 ∧ p.2.1 0 40 = -1 ∧ LMx P 16 N W D p.2 ∧ (p.2.1 0 46 ≠ 0 → LKm P 16 N W p.2)) := by
  unfold f_MO_isWorld
  refine ok_bi (askedM hP ht h33 hL z1 z2 hN hc) (fun p ⟨h1, h2, h3, h4, h5⟩ => ?_)
  rw [h1]
  refine ok_ip rfl ?_
  rw [h4.2.2.2.1.1]
  refine ok_tf (fun z => ok_mk ⟨⟨fun _ => (isIn_n (by omega)).mp z, fun _ => rfl⟩, h2, h3, h4, h5⟩) (fun z => ok_mk ⟨⟨fun y => (by cases y), fun y => ?_⟩, h2, h3, h4, h5⟩)
  have := (isIn_n (n := N) (by omega)).mpr y
  rw [z] at this; cases this
