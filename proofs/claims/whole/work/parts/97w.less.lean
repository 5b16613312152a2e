/-- sums over what is the same but for the order -/
theorem sumI_up {f g : Nat → Int32} {N x : Nat} {d : Int32} (hx : x < N) (h1 : ∀ i, i ≠ x → g i = f i) (h2 : g x = f x + d) : sumI g N = sumI f N + d := by
  induction N with
  | zero => omega
  | succ N ih =>
    show sumI g N + g N = sumI f N + f N + d
    by_cases e : x = N
    · subst e
      rw [sumI_cg (f := g) (g := f) (fun i hi => h1 i (by omega)), h2, Int32.add_assoc]
    · rw [ih (by omega), h1 N (by omega), Int32.add_assoc, Int32.add_comm d, ← Int32.add_assoc]
theorem sumI_z (N : Nat) : sumI (fun _ => 0) N = 0 := by
  induction N with
  | zero => rfl
  | succ N ih =>
    show sumI (fun _ => 0) N + 0 = 0
    rw [ih]; rfl
noncomputable def imN (a : Nat → Nat) (n i : Nat) : Bool := cBo (∃ j, j < n ∧ a j = i)
theorem sumI_im {a : Nat → Nat} {F : Nat → Int32} {N : Nat} : ∀ n, (∀ j, j < n → a j < N) → (∀ i j, i < n → j < n → a i = a j → i = j) → sumI (fun j => F (a j)) n = sumI (fun i => if imN a n i = true then F i else 0) N := by
  intro n
  induction n with
  | zero =>
    intro _ _
    rw [sumI_cg (g := fun _ => 0) (fun i hi => if_neg (by unfold imN; rw [cBo_f (fun ⟨j, h, _⟩ => absurd h (Nat.not_lt_zero _))]; decide)), sumI_z]
    rfl
  | succ n ih =>
    intro h1 h2
    have i1 := ih (fun j hj => h1 j (by omega)) (fun i j hi hj => h2 i j (by omega) (by omega))
    show sumI (fun j => F (a j)) n + F (a n) = _
    rw [i1]
    refine (sumI_up (x := a n) (h1 n (by omega)) (fun i hi => ?_) ?_).symm
    · have : imN a (n + 1) i = imN a n i := cBo_cg ⟨fun ⟨j, u, v⟩ => ⟨j, by rcases Nat.lt_or_ge j n with z | z; exact z; exact absurd (by rw [← v, show j = n by omega]) hi, v⟩, fun ⟨j, u, v⟩ => ⟨j, by omega, v⟩⟩
      show (if imN a (n + 1) i = true then F i else 0) = _
      rw [this]
    · show (if imN a (n + 1) (a n) = true then F (a n) else 0) = (if imN a n (a n) = true then F (a n) else 0) + F (a n)
      rw [if_pos (show imN a (n + 1) (a n) = true from cBo_t ⟨n, by omega, rfl⟩), if_neg (show ¬ imN a n (a n) = true by unfold imN; rw [cBo_f (fun ⟨j, u, v⟩ => by have := h2 j n (by omega) (by omega) v; omega)]; decide)]
      exact (Int32.zero_add _).symm
theorem cn_im {a : Nat → Nat} {N : Nat} : ∀ n, (∀ j, j < n → a j < N) → (∀ i j, i < n → j < n → a i = a j → i = j) → cn (imN a n) N = n := by
  have up : ∀ (p q : Nat → Bool) (N x : Nat), x < N → (∀ i, i ≠ x → q i = p i) → p x = false → q x = true → cn q N = cn p N + 1 := by
    intro p q N x hx h1 h2 h3
    induction N with
    | zero => omega
    | succ N ih =>
      by_cases e : x = N
      · subst e
        rw [cn_s1 h3, cn_s0 h2, cn_cg (fun i hi => h1 i (by omega))]
      · show cn q N + (if q N = true then 1 else 0) = cn p N + (if p N = true then 1 else 0) + 1
        rw [ih (by omega), h1 N (by omega)]
        omega
  intro n
  induction n with
  | zero =>
    intro _ _
    have := cn_lo (p := imN a 0) (n := N) (k := 0) (fun j _ _ => cBo_f (fun ⟨j, h, _⟩ => absurd h (Nat.not_lt_zero _)))
    omega
  | succ n ih =>
    intro h1 h2
    have i1 := ih (fun j hj => h1 j (by omega)) (fun i j hi hj => h2 i j (by omega) (by omega))
    rw [up (imN a n) (imN a (n + 1)) N (a n) (h1 n (by omega)) (fun i hi => cBo_cg ⟨fun ⟨j, u, v⟩ => ⟨j, by rcases Nat.lt_or_ge j n with z | z; exact z; exact absurd (by rw [← v, show j = n by omega]) hi, v⟩, fun ⟨j, u, v⟩ => ⟨j, by omega, v⟩⟩) (cBo_f (fun ⟨j, u, v⟩ => by have := h2 j n (by omega) (by omega) v; omega)) (cBo_t ⟨n, by omega, rfl⟩), i1]
theorem sumI_pp {a b : Nat → Nat} {n n' N : Nat} (ha : ∀ j, j < n → a j < N) (ia : ∀ i j, i < n → j < n → a i = a j → i = j) (hb : ∀ j, j < n' → b j < N) (ib : ∀ i j, i < n' → j < n' → b i = b j → i = j) (h : ∀ i, i < N → ((∃ j, j < n ∧ a j = i) ↔ ∃ j, j < n' ∧ b j = i)) : n = n' ∧ ∀ F : Nat → Int32, sumI (fun j => F (a j)) n = sumI (fun j => F (b j)) n' := by
  have e : ∀ i, i < N → imN a n i = imN b n' i := fun i hi => cBo_cg (h i hi)
  refine ⟨?_, fun F => ?_⟩
  · rw [← cn_im n ha ia, ← cn_im n' hb ib]
    exact cn_cg e
  · rw [sumI_im n ha ia, sumI_im n' hb ib]
    exact sumI_cg (fun i hi => by rw [e i hi])
/-- from world to world without the rule r -/
def EWr (P : Nat → Nat) (r N : Nat) (W : Nat → Nat) (i j : Nat) : Prop := i < N ∧ ∃ c, c < 64 ∧ nxw P r N W i c = j + 1
theorem EWr_W {P : Nat → Nat} {r N i j : Nat} {W D : Nat → Nat} (hL : Lst (Ed P 16) (wx0 P) N W D) (hi : i < N) (hj : j < N) : Ed P r (W i) (W j) ↔ EWr P r N W i j := by
  constructor
  · rintro ⟨c, h1, h2, h3⟩
    cases e : sP P (W i) c with
    | none => rw [e] at h3; cases h3
    | some y =>
      rw [e] at h3
      have h3 : fo (P 3) y = W j := Option.some.inj h3
      exact ⟨hi, c, h1, nxw_s h2 e hj h3.symm (fun i j h1 h2 => Lst_in hL h1 h2)⟩
  · rintro ⟨_, c, h1, h2⟩
    have nz := (nxw_nz (P := P) (w := r) (N := N) (W := W) (i := i) (c := c)).mp (by omega)
    obtain ⟨y, y1, _⟩ := psb_s nz.1
    obtain ⟨t, t1, t2, t3⟩ := nxw_e hL hi h1 (by omega) y1
    rw [nxw_w nz.2 (by omega)] at h2
    refine ⟨c, h1, nz.2, ?_⟩
    rw [y1]
    show some (fo (P 3) y) = _
    rw [← t2, show t = j by omega]
theorem Ed_r16 {P : Nat → Nat} {r x y : Nat} (h : Ed P r x y) : Ed P 16 x y := by
  obtain ⟨c, h1, h2, h3⟩ := h
  exact ⟨c, h1, by omega, h3⟩
theorem EWr_R {P : Nat → Nat} {r N d i : Nat} {W D : Nat → Nat} (hL : Lst (Ed P 16) (wx0 P) N W D) (hi : i < N) : Rn (Ed P r) (wx0 P) d (W i) ↔ Rn (EWr P r N W) 0 d i := by
  have w0 := (W_0 hL (by omega)).1
  induction d generalizing i with
  | zero =>
    constructor
    · intro h
      have h : W i = wx0 P := h
      exact Lst_in hL hi (by omega) (h.trans w0.symm)
    · intro h
      have h : i = 0 := h
      rw [h]; exact w0
  | succ d ih =>
    constructor
    · rintro ⟨y, h1, h2⟩
      obtain ⟨j, j1, j2⟩ := hL.2.1 d y (Rn_mo (fun _ _ => Ed_r16) h1)
      rw [← j2] at h1 h2
      exact ⟨j, (ih j1).mp h1, (EWr_W hL j1 hi).mp h2⟩
    · rintro ⟨j, h1, h2⟩
      exact ⟨W j, (ih h2.1).mpr h1, (EWr_W hL h2.1 hi).mpr h2⟩
/-- the list without a rule lies in the whole list -/
noncomputable def phN (N : Nat) (W W' : Nat → Nat) (k : Nat) : Nat := fi (fun i => decide (W i = W' k)) N
theorem phN_e {P : Nat → Nat} {r N N' k : Nat} {W D W' D' : Nat → Nat} (hL : Lst (Ed P 16) (wx0 P) N W D) (hL' : Lst (Ed P r) (wx0 P) N' W' D') (hk : k < N') : phN N W W' k < N ∧ W (phN N W W' k) = W' k := by
  obtain ⟨i, hi, ei⟩ := hL.2.1 (D' k) (W' k) (Rn_mo (fun _ _ => Ed_r16) (hL'.1 k hk).1)
  obtain ⟨k1, k2, _⟩ := fi_ex (p := fun i => decide (W i = W' k)) hi (decide_eq_true ei)
  exact ⟨k1, of_decide_eq_true k2⟩
theorem phN_i {P : Nat → Nat} {r N N' : Nat} {W D W' D' : Nat → Nat} (hL : Lst (Ed P 16) (wx0 P) N W D) (hL' : Lst (Ed P r) (wx0 P) N' W' D') : ∀ i j, i < N' → j < N' → phN N W W' i = phN N W W' j → i = j := by
  intro i j hi hj e
  refine Lst_in hL' hi hj ?_
  rw [← (phN_e hL hL' hi).2, ← (phN_e hL hL' hj).2, e]
theorem phN_s {P : Nat → Nat} {r N N' i : Nat} {W D W' D' : Nat → Nat} (hL : Lst (Ed P 16) (wx0 P) N W D) (hL' : Lst (Ed P r) (wx0 P) N' W' D') (hi : i < N) : (∃ k, k < N' ∧ phN N W W' k = i) ↔ Rc (EWr P r N W) 0 i := by
  constructor
  · rintro ⟨k, hk, e⟩
    refine ⟨D' k, (EWr_R hL hi).mp ?_⟩
    rw [← e, (phN_e hL hL' hk).2]
    exact (hL'.1 k hk).1
  · rintro ⟨d, hd⟩
    obtain ⟨k, hk, ek⟩ := hL'.2.1 d (W i) ((EWr_R hL hi).mpr hd)
    refine ⟨k, hk, Lst_in hL (phN_e hL hL' hk).1 hi ?_⟩
    rw [(phN_e hL hL' hk).2, ek]
/-- where a move leads, in both lists -/
theorem phN_x {P : Nat → Nat} {r N N' k c : Nat} {W D W' D' : Nat → Nat} (hL : Lst (Ed P 16) (wx0 P) N W D) (hL' : Lst (Ed P r) (wx0 P) N' W' D') (hk : k < N') (hc : c < 64) : (nxw P r N' W' k c = 0 ∧ nxw P r N W (phN N W W' k) c = 0) ∨ ∃ t, t < N' ∧ nxw P r N' W' k c = t + 1 ∧ nxw P r N W (phN N W W' k) c = phN N W W' t + 1 := by
  obtain ⟨p1, p2⟩ := phN_e hL hL' hk
  by_cases q : c / 4 = r
  · exact Or.inl ⟨nxw_0 (Or.inl q), nxw_0 (Or.inl q)⟩
  · cases e : sP P (W' k) c with
    | none => exact Or.inl ⟨nxw_0 (Or.inr e), nxw_0 (Or.inr (by rw [p2]; exact e))⟩
    | some y =>
      obtain ⟨t, t1, t2, t3⟩ := nxw_e hL' hk hc q e
      obtain ⟨u1, u2⟩ := phN_e hL hL' t1
      exact Or.inr ⟨t, t1, t3, nxw_s q (by rw [p2]; exact e) u1 (u2.trans t2) (fun i j h1 h2 => Lst_in hL h1 h2)⟩
noncomputable def psN (N : Nat) (W W' : Nat → Nat) (v : Nat) : Nat := 4 * phN N W W' (v / 4) + v % 4
theorem psN_d (N : Nat) (W W' : Nat → Nat) (v : Nat) : psN N W W' v / 4 = phN N W W' (v / 4) ∧ psN N W W' v % 4 = v % 4 := by unfold psN; omega
theorem nda_0 {P : Nat → Nat} {w N v c : Nat} {W : Nat → Nat} : nda P w N W 0 v c = nde P w N W v c := by
  unfold nda
  have av : avd P W 0 (nde P w N W v c - 1) = false := by unfold avd; rfl
  rw [av]
  by_cases q : nde P w N W v c = 0
  · rw [if_pos (Or.inl q), q]
  · rw [if_neg]
    rintro (z | z)
    · exact q z
    · cases z
theorem psN_x {P : Nat → Nat} {r N N' v c : Nat} {W D W' D' : Nat → Nat} (hP : tV P) (hL : Lst (Ed P 16) (wx0 P) N W D) (hL' : Lst (Ed P r) (wx0 P) N' W' D') (hv : v < 4 * N') (ha : v % 4 < P 3) (hc : c < 64) : (nda P r N' W' 0 v c = 0 ∧ nda P r N W 0 (psN N W W' v) c = 0) ∨ ∃ u, u < 4 * N' ∧ nda P r N' W' 0 v c = u + 1 ∧ nda P r N W 0 (psN N W W' v) c = psN N W W' u + 1 := by
  have n4 := hP.1.2.1
  have hk : v / 4 < N' := by omega
  obtain ⟨p1, p2⟩ := phN_e hL hL' hk
  obtain ⟨d1, d2⟩ := psN_d N W W' v
  rw [nda_0, nda_0]
  unfold nde
  rw [d1, d2]
  rcases phN_x (c := c) hL hL' hk hc with ⟨z1, z2⟩ | ⟨t, t1, t2, t3⟩
  · rw [z1, z2, if_pos rfl, if_pos rfl]
    exact Or.inl ⟨rfl, rfl⟩
  · obtain ⟨u1, u2⟩ := phN_e hL hL' t1
    rw [t2, t3, if_neg (show ¬ t + 1 = 0 by omega), if_neg (show ¬ phN N W W' t + 1 = 0 by omega), Nat.add_sub_cancel, Nat.add_sub_cancel, p2, u2]
    have rl := rk_lt (a := da (P 3) ((sP P (W' (v / 4)) c).getD 0)) ha
    have ll := lkf_le (da (P 3) (W' t)) (rk (P 3) (da (P 3) ((sP P (W' (v / 4)) c).getD 0)) (v % 4))
    generalize lkf (da (P 3) (W' t)) (rk (P 3) (da (P 3) ((sP P (W' (v / 4)) c).getD 0)) (v % 4)) = l at *
    refine Or.inr ⟨4 * t + l, by omega, rfl, ?_⟩
    show 4 * phN N W W' t + l + 1 = 4 * phN N W W' ((4 * t + l) / 4) + (4 * t + l) % 4 + 1
    rw [show (4 * t + l) / 4 = t by omega]
    omega
theorem psN_o {P : Nat → Nat} {r N N' v : Nat} {W D W' D' : Nat → Nat} (hL : Lst (Ed P 16) (wx0 P) N W D) (hL' : Lst (Ed P r) (wx0 P) N' W' D') (hv : v < 4 * N') : opF P W 0 (psN N W W' v) = opF P W' 0 v ∧ ∀ s, instA P W (psN N W W' v) s = instA P W' v s := by
  obtain ⟨p1, p2⟩ := phN_e hL hL' (show v / 4 < N' by omega)
  obtain ⟨d1, d2⟩ := psN_d N W W' v
  refine ⟨?_, fun s => ?_⟩
  · unfold opF nod avd
    rw [d1, d2, p2]
  · unfold instA
    rw [d1, d2, p2]
theorem psN_R {P : Nat → Nat} {r N N' v d : Nat} {W D W' D' : Nat → Nat} (hP : tV P) (hL : Lst (Ed P 16) (wx0 P) N W D) (hL' : Lst (Ed P r) (wx0 P) N' W' D') (hv : v < 4 * N') : (∀ u, Rn (EFo P r N' W' 0) v d u → u < 4 * N' ∧ Rn (EFo P r N W 0) (psN N W W' v) d (psN N W W' u)) ∧ ∀ x, Rn (EFo P r N W 0) (psN N W W' v) d x → ∃ u, u < 4 * N' ∧ x = psN N W W' u ∧ Rn (EFo P r N' W' 0) v d u := by
  have op3 : ∀ (Z : Nat → Nat) x, opF P Z 0 x = true → x % 4 < P 3 := by
    intro Z x h
    unfold opF nod at h
    rw [Bool.and_eq_true, Bool.and_eq_true, decide_eq_true_iff] at h
    exact h.1.1
  induction d with
  | zero =>
    refine ⟨fun u h => ?_, fun x h => ?_⟩
    · have h : u = v := h
      rw [h]; exact ⟨hv, rfl⟩
    · have h : x = psN N W W' v := h
      exact ⟨v, hv, h, rfl⟩
  | succ d ih =>
    refine ⟨fun u h => ?_, fun x h => ?_⟩
    · obtain ⟨y, h1, h2, c, h3, h4⟩ := h
      obtain ⟨y1, y2⟩ := ih.1 y h1
      rcases psN_x (c := c) hP hL hL' y1 (op3 _ _ h2) h3 with ⟨z, _⟩ | ⟨t, t1, t2, t3⟩
      · omega
      · have et : t = u := by omega
        subst et
        exact ⟨t1, _, y2, by rw [(psN_o hL hL' y1).1]; exact h2, c, h3, t3⟩
    · obtain ⟨y, h1, h2, c, h3, h4⟩ := h
      obtain ⟨w, w1, w2, w3⟩ := ih.2 y h1
      subst w2
      rw [(psN_o hL hL' w1).1] at h2
      rcases psN_x (c := c) hP hL hL' w1 (op3 _ _ h2) h3 with ⟨_, z⟩ | ⟨t, t1, t2, t3⟩
      · omega
      · exact ⟨t, t1, by omega, w, w3, h2, c, h3, t2⟩
theorem hope_p {P : Nat → Nat} {r N N' v : Nat} {W D W' D' : Nat → Nat} (hP : tV P) (hL : Lst (Ed P 16) (wx0 P) N W D) (hL' : Lst (Ed P r) (wx0 P) N' W' D') (hv : v < 4 * N') : hopeP P r N W (psN N W W' v) ↔ hopeP P r N' W' v := by
  constructor
  · rintro ⟨x, ⟨d, h1⟩, h2⟩
    obtain ⟨u, u1, u2, u3⟩ := (psN_R hP hL hL' hv).2 x h1
    rw [u2, (psN_o hL hL' u1).2] at h2
    exact ⟨u, ⟨d, u3⟩, h2⟩
  · rintro ⟨u, ⟨d, h1⟩, h2⟩
    obtain ⟨u1, u2⟩ := (psN_R hP hL hL' hv).1 u h1
    exact ⟨_, ⟨d, u2⟩, by rw [(psN_o hL hL' u1).2]; exact h2⟩
theorem stv_p {P : Nat → Nat} {r N N' k a : Nat} {W D W' D' : Nat → Nat} (hP : tV P) (hL : Lst (Ed P 16) (wx0 P) N W D) (hL' : Lst (Ed P r) (wx0 P) N' W' D') (hk : k < N') (ha : a < P 3) : stvB P r N W (4 * phN N W W' k + a) = stvB P r N' W' (4 * k + a) := by
  have n4 := hP.1.2.1
  obtain ⟨p1, p2⟩ := phN_e hL hL' hk
  have e1 : psN N W W' (4 * k + a) = 4 * phN N W W' k + a := by
    unfold psN
    rw [show (4 * k + a) / 4 = k by omega]
    omega
  have ll := lkf_le (da (P 3) (W' k)) a
  have e2 : fln P W (4 * phN N W W' k + a) = psN N W W' (fln P W' (4 * k + a)) := by
    unfold fln
    rw [show (4 * phN N W W' k + a) / 4 = phN N W W' k by omega, show (4 * phN N W W' k + a) % 4 = a by omega, show (4 * k + a) / 4 = k by omega, show (4 * k + a) % 4 = a by omega, p2]
    unfold psN
    rw [show (4 * k + lkf (da (P 3) (W' k)) a) / 4 = k by omega]
    omega
  have fl : fln P W' (4 * k + a) < 4 * N' := by
    unfold fln
    rw [show (4 * k + a) / 4 = k by omega, show (4 * k + a) % 4 = a by omega]
    omega
  unfold stvB
  rw [e2]
  refine cBo_cg (and_congr_right (fun _ => ?_))
  rw [← e1, (psN_o hL hL' (show 4 * k + a < 4 * N' by omega)).2, hope_p hP hL hL' fl]
/-- nothing can be done from a world but by the rule r -/
def stkR (P : Nat → Nat) (r x : Nat) : Prop := ∀ c, c < 64 → psb P x c = true → c / 4 = r
theorem stkR_n {P : Nat → Nat} {r N i : Nat} {W : Nat → Nat} : cn (fun c => decide (nxw P r N W i c ≠ 0)) 64 = 0 ↔ stkR P r (W i) := by
  constructor
  · intro h c hc hp
    refine Classical.byContradiction (fun z => ?_)
    have k := cn_ms (p := fun c => decide (nxw P r N W i c ≠ 0)) (show c + 1 ≤ 64 by omega)
    rw [cn_s1 (decide_eq_true (nxw_nz.mpr ⟨hp, z⟩)), h] at k
    omega
  · intro h
    have := cn_lo (p := fun c => decide (nxw P r N W i c ≠ 0)) (n := 64) (k := 0) (fun j hj _ => decide_eq_false (fun z => by have := nxw_nz.mp z; exact this.2 (h j hj this.1)))
    omega
/-- the five numbers out of the whole list -/
noncomputable def fgI (P : Nat → Nat) (r N : Nat) (W : Nat → Nat) (k i : Nat) : Int32 := if k = 1 then timesOf P (W i) else if k = 2 then (if bd P (W i) = true then timesOf P (W i) else 0) else if k = 3 then (if cBo (stkR P r (W i)) = true then timesOf P (W i) else 0) else timesOf P (W i) * nI (cn (fun a => stvB P r N W (4 * i + a)) (P 3))
theorem fgI_p {P : Nat → Nat} {r N N' n : Nat} {W D W' D' ord : Nat → Nat} (hP : tV P) (hL : Lst (Ed P 16) (wx0 P) N W D) (hL' : Lst (Ed P r) (wx0 P) N' W' D') (h1 : ∀ j, j < n → ord j < N) (h2 : ∀ i j, i < n → j < n → ord i = ord j → i = j) (h3 : ∀ i, i < N → ((∃ j, j < n ∧ ord j = i) ↔ Rc (EWr P r N W) 0 i)) : ∀ k, k < 5 → fig5 P r N' W' k = if k = 0 then nI n else sumI (fun j => fgI P r N W k (ord j)) n := by
  obtain ⟨e1, e2⟩ := sumI_pp h1 h2 (fun j hj => (phN_e hL hL' hj).1) (phN_i hL hL') (fun i hi => (h3 i hi).trans (phN_s hL hL' hi).symm)
  intro k hk
  rcases (show k = 0 ∨ k = 1 ∨ k = 2 ∨ k = 3 ∨ k = 4 by omega) with z | z | z | z | z <;> subst z
  · show nI N' = nI n
    rw [e1]
  · show sumI (smF P r N' W' 0) N' = sumI (fun j => fgI P r N W 1 (ord j)) n
    rw [e2]
    refine sumI_cg (fun i hi => ?_)
    show timesOf P (W' i) = timesOf P (W (phN N W W' i))
    rw [(phN_e hL hL' hi).2]
  · show sumI (smF P r N' W' 2) N' = sumI (fun j => fgI P r N W 2 (ord j)) n
    rw [e2]
    refine sumI_cg (fun i hi => ?_)
    show (if bd P (W' i) = true then timesOf P (W' i) else 0) = (if bd P (W (phN N W W' i)) = true then timesOf P (W (phN N W W' i)) else 0)
    rw [(phN_e hL hL' hi).2]
  · show sumI (smF P r N' W' 3) N' = sumI (fun j => fgI P r N W 3 (ord j)) n
    rw [e2]
    refine sumI_cg (fun i hi => ?_)
    show (if cn (fun c => decide (nxw P r N' W' i c ≠ 0)) 64 = 0 then timesOf P (W' i) else 0) = (if cBo (stkR P r (W (phN N W W' i))) = true then timesOf P (W (phN N W W' i)) else 0)
    rw [(phN_e hL hL' hi).2]
    by_cases q : stkR P r (W' i)
    · rw [if_pos (stkR_n.mpr q), if_pos (cBo_t q)]
    · rw [if_neg (fun z => q (stkR_n.mp z)), if_neg (by rw [cBo_f q]; decide)]
  · show sumI (fun i => timesOf P (W' i) * nI (cn (fun a => stvB P r N' W' (4 * i + a)) (P 3))) N' = sumI (fun j => fgI P r N W 4 (ord j)) n
    rw [e2]
    refine sumI_cg (fun i hi => ?_)
    show _ = timesOf P (W (phN N W W' i)) * nI (cn (fun a => stvB P r N W (4 * phN N W W' i + a)) (P 3))
    rw [(phN_e hL hL' hi).2, cn_cg (fun a ha => stv_p hP hL hL' hi ha)]
