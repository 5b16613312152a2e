theorem Rn_fr {E : Nat → Nat → Prop} {i j d t : Nat} (e : E i j) (h : Rn E j d t) : Rn E i (d + 1) t := by
  induction d generalizing t with
  | zero =>
    have h : t = j := h
    rw [h]
    exact ⟨i, rfl, e⟩
  | succ d ih =>
    obtain ⟨y, h1, h2⟩ := h
    exact ⟨y, ih h1, h2⟩
theorem Rn_un {E : Nat → Nat → Prop} {i d t : Nat} (h : Rn E i (d + 1) t) : ∃ j, E i j ∧ Rn E j d t := by
  induction d generalizing t with
  | zero =>
    obtain ⟨y, h1, h2⟩ := h
    have h1 : y = i := h1
    rw [h1] at h2
    exact ⟨t, h2, rfl⟩
  | succ d ih =>
    obtain ⟨y, h1, h2⟩ := h
    obtain ⟨j, j1, j2⟩ := ih h1
    exact ⟨j, j1, y, j2, h2⟩
def smNt (f : Nat → Nat) : Nat → Nat
  | 0 => 0
  | n + 1 => smNt f n + f n
theorem smNt_le {f : Nat → Nat} {n B : Nat} (h : ∀ i, i < n → f i ≤ B) : smNt f n ≤ n * B := by
  induction n with
  | zero => show 0 ≤ 0 * B; omega
  | succ n ih =>
    have a := ih (fun i hi => h i (by omega))
    have b := h n (by omega)
    show smNt f n + f n ≤ (n + 1) * B
    rw [Nat.add_mul, Nat.one_mul]
    omega
theorem smNt_up {f : Nat → Nat} {n k x : Nat} (hk : k < n) (hx : x < f k) : smNt (upn f k x) n < smNt f n := by
  have cg : ∀ n, n ≤ k → smNt (upn f k x) n = smNt f n := by
    intro n
    induction n with
    | zero => intro _; rfl
    | succ n ih => intro h; show smNt (upn f k x) n + upn f k x n = smNt f n + f n; rw [ih (by omega), upn_n (by omega)]
  induction n with
  | zero => omega
  | succ n ih =>
    show smNt (upn f k x) n + upn f k x n < smNt f n + f n
    by_cases e : k = n
    · subst e
      rw [cg k (Nat.le_refl _), upn_s]; omega
    · have := ih (by omega)
      rw [upn_n (by omega)]; omega
/-- how far it is to t, as far as is known -/
def frS (P : Nat → Nat) (N : Nat) (W : Nat → Nat) (t : Nat) (fr : Nat → Nat) : Prop := fr t = 0 ∧ ∀ i, i < N → fr i ≤ 100000 ∧ (fr i < 100000 → Rn (EWo P N W) i (fr i) t)
def FrM (P : Nat → Nat) (N : Nat) (W : Nat → Nat) (t : Nat) (fr : Nat → Nat) (m : zM) : Prop := (∀ i, i < N → m.1 50 i = nI (fr i)) ∧ frS P N W t fr ∧ ∀ i d, i < N → Rn (EWo P N W) i d t → fr i ≤ d
theorem measuresM {P : Nat → Nat} {N t : Nat} {W D : Nat → Nat} {m : zM} (hL : LMx P 16 N W D m) (ht : t < N) : ok (f_MO_measures (nI t) m) (fun p => fl2 [50] [] m p ∧ ∃ fr, FrM P N W t fr p) := by
  obtain ⟨l1, l2, l3, l4, l5⟩ := id hL
  unfold f_MO_measures f_MO_measures_L2
  refine ok_for N (fun k (s : Int32 × zM) => s.1 = nI k ∧ fl2 [50] [] m s.2 ∧ ∀ i, i < k → s.2.1 50 i = nI (if i = t then 0 else 100000)) ⟨rfl, fl2_rf, fun i hi => absurd hi (Nat.not_lt_zero _)⟩ (Nat.zero_le _) ?_
  rintro k ⟨x, m1⟩ - hk ⟨e, f1, g1⟩
  have e : x = nI k := e
  subst e
  have f1 : fl2 [50] [] m m1 := f1
  have g1 : ∀ i, i < k → m1.1 50 i = nI (if i = t then 0 else 100000) := g1
  unfold f_MO_measures_B2
  refine ok_le N k (fun q => ok_zl ?_) (fun q => ?_) (hx := show m1.1 0 41 = nI N by rw [fl2_i f1 (by decide)]; exact l4.1)
  · have : k = N := by omega
    subst this
    unfold f_MO_measures_J34 f_MO_measures_L36
    refine ok_lop (ι := Nat) (fun μ (s : Bool × zM) => fl2 [50] [] m s.2 ∧ ∃ fr, (∀ i, i < k → s.2.1 50 i = nI (fr i)) ∧ frS P k W t fr ∧ (s.1 = false → ∀ i j, i < k → EWo P k W i j → fr i ≤ fr j + 1) ∧ μ = 2 * smNt fr k + (if s.1 = true then 1 else 0)) (fun μ => μ) ?_ _ _ ⟨f1, fun i => if i = t then 0 else 100000, g1, ⟨if_pos rfl, fun i hi => ?_⟩, fun z => (by cases z), rfl⟩ ?_
    · rintro μ ⟨more, m2⟩ ⟨f2, fr, a1, a2, a3, a4⟩
      have f2 : fl2 [50] [] m m2 := f2
      have a1 : ∀ i, i < k → m2.1 50 i = nI (fr i) := a1
      have a3 : more = false → ∀ i j, i < k → EWo P k W i j → fr i ≤ fr j + 1 := a3
      have a4 : μ = 2 * smNt fr k + (if more = true then 1 else 0) := a4
      unfold f_MO_measures_B36
      refine ok_tf (fun z => ?_) (fun z => ok_mk ⟨f2, fr, a1, a2, fun i d hi h => ?_⟩)
      · have z : more = true := z
        rw [show m2.1 0 41 = nI k by rw [fl2_i f2 (by decide)]; exact l4.1]
        unfold f_MO_measures_L49
        refine ok_lop (ι := Nat) (fun i (s : Bool × Int32 × zM) => i ≤ k ∧ s.2.1 = nI i - 1 ∧ fl2 [50] [] m s.2.2 ∧ ∃ fr2, (∀ i, i < k → s.2.2.1 50 i = nI (fr2 i)) ∧ frS P k W t fr2 ∧ ((s.1 = true ∧ smNt fr2 k < smNt fr k) ∨ (s.1 = false ∧ fr2 = fr ∧ ∀ i' j, i ≤ i' → i' < k → EWo P k W i' j → fr i' ≤ fr j + 1))) (fun i => i) ?_ k _ ⟨Nat.le_refl _, rfl, f2, fr, a1, a2, Or.inr ⟨rfl, rfl, fun i' j h1 h2 => by omega⟩⟩ (by omega)
        rintro i ⟨b, x, m3⟩ ⟨hi, e, f3, fr2, b1, b2, b4⟩
        have e : x = nI i - 1 := e
        subst e
        have f3 : fl2 [50] [] m m3 := f3
        have b1 : ∀ i, i < k → m3.1 50 i = nI (fr2 i) := b1
        have b4 : (b = true ∧ smNt fr2 k < smNt fr k) ∨ (b = false ∧ fr2 = fr ∧ ∀ i' j, i ≤ i' → i' < k → EWo P k W i' j → fr i' ≤ fr j + 1) := b4
        unfold f_MO_measures_B49 f_MO_measures_J142
        rcases Nat.eq_zero_or_pos i with i0 | i0
        · subst i0
          refine ok_ip (show nI 0 - 1 < 0 by decide) (ok_zl (ok_mk ⟨2 * smNt fr2 k + (if b = true then 1 else 0), ?_, f3, fr2, b1, b2, fun y i' j h1 h2 => ?_, rfl⟩))
          · rw [a4, if_pos z]
            rcases b4 with ⟨d1, d2⟩ | ⟨d1, d2, _⟩
            · rw [d1, if_pos rfl]; omega
            · rw [d1, d2, if_neg (by decide)]; omega
          · have y : b = false := y
            rcases b4 with ⟨d1, _⟩ | ⟨_, d2, d3⟩
            · rw [d1] at y; cases y
            · rw [d2]; exact d3 i' j (Nat.zero_le _) h1 h2
        · have iv : i - 1 < k := by omega
          rw [nI_pr i0]
          refine ok_in (nI_pos (by omega)) ?_
          have e64 : (64 : Int32) * nI (i - 1) = nI (64 * (i - 1)) := by rw [show (64 : Int32) = nI 64 from rfl, pk_mul]
          unfold f_MO_measures_L59
          rw [e64]
          refine ok_for 64 (fun c (s : Bool × Int32 × zM) => s.2.1 = nI (64 * (i - 1) + c) ∧ fl2 [50] [] m s.2.2 ∧ ∃ fr3, (∀ i, i < k → s.2.2.1 50 i = nI (fr3 i)) ∧ frS P k W t fr3 ∧ ((s.1 = true ∧ smNt fr3 k < smNt fr k) ∨ (s.1 = false ∧ fr3 = fr ∧ (∀ i' j, i ≤ i' → i' < k → EWo P k W i' j → fr i' ≤ fr j + 1) ∧ ∀ c' j, c' < c → nxw P 16 k W (i - 1) c' = j + 1 → fr (i - 1) ≤ fr j + 1))) (k0 := 0) ⟨rfl, f3, fr2, b1, b2, ?_⟩ (Nat.zero_le _) ?_
          · rcases b4 with d | ⟨d1, d2, d3⟩
            · exact Or.inl d
            · exact Or.inr ⟨d1, d2, d3, fun c' j hc => absurd hc (Nat.not_lt_zero _)⟩
          rintro c ⟨b', x, m4⟩ - hc ⟨e, f4, fr3, c1, c2, c4⟩
          have e : x = nI (64 * (i - 1) + c) := e
          subst e
          have f4 : fl2 [50] [] m m4 := f4
          have c1 : ∀ i, i < k → m4.1 50 i = nI (fr3 i) := c1
          have c4 : (b' = true ∧ smNt fr3 k < smNt fr k) ∨ (b' = false ∧ fr3 = fr ∧ (∀ i' j, i ≤ i' → i' < k → EWo P k W i' j → fr i' ≤ fr j + 1) ∧ ∀ c' j, c' < c → nxw P 16 k W (i - 1) c' = j + 1 → fr (i - 1) ≤ fr j + 1) := c4
          unfold f_MO_measures_B59 f_MO_measures_J136 f_MO_measures_J130
          rw [e64, show (64 : Int32) = nI 64 from rfl, nI_add]
          refine ok_le (64 * (i - 1) + 64) (64 * (i - 1) + c) (fun q1 => ok_zl (ok_mk ⟨i - 1, by omega, by omega, (Int32.sub_eq_add_neg _ _).symm, f4, fr3, c1, c2, ?_⟩)) (fun q1 => ?_)
          · rcases c4 with d | ⟨d1, d2, d3, d4⟩
            · exact Or.inl d
            · refine Or.inr ⟨d1, d2, fun i' j h1 h2 h3 => ?_⟩
              by_cases y : i' = i - 1
              · rw [y] at h3 ⊢
                obtain ⟨_, c', h4, h5⟩ := h3
                exact d4 c' j (by omega) h5
              · exact d3 i' j (by omega) h2 h3
          · have qc : c < 64 := by omega
            have nl := nxw_le (w := 16) l3 iv qc
            have e30 : m4.1 30 (64 * (i - 1) + c) = nI (nxw P 16 k W (i - 1) c) - 1 := by rw [fl2_i f4 (by simp [inS])]; exact l5 _ iv c qc
            have same : (fr3 = fr → ∀ j, nxw P 16 k W (i - 1) c = j + 1 → fr (i - 1) ≤ fr j + 1) → ok (some (Sum.inr (b', nI (64 * (i - 1) + c) + 1, m4))) (lp (lp (lp (fun p => fl2 [50] [] m p ∧ ∃ fr, FrM P k W t fr p) (fun s' : Bool × zM => ∃ i', i' < μ ∧ fl2 [50] [] m s'.2 ∧ ∃ fr, (∀ i, i < k → s'.2.1 50 i = nI (fr i)) ∧ frS P k W t fr ∧ (s'.1 = false → ∀ i j, i < k → EWo P k W i j → fr i ≤ fr j + 1) ∧ i' = 2 * smNt fr k + (if s'.1 = true then 1 else 0))) (fun s' : Bool × Int32 × zM => ∃ i', i' < i ∧ i' ≤ k ∧ s'.2.1 = nI i' - 1 ∧ fl2 [50] [] m s'.2.2 ∧ ∃ fr2, (∀ i, i < k → s'.2.2.1 50 i = nI (fr2 i)) ∧ frS P k W t fr2 ∧ ((s'.1 = true ∧ smNt fr2 k < smNt fr k) ∨ (s'.1 = false ∧ fr2 = fr ∧ ∀ i'' j, i' ≤ i'' → i'' < k → EWo P k W i'' j → fr i'' ≤ fr j + 1)))) (fun s' : Bool × Int32 × zM => c < 64 ∧ s'.2.1 = nI (64 * (i - 1) + (c + 1)) ∧ fl2 [50] [] m s'.2.2 ∧ ∃ fr3, (∀ i, i < k → s'.2.2.1 50 i = nI (fr3 i)) ∧ frS P k W t fr3 ∧ ((s'.1 = true ∧ smNt fr3 k < smNt fr k) ∨ (s'.1 = false ∧ fr3 = fr ∧ (∀ i' j, i ≤ i' → i' < k → EWo P k W i' j → fr i' ≤ fr j + 1) ∧ ∀ c' j, c' < c + 1 → nxw P 16 k W (i - 1) c' = j + 1 → fr (i - 1) ≤ fr j + 1)))) := by
              intro hs
              refine ok_mk ⟨qc, nI_1 _, f4, fr3, c1, c2, ?_⟩
              rcases c4 with d | ⟨d1, d2, d3, d4⟩
              · exact Or.inl d
              · refine Or.inr ⟨d1, d2, d3, fun c' j h1 h2 => ?_⟩
                by_cases y : c' = c
                · rw [y] at h2; exact hs d2 j h2
                · exact d4 c' j (by omega) h2
            refine ok_ix rfl (show 64 * (i - 1) + c < 38912 by omega) (by decide) ?_
            refine ok_mm (nxw P 16 k W (i - 1) c) (fun y => same (fun _ j h => by omega)) (fun y => ?_) (hx := e30)
            obtain ⟨j, ej⟩ : ∃ j, nxw P 16 k W (i - 1) c = j + 1 := ⟨nxw P 16 k W (i - 1) c - 1, by omega⟩
            have jk : j < k := by omega
            have e30' : m4.1 30 (64 * (i - 1) + c) = nI j := by rw [e30, ej, nI_pred]
            have fj := (c2.2 j jk).1
            have fi' := (c2.2 (i - 1) iv).1
            refine ok_ix rfl (show 64 * (i - 1) + c < 38912 by omega) (by decide) ?_
            rw [e30']
            refine ok_ix rfl (show j < 608 by omega) (by decide) (ok_ix rfl (show i - 1 < 608 by omega) (by decide) ?_)
            refine ok_ll (fr3 j + 1) (fr3 (i - 1)) (fun w => ?_) (fun w => same (fun h j' h' => ?_)) (hx := by rw [c1 j jk, nI_1]) (hy := c1 _ iv)
            · refine ok_ix rfl (show 64 * (i - 1) + c < 38912 by omega) (by decide) ?_
              rw [e30']
              refine ok_ix rfl (show j < 608 by omega) (by decide) (ok_ix rfl (show i - 1 < 608 by omega) (by decide) (ok_lt (ok_mk ⟨qc, nI_1 _, fl2_tr f4 (fl2_I (inS_c (by simp))), upn fr3 (i - 1) (fr3 j + 1), fun i' hi' => ?_, ⟨?_, fun i' hi' => ?_⟩, Or.inl ⟨rfl, ?_⟩⟩)))
              · show (sI m4 50 (i - 1) _).1 50 i' = _
                by_cases s : i' = i - 1
                · rw [s, rd_I1, upn_s, c1 j jk, nI_1]
                · rw [rd_I0 (by omega), upn_n s]; exact c1 i' hi'
              · have : t ≠ i - 1 := fun s => by rw [← s, c2.1] at w; omega
                rw [upn_n this]; exact c2.1
              · by_cases s : i' = i - 1
                · rw [s, upn_s]
                  exact ⟨by omega, fun _ => Rn_fr ⟨iv, c, qc, ej⟩ ((c2.2 j jk).2 (by omega))⟩
                · rw [upn_n s]; exact c2.2 i' hi'
              · have := smNt_up iv w
                rcases c4 with ⟨_, d⟩ | ⟨_, d, _⟩
                · omega
                · rw [d] at this ⊢; exact this
            · rw [← h, show j' = j by omega]; exact w
      · have z : more = false := z
        have a3 := a3 z
        induction d generalizing i with
        | zero =>
          have h : t = i := h
          rw [← h, a2.1]; exact Nat.le_refl _
        | succ d ih =>
          obtain ⟨j, j1, j2⟩ := Rn_un h
          have := ih j (EW_lt l3 j1) j2
          have := a3 i j hi j1
          omega
    · show (if i = t then 0 else 100000) ≤ 100000 ∧ ((if i = t then 0 else 100000) < 100000 → Rn (EWo P k W) i (if i = t then 0 else 100000) t)
      by_cases y : i = t
      · rw [if_pos y, y]; exact ⟨by omega, fun _ => rfl⟩
      · rw [if_neg y]; exact ⟨Nat.le_refl _, fun h => by omega⟩
    · have := smNt_le (f := fun i => if i = t then 0 else 100000) (n := k) (B := 100000) (fun i _ => by show (if i = t then 0 else 100000) ≤ 100000; split <;> omega)
      show 2 * smNt (fun i => if i = t then 0 else 100000) k + 1 < 1000000000
      omega
  · have wr : ∀ t2 : Int32, t2 = nI (if k = t then 0 else 100000) → ok (f_MO_measures_J27 (nI t) (nI k) 50 (nI k) t2 m1) (lp (fun p => fl2 [50] [] m p ∧ ∃ fr, FrM P N W t fr p) (fun s' : Int32 × zM => k < N ∧ s'.1 = nI (k + 1) ∧ fl2 [50] [] m s'.2 ∧ ∀ i, i < k + 1 → s'.2.1 50 i = nI (if i = t then 0 else 100000))) := by
      intro t2 ht2
      unfold f_MO_measures_J27
      refine ok_ix rfl (show k < zlen gM 50 from (show k < 608 by omega)) (by decide) (ok_lt (ok_mk ⟨q, nI_1 k, fl2_tr f1 (fl2_I (inS_c (by simp))), fun i hi => ?_⟩))
      show (sI m1 50 k t2).1 50 i = _
      by_cases y : i = k
      · rw [y, rd_I1]; exact ht2
      · rw [rd_I0 (by omega)]; exact g1 i (by omega)
    refine ok_ee k t (fun y => wr 0 (by rw [if_pos y]; rfl)) (fun y => wr 100000 (by rw [if_neg y]; rfl))
theorem W_0 {P : Nat → Nat} {N : Nat} {W D : Nat → Nat} (hL : Lst (Ed P 16) (wx0 P) N W D) (h0 : 0 < N) : W 0 = wx0 P ∧ D 0 = 0 := by
  obtain ⟨k, hk, ek⟩ := hL.2.1 0 (wx0 P) rfl
  have dk : D k = 0 := Ds_un (hL.1 k hk) (by rw [ek]; exact ⟨rfl, fun e he => absurd he (Nat.not_lt_zero _)⟩)
  have d0 : D 0 = 0 := by
    rcases Nat.eq_zero_or_pos k with z | z
    · rw [z] at dk; exact dk
    · have := hL.2.2 0 k z hk; omega
  have := (hL.1 0 h0).1
  rw [d0] at this
  exact ⟨this, d0⟩
theorem Ed_W {P : Nat → Nat} {N i j : Nat} {W D : Nat → Nat} (hL : Lst (Ed P 16) (wx0 P) N W D) (hi : i < N) (hj : j < N) : Ed P 16 (W i) (W j) ↔ EWo P N W i j := by
  constructor
  · rintro ⟨c, h1, h2, h3⟩
    cases e : sP P (W i) c with
    | none => rw [e] at h3; cases h3
    | some y =>
      rw [e] at h3
      have h3 : fo (P 3) y = W j := Option.some.inj h3
      exact ⟨hi, c, h1, nxw_s h2 e hj h3.symm (fun i j h1 h2 => Lst_in hL h1 h2)⟩
  · rintro ⟨_, c, h1, h2⟩
    have nz := (nxw_nz (P := P) (w := 16) (N := N) (W := W) (i := i) (c := c)).mp (by omega)
    obtain ⟨y, y1, _⟩ := psb_s nz.1
    obtain ⟨t, t1, t2, t3⟩ := nxw_e hL hi h1 nz.2 y1
    refine ⟨c, h1, nz.2, ?_⟩
    rw [y1]
    show some (fo (P 3) y) = _
    rw [← t2, show t = j by omega]
theorem Rn_W {P : Nat → Nat} {N d i : Nat} {W D : Nat → Nat} (hL : Lst (Ed P 16) (wx0 P) N W D) (hi : i < N) : Rn (Ed P 16) (wx0 P) d (W i) ↔ Rn (EWo P N W) 0 d i := by
  have w0 := (W_0 hL (by omega)).1
  induction d generalizing i with
  | zero =>
    constructor
    · intro h
      have h : W i = wx0 P := h
      exact Lst_in hL hi (by omega) (h.trans w0.symm)
    · intro h
      have h : i = 0 := h
      rw [h]; exact w0
  | succ d ih =>
    constructor
    · rintro ⟨y, h1, h2⟩
      obtain ⟨j, j1, j2⟩ := hL.2.1 d y h1
      rw [← j2] at h1 h2
      exact ⟨j, (ih j1).mp h1, (Ed_W hL j1 hi).mp h2⟩
    · rintro ⟨j, h1, h2⟩
      exact ⟨W j, (ih h2.1).mpr h1, (Ed_W hL h2.1 hi).mpr h2⟩
