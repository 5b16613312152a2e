theorem oth_iff {n i s : Nat} {a : Nat → Nat} : oth n a i s = true ↔ ∃ j, j < n ∧ j ≠ i ∧ oS (a j) = s := by
  unfold oth
  rw [List.any_eq_true]
  constructor
  · rintro ⟨j, h1, h2⟩
    rw [Bool.and_eq_true] at h2
    exact ⟨j, List.mem_range.mp h1, of_decide_eq_true h2.1, of_decide_eq_true h2.2⟩
  · rintro ⟨j, h1, h2, h3⟩
    refine ⟨j, List.mem_range.mpr h1, ?_⟩
    rw [Bool.and_eq_true]
    exact ⟨decide_eq_true h2, decide_eq_true h3⟩
theorem oth_pm {n i s : Nat} {a b f : Nat → Nat} (h4 : n ≤ 4) (hi : i < n) (hf : ∀ i, i < n → f i < n) (hj : ∀ i j, i < n → j < n → f i = f j → i = j) (hb : ∀ i, i < n → b (f i) = a i) : oth n b (f i) s = oth n a i s := by
  have e : oth n b (f i) s = true ↔ oth n a i s = true := by
    rw [oth_iff, oth_iff]
    constructor
    · rintro ⟨k, h1, h2, h3⟩
      obtain ⟨j, hj', rfl⟩ := sj4 h4 hf hj k h1
      exact ⟨j, hj', fun z => h2 (by rw [z]), by rw [← hb j hj']; exact h3⟩
    · rintro ⟨j, h1, h2, h3⟩
      exact ⟨f j, hf j h1, fun z => h2 (hj j i h1 hi z), by rw [hb j h1]; exact h3⟩
  exact Bool.eq_iff_iff.mpr e
theorem srv_pm {n l i j : Nat} {F a b f : Nat → Nat} (hi : i < n) (hj' : j < n) (hj : ∀ i j, i < n → j < n → f i = f j → i = j) (hb : ∀ i, i < n → b (f i) = a i) : srv l F b (f i) (f j) = srv l F a i j := by
  unfold srv
  rw [hb j hj']
  by_cases e : j = i
  · rw [if_pos e, if_pos (by rw [e])]
  · rw [if_neg e, if_neg (fun z => e (hj j i hj' hi z))]
/-- agents put otherwise move as they did -/
theorem mv_pm {l n h i : Nat} {F a b f : Nat → Nat} (h4 : n ≤ 4) (hi : i < n) (hf : ∀ i, i < n → f i < n) (hj : ∀ i j, i < n → j < n → f i = f j → i = j) (hb : ∀ i, i < n → b (f i) = a i) : (mv l n F h a i = none → mv l n F h b (f i) = none) ∧ ∀ q, mv l n F h a i = some q → ∃ q', mv l n F h b (f i) = some q' ∧ q'.1 = q.1 ∧ ∀ j, j < n → q'.2 (f j) = q.2 j := by
  by_cases h0 : F 0 = 0
  · rw [mv_on h0, mv_on h0, hb i hi]
    cases hs : stp l F (a i) with
    | none => exact ⟨fun _ => rfl, fun q e => by cases e⟩
    | some d =>
      refine ⟨fun e => (by cases e), fun q e => ?_⟩
      cases e
      refine ⟨_, rfl, rfl, fun j hj' => ?_⟩
      show (if f j = f i then d else b (f j)) = (if j = i then d else a j)
      by_cases e : j = i
      · rw [if_pos e, if_pos (by rw [e])]
      · rw [if_neg e, if_neg (fun z => e (hj j i hj' hi z)), hb j hj']
  · have ec : srvC l n F h b (f i) ↔ srvC l n F h a i := by
      unfold srvC srvA
      rw [hb i hi, oth_pm h4 hi hf hj hb]
      refine and_congr Iff.rfl (and_congr Iff.rfl (and_congr Iff.rfl ⟨fun z j hj' => ?_, fun z k hk => ?_⟩))
      · have := z (f j) (hf j hj')
        rwa [srv_pm hi hj' hj hb] at this
      · obtain ⟨j, hj', rfl⟩ := sj4 h4 hf hj k hk
        rw [srv_pm hi hj' hj hb]
        exact z j hj'
    by_cases hc : srvC l n F h a i
    · rw [mv_at h0 hc, mv_at h0 (ec.mpr hc)]
      refine ⟨fun e => (by cases e), fun q e => ?_⟩
      cases e
      refine ⟨_, rfl, rfl, fun j hj' => ?_⟩
      show (srv l F b (f i) (f j)).getD 0 = (srv l F a i j).getD 0
      rw [srv_pm hi hj' hj hb]
    · rw [mv_an h0 hc, mv_an h0 (fun z => hc (ec.mp z))]
      exact ⟨fun _ => rfl, fun q e => by cases e⟩
/-- a move from a key -/
def sx (l n : Nat) (F : Nat → Nat) (x i : Nat) : Option Nat := (mv l n F (dh n x) (da n x) i).map (fun q => ky 2058 q.1 q.2 n)
theorem mv_cg {l n h i : Nat} {F a a' : Nat → Nat} (h4 : n ≤ 4) (hi : i < n) (e : ∀ j, j < n → a' j = a j) : (mv l n F h a i = none → mv l n F h a' i = none) ∧ ∀ q, mv l n F h a i = some q → ∃ q', mv l n F h a' i = some q' ∧ q'.1 = q.1 ∧ ∀ j, j < n → q'.2 j = q.2 j := mv_pm (f := fun i => i) h4 hi (fun _ h => h) (fun _ _ _ _ z => z) e
theorem sx_ky {l n h i : Nat} {F a : Nat → Nat} (hv : wV n h a) (hi : i < n) : sx l n F (ky 2058 h a n) i = (mv l n F h a i).map (fun q => ky 2058 q.1 q.2 n) := by
  obtain ⟨e1, e2⟩ := dk_ky (h := h) hv.2.2.2
  unfold sx
  rw [e1]
  have k := mv_cg (l := l) (F := F) (h := h) hv.2.1 hi e2
  cases e : mv l n F h a i with
  | none => rw [k.1 e]
  | some q =>
    obtain ⟨q', h1, h2, h3⟩ := k.2 q e
    rw [h1]
    show some (ky 2058 q'.1 q'.2 n) = some (ky 2058 q.1 q.2 n)
    rw [h2, ky_cg h3]
theorem sx_kv {l n x i y : Nat} {F : Nat → Nat} (hF : fV F) (h : kv n x) (hi : i < n) (e : sx l n F x i = some y) : kv n y := by
  unfold sx at e
  cases em : mv l n F (dh n x) (da n x) i with
  | none => rw [em] at e; cases e
  | some q =>
    rw [em] at e
    cases e
    exact kv_k (mv_wV hF (kv_w h) hi em)
/-- a move from a world and from the folded one lead to worlds that fold alike -/
theorem sx_fo {l n x i : Nat} {F : Nat → Nat} (hF : fV F) (h : kv n x) (hi : i < n) : (sx l n F (fo n x) (rk n (da n x) i)).map (fo n) = (sx l n F x i).map (fo n) := by
  have k := mv_pm (l := l) (F := F) (h := dh n x) (f := rk n (da n x)) (a := da n x) (b := da n (fo n x)) h.2.1 hi (fun _ => rk_lt) (fun _ _ => rk_in) (fun i hi => fo_rk h hi)
  unfold sx
  rw [(fo_d h).1]
  cases e : mv l n F (dh n x) (da n x) i with
  | none => rw [k.1 e]
  | some q =>
    obtain ⟨q', h1, h2, h3⟩ := k.2 q e
    rw [h1]
    show some (fo n (ky 2058 q'.1 q'.2 n)) = some (fo n (ky 2058 q.1 q.2 n))
    have w1 := mv_wV hF (kv_w h) hi e
    have w2 : wV n q'.1 q'.2 := mv_wV hF (show wV n (dh n x) (da n (fo n x)) from ⟨h.1, h.2.1, h.2.2, fun j _ => da_lt _ _ _⟩) (rk_lt hi) h1
    rw [h2] at w2
    rw [h2, fo_pm (rk n (da n x)) w1 w2 (fun _ => rk_lt) (fun _ _ => rk_in) h3]
