/-- an agent, a world in the table's words -/
def gag (P : Nat → Nat) (c : Nat) : Prop := oS c < P 0 ∧ o1 c ≤ P 2 ∧ o2 c ≤ P 2 ∧ o3 c ≤ P 2
def gwd (P : Nat → Nat) (x : Nat) : Prop := dh (P 3) x ≤ P 1 ∧ ∀ i, i < P 3 → gag P (da (P 3) x i)
theorem gag_C {P : Nat → Nat} {s f g o : Nat} (hf : f < 7) (hg : g < 7) (ho : o < 7) (h : s < P 0 ∧ f ≤ P 2 ∧ g ≤ P 2 ∧ o ≤ P 2) : gag P (oC s f g o) := by
  unfold gag
  rw [oC_S hf hg ho, oC_1 hf hg ho, oC_2 hg ho, oC_3 ho]
  exact h
theorem gag_rc {P : Nat → Nat} {l c v d : Nat} (hc : gag P c) (hv : v < 7) (hp : v ≤ P 2) (h : rc l c v = some d) : gag P d := by
  obtain ⟨h1, h2, h3, h4⟩ := hc
  unfold rc at h
  split at h
  · split at h
    · cases h; exact gag_C hv (by omega) (o3_lt c) ⟨h1, hp, Nat.zero_le _, h4⟩
    · split at h
      · cases h; exact gag_C (o1_lt c) hv (o3_lt c) ⟨h1, h2, hp, h4⟩
      · cases h; exact gag_C hv (o1_lt c) (o3_lt c) ⟨h1, hp, h2, h4⟩
  · cases h
theorem gag_tk {P : Nat → Nat} {l c v d : Nat} (hc : gag P c) (h : tk l c v = some d) : gag P d := by
  obtain ⟨h1, h2, h3, h4⟩ := hc
  unfold tk at h
  split at h
  · cases h; exact gag_C (o2_lt c) (by omega) (o3_lt c) ⟨h1, h3, Nat.zero_le _, h4⟩
  · split at h
    · cases h; exact gag_C (o1_lt c) (by omega) (o3_lt c) ⟨h1, h2, Nat.zero_le _, h4⟩
    · cases h
theorem gag_stp {P F : Nat → Nat} {l c d : Nat} (hF : fV F) (h3 : F 3 < P 0) (h4 : F 4 ≤ P 2) (hc : gag P c) (h : stp l F c = some d) : gag P d := by
  obtain ⟨f0, f1, f2, f3, f4, f5, f6, f7⟩ := hF
  unfold stp at h
  split at h
  · have key : ∀ e, gag P e → (if F 4 = 0 ∨ o3 e = 0 then some (oC (F 3) (o1 e) (o2 e) (o3 e + F 4)) else none) = some d → gag P d := by
      rintro e ⟨e1, e2, e3, e4⟩ hd
      have := o3_lt e
      split at hd
      · cases hd; exact gag_C (o1_lt _) (o2_lt _) (by omega) ⟨h3, e2, e3, by omega⟩
      · cases hd
    split at h
    · exact key _ hc h
    · cases ht : tk l c (F 2) with
      | none => rw [ht] at h; cases h
      | some e => rw [ht] at h; exact key e (gag_tk hc ht) h
  · cases h
theorem gag_srv {P F a : Nat → Nat} {l i j d : Nat} (hF : fV F) (h4 : F 4 ≤ P 2) (h5 : F 5 ≤ P 2) (hc : gag P (a j)) (h : srv l F a i j = some d) : gag P d := by
  obtain ⟨f0, f1, f2, f3, f4, f5, f6, f7⟩ := hF
  have k : gag P (oC (oS (a j)) (o1 (a j)) (o2 (a j)) 0) := gag_C (o1_lt _) (o2_lt _) (by omega) ⟨hc.1, hc.2.1, hc.2.2.1, Nat.zero_le _⟩
  unfold srv at h
  split at h
  · split at h
    · cases h; exact k
    · exact gag_rc k f4 h4 h
  · split at h
    · cases h; exact hc
    · exact gag_rc hc f5 h5 h
theorem gwd_k {P : Nat → Nat} {h : Nat} {a : Nat → Nat} (hv : wV (P 3) h a) (h1 : h ≤ P 1) (h2 : ∀ i, i < P 3 → gag P (a i)) : gwd P (ky 2058 h a (P 3)) := by
  obtain ⟨e1, e2⟩ := dk_ky (h := h) hv.2.2.2
  unfold gwd
  rw [e1]
  exact ⟨h1, fun i hi => by rw [e2 i hi]; exact h2 i hi⟩
theorem gwd_s {P : Nat → Nat} {x y c : Nat} (hP : tV P) (hG : tGd P) (hx : kv (P 3) x) (hg : gwd P x) (e : sP P x c = some y) : gwd P y := by
  unfold sP at e
  split at e
  rotate_left
  · cases e
  rename_i q
  have hF := tV_F hP q.1
  obtain ⟨g1, g2, g3⟩ := hG.1 _ q.1
  unfold sx at e
  cases em : mv (P 4) (P 3) (tF P (c / 4)) (dh (P 3) x) (da (P 3) x) (c % 4) with
  | none => rw [em] at e; cases e
  | some z =>
    rw [em] at e
    cases e
    have w := mv_wV hF (kv_w hx) q.2 em
    by_cases h0 : tF P (c / 4) 0 = 0
    · rw [mv_on h0] at em
      cases hs : stp (P 4) (tF P (c / 4)) (da (P 3) x (c % 4)) with
      | none => rw [hs] at em; cases em
      | some d =>
        rw [hs] at em
        cases em
        refine gwd_k w hg.1 (fun i hi => ?_)
        show gag P (if i = c % 4 then d else da (P 3) x i)
        split
        · exact gag_stp hF (g2 h0) g1 (hg.2 _ q.2) hs
        · exact hg.2 i hi
    · unfold mv at em
      rw [if_neg h0] at em
      split at em
      · rename_i u
        cases em
        refine gwd_k w (by show tF P (c / 4) 3 + 1 ≤ P 1; have := (g3 h0).1; omega) (fun i hi => ?_)
        show gag P ((srv (P 4) (tF P (c / 4)) (da (P 3) x) (c % 4) i).getD 0)
        have := u.2.2.2 i hi
        cases hs : srv (P 4) (tF P (c / 4)) (da (P 3) x) (c % 4) i with
        | none => rw [hs] at this; cases this
        | some d => exact gag_srv hF g1 (g3 h0).2 (hg.2 i hi) hs
      · cases em
theorem gwd_fo {P : Nat → Nat} {x : Nat} (hx : kv (P 3) x) : gwd P (fo (P 3) x) ↔ gwd P x := by
  obtain ⟨e1, e2⟩ := fo_d hx
  unfold gwd
  rw [e1]
  refine ⟨fun h => ⟨h.1, fun i hi => ?_⟩, fun h => ⟨h.1, fun i hi => ?_⟩⟩
  · rw [← fo_rk hx hi]; exact h.2 _ (rk_lt hi)
  · obtain ⟨j, hj, e⟩ := rk_sj (a := da (P 3) x) hx.2.1 i hi
    rw [← e, fo_rk hx hj]; exact h.2 j hj
theorem gwd_0 {P : Nat → Nat} (hP : tV P) : gwd P (wx0 P) := by
  refine gwd_k (wx0_w hP) (by split <;> omega) (fun i hi => ?_)
  show gag P 0
  exact ⟨hP.1.2.2.1, Nat.zero_le _, Nat.zero_le _, Nat.zero_le _⟩
theorem gwd_R {P : Nat → Nat} {w d x : Nat} (hP : tV P) (hG : tGd P) (hx : Rn (Ed P w) (wx0 P) d x) : gwd P x := by
  induction d generalizing x with
  | zero =>
    have hx : x = wx0 P := hx
    rw [hx]
    exact gwd_0 hP
  | succ d ih =>
    obtain ⟨y, h1, c, hc, hw, e⟩ := hx
    cases em : sP P y c with
    | none => rw [em] at e; cases e
    | some z =>
      rw [em] at e
      cases e
      have ky := (Rn_kv hP h1).1
      exact (gwd_fo (sP_kv hP ky em)).mpr (gwd_s hP hG ky (ih h1) em)
/-- a world of the walk is in the table's words -/
theorem gwd_r {P : Nat → Nat} {N x : Nat} {W D : Nat → Nat} (hP : tV P) (hG : tGd P) (hL : Lst (Ed P 16) (wx0 P) N W D) (hr : rchd P N W x) : gwd P x := by
  obtain ⟨hx, i, hi, e⟩ := hr
  rw [← gwd_fo hx, ← e]
  exact gwd_R hP hG (hL.1 i hi).1
