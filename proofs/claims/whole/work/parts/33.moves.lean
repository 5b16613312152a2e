/-- a message comes to an agent -/
def rc (l c v : Nat) : Option Nat := if o2 c = 0 then (if o1 c = 0 then some (oC (oS c) v 0 (o3 c)) else if l = 0 ∨ o1 c ≤ v then some (oC (oS c) (o1 c) v (o3 c)) else some (oC (oS c) v (o1 c) (o3 c))) else none
/-- a message is taken from an agent -/
def tk (l c v : Nat) : Option Nat := if o1 c = v then some (oC (oS c) (o2 c) 0 (o3 c)) else if l ≠ 0 ∧ o2 c = v then some (oC (oS c) (o1 c) 0 (o3 c)) else none
/-- a rule's row: 0 at home, 1 from, 2 with, 3 to, 4 gives, 5 tells, 6 others, 7 some (2, 4, 5, 6: 0 is none) -/
def fI (F : Nat → Nat) (k : Nat) : Int32 := if k = 2 ∨ k = 4 ∨ k = 5 ∨ k = 6 then nI (F k) - 1 else nI (F k)
def fV (F : Nat → Nat) : Prop := F 0 ≤ 1 ∧ F 1 < 6 ∧ F 2 < 7 ∧ F 3 < 6 ∧ F 4 < 7 ∧ F 5 < 7 ∧ F 6 < 7 ∧ F 7 ≤ 1
/-- what an agent becomes by a step -/
def stp (l : Nat) (F : Nat → Nat) (c : Nat) : Option Nat := if oS c = F 1 then ((if F 2 = 0 then some c else tk l c (F 2)).bind fun d => if F 4 = 0 ∨ o3 d = 0 then some (oC (F 3) (o1 d) (o2 d) (o3 d + F 4)) else none) else none
/-- what the agent j becomes when the home serves the agent i -/
def srv (l : Nat) (F a : Nat → Nat) (i j : Nat) : Option Nat := if j = i then (if F 4 = 0 then some (oC (oS (a j)) (o1 (a j)) (o2 (a j)) 0) else rc l (oC (oS (a j)) (o1 (a j)) (o2 (a j)) 0) (F 4)) else if F 5 = 0 then some (a j) else rc l (a j) (F 5)
def oth (n : Nat) (a : Nat → Nat) (i s : Nat) : Bool := (List.range n).any (fun j => decide (j ≠ i) && decide (oS (a j) = s))
/-- a rule at work -/
def mv (l n : Nat) (F : Nat → Nat) (h : Nat) (a : Nat → Nat) (i : Nat) : Option (Nat × (Nat → Nat)) :=
  if F 0 = 0 then (stp l F (a i)).map (fun d => (h, fun j => if j = i then d else a j))
  else if h = F 1 + 1 ∧ o3 (a i) = F 2 ∧ (F 6 = 0 ∨ oth n a i (F 6 - 1) = decide (F 7 = 1)) ∧ ∀ j, j < n → (srv l F a i j).isSome = true then some (F 3 + 1, fun j => (srv l F a i j).getD 0) else none
theorem rc_lt {l c v d : Nat} (hc : c < 2058) (hv : v < 7) (h : rc l c v = some d) : d < 2058 := by
  have h1 := oS_lt hc
  have h2 := o1_lt c
  have h3 := o3_lt c
  unfold rc at h
  split at h
  · split at h
    · cases h; exact oC_lt h1 hv (by omega) h3
    · split at h
      · cases h; exact oC_lt h1 h2 hv h3
      · cases h; exact oC_lt h1 hv h2 h3
  · cases h
theorem tk_lt {l c v d : Nat} (hc : c < 2058) (h : tk l c v = some d) : d < 2058 := by
  have h1 := oS_lt hc
  have h2 := o1_lt c
  have h3 := o3_lt c
  have h4 := o2_lt c
  unfold tk at h
  split at h
  · cases h; exact oC_lt h1 h4 (by omega) h3
  · split at h
    · cases h; exact oC_lt h1 h2 (by omega) h3
    · cases h
/-- the reference's with0 and without0 -/
theorem with0 {l c v : Nat} {m : zM} (hl : m.1 23 4 = nI l) (hl1 : l ≤ 1) (hc : c < 2058) (hv : v < 7) : f_MO_with0 (nI (mOf c)) (nI v) m = some (match rc l c v with | some d => nI (mOf d) | none => -1) := by
  have e := ms_S c hc
  have h1 := o1_lt c
  have h2 := o2_lt c
  unfold f_MO_with0 f_MO_with0_J39 rc
  rw [e.2.2.1, e.2.1]
  by_cases q2 : o2 c = 0
  · rw [if_pos (by rw [q2]; rfl), if_pos q2]
    by_cases q1 : o1 c = 0
    · rw [if_pos (by rw [q1]; rfl), if_pos q1, ms_c c hc q2 q1 v hv]
    · rw [if_neg (fun z => q1 ((nz_i (by omega)).mp z)), if_neg q1, show ix 184 (4 : Int32) = some 4 from ix_nI (n := 184) (i := 4) (by decide) (by decide), Option.bind_some, hl]
      by_cases ql : l = 0
      · rw [if_pos (by rw [ql]; rfl), if_pos (Or.inl ql), ms_b c hc q2 v hv]
      · rw [if_neg (fun z => ql ((nz_i (by omega)).mp z))]
        by_cases qv : o1 c ≤ v
        · rw [if_neg (fun z => by have := (nI_ltI (a := v) (b := o1 c) (by omega) (by omega)).mp z; omega), if_pos (Or.inr qv), ms_b c hc q2 v hv]
        · rw [if_pos ((nI_ltI (a := v) (b := o1 c) (by omega) (by omega)).mpr (by omega)), if_neg (by omega), ms_a c hc v hv]
          have := ms_b (oC (oS c) v 0 (o3 c)) (oC_lt (oS_lt hc) hv (by omega) (o3_lt c)) (oC_2 (by omega) (o3_lt c)) (o1 c) h1
          rw [oC_S hv (by omega) (o3_lt c), oC_1 hv (by omega) (o3_lt c), oC_3 (o3_lt c)] at this
          rw [this]
  · rw [if_neg (fun z => q2 ((nz_i (by omega)).mp z)), if_neg q2]
theorem without0 {l c v : Nat} {m : zM} (hl : m.1 23 4 = nI l) (hl1 : l ≤ 1) (hc : c < 2058) (hv : v < 7) : f_MO_without0 (nI (mOf c)) (nI v) m = some (match tk l c v with | some d => nI (mOf d) | none => -1) := by
  have e := ms_S c hc
  have h1 := o1_lt c
  have h2 := o2_lt c
  unfold f_MO_without0 tk
  rw [e.2.2.1, e.2.1]
  by_cases q1 : o1 c = v
  · rw [if_pos (by rw [q1]), if_pos q1, ms_a c hc _ h2]
  · rw [if_neg (fun z => q1 ((nI_eq (by omega) (by omega)).mp z)), if_neg q1, show ix 184 (4 : Int32) = some 4 from ix_nI (n := 184) (i := 4) (by decide) (by decide), Option.bind_some, hl]
    by_cases ql : l = 0
    · rw [if_neg (fun z => by have := (no_i (a := l) (by omega)).mp z; omega), if_neg (by omega)]
    · rw [if_pos (show nI l = 1 by rw [show l = 1 by omega]; rfl)]
      by_cases q2 : o2 c = v
      · rw [if_pos (by rw [q2]), if_pos ⟨ql, q2⟩, ms_a c hc _ h1]
      · rw [if_neg (fun z => q2 ((nI_eq (by omega) (by omega)).mp z)), if_neg (fun z => q2 z.2)]
