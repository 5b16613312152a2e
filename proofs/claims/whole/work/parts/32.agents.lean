/-- an agent is told by a number below 2058: its state, what it holds first and second, what it sends (0: nothing) -/
def oS (c : Nat) : Nat := c / 343
def o1 (c : Nat) : Nat := c / 49 % 7
def o2 (c : Nat) : Nat := c / 7 % 7
def o3 (c : Nat) : Nat := c % 7
def oC (s f g o : Nat) : Nat := ((s * 7 + f) * 7 + g) * 7 + o
def mOf (c : Nat) : Nat := ((oS c * 8 + o1 c) * 8 + o2 c) * 8 + o3 c
theorem oS_lt {c : Nat} (h : c < 2058) : oS c < 6 := by unfold oS; omega
theorem o1_lt (c : Nat) : o1 c < 7 := by unfold o1; omega
theorem o2_lt (c : Nat) : o2 c < 7 := by unfold o2; omega
theorem o3_lt (c : Nat) : o3 c < 7 := by unfold o3; omega
theorem oC_lt {s f g o : Nat} (hs : s < 6) (hf : f < 7) (hg : g < 7) (ho : o < 7) : oC s f g o < 2058 := by unfold oC; omega
theorem oC_S {s f g o : Nat} (hf : f < 7) (hg : g < 7) (ho : o < 7) : oS (oC s f g o) = s := by unfold oC oS; omega
theorem oC_1 {s f g o : Nat} (hf : f < 7) (hg : g < 7) (ho : o < 7) : o1 (oC s f g o) = f := by unfold oC o1; omega
theorem oC_2 {s f g o : Nat} (hg : g < 7) (ho : o < 7) : o2 (oC s f g o) = g := by unfold oC o2; omega
theorem oC_3 {s f g o : Nat} (ho : o < 7) : o3 (oC s f g o) = o := by unfold oC o3; omega
theorem oC_eta (c : Nat) : oC (oS c) (o1 c) (o2 c) (o3 c) = c := by unfold oC oS o1 o2 o3; omega
theorem mOf_lt {c : Nat} (h : c < 2058) : mOf c < 3072 := by have := oS_lt h; have := o1_lt c; have := o2_lt c; have := o3_lt c; unfold mOf; omega
theorem mOf_C {s f g o : Nat} (hf : f < 7) (hg : g < 7) (ho : o < 7) : mOf (oC s f g o) = ((s * 8 + f) * 8 + g) * 8 + o := by unfold mOf; rw [oC_S hf hg ho, oC_1 hf hg ho, oC_2 hg ho, oC_3 ho]
theorem hd0 {c : Nat} (h : c < 2058) : f_PA_held (nI c) 0 = nI (oS c) := by
  unfold f_PA_held oS
  rw [if_pos rfl]
  exact pk_div (d := 343) (by omega) (by decide) (by decide)
theorem hd1 {c : Nat} (h : c < 2058) : f_PA_held (nI c) 1 = nI (o1 c) - 1 := by
  unfold f_PA_held o1
  rw [if_neg (by decide), if_pos rfl, show nI c / 49 = nI (c / 49) from pk_div (d := 49) (by omega) (by decide) (by decide)]
  exact congrArg (· - 1) (pk_rem (d := 7) (by omega) (by decide) (by decide))
theorem hd2 {c : Nat} (h : c < 2058) : f_PA_held (nI c) 2 = nI (o2 c) - 1 := by
  unfold f_PA_held o2
  rw [if_neg (by decide), if_neg (by decide), if_pos rfl, show nI c / 7 = nI (c / 7) from pk_div (d := 7) (by omega) (by decide) (by decide)]
  exact congrArg (· - 1) (pk_rem (d := 7) (by omega) (by decide) (by decide))
theorem hd3 {c : Nat} (h : c < 2058) : f_PA_held (nI c) 3 = nI (o3 c) - 1 := by
  unfold f_PA_held o3
  rw [if_neg (by decide), if_neg (by decide), if_neg (by decide), if_pos rfl]
  exact congrArg (· - 1) (pk_rem (d := 7) (by omega) (by decide) (by decide))
theorem ad_sb (a x : Int32) : a + (x - 1) + 1 = a + x := by rw [Int32.add_assoc, Int32.sub_add_cancel]
theorem cdO (s f g o : Nat) : f_PA_codeOf (nI s) (nI f - 1) (nI g - 1) (nI o - 1) = nI (oC s f g o) := by
  unfold f_PA_codeOf oC
  rw [ad_sb, ad_sb, ad_sb, show (7 : Int32) = nI 7 from rfl, pk_mul, nI_add, pk_mul, nI_add, pk_mul, nI_add]
theorem no_m1 : (-1 : Int32) = nI 0 - 1 := by decide
theorem sd_eq {a b : Nat} (ha : a < 2 ^ 31) (hb : b < 2 ^ 31) : nI a - 1 = nI b - 1 ↔ a = b := by
  constructor
  · intro h
    have h2 := congrArg (· + 1) h
    simp only [Int32.sub_add_cancel] at h2
    exact (nI_eq ha hb).mp h2
  · rintro rfl; rfl
theorem sd_m1 {a : Nat} (ha : a < 2 ^ 31) : nI a - 1 = -1 ↔ a = 0 := by rw [no_m1]; exact sd_eq ha (by decide)
theorem sd_le {a b : Nat} (ha : a < 2 ^ 30) (hb : b < 2 ^ 30) : nI a - 1 ≤ nI b - 1 ↔ a ≤ b := by
  rw [Int32.le_iff_toInt_le, show (1 : Int32) = nI 1 from rfl, pk_sub_toInt ha (by decide), pk_sub_toInt hb (by decide)]
  omega
theorem ms_S : ∀ c, c < 2058 → f_MO_stateOf (nI (mOf c)) = nI (oS c) ∧ f_MO_firstIn (nI (mOf c)) = nI (o1 c) ∧ f_MO_secondIn (nI (mOf c)) = nI (o2 c) ∧ f_MO_outOf (nI (mOf c)) = nI (o3 c) ∧ nI (mOf c) &&& (-8) = nI (mOf (oC (oS c) (o1 c) (o2 c) 0)) := by decide +kernel
theorem ms_a : ∀ c, c < 2058 → ∀ k, k < 7 → (nI (mOf c) &&& (-505)) ||| shl (nI k) 6 = nI (mOf (oC (oS c) k 0 (o3 c))) := by decide +kernel
theorem ms_b : ∀ c, c < 2058 → o2 c = 0 → ∀ v, v < 7 → nI (mOf c) ||| shl (nI v) 3 = nI (mOf (oC (oS c) (o1 c) v (o3 c))) := by decide +kernel
theorem ms_c : ∀ c, c < 2058 → o2 c = 0 → o1 c = 0 → ∀ v, v < 7 → nI (mOf c) ||| shl (nI v) 6 = nI (mOf (oC (oS c) v 0 (o3 c))) := by decide +kernel
theorem ms_d : ∀ c, c < 2058 → ∀ t, t < 6 → (nI (mOf c) &&& 511) ||| shl (nI t) 9 = nI (mOf (oC t (o1 c) (o2 c) (o3 c))) := by decide +kernel
theorem ms_e : ∀ c, c < 2058 → ∀ v, v < 7 → (v = 0 ∨ o3 c = 0) → nI (mOf c) ||| nI v = nI (mOf (oC (oS c) (o1 c) (o2 c) (o3 c + v))) := by decide +kernel
theorem nz_i {a : Nat} (ha : a < 2 ^ 31) : nI a = 0 ↔ a = 0 := nI_eq (b := 0) ha (by decide)
theorem no_i {a : Nat} (ha : a < 2 ^ 31) : nI a = 1 ↔ a = 1 := nI_eq (b := 1) ha (by decide)
