/-- a byte of what may be none: told by one more -/
def asB (v : Nat) : Nat := if v = 0 then 255 else v - 1
theorem asB_l {v : Nat} (h : v < 7) : asB v < 256 := by unfold asB; split <;> omega
theorem asB_x {v : Nat} (h : v < 7) : f_PA_asByte (nI v - 1) = nI (asB v) := by
  rcases (show v = 0 ∨ v = 1 ∨ v = 2 ∨ v = 3 ∨ v = 4 ∨ v = 5 ∨ v = 6 by omega) with z | z | z | z | z | z | z <;> subst z <;> decide
/-- the parts of an agent as bytes -/
def agB (c t : Nat) : Nat := if t = 0 then oS c else if t = 1 then asB (o1 c) else if t = 2 then asB (o2 c) else asB (o3 c)
theorem agB_l {c t : Nat} (h : c < 2058) : agB c t < 256 := by
  have := oS_lt h
  unfold agB
  split
  · omega
  · split
    · exact asB_l (o1_lt c)
    · split
      · exact asB_l (o2_lt c)
      · exact asB_l (o3_lt c)
theorem agB_x {c t : Nat} (h : c < 2058) (ht : t < 4) : f_PA_asByte (f_PA_held (nI c) (nI t)) = nI (agB c t) := by
  have hs := oS_lt h
  rcases (show t = 0 ∨ t = 1 ∨ t = 2 ∨ t = 3 by omega) with z | z | z | z <;> subst z
  · rw [show f_PA_held (nI c) (nI 0) = nI (oS c) from hd0 h]
    unfold f_PA_asByte
    rw [if_neg (nI_ne_m1 (by omega))]
    rfl
  · rw [show f_PA_held (nI c) (nI 1) = nI (o1 c) - 1 from hd1 h]; exact asB_x (o1_lt c)
  · rw [show f_PA_held (nI c) (nI 2) = nI (o2 c) - 1 from hd2 h]; exact asB_x (o2_lt c)
  · rw [show f_PA_held (nI c) (nI 3) = nI (o3 c) - 1 from hd3 h]; exact asB_x (o3_lt c)
/-- the image of a world, but for its last byte -/
def imB (n x j : Nat) : Nat := if j = 0 then asB (dh n x) else agB (da n x ((j - 1) / 4)) ((j - 1) % 4)
theorem imB_l {n x j : Nat} (h : kv n x) : imB n x j < 256 := by
  unfold imB
  split
  · exact asB_l h.2.2
  · exact agB_l (da_lt _ _ _)
