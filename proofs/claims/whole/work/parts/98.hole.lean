def zInv : zM → zM → Prop := fun _ _ => True
theorem all_alike : Alike zInv := sorry
theorem all_init : zInv mx0 mm0 := sorry
