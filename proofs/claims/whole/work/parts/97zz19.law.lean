def xcall (c : Nat) (a1 a2 a3 a4 a5 : Int32) (m : zM) : Option (Int32 × zM) := match c with
  | 0 => f_PA_feed a1 a2 a3 a4 a5 m
  | 1 => (f_PA_end a1 m).bind fun p => some (b2i p.1, p.2)
  | 2 => f_PA_table m
  | 3 => some (f_PA_fault a1 m, m)
  | 4 => (f_PA_has a1 m).bind fun r => some (r, m)
  | 5 => (f_PA_letter a1 a2 a3 m).bind fun r => some (r, m)
  | 6 => (f_PA_rule a1 a2 m).bind fun r => some (r, m)
  | 7 => f_PA_world a1 a2 m
  | 8 => (f_PA_agent a1 a2 a3 m).bind fun r => some (r, m)
  | 9 => (f_PA_leads a1 a2 a3 m).bind fun r => some (r, m)
  | 10 => (f_PA_way a1 a2 a3 m).bind fun r => some (r, m)
  | 11 => (f_PA_first a1 m).bind fun r => some (r, m)
  | 12 => (f_PA_part a1 a2 m).bind fun r => some (r, m)
  | 13 => (f_PA_returns m).bind fun r => some (r, m)
  | 14 => (f_PA_starving a1 m).bind fun r => some (r, m)
  | 15 => (f_PA_uses a1 m).bind fun r => some (r, m)
  | 16 => f_PA_without a1 a2 m
  | 17 => f_PA_mend m
  | 18 => f_PA_now a1 a2 m
  | 19 => f_PA_can a1 a2 m
  | 20 => f_PA_move a1 a2 m
  | 21 => (f_PA_jump a1 m).bind fun p => some (b2i p.1, p.2)
  | 22 => f_PA_chance a1 m
  | 23 => (f_PA_undo m).bind fun p => some (b2i p.1, p.2)
  | 24 => (f_PA_seed a1 m).bind fun p => some (b2i p.1, p.2)
  | 25 => f_PA_see a1 m
  | 26 => f_PA_could a1 m
  | 27 => f_PA_tells a1 m
  | 28 => f_PA_spell a1 m
  | 29 => f_PA_which m
  | 30 => f_PA_image m
  | 31 => (f_PA_octet a1 m).bind fun r => some (r, m)
  | 32 => (f_PA_on m).bind fun p => some (b2i p.1, p.2)
  | 33 => (f_PA_status a1 m).bind fun r => some (r, m)
  | _ => some (0, m)
def mcall (c : Nat) (a1 a2 a3 a4 a5 : Int32) (m : zM) : Option (Int32 × zM) := match c with
  | 0 => f_MO_feed a1 a2 a3 a4 a5 m
  | 1 => (f_MO_end a1 m).bind fun p => some (b2i p.1, p.2)
  | 2 => f_MO_table m
  | 3 => some (f_MO_fault a1 m, m)
  | 4 => f_MO_has a1 m
  | 5 => (f_MO_letter a1 a2 a3 m).bind fun r => some (r, m)
  | 6 => (f_MO_rule a1 a2 m).bind fun r => some (r, m)
  | 7 => f_MO_world a1 a2 m
  | 8 => f_MO_agent a1 a2 a3 m
  | 9 => f_MO_leads a1 a2 a3 m
  | 10 => f_MO_way a1 a2 a3 m
  | 11 => f_MO_first a1 m
  | 12 => f_MO_part a1 a2 m
  | 13 => f_MO_returns m
  | 14 => f_MO_starving a1 m
  | 15 => f_MO_uses a1 m
  | 16 => f_MO_without a1 a2 m
  | 17 => f_MO_mend m
  | 18 => f_MO_now a1 a2 m
  | 19 => f_MO_can a1 a2 m
  | 20 => f_MO_move a1 a2 m
  | 21 => (f_MO_jump a1 m).bind fun p => some (b2i p.1, p.2)
  | 22 => f_MO_chance a1 m
  | 23 => (f_MO_undo m).bind fun p => some (b2i p.1, p.2)
  | 24 => (f_MO_seed a1 m).bind fun p => some (b2i p.1, p.2)
  | 25 => f_MO_see a1 m
  | 26 => f_MO_could a1 m
  | 27 => f_MO_tells a1 m
  | 28 => f_MO_spell a1 m
  | 29 => f_MO_which m
  | 30 => f_MO_image m
  | 31 => (f_MO_octet a1 m).bind fun r => some (r, m)
  | 32 => (f_MO_on m).bind fun p => some (b2i p.1, p.2)
  | 33 => (f_MO_status a1 m).bind fun r => some (r, m)
  | _ => some (0, m)
theorem zx_0 (a1 a2 a3 a4 a5 : Int32) (m : zM) {Q : Option Value → zM → Prop} (h : ok (xcall 0 a1 a2 a3 a4 a5 m) (fun p => Q (some (.int p.1)) p.2)) : zc gX s_PA_feed [.ref 0, .int a1, .int a2, .int a3, .int a4, .int a5] m Q := by
  replace h : ok (f_PA_feed a1 a2 a3 a4 a5 m) (fun p => Q (some (.int p.1)) p.2) := h
  exact zc_PA_feed a1 a2 a3 a4 a5 m h
theorem zx_1 (a1 a2 a3 a4 a5 : Int32) (m : zM) {Q : Option Value → zM → Prop} (h : ok (xcall 1 a1 a2 a3 a4 a5 m) (fun p => Q (some (.int p.1)) p.2)) : zc gX s_PA_end [.ref 0, .int a1] m Q := by
  replace h : ok ((f_PA_end a1 m).bind fun p => some (b2i p.1, p.2)) (fun p => Q (some (.int p.1)) p.2) := h
  exact zc_PA_end a1 m (ok_b h (fun p h => (by have h1 := ok_some h; exact h1)))
theorem zx_2 (a1 a2 a3 a4 a5 : Int32) (m : zM) {Q : Option Value → zM → Prop} (h : ok (xcall 2 a1 a2 a3 a4 a5 m) (fun p => Q (some (.int p.1)) p.2)) : zc gX s_PA_table [.ref 0] m Q := by
  replace h : ok (f_PA_table m) (fun p => Q (some (.int p.1)) p.2) := h
  exact zc_PA_table m h
theorem zx_3 (a1 a2 a3 a4 a5 : Int32) (m : zM) {Q : Option Value → zM → Prop} (h : ok (xcall 3 a1 a2 a3 a4 a5 m) (fun p => Q (some (.int p.1)) p.2)) : zc gX s_PA_fault [.ref 0, .int a1] m Q := by
  replace h : ok (some (f_PA_fault a1 m, m)) (fun p => Q (some (.int p.1)) p.2) := h
  exact zc_PA_fault a1 m (by have h1 := ok_some h; exact h1)
theorem zx_4 (a1 a2 a3 a4 a5 : Int32) (m : zM) {Q : Option Value → zM → Prop} (h : ok (xcall 4 a1 a2 a3 a4 a5 m) (fun p => Q (some (.int p.1)) p.2)) : zc gX s_PA_has [.ref 0, .int a1] m Q := by
  replace h : ok ((f_PA_has a1 m).bind fun r => some (r, m)) (fun p => Q (some (.int p.1)) p.2) := h
  exact zc_PA_has a1 m (ok_b h (fun p h => (by have h1 := ok_some h; exact h1)))
theorem zx_5 (a1 a2 a3 a4 a5 : Int32) (m : zM) {Q : Option Value → zM → Prop} (h : ok (xcall 5 a1 a2 a3 a4 a5 m) (fun p => Q (some (.int p.1)) p.2)) : zc gX s_PA_letter [.ref 0, .int a1, .int a2, .int a3] m Q := by
  replace h : ok ((f_PA_letter a1 a2 a3 m).bind fun r => some (r, m)) (fun p => Q (some (.int p.1)) p.2) := h
  exact zc_PA_letter a1 a2 a3 m (ok_b h (fun p h => (by have h1 := ok_some h; exact h1)))
theorem zx_6 (a1 a2 a3 a4 a5 : Int32) (m : zM) {Q : Option Value → zM → Prop} (h : ok (xcall 6 a1 a2 a3 a4 a5 m) (fun p => Q (some (.int p.1)) p.2)) : zc gX s_PA_rule [.ref 0, .int a1, .int a2] m Q := by
  replace h : ok ((f_PA_rule a1 a2 m).bind fun r => some (r, m)) (fun p => Q (some (.int p.1)) p.2) := h
  exact zc_PA_rule a1 a2 m (ok_b h (fun p h => (by have h1 := ok_some h; exact h1)))
theorem zx_7 (a1 a2 a3 a4 a5 : Int32) (m : zM) {Q : Option Value → zM → Prop} (h : ok (xcall 7 a1 a2 a3 a4 a5 m) (fun p => Q (some (.int p.1)) p.2)) : zc gX s_PA_world [.ref 0, .int a1, .int a2] m Q := by
  replace h : ok (f_PA_world a1 a2 m) (fun p => Q (some (.int p.1)) p.2) := h
  exact zc_PA_world a1 a2 m h
theorem zx_8 (a1 a2 a3 a4 a5 : Int32) (m : zM) {Q : Option Value → zM → Prop} (h : ok (xcall 8 a1 a2 a3 a4 a5 m) (fun p => Q (some (.int p.1)) p.2)) : zc gX s_PA_agent [.ref 0, .int a1, .int a2, .int a3] m Q := by
  replace h : ok ((f_PA_agent a1 a2 a3 m).bind fun r => some (r, m)) (fun p => Q (some (.int p.1)) p.2) := h
  exact zc_PA_agent a1 a2 a3 m (ok_b h (fun p h => (by have h1 := ok_some h; exact h1)))
theorem zx_9 (a1 a2 a3 a4 a5 : Int32) (m : zM) {Q : Option Value → zM → Prop} (h : ok (xcall 9 a1 a2 a3 a4 a5 m) (fun p => Q (some (.int p.1)) p.2)) : zc gX s_PA_leads [.ref 0, .int a1, .int a2, .int a3] m Q := by
  replace h : ok ((f_PA_leads a1 a2 a3 m).bind fun r => some (r, m)) (fun p => Q (some (.int p.1)) p.2) := h
  exact zc_PA_leads a1 a2 a3 m (ok_b h (fun p h => (by have h1 := ok_some h; exact h1)))
theorem zx_10 (a1 a2 a3 a4 a5 : Int32) (m : zM) {Q : Option Value → zM → Prop} (h : ok (xcall 10 a1 a2 a3 a4 a5 m) (fun p => Q (some (.int p.1)) p.2)) : zc gX s_PA_way [.ref 0, .int a1, .int a2, .int a3] m Q := by
  replace h : ok ((f_PA_way a1 a2 a3 m).bind fun r => some (r, m)) (fun p => Q (some (.int p.1)) p.2) := h
  exact zc_PA_way a1 a2 a3 m (ok_b h (fun p h => (by have h1 := ok_some h; exact h1)))
theorem zx_11 (a1 a2 a3 a4 a5 : Int32) (m : zM) {Q : Option Value → zM → Prop} (h : ok (xcall 11 a1 a2 a3 a4 a5 m) (fun p => Q (some (.int p.1)) p.2)) : zc gX s_PA_first [.ref 0, .int a1] m Q := by
  replace h : ok ((f_PA_first a1 m).bind fun r => some (r, m)) (fun p => Q (some (.int p.1)) p.2) := h
  exact zc_PA_first a1 m (ok_b h (fun p h => (by have h1 := ok_some h; exact h1)))
theorem zx_12 (a1 a2 a3 a4 a5 : Int32) (m : zM) {Q : Option Value → zM → Prop} (h : ok (xcall 12 a1 a2 a3 a4 a5 m) (fun p => Q (some (.int p.1)) p.2)) : zc gX s_PA_part [.ref 0, .int a1, .int a2] m Q := by
  replace h : ok ((f_PA_part a1 a2 m).bind fun r => some (r, m)) (fun p => Q (some (.int p.1)) p.2) := h
  exact zc_PA_part a1 a2 m (ok_b h (fun p h => (by have h1 := ok_some h; exact h1)))
theorem zx_13 (a1 a2 a3 a4 a5 : Int32) (m : zM) {Q : Option Value → zM → Prop} (h : ok (xcall 13 a1 a2 a3 a4 a5 m) (fun p => Q (some (.int p.1)) p.2)) : zc gX s_PA_returns [.ref 0] m Q := by
  replace h : ok ((f_PA_returns m).bind fun r => some (r, m)) (fun p => Q (some (.int p.1)) p.2) := h
  exact zc_PA_returns m (ok_b h (fun p h => (by have h1 := ok_some h; exact h1)))
theorem zx_14 (a1 a2 a3 a4 a5 : Int32) (m : zM) {Q : Option Value → zM → Prop} (h : ok (xcall 14 a1 a2 a3 a4 a5 m) (fun p => Q (some (.int p.1)) p.2)) : zc gX s_PA_starving [.ref 0, .int a1] m Q := by
  replace h : ok ((f_PA_starving a1 m).bind fun r => some (r, m)) (fun p => Q (some (.int p.1)) p.2) := h
  exact zc_PA_starving a1 m (ok_b h (fun p h => (by have h1 := ok_some h; exact h1)))
theorem zx_15 (a1 a2 a3 a4 a5 : Int32) (m : zM) {Q : Option Value → zM → Prop} (h : ok (xcall 15 a1 a2 a3 a4 a5 m) (fun p => Q (some (.int p.1)) p.2)) : zc gX s_PA_uses [.ref 0, .int a1] m Q := by
  replace h : ok ((f_PA_uses a1 m).bind fun r => some (r, m)) (fun p => Q (some (.int p.1)) p.2) := h
  exact zc_PA_uses a1 m (ok_b h (fun p h => (by have h1 := ok_some h; exact h1)))
theorem zx_16 (a1 a2 a3 a4 a5 : Int32) (m : zM) {Q : Option Value → zM → Prop} (h : ok (xcall 16 a1 a2 a3 a4 a5 m) (fun p => Q (some (.int p.1)) p.2)) : zc gX s_PA_without [.ref 0, .int a1, .int a2] m Q := by
  replace h : ok (f_PA_without a1 a2 m) (fun p => Q (some (.int p.1)) p.2) := h
  exact zc_PA_without a1 a2 m h
theorem zx_17 (a1 a2 a3 a4 a5 : Int32) (m : zM) {Q : Option Value → zM → Prop} (h : ok (xcall 17 a1 a2 a3 a4 a5 m) (fun p => Q (some (.int p.1)) p.2)) : zc gX s_PA_mend [.ref 0] m Q := by
  replace h : ok (f_PA_mend m) (fun p => Q (some (.int p.1)) p.2) := h
  exact zc_PA_mend m h
theorem zx_18 (a1 a2 a3 a4 a5 : Int32) (m : zM) {Q : Option Value → zM → Prop} (h : ok (xcall 18 a1 a2 a3 a4 a5 m) (fun p => Q (some (.int p.1)) p.2)) : zc gX s_PA_now [.ref 0, .int a1, .int a2] m Q := by
  replace h : ok (f_PA_now a1 a2 m) (fun p => Q (some (.int p.1)) p.2) := h
  exact zc_PA_now a1 a2 m h
theorem zx_19 (a1 a2 a3 a4 a5 : Int32) (m : zM) {Q : Option Value → zM → Prop} (h : ok (xcall 19 a1 a2 a3 a4 a5 m) (fun p => Q (some (.int p.1)) p.2)) : zc gX s_PA_can [.ref 0, .int a1, .int a2] m Q := by
  replace h : ok (f_PA_can a1 a2 m) (fun p => Q (some (.int p.1)) p.2) := h
  exact zc_PA_can a1 a2 m h
theorem zx_20 (a1 a2 a3 a4 a5 : Int32) (m : zM) {Q : Option Value → zM → Prop} (h : ok (xcall 20 a1 a2 a3 a4 a5 m) (fun p => Q (some (.int p.1)) p.2)) : zc gX s_PA_move [.ref 0, .int a1, .int a2] m Q := by
  replace h : ok (f_PA_move a1 a2 m) (fun p => Q (some (.int p.1)) p.2) := h
  exact zc_PA_move a1 a2 m h
theorem zx_21 (a1 a2 a3 a4 a5 : Int32) (m : zM) {Q : Option Value → zM → Prop} (h : ok (xcall 21 a1 a2 a3 a4 a5 m) (fun p => Q (some (.int p.1)) p.2)) : zc gX s_PA_jump [.ref 0, .int a1] m Q := by
  replace h : ok ((f_PA_jump a1 m).bind fun p => some (b2i p.1, p.2)) (fun p => Q (some (.int p.1)) p.2) := h
  exact zc_PA_jump a1 m (ok_b h (fun p h => (by have h1 := ok_some h; exact h1)))
theorem zx_22 (a1 a2 a3 a4 a5 : Int32) (m : zM) {Q : Option Value → zM → Prop} (h : ok (xcall 22 a1 a2 a3 a4 a5 m) (fun p => Q (some (.int p.1)) p.2)) : zc gX s_PA_chance [.ref 0, .int a1] m Q := by
  replace h : ok (f_PA_chance a1 m) (fun p => Q (some (.int p.1)) p.2) := h
  exact zc_PA_chance a1 m h
theorem zx_23 (a1 a2 a3 a4 a5 : Int32) (m : zM) {Q : Option Value → zM → Prop} (h : ok (xcall 23 a1 a2 a3 a4 a5 m) (fun p => Q (some (.int p.1)) p.2)) : zc gX s_PA_undo [.ref 0] m Q := by
  replace h : ok ((f_PA_undo m).bind fun p => some (b2i p.1, p.2)) (fun p => Q (some (.int p.1)) p.2) := h
  exact zc_PA_undo m (ok_b h (fun p h => (by have h1 := ok_some h; exact h1)))
theorem zx_24 (a1 a2 a3 a4 a5 : Int32) (m : zM) {Q : Option Value → zM → Prop} (h : ok (xcall 24 a1 a2 a3 a4 a5 m) (fun p => Q (some (.int p.1)) p.2)) : zc gX s_PA_seed [.ref 0, .int a1] m Q := by
  replace h : ok ((f_PA_seed a1 m).bind fun p => some (b2i p.1, p.2)) (fun p => Q (some (.int p.1)) p.2) := h
  exact zc_PA_seed a1 m (ok_b h (fun p h => (by have h1 := ok_some h; exact h1)))
theorem zx_25 (a1 a2 a3 a4 a5 : Int32) (m : zM) {Q : Option Value → zM → Prop} (h : ok (xcall 25 a1 a2 a3 a4 a5 m) (fun p => Q (some (.int p.1)) p.2)) : zc gX s_PA_see [.ref 0, .int a1] m Q := by
  replace h : ok (f_PA_see a1 m) (fun p => Q (some (.int p.1)) p.2) := h
  exact zc_PA_see a1 m h
theorem zx_26 (a1 a2 a3 a4 a5 : Int32) (m : zM) {Q : Option Value → zM → Prop} (h : ok (xcall 26 a1 a2 a3 a4 a5 m) (fun p => Q (some (.int p.1)) p.2)) : zc gX s_PA_could [.ref 0, .int a1] m Q := by
  replace h : ok (f_PA_could a1 m) (fun p => Q (some (.int p.1)) p.2) := h
  exact zc_PA_could a1 m h
theorem zx_27 (a1 a2 a3 a4 a5 : Int32) (m : zM) {Q : Option Value → zM → Prop} (h : ok (xcall 27 a1 a2 a3 a4 a5 m) (fun p => Q (some (.int p.1)) p.2)) : zc gX s_PA_tells [.ref 0, .int a1] m Q := by
  replace h : ok (f_PA_tells a1 m) (fun p => Q (some (.int p.1)) p.2) := h
  exact zc_PA_tells a1 m h
theorem zx_28 (a1 a2 a3 a4 a5 : Int32) (m : zM) {Q : Option Value → zM → Prop} (h : ok (xcall 28 a1 a2 a3 a4 a5 m) (fun p => Q (some (.int p.1)) p.2)) : zc gX s_PA_spell [.ref 0, .int a1] m Q := by
  replace h : ok (f_PA_spell a1 m) (fun p => Q (some (.int p.1)) p.2) := h
  exact zc_PA_spell a1 m h
theorem zx_29 (a1 a2 a3 a4 a5 : Int32) (m : zM) {Q : Option Value → zM → Prop} (h : ok (xcall 29 a1 a2 a3 a4 a5 m) (fun p => Q (some (.int p.1)) p.2)) : zc gX s_PA_which [.ref 0] m Q := by
  replace h : ok (f_PA_which m) (fun p => Q (some (.int p.1)) p.2) := h
  exact zc_PA_which m h
theorem zx_30 (a1 a2 a3 a4 a5 : Int32) (m : zM) {Q : Option Value → zM → Prop} (h : ok (xcall 30 a1 a2 a3 a4 a5 m) (fun p => Q (some (.int p.1)) p.2)) : zc gX s_PA_image [.ref 0] m Q := by
  replace h : ok (f_PA_image m) (fun p => Q (some (.int p.1)) p.2) := h
  exact zc_PA_image m h
theorem zx_31 (a1 a2 a3 a4 a5 : Int32) (m : zM) {Q : Option Value → zM → Prop} (h : ok (xcall 31 a1 a2 a3 a4 a5 m) (fun p => Q (some (.int p.1)) p.2)) : zc gX s_PA_octet [.ref 0, .int a1] m Q := by
  replace h : ok ((f_PA_octet a1 m).bind fun r => some (r, m)) (fun p => Q (some (.int p.1)) p.2) := h
  exact zc_PA_octet a1 m (ok_b h (fun p h => (by have h1 := ok_some h; exact h1)))
theorem zx_32 (a1 a2 a3 a4 a5 : Int32) (m : zM) {Q : Option Value → zM → Prop} (h : ok (xcall 32 a1 a2 a3 a4 a5 m) (fun p => Q (some (.int p.1)) p.2)) : zc gX s_PA_on [.ref 0] m Q := by
  replace h : ok ((f_PA_on m).bind fun p => some (b2i p.1, p.2)) (fun p => Q (some (.int p.1)) p.2) := h
  exact zc_PA_on m (ok_b h (fun p h => (by have h1 := ok_some h; exact h1)))
theorem zx_33 (a1 a2 a3 a4 a5 : Int32) (m : zM) {Q : Option Value → zM → Prop} (h : ok (xcall 33 a1 a2 a3 a4 a5 m) (fun p => Q (some (.int p.1)) p.2)) : zc gX s_PA_status [.ref 0, .int a1] m Q := by
  replace h : ok ((f_PA_status a1 m).bind fun r => some (r, m)) (fun p => Q (some (.int p.1)) p.2) := h
  exact zc_PA_status a1 m (ok_b h (fun p h => (by have h1 := ok_some h; exact h1)))
theorem zm_0 (a1 a2 a3 a4 a5 : Int32) (m : zM) {Q : Option Value → zM → Prop} (h : ok (mcall 0 a1 a2 a3 a4 a5 m) (fun p => Q (some (.int p.1)) p.2)) : zc gM s_MO_feed [.ref 0, .int a1, .int a2, .int a3, .int a4, .int a5] m Q := by
  replace h : ok (f_MO_feed a1 a2 a3 a4 a5 m) (fun p => Q (some (.int p.1)) p.2) := h
  exact zc_MO_feed a1 a2 a3 a4 a5 m h
theorem zm_1 (a1 a2 a3 a4 a5 : Int32) (m : zM) {Q : Option Value → zM → Prop} (h : ok (mcall 1 a1 a2 a3 a4 a5 m) (fun p => Q (some (.int p.1)) p.2)) : zc gM s_MO_end [.ref 0, .int a1] m Q := by
  replace h : ok ((f_MO_end a1 m).bind fun p => some (b2i p.1, p.2)) (fun p => Q (some (.int p.1)) p.2) := h
  exact zc_MO_end a1 m (ok_b h (fun p h => (by have h1 := ok_some h; exact h1)))
theorem zm_2 (a1 a2 a3 a4 a5 : Int32) (m : zM) {Q : Option Value → zM → Prop} (h : ok (mcall 2 a1 a2 a3 a4 a5 m) (fun p => Q (some (.int p.1)) p.2)) : zc gM s_MO_table [.ref 0] m Q := by
  replace h : ok (f_MO_table m) (fun p => Q (some (.int p.1)) p.2) := h
  exact zc_MO_table m h
theorem zm_3 (a1 a2 a3 a4 a5 : Int32) (m : zM) {Q : Option Value → zM → Prop} (h : ok (mcall 3 a1 a2 a3 a4 a5 m) (fun p => Q (some (.int p.1)) p.2)) : zc gM s_MO_fault [.ref 0, .int a1] m Q := by
  replace h : ok (some (f_MO_fault a1 m, m)) (fun p => Q (some (.int p.1)) p.2) := h
  exact zc_MO_fault a1 m (by have h1 := ok_some h; exact h1)
theorem zm_4 (a1 a2 a3 a4 a5 : Int32) (m : zM) {Q : Option Value → zM → Prop} (h : ok (mcall 4 a1 a2 a3 a4 a5 m) (fun p => Q (some (.int p.1)) p.2)) : zc gM s_MO_has [.ref 0, .int a1] m Q := by
  replace h : ok (f_MO_has a1 m) (fun p => Q (some (.int p.1)) p.2) := h
  exact zc_MO_has a1 m h
theorem zm_5 (a1 a2 a3 a4 a5 : Int32) (m : zM) {Q : Option Value → zM → Prop} (h : ok (mcall 5 a1 a2 a3 a4 a5 m) (fun p => Q (some (.int p.1)) p.2)) : zc gM s_MO_letter [.ref 0, .int a1, .int a2, .int a3] m Q := by
  replace h : ok ((f_MO_letter a1 a2 a3 m).bind fun r => some (r, m)) (fun p => Q (some (.int p.1)) p.2) := h
  exact zc_MO_letter a1 a2 a3 m (ok_b h (fun p h => (by have h1 := ok_some h; exact h1)))
theorem zm_6 (a1 a2 a3 a4 a5 : Int32) (m : zM) {Q : Option Value → zM → Prop} (h : ok (mcall 6 a1 a2 a3 a4 a5 m) (fun p => Q (some (.int p.1)) p.2)) : zc gM s_MO_rule [.ref 0, .int a1, .int a2] m Q := by
  replace h : ok ((f_MO_rule a1 a2 m).bind fun r => some (r, m)) (fun p => Q (some (.int p.1)) p.2) := h
  exact zc_MO_rule a1 a2 m (ok_b h (fun p h => (by have h1 := ok_some h; exact h1)))
theorem zm_7 (a1 a2 a3 a4 a5 : Int32) (m : zM) {Q : Option Value → zM → Prop} (h : ok (mcall 7 a1 a2 a3 a4 a5 m) (fun p => Q (some (.int p.1)) p.2)) : zc gM s_MO_world [.ref 0, .int a1, .int a2] m Q := by
  replace h : ok (f_MO_world a1 a2 m) (fun p => Q (some (.int p.1)) p.2) := h
  exact zc_MO_world a1 a2 m h
theorem zm_8 (a1 a2 a3 a4 a5 : Int32) (m : zM) {Q : Option Value → zM → Prop} (h : ok (mcall 8 a1 a2 a3 a4 a5 m) (fun p => Q (some (.int p.1)) p.2)) : zc gM s_MO_agent [.ref 0, .int a1, .int a2, .int a3] m Q := by
  replace h : ok (f_MO_agent a1 a2 a3 m) (fun p => Q (some (.int p.1)) p.2) := h
  exact zc_MO_agent a1 a2 a3 m h
theorem zm_9 (a1 a2 a3 a4 a5 : Int32) (m : zM) {Q : Option Value → zM → Prop} (h : ok (mcall 9 a1 a2 a3 a4 a5 m) (fun p => Q (some (.int p.1)) p.2)) : zc gM s_MO_leads [.ref 0, .int a1, .int a2, .int a3] m Q := by
  replace h : ok (f_MO_leads a1 a2 a3 m) (fun p => Q (some (.int p.1)) p.2) := h
  exact zc_MO_leads a1 a2 a3 m h
theorem zm_10 (a1 a2 a3 a4 a5 : Int32) (m : zM) {Q : Option Value → zM → Prop} (h : ok (mcall 10 a1 a2 a3 a4 a5 m) (fun p => Q (some (.int p.1)) p.2)) : zc gM s_MO_way [.ref 0, .int a1, .int a2, .int a3] m Q := by
  replace h : ok (f_MO_way a1 a2 a3 m) (fun p => Q (some (.int p.1)) p.2) := h
  exact zc_MO_way a1 a2 a3 m h
theorem zm_11 (a1 a2 a3 a4 a5 : Int32) (m : zM) {Q : Option Value → zM → Prop} (h : ok (mcall 11 a1 a2 a3 a4 a5 m) (fun p => Q (some (.int p.1)) p.2)) : zc gM s_MO_first [.ref 0, .int a1] m Q := by
  replace h : ok (f_MO_first a1 m) (fun p => Q (some (.int p.1)) p.2) := h
  exact zc_MO_first a1 m h
theorem zm_12 (a1 a2 a3 a4 a5 : Int32) (m : zM) {Q : Option Value → zM → Prop} (h : ok (mcall 12 a1 a2 a3 a4 a5 m) (fun p => Q (some (.int p.1)) p.2)) : zc gM s_MO_part [.ref 0, .int a1, .int a2] m Q := by
  replace h : ok (f_MO_part a1 a2 m) (fun p => Q (some (.int p.1)) p.2) := h
  exact zc_MO_part a1 a2 m h
theorem zm_13 (a1 a2 a3 a4 a5 : Int32) (m : zM) {Q : Option Value → zM → Prop} (h : ok (mcall 13 a1 a2 a3 a4 a5 m) (fun p => Q (some (.int p.1)) p.2)) : zc gM s_MO_returns [.ref 0] m Q := by
  replace h : ok (f_MO_returns m) (fun p => Q (some (.int p.1)) p.2) := h
  exact zc_MO_returns m h
theorem zm_14 (a1 a2 a3 a4 a5 : Int32) (m : zM) {Q : Option Value → zM → Prop} (h : ok (mcall 14 a1 a2 a3 a4 a5 m) (fun p => Q (some (.int p.1)) p.2)) : zc gM s_MO_starving [.ref 0, .int a1] m Q := by
  replace h : ok (f_MO_starving a1 m) (fun p => Q (some (.int p.1)) p.2) := h
  exact zc_MO_starving a1 m h
theorem zm_15 (a1 a2 a3 a4 a5 : Int32) (m : zM) {Q : Option Value → zM → Prop} (h : ok (mcall 15 a1 a2 a3 a4 a5 m) (fun p => Q (some (.int p.1)) p.2)) : zc gM s_MO_uses [.ref 0, .int a1] m Q := by
  replace h : ok (f_MO_uses a1 m) (fun p => Q (some (.int p.1)) p.2) := h
  exact zc_MO_uses a1 m h
theorem zm_16 (a1 a2 a3 a4 a5 : Int32) (m : zM) {Q : Option Value → zM → Prop} (h : ok (mcall 16 a1 a2 a3 a4 a5 m) (fun p => Q (some (.int p.1)) p.2)) : zc gM s_MO_without [.ref 0, .int a1, .int a2] m Q := by
  replace h : ok (f_MO_without a1 a2 m) (fun p => Q (some (.int p.1)) p.2) := h
  exact zc_MO_without a1 a2 m h
theorem zm_17 (a1 a2 a3 a4 a5 : Int32) (m : zM) {Q : Option Value → zM → Prop} (h : ok (mcall 17 a1 a2 a3 a4 a5 m) (fun p => Q (some (.int p.1)) p.2)) : zc gM s_MO_mend [.ref 0] m Q := by
  replace h : ok (f_MO_mend m) (fun p => Q (some (.int p.1)) p.2) := h
  exact zc_MO_mend m h
theorem zm_18 (a1 a2 a3 a4 a5 : Int32) (m : zM) {Q : Option Value → zM → Prop} (h : ok (mcall 18 a1 a2 a3 a4 a5 m) (fun p => Q (some (.int p.1)) p.2)) : zc gM s_MO_now [.ref 0, .int a1, .int a2] m Q := by
  replace h : ok (f_MO_now a1 a2 m) (fun p => Q (some (.int p.1)) p.2) := h
  exact zc_MO_now a1 a2 m h
theorem zm_19 (a1 a2 a3 a4 a5 : Int32) (m : zM) {Q : Option Value → zM → Prop} (h : ok (mcall 19 a1 a2 a3 a4 a5 m) (fun p => Q (some (.int p.1)) p.2)) : zc gM s_MO_can [.ref 0, .int a1, .int a2] m Q := by
  replace h : ok (f_MO_can a1 a2 m) (fun p => Q (some (.int p.1)) p.2) := h
  exact zc_MO_can a1 a2 m h
theorem zm_20 (a1 a2 a3 a4 a5 : Int32) (m : zM) {Q : Option Value → zM → Prop} (h : ok (mcall 20 a1 a2 a3 a4 a5 m) (fun p => Q (some (.int p.1)) p.2)) : zc gM s_MO_move [.ref 0, .int a1, .int a2] m Q := by
  replace h : ok (f_MO_move a1 a2 m) (fun p => Q (some (.int p.1)) p.2) := h
  exact zc_MO_move a1 a2 m h
theorem zm_21 (a1 a2 a3 a4 a5 : Int32) (m : zM) {Q : Option Value → zM → Prop} (h : ok (mcall 21 a1 a2 a3 a4 a5 m) (fun p => Q (some (.int p.1)) p.2)) : zc gM s_MO_jump [.ref 0, .int a1] m Q := by
  replace h : ok ((f_MO_jump a1 m).bind fun p => some (b2i p.1, p.2)) (fun p => Q (some (.int p.1)) p.2) := h
  exact zc_MO_jump a1 m (ok_b h (fun p h => (by have h1 := ok_some h; exact h1)))
theorem zm_22 (a1 a2 a3 a4 a5 : Int32) (m : zM) {Q : Option Value → zM → Prop} (h : ok (mcall 22 a1 a2 a3 a4 a5 m) (fun p => Q (some (.int p.1)) p.2)) : zc gM s_MO_chance [.ref 0, .int a1] m Q := by
  replace h : ok (f_MO_chance a1 m) (fun p => Q (some (.int p.1)) p.2) := h
  exact zc_MO_chance a1 m h
theorem zm_23 (a1 a2 a3 a4 a5 : Int32) (m : zM) {Q : Option Value → zM → Prop} (h : ok (mcall 23 a1 a2 a3 a4 a5 m) (fun p => Q (some (.int p.1)) p.2)) : zc gM s_MO_undo [.ref 0] m Q := by
  replace h : ok ((f_MO_undo m).bind fun p => some (b2i p.1, p.2)) (fun p => Q (some (.int p.1)) p.2) := h
  exact zc_MO_undo m (ok_b h (fun p h => (by have h1 := ok_some h; exact h1)))
theorem zm_24 (a1 a2 a3 a4 a5 : Int32) (m : zM) {Q : Option Value → zM → Prop} (h : ok (mcall 24 a1 a2 a3 a4 a5 m) (fun p => Q (some (.int p.1)) p.2)) : zc gM s_MO_seed [.ref 0, .int a1] m Q := by
  replace h : ok ((f_MO_seed a1 m).bind fun p => some (b2i p.1, p.2)) (fun p => Q (some (.int p.1)) p.2) := h
  exact zc_MO_seed a1 m (ok_b h (fun p h => (by have h1 := ok_some h; exact h1)))
theorem zm_25 (a1 a2 a3 a4 a5 : Int32) (m : zM) {Q : Option Value → zM → Prop} (h : ok (mcall 25 a1 a2 a3 a4 a5 m) (fun p => Q (some (.int p.1)) p.2)) : zc gM s_MO_see [.ref 0, .int a1] m Q := by
  replace h : ok (f_MO_see a1 m) (fun p => Q (some (.int p.1)) p.2) := h
  exact zc_MO_see a1 m h
theorem zm_26 (a1 a2 a3 a4 a5 : Int32) (m : zM) {Q : Option Value → zM → Prop} (h : ok (mcall 26 a1 a2 a3 a4 a5 m) (fun p => Q (some (.int p.1)) p.2)) : zc gM s_MO_could [.ref 0, .int a1] m Q := by
  replace h : ok (f_MO_could a1 m) (fun p => Q (some (.int p.1)) p.2) := h
  exact zc_MO_could a1 m h
theorem zm_27 (a1 a2 a3 a4 a5 : Int32) (m : zM) {Q : Option Value → zM → Prop} (h : ok (mcall 27 a1 a2 a3 a4 a5 m) (fun p => Q (some (.int p.1)) p.2)) : zc gM s_MO_tells [.ref 0, .int a1] m Q := by
  replace h : ok (f_MO_tells a1 m) (fun p => Q (some (.int p.1)) p.2) := h
  exact zc_MO_tells a1 m h
theorem zm_28 (a1 a2 a3 a4 a5 : Int32) (m : zM) {Q : Option Value → zM → Prop} (h : ok (mcall 28 a1 a2 a3 a4 a5 m) (fun p => Q (some (.int p.1)) p.2)) : zc gM s_MO_spell [.ref 0, .int a1] m Q := by
  replace h : ok (f_MO_spell a1 m) (fun p => Q (some (.int p.1)) p.2) := h
  exact zc_MO_spell a1 m h
theorem zm_29 (a1 a2 a3 a4 a5 : Int32) (m : zM) {Q : Option Value → zM → Prop} (h : ok (mcall 29 a1 a2 a3 a4 a5 m) (fun p => Q (some (.int p.1)) p.2)) : zc gM s_MO_which [.ref 0] m Q := by
  replace h : ok (f_MO_which m) (fun p => Q (some (.int p.1)) p.2) := h
  exact zc_MO_which m h
theorem zm_30 (a1 a2 a3 a4 a5 : Int32) (m : zM) {Q : Option Value → zM → Prop} (h : ok (mcall 30 a1 a2 a3 a4 a5 m) (fun p => Q (some (.int p.1)) p.2)) : zc gM s_MO_image [.ref 0] m Q := by
  replace h : ok (f_MO_image m) (fun p => Q (some (.int p.1)) p.2) := h
  exact zc_MO_image m h
theorem zm_31 (a1 a2 a3 a4 a5 : Int32) (m : zM) {Q : Option Value → zM → Prop} (h : ok (mcall 31 a1 a2 a3 a4 a5 m) (fun p => Q (some (.int p.1)) p.2)) : zc gM s_MO_octet [.ref 0, .int a1] m Q := by
  replace h : ok ((f_MO_octet a1 m).bind fun r => some (r, m)) (fun p => Q (some (.int p.1)) p.2) := h
  exact zc_MO_octet a1 m (ok_b h (fun p h => (by have h1 := ok_some h; exact h1)))
theorem zm_32 (a1 a2 a3 a4 a5 : Int32) (m : zM) {Q : Option Value → zM → Prop} (h : ok (mcall 32 a1 a2 a3 a4 a5 m) (fun p => Q (some (.int p.1)) p.2)) : zc gM s_MO_on [.ref 0] m Q := by
  replace h : ok ((f_MO_on m).bind fun p => some (b2i p.1, p.2)) (fun p => Q (some (.int p.1)) p.2) := h
  exact zc_MO_on m (ok_b h (fun p h => (by have h1 := ok_some h; exact h1)))
theorem zm_33 (a1 a2 a3 a4 a5 : Int32) (m : zM) {Q : Option Value → zM → Prop} (h : ok (mcall 33 a1 a2 a3 a4 a5 m) (fun p => Q (some (.int p.1)) p.2)) : zc gM s_MO_status [.ref 0, .int a1] m Q := by
  replace h : ok ((f_MO_status a1 m).bind fun r => some (r, m)) (fun p => Q (some (.int p.1)) p.2) := h
  exact zc_MO_status a1 m (ok_b h (fun p h => (by have h1 := ok_some h; exact h1)))
def zown : Cond → String
  | .fieldLinkNest a .. => a
  | .methodLinkNest a .. => a
  | _ => ""
theorem znw_law0 : ∀ w ∈ znw, zown w ≠ "ProtocolAtlasLaw" := by decide +kernel
theorem znw_law {ix : Nat} {y : MethodName} {host : String} (h : Cond.methodLinkNest R_law ix y host ∈ znw) : R_law ≠ R_law := fun _ => znw_law0 _ h rfl

/-- both sides answer alike, from a pair of memories that Inv holds of on -/
def Alike (Inv : zM → zM → Prop) : Prop := ∀ (c : Nat) (a1 a2 a3 a4 a5 : Int32) (mx mm : zM), c < 34 → Inv mx mm → ∃ (r : Int32) (mx' mm' : zM), xcall c a1 a2 a3 a4 a5 mx = some (r, mx') ∧ mcall c a1 a2 a3 a4 a5 mm = some (r, mm') ∧ Inv mx' mm'
def zA0 (s : State) : Nat → Prop := fun q => s.heap.size ≤ q
def zAx (s : State) : Nat → Prop := fun q => (s.heap.size ≤ q ∧ q < s.heap.size + 138) ∨ s.heap.size + 196 ≤ q
def zAm (s : State) : Nat → Prop := fun q => s.heap.size + 138 ≤ q
theorem zstr_nar {ad : Nat → Nat} {A B : Nat → Prop} {U : State} (h : zstr ad A U) (hAB : ∀ q, B q → A q) : zstr ad B U := ⟨h.1.narrow hAB, h.2.1, h.2.2.1.narrow hAB, h.2.2.2.imp (fun z => z.narrow hAB) (fun z => z.narrow hAB)⟩
/-- what holds all along the law -/
def lxC (p : Program) (s : State) (m : MethodId) (meth : Method) (c : Code) (b L : Nat) (xs : Nat → Int32) (D : va_G) (cA : Nat → ClassId) (adx adm : Nat → Nat) : Prop :=
  lw_At p s m meth c b L xs ∧ va_K D zcl (ztys cA) s ∧ (∀ w ∈ znw, va_Nw w s) ∧ va_AO "ProtocolAtlas$Row" s ∧ zstr adx (zA0 s) s ∧ zstr adm (zA0 s) s ∧ (∀ k, k < 901 → adx k = s.heap.size + k) ∧ (∀ k, k < 901 → adm k = s.heap.size + 138 + k)
/-- the worlds of both sides -/
def lxH (s : State) (D : va_G) (cA : Nat → ClassId) (adx adm : Nat → Nat) (H : Heap) (locs : List Loc) (mx mm : zM) : Prop :=
  s.heap.size + 196 ≤ H.size ∧ va_P D zcl (zws cA adx (zh gX mx)) H ∧ va_P D zcl (zws cA adm (zh gM mm)) H ∧ va_S (zA0 s) s.heap H locs
theorem zws_ad {cA : Nat → ClassId} {ad : Nat → Nat} {h : zH} {k : Nat} {q : Nat × va_E} (hk : (zws cA ad h)[k]? = some q) : k < h.1.length ∧ q.1 = ad k := by
  have hl : k < h.1.length := by rw [← zws_len cA ad h]; exact (List.getElem?_eq_some_iff.mp hk).1
  refine ⟨hl, ?_⟩
  have := zws_at (cA := cA) (ad := ad) (h := h) (k := k) (List.getElem?_eq_getElem hl)
  rw [hk] at this
  cases this
  rfl
theorem zD_of {cA : Nat → ClassId} {ad : Nat → Nat} {h : zH} {B n : Nat} {A : Nat → Prop} (hl : h.1.length ≤ n) (hn : n ≤ 900) (ha : ∀ k, k < 901 → ad k = B + k) (hA : ∀ q, B ≤ q → q < B + n → A q) : va_D A (zws cA ad h) := by
  refine ⟨fun i j x y hi hj e => ?_, fun k q hk => ?_⟩
  · obtain ⟨l1, e1⟩ := zws_ad hi
    obtain ⟨l2, e2⟩ := zws_ad hj
    rw [e1, e2, ha i (by omega), ha j (by omega)] at e
    omega
  · obtain ⟨l1, e1⟩ := zws_ad hk
    rw [e1, ha k (by omega)]
    exact hA _ (by omega) (by omega)
theorem lback {l : Launch} {p : Program} {e : Env} {s : State} {m : MethodId} {args a : Array Value} {below : List Frame} {meth : Method} {c : Code} {D : va_G} {cA : Nat → ClassId} {ad : Nat → Nat} {A : Nat → Prop} {H : Heap} {locs : List Loc} {lv : Array Slot} {al : Bool} {kc ks mc ms pc : Nat} {st0 rest : List Value} {Q1 : Option Value → zH → Prop} {QQ : State → Prop}
    (hr : va_Run p l e room_1 s m args below meth c H locs kc ks mc ms (F0 m pc lv st0) rest (zQ al D cA ad A Q1 a) A) (hS : va_S (zA0 s) s.heap H locs) (hAA : ∀ q, A q → zA0 s q)
    (kk : ∀ (r : Option Value) (h : zH) (H1 : Heap) (locs1 : List Loc), Q1 r h → va_P D zcl (zws cA ad h) H1 → zal al ad h H1 → H.size ≤ H1.size → (∀ q : Nat, q < H.size → ¬ A q → H1[q]? = H[q]?) → va_S (zA0 s) s.heap H1 locs1 → W p l e room_1 s m args below meth c H1 locs1 (kc + mc) (ks + ms) QQ (F0 m (pc + 3) lv ((r.map (zv ad)).toList ++ rest))) :
    W p l e room_1 s m args below meth c H locs kc ks QQ (F0 m pc lv st0) := by
  intro T hT X
  obtain ⟨v, st₀, t, T', L, h0, X', hL, e1, e2, ⟨⟨r, h', hv, hp, hP, hD, hal⟩, hz, hk⟩, st⟩ := hr T hT X
  rw [h0] at hz hk
  have hv' : v = r.map (zv ad) := by injection hv
  subst hv'
  obtain ⟨t2, a1, b1⟩ := kk r h' T'.heap (locs ++ L) hp (by rw [e1]; exact hP) (by rw [e1]; exact hal) (by rw [e1]; exact hz) (fun q h1 h2 => by rw [e1]; exact hk q h1 h2)
    ⟨Nat.le_trans hS.1 (by rw [e1]; exact hz), fun q h1 h2 => by rw [e1, hk q (Nat.lt_of_lt_of_le h1 hS.1) (fun z => h2 (hAA q z))]; exact hS.2.1 q h1 h2, fun q hq => by
      rcases List.mem_append.mp hq with h | h
      · exact hS.2.2 q h
      · exact hAA _ (hL q h)⟩ T' rfl X'
  exact ⟨t2, st t2 a1, b1⟩
theorem lgood {S' : zS} (hc : Cond.code S'.1 S'.2.1 S'.2.2.1 S'.2.2.2.1 ∈ ztb) : GoodIn lw_tbl (zwo S') := by
  intro w hw
  have h1 : w ∈ ztb := by
    rcases List.mem_cons.mp hw with rfl | h
    · exact hc
    · exact h
  exact ⟨(List.mem_filter.mp h1).1, good_of_word (List.mem_filter.mp h1).2⟩
theorem ltb {w : Cond} (h : w ∈ ztb) : w ∈ lw_tbl := (List.mem_filter.mp h).1
def zrl (S' : zS) : Prop := S'.2.2.2.2.frames + 1 ≤ room_1.frames ∧ 8 + (S'.2.2.1 + 11) + S'.2.2.2.2.locals ≤ room_1.locals
/-- a call of one side's method -/
theorem lcall {l : Launch} {p : Program} {e : Env} {s : State} {m : MethodId} {below : List Frame} {meth : Method} {c : Code} {b L : Nat} {xs : Nat → Int32} {D : va_G} {cA : Nat → ClassId} {ad : Nat → Nat} {A : Nat → Prop} {H : Heap} {locs : List Loc} {lv : Array Slot} {ls : List (Nat × Value)} {kc ks pc : Nat} {rest : List Value} {QQ : State → Prop} {g : zG} {S' : zS} {ix n ci : Nat} {q0 : vw_C} {m0 : zM}
    (C0 : lw_At p s m meth c b L xs) (hK : va_K D zcl (ztys cA) s) (hN : ∀ w ∈ znw, va_Nw w s) (hO : va_AO "ProtocolAtlas$Row" s) (hSt : zstr ad A s) (hAA : ∀ q, A q → zA0 s q) (hAH : ∀ q : Nat, H.size ≤ q → A q)
    (hP : va_P D zcl (zws cA ad (zh g m0)) H) (hD : va_D A (zws cA ad (zh g m0))) (hS : va_S (zA0 s) s.heap H locs) (hl : lv_has lv 4 ls)
    (hk : zLV R_law ix S' n) (hrm : zrl S') (hz : S'.2.2.2.2.cells = 0 ∧ S'.2.2.2.2.slots = 0) (hq0 : zcl[ci]? = some q0) (hq1 : q0.1 = S'.1.cls) (hb0 : g.1[0]? = some (.inl ci)) (As : List Value) (hAs : As.map (zv ad) = As) (hn : As.length = n) (hcat : zcat rest ≤ 8) (hf : kc ≤ room_1.cells ∧ ks ≤ room_1.slots) (st0 : List Value) (hst : st0 = As.reverse ++ .ref (ad 0) :: rest) (hd : decode code pc = .ok (.invokevirtual ix, 3))
    {Q1 : Option Value → zM → Prop} (k : zc g S' (.ref 0 :: As) m0 Q1)
    (kk : ∀ (r : Option Value) (m1 : zM) (H1 : Heap) (locs1 : List Loc), Q1 r m1 → va_P D zcl (zws cA ad (zh g m1)) H1 → H.size ≤ H1.size → (∀ q : Nat, q < H.size → ¬ A q → H1[q]? = H[q]?) → va_S (zA0 s) s.heap H1 locs1 → W p l e room_1 s m #[Value.ref b] below meth c H1 locs1 kc ks QQ (F0 m (pc + 3) lv ((r.map (zv ad)).toList ++ rest))) :
    W p l e room_1 s m #[Value.ref b] below meth c H locs kc ks QQ (F0 m pc lv st0) := by
  subst hst
  obtain ⟨hx, hb, hr, hml, hown, hts, hX, hbl, hlocks, hgv⟩ := id C0
  obtain ⟨hsg, hcd, him, hse, hini, hlk⟩ := hk
  have wk : ∀ w ∈ ztb, w.before #[Value.ref b] s = true := fun w hw => hts w (ltb hw)
  have hre : PreV s H S'.1.cls (ad 0) (va_Pc ((.ref 0 :: As).map (zv ad)) (zPre false D cA ad A (zh g m0))) As := by
    refine ⟨zpre_blind, ?_, fun U hU hW => ⟨by simp [zv, hAs], ?_⟩⟩
    · rw [← hq1]; exact va_recv hK hP (ci := ci) (q0 := 0) hq0 (zws_at (h := zh g m0) hb0)
    · have kp : ∀ a : Nat, a < s.heap.size → ¬ A a → U.heap[a]? = s.heap[a]? := fun a h1 h2 => by rw [hU]; exact hS.2.1 a h1 (fun z => by have : s.heap.size ≤ a := z; omega)
      exact ⟨by rw [hU]; exact hP, hD, (fun q => by cases q), va_K.moved hW.alike hK, znw_warm hW hN, va_AO.moved hW.alike hO, ⟨vk_S.moved hW.alike (hSt.1.kept kp), fun i hi => vk_R.warm hW (hSt.2.1 i hi), va_Z.moved hW.alike (hSt.2.2.1.kept kp), hSt.2.2.2.imp (fun z => va_Z.moved hW.alike (z.kept kp)) (fun z => va_Z.moved hW.alike (z.kept kp))⟩, fun q hq => hAH q (by rw [← hU]; exact hq)⟩
  have hsg2 : ∀ sig, parseMethodDescriptor S'.1.desc = some sig → n = sig.parameters.length := fun sig h => by
    have h2 := hsg.2.2
    rw [h] at h2
    exact (Option.some.inj h2).symm
  rcases hlk with hlk | ⟨host, hlk⟩
  · refine lback (va_runV (own := R_law) (C := S'.1.cls) (bytes := S'.2.1) (maxL := S'.2.2.1) (ret := S'.2.2.2.1) (n := n) (b := ad 0) (As := As) (mc := S'.2.2.2.2.cells) (ms := S'.2.2.2.2.slots) ⟨hx, hb, hml, hown, hts⟩ (k l D cA ad A) ⟨⟨rfl, rfl, hrm.1, hrm.2, pay_in hts (lgood hcd), List.mem_cons_self, wk _ hcd, wk _ hini, ⟨hsg.1, hsg.2.1⟩, hsg2, wk _ hlk⟩, wk _ him, wk _ hse⟩ hre rfl hn hl.1 rfl (lv_room hcat) hd ⟨by rw [hz.1]; exact hf.1, by rw [hz.2]; exact hf.2⟩) hS hAA (fun r h H1 locs1 hq hP1 _ h1 h2 hS1 => ?_)
    obtain ⟨m1, rfl, hq⟩ := hq
    rw [hz.1, hz.2]
    exact kk r m1 H1 locs1 hq hP1 h1 h2 hS1
  · have hn2 := znw_law hlk
    exact absurd rfl hn2

