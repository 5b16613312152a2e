/-- what is written: n bytes g -/
def BwX (n : Nat) (g : Nat → Nat) (m : zM) : Prop := m.1 3 1 = nI n ∧ ∀ j, j < n → m.1 4 j = nI (g j)
def BwM (n : Nat) (g : Nat → Nat) (m : zM) : Prop := m.1 0 83 = nI n ∧ ∀ j, j < n → m.1 56 j = nI (g j)
theorem adB {n c : Nat} {g : Nat → Nat} {v : Int32} {m : zM} (h : BwX n g m) (hn : n < 1600) (hv : v = nI c) (hc : c < 256) : ok (f_Bytes_add 3 v m) (fun p => fl2 [4] [(3, 1)] m p ∧ BwX (n + 1) (upn g n c) p) := by
  rw [bx_add h.1 hn (by decide)]
  refine ok_mk ⟨fl2_tr (fl2_I (inS_c (by simp))) (fl2_I (inS_f (by simp))), rd_I1 _ _ _ _, fun j hj => ?_⟩
  rw [rd_I0 (by omega), rd_I]
  by_cases u : j = n
  · subst u
    rw [if_pos ⟨rfl, rfl⟩, show upn g j c j = c from if_pos rfl, hv]
    show nI c &&& 255 = nI c
    rw [pk_andN (by omega) 8 (by decide), Nat.mod_eq_of_lt hc]
  · rw [if_neg (fun z => u z.2), show upn g n c j = g j from if_neg u]
    exact h.2 j (by omega)
theorem wrB {n c : Nat} {g : Nat → Nat} {v : Int32} {m : zM} (h : BwM n g m) (hn : n < 130) (hv : v = nI c) : ok (f_MO_writes v m) (fun p => fl2 [56] [(0, 83)] m p ∧ BwM (n + 1) (upn g n c) p) := by
  unfold f_MO_writes
  refine ok_ix h.1 hn (by decide) (ok_lt (ok_lt (ok_mk ⟨fl2_tr (fl2_I (inS_c (by simp))) (fl2_I (inS_f (by simp))), ?_, fun j hj => ?_⟩)))
  · rw [rd_I1, rd_I0 (by omega), h.1, nI_1]
  · rw [rd_I0 (by omega), rd_I]
    by_cases u : j = n
    · subst u
      rw [if_pos ⟨rfl, rfl⟩, show upn g j c j = c from if_pos rfl, hv]
    · rw [if_neg (fun z => u z.2), show upn g n c j = g j from if_neg u]
      exact h.2 j (by omega)
/-- the byte behind an image -/
def chB (g : Nat → Nat) : Nat → Nat
  | 0 => 193
  | n + 1 => (5 * chB g n + g n) % 251
theorem chB_lt (g : Nat → Nat) (n : Nat) : chB g n < 251 := by
  cases n with
  | zero => show 193 < 251; omega
  | succ n => exact Nat.mod_lt _ (by decide)
theorem chB_e {g : Nat → Nat} {n : Nat} (h : g n < 256) : ir (5 * nI (chB g n) + nI (g n)) 251 = nI (chB g (n + 1)) := by
  have := chB_lt g n
  rw [show (5 : Int32) = nI 5 from rfl, pk_mul, nI_add]
  exact pk_rem (d := 251) (by omega) (by decide) (by decide)
theorem checkX {n k : Nat} {g : Nat → Nat} {v0 : Nat} {m : zM} (h1 : m.1 v0 1 = nI n) (h2 : ∀ j, j < n → m.1 (v0 + 1) j = nI (g j) ∧ g j < 256) (hk : k ≤ n) (hn : n ≤ 1600) : f_Bytes_check v0 (nI k) m = some (nI (chB g k)) := by
  refine ok_eq.mp ?_
  unfold f_Bytes_check f_Bytes_check_L6
  refine ok_for k (fun j (s : Int32 × Int32) => s.1 = nI (chB g j) ∧ s.2 = nI j) (k0 := 0) ⟨rfl, rfl⟩ (Nat.zero_le _) ?_
  rintro j ⟨x, y⟩ - hj ⟨e1, e2⟩
  have e1 : x = nI (chB g j) := e1
  have e2 : y = nI j := e2
  subst e1
  subst e2
  unfold f_Bytes_check_B6
  refine ok_le k j (fun q => ok_mk (show nI (chB g j) = nI (chB g k) by rw [show j = k by omega])) (fun q => ?_)
  refine ok_le n j (fun z => absurd z (by omega)) (fun z => ok_ix rfl (by omega : j < 1600) (by decide) (ok_mk ⟨q, ?_, nI_1 j⟩)) (hx := h1)
  show ir (5 * nI (chB g j) + m.1 (v0 + 1) j) 251 = nI (chB g (j + 1))
  rw [(h2 j z).1, chB_e (h2 j z).2]
theorem checkM {k c : Nat} {g : Nat → Nat} {m : zM} (h2 : ∀ j, j < k → m.1 c j = nI (g j) ∧ g j < 256) (hk : k ≤ zlen gM c) (hz : zlen gM c ≤ 1600) : f_MO_checked c (nI k) m = some (nI (chB g k)) := by
  refine ok_eq.mp ?_
  unfold f_MO_checked f_MO_checked_L6
  refine ok_for k (fun j (s : Int32 × Int32) => s.1 = nI (chB g j) ∧ s.2 = nI j) (k0 := 0) ⟨rfl, rfl⟩ (Nat.zero_le _) ?_
  rintro j ⟨x, y⟩ - hj ⟨e1, e2⟩
  have e1 : x = nI (chB g j) := e1
  have e2 : y = nI j := e2
  subst e1
  subst e2
  unfold f_MO_checked_B6
  refine ok_le k j (fun q => ok_mk (show nI (chB g j) = nI (chB g k) by rw [show j = k by omega])) (fun q => ?_)
  refine ok_ix rfl (show j < zlen gM c by omega) (by omega) (ok_mk ⟨q, ?_, nI_1 j⟩)
  show ir (5 * nI (chB g j) + m.1 c j) 251 = nI (chB g (j + 1))
  rw [(h2 j q).1, chB_e (h2 j q).2]
