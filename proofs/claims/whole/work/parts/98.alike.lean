theorem all_alike : Alike IvW := by
  intro c a1 a2 a3 a4 a5 mx mm hc h
  have k : Alk (xcall c a1 a2 a3 a4 a5 mx) (mcall c a1 a2 a3 a4 a5 mm) := by
    match c, hc with
    | 0, _ => exact c_feed h
    | 1, _ => exact c_end h
    | 2, _ => exact c_table h
    | 3, _ => exact c_fault h
    | 4, _ => exact c_has h
    | 5, _ => exact c_letter h
    | 6, _ => exact c_rule h
    | 7, _ => exact c_world h
    | 8, _ => exact c_agent h
    | 9, _ => exact c_leads h
    | 10, _ => exact c_way h
    | 11, _ => exact c_first h
    | 12, _ => exact c_part h
    | 13, _ => exact c_returns h
    | 14, _ => exact c_starving h
    | 15, _ => exact c_uses h
    | 16, _ => exact c_without h
    | 17, _ => exact c_mend h
    | 18, _ => exact c_now h
    | 19, _ => exact c_can h
    | 20, _ => exact c_move h
    | 21, _ => exact c_jump h
    | 22, _ => exact c_chance h
    | 23, _ => exact c_undo h
    | 24, _ => exact c_seed h
    | 25, _ => exact c_see h
    | 26, _ => exact c_could h
    | 27, _ => exact c_tells h
    | 28, _ => exact c_spell h
    | 29, _ => exact c_which h
    | 30, _ => exact c_image h
    | 31, _ => exact c_octet h
    | 32, _ => exact c_on h
    | 33, _ => exact c_status h
    | n + 34, hn => exact absurd hn (by omega)
  exact alk k
set_option maxRecDepth 100000 in
theorem in_a : mx0.1 1 1 = nI 0 ∧ mm0.1 0 1 = nI 0 ∧ mx0.1 65 7 = mm0.1 0 7 ∧ mx0.1 65 8 = mm0.1 0 8 ∧ mx0.1 5 1 = nI 0 ∧ mx0.2.1 0 15 = lN 1 ∧ mm0.2.1 0 76 = lN 1 ∧ mx0.1 3 1 = nI 0 ∧ mm0.1 0 83 = nI 0 := by decide +kernel
set_option maxRecDepth 100000 in
theorem in_b : mx0.1 0 13 = 0 ∧ mm0.1 0 33 = 0 ∧ mm0.1 0 74 = 0 ∧ mm0.1 0 75 = 0 := by decide +kernel
set_option maxRecDepth 100000 in
theorem in_c : ∀ i, i < 6 → mx0.1 64 i = mm0.1 2 i := by decide +kernel
set_option maxRecDepth 100000 in
theorem in_w : ∀ w, w < 19 → ∀ j, j < (owL w).length → mm0.1 (3 + w) j = nI ((owL w).getD j 0) := by decide +kernel
theorem all_init : IvW mx0 mm0 := by
  obtain ⟨a1, a2, a3, a4, a5, a6, a7, a8, a9⟩ := in_a
  obtain ⟨b1, b2, b3, b4⟩ := in_b
  exact ⟨⟨⟨0, by omega, a1, a2, fun j hj => absurd hj (Nat.not_lt_zero _)⟩, in_c, ⟨a3, a4, ⟨0, by decide, a5⟩, in_w⟩, ⟨1, by decide, a6, a7⟩, 0, by omega, a8, a9, fun j hj => absurd hj (Nat.not_lt_zero _)⟩, Or.inl ⟨b1, b2, b3, b4, 93, Or.inr rfl, rfl, rfl, rfl⟩⟩
