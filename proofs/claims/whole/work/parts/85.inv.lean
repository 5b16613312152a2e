/-- the words of the language -/
def owW : List (List Nat) := [[97, 103, 101, 110, 116, 115], [115, 116, 97, 116, 101, 115], [104, 111, 109, 101], [109, 101, 115, 115, 97, 103, 101, 115], [111, 114, 100, 101, 114], [107, 101, 112, 116], [108, 111, 111, 115, 101], [110, 101, 118, 101, 114], [97, 110, 100], [119, 97, 110, 116, 115], [111, 110], [119, 105, 116, 104], [116, 111], [115, 101, 110, 100, 115], [97, 116], [114, 101, 112, 108, 105, 101, 115], [116, 101, 108, 108, 115], [110, 111, 110, 101], [115, 111, 109, 101]]
def owL (w : Nat) : List Nat := owW.getD w []
def WdM (mm : zM) : Prop := ∀ w, w < 19 → ∀ j, j < (owL w).length → mm.1 (3 + w) j = nI ((owL w).getD j 0)
theorem WdM_f {mm mm' : zM} {S : List Nat} {F : List (Nat × Nat)} (h : WdM mm) (hf : fl2 S F mm mm') (hk : kps [3, 4, 5, 6, 7, 8, 9, 10, 11, 12, 13, 14, 15, 16, 17, 18, 19, 20, 21] [] S F = true) : WdM mm' := by
  intro w hw j hj
  rw [show mm'.1 (3 + w) = mm.1 (3 + w) from fl2_ic hf (kps_c hk (by simp; omega))]
  exact h w hw j hj
/-- the fault, the scratch bytes, the words -/
def CoF (mx mm : zM) : Prop := mx.1 65 7 = mm.1 0 7 ∧ mx.1 65 8 = mm.1 0 8 ∧ (∃ n, n < 2 ^ 31 ∧ mx.1 5 1 = nI n) ∧ WdM mm
theorem CoF_f {mx mx' mm mm' : zM} {S S' : List Nat} {F F' : List (Nat × Nat)} (h : CoF mx mm) (hf : fl2 S F mx mx') (hf' : fl2 S' F' mm mm') (hk : kps [] [(5, 1), (65, 7), (65, 8)] S F = true) (hk' : kps [3, 4, 5, 6, 7, 8, 9, 10, 11, 12, 13, 14, 15, 16, 17, 18, 19, 20, 21] [(0, 7), (0, 8)] S' F' = true) : CoF mx' mm' := by
  obtain ⟨h1, h2, h3, h4⟩ := h
  refine ⟨?_, ?_, ?_, ?_⟩
  · rw [show mx'.1 65 7 = mx.1 65 7 from fl2_i hf (kps_g hk (by simp)), show mm'.1 0 7 = mm.1 0 7 from fl2_i hf' (kps_g hk' (by simp))]; exact h1
  · rw [show mx'.1 65 8 = mx.1 65 8 from fl2_i hf (kps_g hk (by simp)), show mm'.1 0 8 = mm.1 0 8 from fl2_i hf' (kps_g hk' (by simp))]; exact h2
  · rw [show mx'.1 5 1 = mx.1 5 1 from fl2_i hf (kps_g hk (by simp))]; exact h3
  · intro w hw j hj
    rw [show mm'.1 (3 + w) = mm.1 (3 + w) from fl2_ic hf' (kps_c hk' (by simp; omega))]
    exact h4 w hw j hj
/-- what is alike whether or not there is a table: tape, refused, fault, seed, what was written -/
def CoR (mx mm : zM) : Prop :=
  (∃ n, n ≤ 1600 ∧ mx.1 1 1 = nI n ∧ mm.1 0 1 = nI n ∧ ∀ j, j < n → ∃ k, k < 256 ∧ mx.1 2 j = nI k ∧ mm.1 1 j = nI k) ∧ (∀ i, i < 6 → mx.1 64 i = mm.1 2 i) ∧ CoF mx mm ∧ (∃ k, k < 2 ^ 31 ∧ mx.2.1 0 15 = lN k ∧ mm.2.1 0 76 = lN k) ∧ ∃ n, n ≤ 130 ∧ mx.1 3 1 = nI n ∧ mm.1 0 83 = nI n ∧ ∀ j, j < n → mx.1 4 j = mm.1 56 j
def Rfs (b : Nat) (mx : zM) : Prop := tbv b ∧ mx.2.2 0 = b ∧ mx.2.2 1 = 159 - b ∧ mx.2.2 2 = b
/-- no table yet -/
def NtR (mx mm : zM) : Prop := mx.1 0 13 = 0 ∧ mm.1 0 33 = 0 ∧ mm.1 0 74 = 0 ∧ mm.1 0 75 = 0 ∧ ∃ b, Rfs b mx
/-- what is without a rule: five numbers -/
noncomputable def fig5 (P : Nat → Nat) (w N : Nat) (W : Nat → Nat) (k : Nat) : Int32 := if k = 0 then nI N else if k = 4 then sumI (fun i => timesOf P (W i) * nI (cn (fun a => stvB P w N W (4 * i + a)) (P 3))) N else sumI (smF P w N W (if k = 1 then 0 else k)) N
/-- what a rule leads to is in the table; names are of letters -/
def tGd (P : Nat → Nat) : Prop := (∀ r, r < P 8 → tF P r 4 ≤ P 2 ∧ (tF P r 0 = 0 → tF P r 3 < P 0) ∧ (tF P r 0 ≠ 0 → tF P r 3 < P 1 ∧ tF P r 5 ≤ P 2)) ∧ ∀ k j, k < 3 → j < P k → ∀ i, i < nlt (P (10 + 6 * k + j)) → P (10 + 6 * k + j) / 27 ^ i % 27 ≠ 0
/-- the class's table, atlas, study -/
def TdX (P : Nat → Nat) (N : Nat) (W D pr sp : Nat → Nat) (b : Nat) (mx : zM) : Prop :=
  (tV P ∧ 0 < N ∧ N ≤ 600 ∧ Lst (Ed P 16) (wx0 P) N W D ∧ nmz N W ∧ nmz N D ∧ WyL P N W D pr sp ∧ tGd P) ∧ Rfs b mx ∧ mx.1 0 13 = 1 ∧ tX b P mx ∧ AXm P N W D pr sp mx ∧ STm P N W mx ∧ ∀ r, r < 16 → mx.1 127 r = 0 ∨ (r < P 8 ∧ mx.1 127 r = 1 ∧ ∀ (N' : Nat) (W' D' : Nat → Nat), Lst (Ed P r) (wx0 P) N' W' D' → nmz N' W' → nmz N' D' → ∀ k, k < 5 → mx.1 128 (5 * r + k) = fig5 P r N' W' k)
def TdM (P : Nat → Nat) (mm : zM) : Prop := mm.1 0 33 = 1 ∧ tM 23 P mm ∧ MCa P mm
/-- a world of the walk: one that was reached -/
def rchd (P : Nat → Nat) (N : Nat) (W : Nat → Nat) (x : Nat) : Prop := kv (P 3) x ∧ ∃ i, i < N ∧ W i = fo (P 3) x
def WaR (P : Nat → Nat) (N : Nat) (W : Nat → Nat) (mx mm : zM) : Prop :=
  (∃ x, rchd P N W x ∧ wX 55 (P 3) (dh (P 3) x) (da (P 3) x) mx ∧ mm.2.1 0 72 = lN (km (P 3) x)) ∧ ∃ (k q : Nat) (tr : Nat → Nat), k ≤ 20 ∧ q < 20 ∧ mx.1 0 14 = nI k ∧ mm.1 0 74 = nI k ∧ mm.1 0 75 = nI q ∧ ∀ i, i < k → rchd P N W (tr i) ∧ mx.2.1 63 i = lN (tr i) ∧ mm.2.1 52 ((q + 20 - (k - 1 - i)) % 20) = lN (km (P 3) (tr i))
/-- the worlds that could be, so many moves from f, as the rows say -/
def couP (P : Nat → Nat) (N : Nat) (W : Nat → Nat) (r s : Nat) (st mn : Nat → Nat) (f w : Nat) : Prop := Rn (EWo P N W) f s w ∧ ∀ i, i < r → cst P (W w) (st i) = mn i
noncomputable def cou (P : Nat → Nat) (N : Nat) (W : Nat → Nat) (r s : Nat) (st mn : Nat → Nat) (f w : Nat) : Bool := cBo (couP P N W r s st mn f w)
def SiR (P : Nat → Nat) (N : Nat) (W : Nat → Nat) (mx mm : zM) : Prop :=
  ∃ (r s : Nat) (st mn : Nat → Nat), r ≤ 6 ∧ s ≤ 6 ∧ (r = 0 → s = 0) ∧ mx.1 48 2 = nI r ∧ mx.1 48 3 = nI s ∧ mm.1 0 77 = nI r ∧ (0 < r → mm.1 0 78 = nI s) ∧ (∀ i, i < r → st i < 256 ∧ mn i < 256 ∧ mx.1 49 i = nI (st i) ∧ mx.1 50 i = nI (mn i) ∧ mm.1 53 (2 * i) = nI (st i) ∧ mm.1 53 (2 * i + 1) = nI (mn i)) ∧ (mx.1 48 8 = -1 ∨ ∃ f, f < N ∧ mx.1 48 8 = nI f ∧ mx.1 48 7 = nI (cn (cou P N W r s st mn f) N) ∧ ∀ w, w < N → cou P N W r s st mn f w = true → mx.1 53 (cn (cou P N W r s st mn f) w) = nI w)
def Told (P : Nat → Nat) (N : Nat) (W D pr sp : Nat → Nat) (b : Nat) (mx mm : zM) : Prop := TdX P N W D pr sp b mx ∧ TdM P mm ∧ WaR P N W mx mm ∧ SiR P N W mx mm
def IvW (mx mm : zM) : Prop := CoR mx mm ∧ (NtR mx mm ∨ ∃ (P : Nat → Nat) (N : Nat) (W D pr sp : Nat → Nat) (b : Nat), Told P N W D pr sp b mx mm)
/-- the reference's scratch -/
def MS : List Nat := [25, 26, 27, 28, 29, 30, 31, 32, 34, 35, 36, 37, 38, 39, 40, 41, 42, 43, 44, 45, 46, 47, 48, 49, 50]
def MF : List (Nat × Nat) := [(0, 36), (0, 38), (0, 40), (0, 41), (0, 46), (0, 60), (0, 61), (0, 62), (0, 63)]
theorem CoR_m {mx mm mm' : zM} {S : List Nat} {F : List (Nat × Nat)} (h : CoR mx mm) (hf : fl2 S F mm mm') (hk : kps [1, 2, 56] [(0, 1), (0, 7), (0, 8), (0, 76), (0, 83)] S F = true) (hw : kps [3, 4, 5, 6, 7, 8, 9, 10, 11, 12, 13, 14, 15, 16, 17, 18, 19, 20, 21] [] S F = true := by decide) : CoR mx mm' := by
  obtain ⟨h1, h2, h3, h4, h5⟩ := h
  refine ⟨?_, ?_, ?_, ?_, ?_⟩
  · rw [show mm'.1 0 1 = mm.1 0 1 from fl2_i hf (kps_g hk (by simp)), show mm'.1 1 = mm.1 1 from fl2_ic hf (kps_c hk (by simp))]; exact h1
  · rw [show mm'.1 2 = mm.1 2 from fl2_ic hf (kps_c hk (by simp))]; exact h2
  · refine ⟨?_, ?_, h3.2.2.1, WdM_f h3.2.2.2 hf hw⟩
    · rw [show mm'.1 0 7 = mm.1 0 7 from fl2_i hf (kps_g hk (by simp))]; exact h3.1
    · rw [show mm'.1 0 8 = mm.1 0 8 from fl2_i hf (kps_g hk (by simp))]; exact h3.2.1
  · rw [show mm'.2.1 0 76 = mm.2.1 0 76 from fl2_j hf (kps_g hk (by simp))]; exact h4
  · rw [show mm'.1 0 83 = mm.1 0 83 from fl2_i hf (kps_g hk (by simp)), show mm'.1 56 = mm.1 56 from fl2_ic hf (kps_c hk (by simp))]; exact h5
theorem CoR_x {mx mx' mm : zM} {S : List Nat} {F : List (Nat × Nat)} (h : CoR mx mm) (hf : fl2 S F mx mx') (hk : kps [2, 4, 64] [(0, 15), (1, 1), (3, 1), (5, 1), (65, 7), (65, 8)] S F = true) : CoR mx' mm := by
  obtain ⟨h1, h2, h3, h4, h5⟩ := h
  refine ⟨?_, ?_, ?_, ?_, ?_⟩
  · rw [show mx'.1 1 1 = mx.1 1 1 from fl2_i hf (kps_g hk (by simp)), show mx'.1 2 = mx.1 2 from fl2_ic hf (kps_c hk (by simp))]; exact h1
  · rw [show mx'.1 64 = mx.1 64 from fl2_ic hf (kps_c hk (by simp))]; exact h2
  · refine ⟨?_, ?_, ?_, h3.2.2.2⟩
    · rw [show mx'.1 65 7 = mx.1 65 7 from fl2_i hf (kps_g hk (by simp))]; exact h3.1
    · rw [show mx'.1 65 8 = mx.1 65 8 from fl2_i hf (kps_g hk (by simp))]; exact h3.2.1
    · rw [show mx'.1 5 1 = mx.1 5 1 from fl2_i hf (kps_g hk (by simp))]; exact h3.2.2.1
  · rw [show mx'.2.1 0 15 = mx.2.1 0 15 from fl2_j hf (kps_g hk (by simp))]; exact h4
  · rw [show mx'.1 3 1 = mx.1 3 1 from fl2_i hf (kps_g hk (by simp)), show mx'.1 4 = mx.1 4 from fl2_ic hf (kps_c hk (by simp))]; exact h5
theorem Rfs_x {b : Nat} {mx mx' : zM} {S : List Nat} {F : List (Nat × Nat)} (h : Rfs b mx) (hf : fl2 S F mx mx') : Rfs b mx' := by unfold Rfs; rw [hf.2]; exact h
theorem NtR_f {mx mx' mm mm' : zM} {S S' : List Nat} {F F' : List (Nat × Nat)} (h : NtR mx mm) (hf : fl2 S F mx mx') (hf' : fl2 S' F' mm mm') (hk : kps [] [(0, 13)] S F = true) (hk' : kps [] [(0, 33), (0, 74), (0, 75)] S' F' = true) : NtR mx' mm' := by
  obtain ⟨h1, h2, h3, h4, b, h5⟩ := h
  exact ⟨by rw [fl2_i hf (kps_g hk (by simp))]; exact h1, by rw [fl2_i hf' (kps_g hk' (by simp))]; exact h2, by rw [fl2_i hf' (kps_g hk' (by simp))]; exact h3, by rw [fl2_i hf' (kps_g hk' (by simp))]; exact h4, b, Rfs_x h5 hf⟩
theorem TdX_f {P : Nat → Nat} {N : Nat} {W D pr sp : Nat → Nat} {b : Nat} {mx mx' : zM} {S : List Nat} {F : List (Nat × Nat)} (h : TdX P N W D pr sp b mx) (hf : fl2 S F mx mx') (ho : offT S F = true) (hk : kps [26, 27, 28, 29, 30, 31, 32, 33, 34, 35, 36, 37] [(24, 0), (24, 1)] S F = true) (hk2 : kps [117, 118, 119, 120] [(116, 3)] S F = true) (hk3 : kps [122, 123] [] S F = true) (hk4 : kps [127, 128] [(0, 13)] S F = true) : TdX P N W D pr sp b mx' := by
  obtain ⟨h1, h2, h3, h4, h5, h6, h7⟩ := h
  refine ⟨h1, Rfs_x h2 hf, by rw [fl2_i hf (kps_g hk4 (by simp))]; exact h3, tX_fl h2.1 h4 hf ho h1.1.1.2.2.2.2.2.2.2.2.2.2.1, AXm_fl h5 hf hk, STm_fl h6 hf hk2 hk3, ?_⟩
  rw [show mx'.1 127 = mx.1 127 from fl2_ic hf (kps_c hk4 (by simp)), show mx'.1 128 = mx.1 128 from fl2_ic hf (kps_c hk4 (by simp))]
  exact h7
theorem WaR_m {P : Nat → Nat} {N : Nat} {W : Nat → Nat} {mx mm mm' : zM} {S : List Nat} {F : List (Nat × Nat)} (h : WaR P N W mx mm) (hf : fl2 S F mm mm') (hk : kps [52] [(0, 72), (0, 74), (0, 75)] S F = true) : WaR P N W mx mm' := by
  unfold WaR
  rw [show mm'.2.1 0 72 = mm.2.1 0 72 from fl2_j hf (kps_g hk (by simp)), show mm'.1 0 74 = mm.1 0 74 from fl2_i hf (kps_g hk (by simp)), show mm'.1 0 75 = mm.1 0 75 from fl2_i hf (kps_g hk (by simp)), show mm'.2.1 52 = mm.2.1 52 from fl2_jc hf (kps_c hk (by simp))]
  exact h
theorem WaR_x {P : Nat → Nat} {N : Nat} {W : Nat → Nat} {mx mx' mm : zM} {S : List Nat} {F : List (Nat × Nat)} (h : WaR P N W mx mm) (hf : fl2 S F mx mx') (hk : kps [55, 56, 63] [(0, 14)] S F = true) : WaR P N W mx' mm := by
  unfold WaR wX
  rw [show mx'.1 55 = mx.1 55 from fl2_ic hf (kps_c hk (by simp)), show mx'.1 (55 + 1) = mx.1 (55 + 1) from fl2_ic hf (kps_c hk (by simp)), show mx'.1 0 14 = mx.1 0 14 from fl2_i hf (kps_g hk (by simp)), show mx'.2.1 63 = mx.2.1 63 from fl2_jc hf (kps_c hk (by simp))]
  exact h
theorem SiR_m {P : Nat → Nat} {N : Nat} {W : Nat → Nat} {mx mm mm' : zM} {S : List Nat} {F : List (Nat × Nat)} (h : SiR P N W mx mm) (hf : fl2 S F mm mm') (hk : kps [53] [(0, 77), (0, 78)] S F = true) : SiR P N W mx mm' := by
  unfold SiR
  rw [show mm'.1 53 = mm.1 53 from fl2_ic hf (kps_c hk (by simp)), show mm'.1 0 77 = mm.1 0 77 from fl2_i hf (kps_g hk (by simp)), show mm'.1 0 78 = mm.1 0 78 from fl2_i hf (kps_g hk (by simp))]
  exact h
theorem SiR_x {P : Nat → Nat} {N : Nat} {W : Nat → Nat} {mx mx' mm : zM} {S : List Nat} {F : List (Nat × Nat)} (h : SiR P N W mx mm) (hf : fl2 S F mx mx') (hk : kps [49, 50, 53] [(48, 2), (48, 3), (48, 7), (48, 8)] S F = true) : SiR P N W mx' mm := by
  unfold SiR
  rw [show mx'.1 49 = mx.1 49 from fl2_ic hf (kps_c hk (by simp)), show mx'.1 50 = mx.1 50 from fl2_ic hf (kps_c hk (by simp)), show mx'.1 53 = mx.1 53 from fl2_ic hf (kps_c hk (by simp)), show mx'.1 48 2 = mx.1 48 2 from fl2_i hf (kps_g hk (by simp)), show mx'.1 48 3 = mx.1 48 3 from fl2_i hf (kps_g hk (by simp)), show mx'.1 48 7 = mx.1 48 7 from fl2_i hf (kps_g hk (by simp)), show mx'.1 48 8 = mx.1 48 8 from fl2_i hf (kps_g hk (by simp))]
  exact h
/-- the reference, asked: all worlds are laid -/
def MaK (P : Nat → Nat) (N : Nat) (W D : Nat → Nat) (mm : zM) : Prop := mm.1 0 40 = -1 ∧ LMx P 16 N W D mm ∧ (mm.1 0 46 ≠ 0 → LKm P 16 N W mm)
theorem MaK_fl {P : Nat → Nat} {N : Nat} {W D : Nat → Nat} {m m' : zM} {S : List Nat} {F : List (Nat × Nat)} (h : MaK P N W D m) (hf : fl2 S F m m') (hk : kps [27, 28, 29] [(0, 41)] S F = true) (hk2 : kps [30] [] S F = true) (hk3 : kps [32, 35, 36] [] S F = true) (hk4 : kps [] [(0, 40), (0, 46)] S F = true) : MaK P N W D m' := by
  refine ⟨by rw [fl2_i hf (kps_g hk4 (by simp))]; exact h.1, LMx_fl h.2.1 hf hk hk2, fun z => LKm_fl (h.2.2 ?_) hf hk3⟩
  rw [fl2_i hf (kps_g hk4 (by simp))] at z
  exact z
/-- a question is over: the class as it was, the reference has worked in its scratch -/
theorem qry {P : Nat → Nat} {N : Nat} {W D pr sp : Nat → Nat} {b : Nat} {mx mm mm' : zM} (hc : CoR mx mm) (h : Told P N W D pr sp b mx mm) (hf : fl2 MS MF mm mm') (hm : MCa P mm') : IvW mx mm' := by
  obtain ⟨h1, h2, h3, h4⟩ := h
  refine ⟨CoR_m hc hf (by decide), Or.inr ⟨P, N, W, D, pr, sp, b, h1, ⟨?_, tM_fl h2.2.1 hf (by decide), hm⟩, WaR_m h3 hf (by decide), SiR_m h4 hf (by decide)⟩⟩
  rw [fl2_i hf (by decide)]; exact h2.1
theorem MaK_c {P : Nat → Nat} {N : Nat} {W D : Nat → Nat} {m : zM} (h : MaK P N W D m) (z1 : nmz N W) (z2 : nmz N D) : MCa P m := MCa_of (Or.inl rfl) (Or.inl ⟨rfl, rfl⟩) h.1 h.2.1 z1 z2 h.2.2
theorem qryA {P : Nat → Nat} {N : Nat} {W D pr sp : Nat → Nat} {b : Nat} {mx mm mm' : zM} (hc : CoR mx mm) (h : Told P N W D pr sp b mx mm) (hf : fl2 MS MF mm mm') (hm : MaK P N W D mm') : IvW mx mm' := qry hc h hf (MaK_c hm h.1.1.2.2.2.2.1 h.1.1.2.2.2.2.2.1)
theorem askT {P : Nat → Nat} {N : Nat} {W D pr sp : Nat → Nat} {b : Nat} {mx mm : zM} (h : Told P N W D pr sp b mx mm) : ok (f_MO_isAsked mm) (fun p => p.1 = true ∧ fl2 MS MF mm p.2 ∧ tM 23 P p.2 ∧ MaK P N W D p.2) := by
  obtain ⟨⟨⟨h1, h2, h3, h4, h5, h6, h7⟩, _⟩, ⟨g1, g2, g3⟩, _⟩ := h
  refine ok_mo (askedM h1 g2 (by rw [g1]; decide) h4 h5 h6 h3 g3) (fun p ⟨a1, a2, a3, a4, a5⟩ => ⟨a1, fl2_su a2 (by decide), tM_fl g2 a2 (by decide), a3, a4, a5⟩)
theorem wldT {P : Nat → Nat} {N : Nat} {W D pr sp : Nat → Nat} {b : Nat} {x : Int32} {mx mm : zM} (h : Told P N W D pr sp b mx mm) : ok (f_MO_isWorld x mm) (fun p => (p.1 = true ↔ ∃ k, k < N ∧ x = nI k) ∧ fl2 MS MF mm p.2 ∧ tM 23 P p.2 ∧ MaK P N W D p.2) := by
  obtain ⟨⟨⟨h1, h2, h3, h4, h5, h6, h7⟩, _⟩, ⟨g1, g2, g3⟩, _⟩ := h
  refine ok_mo (isWorldM h1 g2 (by rw [g1]; decide) h4 h5 h6 h3 g3) (fun p ⟨a1, a2, a3, a4, a5⟩ => ⟨a1, fl2_su a2 (by decide), tM_fl g2 a2 (by decide), a3, a4, a5⟩)
theorem wldX {P : Nat → Nat} {N : Nat} {W D pr sp : Nat → Nat} {b : Nat} {x : Int32} {mx mm : zM} (h : Told P N W D pr sp b mx mm) : f_PA_isWorld x mx = true ↔ ∃ k, k < N ∧ x = nI k := by
  obtain ⟨⟨⟨h1, h2, h3, h4, h5, h6, h7⟩, r, g1, g2, g3, _⟩, _⟩ := h
  unfold f_PA_isWorld
  rw [if_neg (by rw [g1]; decide), g3.1.1.1]
  constructor
  · intro z
    rcases num_or x N with y | y
    · exact y
    · rcases rng_f (n := N) (by omega) y with s | s
      · rw [if_pos s] at z; cases z
      · by_cases s2 : x < 0
        · rw [if_pos s2] at z; cases z
        · rw [if_neg s2, if_pos s] at z; cases z
  · rintro ⟨k, k1, k2⟩
    rw [k2, if_neg (nI_pos (by omega)), if_neg (nI_ge k1 (by omega))]
theorem ntX {mx mm : zM} {x : Int32} (h : NtR mx mm) : f_PA_isWorld x mx = false := by
  unfold f_PA_isWorld
  rw [if_pos h.1]
theorem ntA {mx mm : zM} (h : NtR mx mm) : f_MO_isAsked mm = some (false, mm) := by
  unfold f_MO_isAsked
  rw [if_pos h.2.1]
theorem ntW {mx mm : zM} {x : Int32} (h : NtR mx mm) : f_MO_isWorld x mm = some (false, mm) := by
  unfold f_MO_isWorld
  rw [ntA h]
  rfl
