def zfl : List Cond := flatC (Jvm.Cond.and given_1 narrow_1)
def ztm (i : Nat) : Term := .string "ProtocolAtlas$Reader" (zsI.getD i 0)
def zpe : List (List Nat) := [[13, 14, 15, 16, 17, 18, 19, 20, 21, 22, 23, 24, 25, 26, 27, 28, 29, 30, 31, 32, 33, 34, 35, 36, 37, 38, 39, 40, 41, 42, 43, 44, 45, 46, 47, 48, 49, 50, 51, 52, 53, 54, 55, 56, 57, 58, 59, 60, 61, 62, 63, 64, 65, 66, 67, 68, 69, 70, 71, 72, 73, 74, 75, 76, 77, 78, 79, 80, 81, 82, 83, 84, 85, 86, 87, 88, 89, 90, 91, 92, 93, 94, 95, 96, 97, 98, 99, 100, 101, 102, 103, 104, 105, 106, 107, 108, 109, 110, 111, 112, 113, 114, 115, 116, 117], [122, 123, 124, 125, 126, 127], [133, 134, 135, 136, 137, 138], [145, 146, 147, 148], [156, 157, 158, 159, 160, 161, 162, 163], [172, 173, 174, 175, 176], [186, 187, 188, 189, 190], [201, 202, 203, 204], [216, 217, 218, 219, 220], [233, 234, 235], [249, 250, 251, 252, 253], [268, 269], [285, 286, 287, 288], [305, 306], [324, 325, 326, 327, 328], [347, 348], [368, 369, 370, 371, 372, 373, 374], [395, 396, 397, 398, 399], [421, 422, 423, 424], [447, 448, 449, 450]]
def zpn : List (List Nat) := [[9999, 128, 139, 149, 164, 177, 191, 205, 221, 236, 254, 270, 289, 307, 329, 349, 375, 400, 425, 451], [9999, 9999, 140, 150, 165, 178, 192, 206, 222, 237, 255, 271, 290, 308, 330, 350, 376, 401, 426, 452], [9999, 9999, 9999, 151, 166, 179, 193, 207, 223, 238, 256, 272, 291, 309, 331, 351, 377, 402, 427, 453], [9999, 9999, 9999, 9999, 167, 180, 194, 208, 224, 239, 257, 273, 292, 310, 332, 352, 378, 403, 428, 454], [9999, 9999, 9999, 9999, 9999, 181, 195, 209, 225, 240, 258, 274, 293, 311, 333, 353, 379, 404, 429, 455], [9999, 9999, 9999, 9999, 9999, 9999, 196, 210, 226, 241, 259, 275, 294, 312, 334, 354, 380, 405, 430, 456], [9999, 9999, 9999, 9999, 9999, 9999, 9999, 211, 227, 242, 260, 276, 295, 313, 335, 355, 381, 406, 431, 457], [9999, 9999, 9999, 9999, 9999, 9999, 9999, 9999, 228, 243, 261, 277, 296, 314, 336, 356, 382, 407, 432, 458], [9999, 9999, 9999, 9999, 9999, 9999, 9999, 9999, 9999, 244, 262, 278, 297, 315, 337, 357, 383, 408, 433, 459], [9999, 9999, 9999, 9999, 9999, 9999, 9999, 9999, 9999, 9999, 263, 279, 298, 316, 338, 358, 384, 409, 434, 460], [9999, 9999, 9999, 9999, 9999, 9999, 9999, 9999, 9999, 9999, 9999, 280, 299, 317, 339, 359, 385, 410, 435, 461], [9999, 9999, 9999, 9999, 9999, 9999, 9999, 9999, 9999, 9999, 9999, 9999, 300, 318, 340, 360, 386, 411, 436, 462], [9999, 9999, 9999, 9999, 9999, 9999, 9999, 9999, 9999, 9999, 9999, 9999, 9999, 319, 341, 361, 387, 412, 437, 463], [9999, 9999, 9999, 9999, 9999, 9999, 9999, 9999, 9999, 9999, 9999, 9999, 9999, 9999, 342, 362, 388, 413, 438, 464], [9999, 9999, 9999, 9999, 9999, 9999, 9999, 9999, 9999, 9999, 9999, 9999, 9999, 9999, 9999, 363, 389, 414, 439, 465], [9999, 9999, 9999, 9999, 9999, 9999, 9999, 9999, 9999, 9999, 9999, 9999, 9999, 9999, 9999, 9999, 390, 415, 440, 466], [9999, 9999, 9999, 9999, 9999, 9999, 9999, 9999, 9999, 9999, 9999, 9999, 9999, 9999, 9999, 9999, 9999, 416, 441, 467], [9999, 9999, 9999, 9999, 9999, 9999, 9999, 9999, 9999, 9999, 9999, 9999, 9999, 9999, 9999, 9999, 9999, 9999, 442, 468], [9999, 9999, 9999, 9999, 9999, 9999, 9999, 9999, 9999, 9999, 9999, 9999, 9999, 9999, 9999, 9999, 9999, 9999, 9999, 469], [9999, 9999, 9999, 9999, 9999, 9999, 9999, 9999, 9999, 9999, 9999, 9999, 9999, 9999, 9999, 9999, 9999, 9999, 9999, 9999]]
theorem zf_ex : ∀ i, i < zsN → zfl[([9, 118, 129, 141, 152, 168, 182, 197, 212, 229, 245, 264, 281, 301, 320, 343, 364, 391, 417, 443] : List Nat).getD i 0]? = some (Cond.exactly (ztm i) "java/lang/String") := by decide +kernel
theorem zf_co : ∀ i, i < zsN → zfl[([10, 119, 130, 142, 153, 169, 183, 198, 213, 230, 246, 265, 282, 302, 321, 344, 365, 392, 418, 444] : List Nat).getD i 0]? = some (Cond.eq (.field (ztm i) "java/lang/String" "coder" "B") (.int 0)) := by decide +kernel
theorem zf_ar : ∀ i, i < zsN → zfl[([11, 120, 131, 143, 154, 170, 184, 199, 214, 231, 247, 266, 283, 303, 322, 345, 366, 393, 419, 445] : List Nat).getD i 0]? = some (Cond.arrayOf (.field (ztm i) "java/lang/String" "value" "[B") .byte) := by decide +kernel
theorem zf_le : ∀ i, i < zsN → zfl[([12, 121, 132, 144, 155, 171, 185, 200, 215, 232, 248, 267, 284, 304, 323, 346, 367, 394, 420, 446] : List Nat).getD i 0]? = some (Cond.eq (.length (.field (ztm i) "java/lang/String" "value" "[B")) (.int (Int32.ofNat (zsL.getD i 0)))) := by decide +kernel
theorem zf_el : ∀ i, i < zsN → ∀ j, j < zsL.getD i 0 → zfl[(zpe.getD i []).getD j 0]? = some (Cond.eq (.elem (.field (ztm i) "java/lang/String" "value" "[B") (.int (Int32.ofNat j))) (.int ((zsB.getD i []).getD j 0))) := by decide +kernel
theorem zf_ne : ∀ i, i < zsN → ∀ j, j < zsN → i ≠ j → (zfl[(zpn.getD i []).getD j 0]? = some (Cond.not (Cond.eq (ztm i) (ztm j))) ∨ zfl[(zpn.getD j []).getD i 0]? = some (Cond.not (Cond.eq (ztm j) (ztm i)))) := by decide +kernel
theorem zs_sr : ∀ i, i < zsN → Cond.stringRef "ProtocolAtlas$Reader" (zsI.getD i 0) (zsT.getD i "") ∈ lw_tbl := by decide +kernel
set_option maxRecDepth 100000 in
theorem lx_of {p : Program} {s : State} {m : MethodId} {meth : Method} {c : Code} {b L : Nat} {xs : Nat → Int32} (C0 : lw_At p s m meth c b L xs) : ∃ (D : va_G) (cA : Nat → ClassId) (adx adm : Nat → Nat), lxC p s m meth c b L xs D cA adx adm := by
  obtain ⟨hx, hb, hr, hml, hown, hts, hX, hbl, hlocks, hgv⟩ := id C0
  obtain ⟨c0, iS0, hKn0⟩ := u_known (C := R_Atlas) (T := F_Atlas) (N := 17) (n := 17) hts i_Atlas (hts (.instantiable R_Atlas 17) (ltb (ztb_1 (i := 130) rfl rfl)))
  obtain ⟨c1, iS1, hKn1⟩ := u_known (C := R_Bytes) (T := F_Bytes) (N := 2) (n := 2) hts i_Bytes (hts (.instantiable R_Bytes 2) (ltb (ztb_1 (i := 30) rfl rfl)))
  obtain ⟨c2, iS2, hKn2⟩ := u_known (C := R_Index) (T := F_Index) (N := 2) (n := 2) hts i_Index (hts (.instantiable R_Index 2) (ltb (ztb_1 (i := 50) rfl rfl)))
  obtain ⟨c3, iS3, hKn3⟩ := u_known (C := R_Joined) (T := F_Joined) (N := 16) (n := 16) hts i_Joined (hts (.instantiable R_Joined 16) (ltb (ztb_2 (i := 166) rfl rfl)))
  obtain ⟨c4, iS4, hKn4⟩ := u_known (C := R_Reader) (T := F_Reader) (N := 9) (n := 9) hts i_Reader (hts (.instantiable R_Reader 9) (ltb (ztb_2 (i := 16) rfl rfl)))
  obtain ⟨c5, iS5, hKn5⟩ := u_known (C := R_Row) (T := F_Row) (N := 8) (n := 8) hts i_Row (hts (.instantiable R_Row 8) (ltb (ztb_2 (i := 29) rfl rfl)))
  obtain ⟨c6, iS6, hKn6⟩ := u_known (C := R_Search) (T := F_Search) (N := 9) (n := 9) hts i_Search (hts (.instantiable R_Search 9) (ltb (ztb_1 (i := 44) rfl rfl)))
  obtain ⟨c7, iS7, hKn7⟩ := u_known (C := R_Sight) (T := F_Sight) (N := 10) (n := 10) hts i_Sight (hts (.instantiable R_Sight 10) (ltb (ztb_1 (i := 214) rfl rfl)))
  obtain ⟨c8, iS8, hKn8⟩ := u_known (C := R_Study) (T := F_Study) (N := 16) (n := 16) hts i_Study (hts (.instantiable R_Study 16) (ltb (ztb_2 (i := 160) rfl rfl)))
  obtain ⟨c9, iS9, hKn9⟩ := u_known (C := R_Table) (T := F_Table) (N := 12) (n := 12) hts i_Table (hts (.instantiable R_Table 12) (ltb (ztb_2 (i := 22) rfl rfl)))
  obtain ⟨c10, iS10, hKn10⟩ := u_known (C := R_World) (T := F_World) (N := 5) (n := 5) hts i_World (hts (.instantiable R_World 5) (ltb (ztb_1 (i := 64) rfl rfl)))
  obtain ⟨c11, iS11, hKn11⟩ := u_known (C := R_PA) (T := F_PA) (N := 16) (n := 16) hts i_PA (hts (.instantiable R_PA 16) (ltb (ztb_1 (i := 22) rfl rfl)))
  obtain ⟨c12, iS12, hKn12⟩ := u_known (C := R_MO) (T := F_MO) (N := 85) (n := 85) hts i_MO (hts (.instantiable R_MO 85) (ltb (ztb_6 (i := 222) rfl rfl)))
  obtain ⟨dC, dI, hKc⟩ : ∃ (dC : Nat → ClassId) (dI : Nat → Nat → Nat), ∀ (k : Nat) (q : vw_C), zcl[k]? = some q → u_Kn s q.1 q.2.1 q.2.2 (dC k) (dI k) := by
    refine ⟨fun k => if k = 0 then c0 else if k = 1 then c1 else if k = 2 then c2 else if k = 3 then c3 else if k = 4 then c4 else if k = 5 then c5 else if k = 6 then c6 else if k = 7 then c7 else if k = 8 then c8 else if k = 9 then c9 else if k = 10 then c10 else if k = 11 then c11 else if k = 12 then c12 else c0, fun k => if k = 0 then iS0 else if k = 1 then iS1 else if k = 2 then iS2 else if k = 3 then iS3 else if k = 4 then iS4 else if k = 5 then iS5 else if k = 6 then iS6 else if k = 7 then iS7 else if k = 8 then iS8 else if k = 9 then iS9 else if k = 10 then iS10 else if k = 11 then iS11 else if k = 12 then iS12 else iS0, ?_⟩
    intro k q hq
    match k, hq with
    | 0, hq => cases hq; exact hKn0
    | 1, hq => cases hq; exact hKn1
    | 2, hq => cases hq; exact hKn2
    | 3, hq => cases hq; exact hKn3
    | 4, hq => cases hq; exact hKn4
    | 5, hq => cases hq; exact hKn5
    | 6, hq => cases hq; exact hKn6
    | 7, hq => cases hq; exact hKn7
    | 8, hq => cases hq; exact hKn8
    | 9, hq => cases hq; exact hKn9
    | 10, hq => cases hq; exact hKn10
    | 11, hq => cases hq; exact hKn11
    | 12, hq => cases hq; exact hKn12
    | k + 13, hq => simp [zcl] at hq
  have arr : ∀ ty : FieldType, (∀ C, ty ≠ .object C) → Cond.arrayClass ty ∈ ztb → ∃ cN : ClassId, ArrOfT s cN ty ∧ va_RA s cN ty := by
    intro ty hty hw
    obtain ⟨cN, kA, comp, h1, h2, h3⟩ := Cond.arrayClass_spec (hts _ (ltb hw))
    refine ⟨cN, fun n z => ⟨(fun k h => by cases h), kA, h2, comp, h3⟩, ?_⟩
    cases ty <;> first | exact h1 | exact absurd rfl (hty _)
  obtain ⟨a0, ha0⟩ := arr .int (fun _ h => by cases h) (ztb_1 (i := 42) rfl rfl)
  obtain ⟨a1, ha1⟩ := arr .boolean (fun _ h => by cases h) (ztb_1 (i := 212) rfl rfl)
  obtain ⟨a2, ha2⟩ := arr .char (fun _ h => by cases h) (ztb_8 (i := 5) rfl rfl)
  obtain ⟨a3, ha3⟩ := arr .long (fun _ h => by cases h) (ztb_1 (i := 62) rfl rfl)
  have hO : va_AO "ProtocolAtlas$Row" s := va_AO.of (hts (.arrayOver (.object "ProtocolAtlas$Row")) (by decide +kernel))
  obtain ⟨comp, a4, kA, f1, -, f2, f3, f4⟩ := Cond.arrayOver_spec hO
  have ha4 : ArrOfT s a4 (.object "ProtocolAtlas$Row") ∧ va_RA s a4 (.object "ProtocolAtlas$Row") := ⟨fun n z => ⟨(fun k h => by cases h), kA, f2, comp, f3⟩, kA, comp, f2, f3, f1, f4⟩
  have hfl : ∀ w ∈ zfl, w.before #[Value.ref b] s = true := flat_of_before _ hgv
  have at_ : ∀ {i : Nat} {w : Cond}, zfl[i]? = some w → w.before #[Value.ref b] s = true := fun h => hfl _ (List.mem_of_getElem? h)
  have hA : ∀ a : Nat, a < s.heap.size → ¬ zA0 s a := fun a h z => absurd (show s.heap.size ≤ a from z) (Nat.not_le.mpr h)
  obtain ⟨adK, adV, hvS, hvE⟩ := vk_Sof (args := #[Value.ref b]) (s := s) (N := zsN) (tm := ztm) (len := zsL) (byt := zsB) (A := zA0 s) (fun i hi => (zs_len i hi).1) (fun i hi => at_ (zf_ex i hi)) (fun i hi => at_ (zf_co i hi)) (fun i hi => at_ (zf_ar i hi)) (fun i hi => at_ (zf_le i hi)) (fun i hi j hj => at_ (zf_el i hi j hj)) (fun i j hi hj h => (zf_ne i hi j hj h).imp at_ at_) hA
  have hvR : ∀ i : Nat, i < zsN → vk_R "ProtocolAtlas$Reader" (zsI.getD i 0) (zsT.getD i "") (adK i) s := fun i hi => vk_R.of (hts _ (zs_sr i hi)) (hvE i hi)
  have hZ1 : va_Z "java/lang/String" "COMPACT_STRINGS" "Z" (.int 1) (zA0 s) s s.heap := va_Zof (args := #[Value.ref b]) (hts _ (by decide +kernel)) (hts _ (ltb (ztb_1 (i := 15) rfl rfl))) (va_eqi (at_ (i := 4) (by decide +kernel))) hA
  have hZ2 : va_Zq "jdk/internal/util/Preconditions" "SIOOBE_FORMATTER" "Ljava/util/function/BiFunction;" (zA0 s) s s.heap := va_Zqof (args := #[Value.ref b]) (hts _ (by decide +kernel)) (hts _ (ltb (ztb_1 (i := 17) rfl rfl))) (at_ (i := 5) (by decide +kernel)) hA
  obtain ⟨t2, hZ2⟩ : ∃ t2 : Nat, va_Z "jdk/internal/util/Preconditions" "SIOOBE_FORMATTER" "Ljava/util/function/BiFunction;" .null (zA0 s) s s.heap ∨ va_Z "jdk/internal/util/Preconditions" "SIOOBE_FORMATTER" "Ljava/util/function/BiFunction;" (.ref t2) (zA0 s) s s.heap := by
    rcases hZ2 with h | ⟨t, h⟩
    · exact ⟨0, Or.inl h⟩
    · exact ⟨t, Or.inr h⟩
  have mk : ∀ B : Nat, ∃ ad : Nat → Nat, zstr ad (zA0 s) s ∧ ∀ k, k < 901 → ad k = B + k := by
    intro B
    refine ⟨fun k => if k < 901 then B + k else if k < 1100 then adK (k - 1000) else if k < 1200 then adV (k - 1100) else t2, ⟨?_, ?_, hZ1, ?_⟩, fun k hk => if_pos hk⟩
    · have e1 : ∀ i, i < zsN → (if 1000 + i < 901 then B + (1000 + i) else if 1000 + i < 1100 then adK (1000 + i - 1000) else if 1000 + i < 1200 then adV (1000 + i - 1100) else t2) = adK i := by
        intro i hi
        have : i < 20 := hi
        rw [if_neg (by omega), if_pos (by omega), show 1000 + i - 1000 = i by omega]
      have e2 : ∀ i, i < zsN → (if 1100 + i < 901 then B + (1100 + i) else if 1100 + i < 1100 then adK (1100 + i - 1000) else if 1100 + i < 1200 then adV (1100 + i - 1100) else t2) = adV i := by
        intro i hi
        have : i < 20 := hi
        rw [if_neg (by omega), if_neg (by omega), if_pos (by omega), show 1100 + i - 1100 = i by omega]
      refine ⟨fun i hi => ?_, fun i j hi hj h => ?_⟩
      · have := hvS.1 i hi
        simp only [e1 i hi, e2 i hi]
        exact this
      · simp only [e1 i hi, e1 j hj] at h
        exact hvS.2 i j hi hj h
    · intro i hi
      have h20 : i < 20 := hi
      have := hvR i hi
      show vk_R _ _ _ (if 1000 + i < 901 then B + (1000 + i) else if 1000 + i < 1100 then adK (1000 + i - 1000) else if 1000 + i < 1200 then adV (1000 + i - 1100) else t2) s
      rw [if_neg (by omega), if_pos (by omega), show 1000 + i - 1000 = i by omega]
      exact this
    · exact hZ2
  obtain ⟨adx, hSx, hax⟩ := mk s.heap.size
  obtain ⟨adm, hSm, ham⟩ := mk (s.heap.size + 138)
  refine ⟨(dC, dI), fun t => match t with | 0 => a0 | 1 => a1 | 2 => a2 | 3 => a3 | _ => a4, adx, adm, C0, ⟨hKc, ?_⟩, fun w hw => va_Nw.of (znw_in w hw).2 (hts w (znw_in w hw).1), hO, hSx, hSm, hax, ham⟩
  intro k q hk
  match k, hk with
  | 0, hk => cases hk; exact ha0
  | 1, hk => cases hk; exact ha1
  | 2, hk => cases hk; exact ha2
  | 3, hk => cases hk; exact ha3
  | 4, hk => cases hk; exact ha4
  | k + 5, hk => simp at hk
