def s_Bytes_init : zS := (⟨R_Bytes, "<init>", "()V"⟩, prog_3_method_1_code, 1, none, { frames := 1, cells := 1, slots := 1600, locals := 12 })
theorem d_Bytes_init_0 : decode s_Bytes_init.2.1 0 = .ok (.aload_n 0, 1) := by decide +kernel
theorem d_Bytes_init_1 : decode s_Bytes_init.2.1 1 = .ok (.invokespecial 3, 3) := by decide +kernel
theorem d_Bytes_init_4 : decode s_Bytes_init.2.1 4 = .ok (.aload_n 0, 1) := by decide +kernel
theorem d_Bytes_init_5 : decode s_Bytes_init.2.1 5 = .ok (.sipush 1600, 3) := by decide +kernel
theorem d_Bytes_init_8 : decode s_Bytes_init.2.1 8 = .ok (.newarray .int, 2) := by decide +kernel
theorem d_Bytes_init_10 : decode s_Bytes_init.2.1 10 = .ok (.putfield 9, 3) := by decide +kernel
theorem d_Bytes_init_13 : decode s_Bytes_init.2.1 13 = .ok (.aload_n 0, 1) := by decide +kernel
theorem d_Bytes_init_14 : decode s_Bytes_init.2.1 14 = .ok (.iconst 0, 1) := by decide +kernel
theorem d_Bytes_init_15 : decode s_Bytes_init.2.1 15 = .ok (.putfield 15, 3) := by decide +kernel
theorem d_Bytes_init_18 : decode s_Bytes_init.2.1 18 = .ok (.return_, 1) := by decide +kernel
theorem ty2_Bytes : ∀ k, k < 2 → (t_Bytes k = .int ∨ t_Bytes k = .boolean ∨ t_Bytes k = .long ∨ (∃ cn, t_Bytes k = .object cn) ∨ ∃ t, t_Bytes k = .array t) := by
  intro k hk
  have h : ∀ k, k < 2 → (match t_Bytes k with | .int => true | .boolean => true | .long => true | .object _ => true | .array _ => true | _ => false) = true := by decide +kernel
  have h1 := h k hk
  revert h1
  cases t_Bytes k <;> simp
def s_Index_init : zS := (⟨R_Index, "<init>", "()V"⟩, prog_4_method_1_code, 1, none, { frames := 1, cells := 2, slots := 4096, locals := 12 })
theorem d_Index_init_0 : decode s_Index_init.2.1 0 = .ok (.aload_n 0, 1) := by decide +kernel
theorem d_Index_init_1 : decode s_Index_init.2.1 1 = .ok (.invokespecial 3, 3) := by decide +kernel
theorem d_Index_init_4 : decode s_Index_init.2.1 4 = .ok (.aload_n 0, 1) := by decide +kernel
theorem d_Index_init_5 : decode s_Index_init.2.1 5 = .ok (.sipush 2048, 3) := by decide +kernel
theorem d_Index_init_8 : decode s_Index_init.2.1 8 = .ok (.newarray .long, 2) := by decide +kernel
theorem d_Index_init_10 : decode s_Index_init.2.1 10 = .ok (.putfield 11, 3) := by decide +kernel
theorem d_Index_init_13 : decode s_Index_init.2.1 13 = .ok (.aload_n 0, 1) := by decide +kernel
theorem d_Index_init_14 : decode s_Index_init.2.1 14 = .ok (.sipush 2048, 3) := by decide +kernel
theorem d_Index_init_17 : decode s_Index_init.2.1 17 = .ok (.newarray .int, 2) := by decide +kernel
theorem d_Index_init_19 : decode s_Index_init.2.1 19 = .ok (.putfield 15, 3) := by decide +kernel
theorem d_Index_init_22 : decode s_Index_init.2.1 22 = .ok (.return_, 1) := by decide +kernel
theorem ty2_Index : ∀ k, k < 2 → (t_Index k = .int ∨ t_Index k = .boolean ∨ t_Index k = .long ∨ (∃ cn, t_Index k = .object cn) ∨ ∃ t, t_Index k = .array t) := by
  intro k hk
  have h : ∀ k, k < 2 → (match t_Index k with | .int => true | .boolean => true | .long => true | .object _ => true | .array _ => true | _ => false) = true := by decide +kernel
  have h1 := h k hk
  revert h1
  cases t_Index k <;> simp
def s_World_init : zS := (⟨R_World, "<init>", "()V"⟩, prog_12_method_1_code, 1, none, { frames := 1, cells := 3, slots := 12, locals := 12 })
theorem d_World_init_0 : decode s_World_init.2.1 0 = .ok (.aload_n 0, 1) := by decide +kernel
theorem d_World_init_1 : decode s_World_init.2.1 1 = .ok (.invokespecial 3, 3) := by decide +kernel
theorem d_World_init_4 : decode s_World_init.2.1 4 = .ok (.aload_n 0, 1) := by decide +kernel
theorem d_World_init_5 : decode s_World_init.2.1 5 = .ok (.iconst (-1), 1) := by decide +kernel
theorem d_World_init_6 : decode s_World_init.2.1 6 = .ok (.putfield 9, 3) := by decide +kernel
theorem d_World_init_9 : decode s_World_init.2.1 9 = .ok (.aload_n 0, 1) := by decide +kernel
theorem d_World_init_10 : decode s_World_init.2.1 10 = .ok (.iconst 0, 1) := by decide +kernel
theorem d_World_init_11 : decode s_World_init.2.1 11 = .ok (.putfield 15, 3) := by decide +kernel
theorem d_World_init_14 : decode s_World_init.2.1 14 = .ok (.aload_n 0, 1) := by decide +kernel
theorem d_World_init_15 : decode s_World_init.2.1 15 = .ok (.iconst 4, 1) := by decide +kernel
theorem d_World_init_16 : decode s_World_init.2.1 16 = .ok (.newarray .int, 2) := by decide +kernel
theorem d_World_init_18 : decode s_World_init.2.1 18 = .ok (.putfield 18, 3) := by decide +kernel
theorem d_World_init_21 : decode s_World_init.2.1 21 = .ok (.aload_n 0, 1) := by decide +kernel
theorem d_World_init_22 : decode s_World_init.2.1 22 = .ok (.iconst 4, 1) := by decide +kernel
theorem d_World_init_23 : decode s_World_init.2.1 23 = .ok (.newarray .int, 2) := by decide +kernel
theorem d_World_init_25 : decode s_World_init.2.1 25 = .ok (.putfield 22, 3) := by decide +kernel
theorem d_World_init_28 : decode s_World_init.2.1 28 = .ok (.aload_n 0, 1) := by decide +kernel
theorem d_World_init_29 : decode s_World_init.2.1 29 = .ok (.iconst 4, 1) := by decide +kernel
theorem d_World_init_30 : decode s_World_init.2.1 30 = .ok (.newarray .int, 2) := by decide +kernel
theorem d_World_init_32 : decode s_World_init.2.1 32 = .ok (.putfield 25, 3) := by decide +kernel
theorem d_World_init_35 : decode s_World_init.2.1 35 = .ok (.return_, 1) := by decide +kernel
theorem ty2_World : ∀ k, k < 5 → (t_World k = .int ∨ t_World k = .boolean ∨ t_World k = .long ∨ (∃ cn, t_World k = .object cn) ∨ ∃ t, t_World k = .array t) := by
  intro k hk
  have h : ∀ k, k < 5 → (match t_World k with | .int => true | .boolean => true | .long => true | .object _ => true | .array _ => true | _ => false) = true := by decide +kernel
  have h1 := h k hk
  revert h1
  cases t_World k <;> simp
def s_Search_init : zS := (⟨R_Search, "<init>", "()V"⟩, prog_8_method_1_code, 1, none, { frames := 2, cells := 16, slots := 7132, locals := 32 })
theorem d_Search_init_0 : decode s_Search_init.2.1 0 = .ok (.aload_n 0, 1) := by decide +kernel
theorem d_Search_init_1 : decode s_Search_init.2.1 1 = .ok (.invokespecial 3, 3) := by decide +kernel
theorem d_Search_init_4 : decode s_Search_init.2.1 4 = .ok (.aload_n 0, 1) := by decide +kernel
theorem d_Search_init_5 : decode s_Search_init.2.1 5 = .ok (.new 9, 3) := by decide +kernel
theorem d_Search_init_8 : decode s_Search_init.2.1 8 = .ok (.dup, 1) := by decide +kernel
theorem d_Search_init_9 : decode s_Search_init.2.1 9 = .ok (.invokespecial 11, 3) := by decide +kernel
theorem d_Search_init_12 : decode s_Search_init.2.1 12 = .ok (.putfield 12, 3) := by decide +kernel
theorem d_Search_init_15 : decode s_Search_init.2.1 15 = .ok (.aload_n 0, 1) := by decide +kernel
theorem d_Search_init_16 : decode s_Search_init.2.1 16 = .ok (.sipush 600, 3) := by decide +kernel
theorem d_Search_init_19 : decode s_Search_init.2.1 19 = .ok (.newarray .long, 2) := by decide +kernel
theorem d_Search_init_21 : decode s_Search_init.2.1 21 = .ok (.putfield 18, 3) := by decide +kernel
theorem d_Search_init_24 : decode s_Search_init.2.1 24 = .ok (.aload_n 0, 1) := by decide +kernel
theorem d_Search_init_25 : decode s_Search_init.2.1 25 = .ok (.sipush 600, 3) := by decide +kernel
theorem d_Search_init_28 : decode s_Search_init.2.1 28 = .ok (.newarray .long, 2) := by decide +kernel
theorem d_Search_init_30 : decode s_Search_init.2.1 30 = .ok (.putfield 22, 3) := by decide +kernel
theorem d_Search_init_33 : decode s_Search_init.2.1 33 = .ok (.aload_n 0, 1) := by decide +kernel
theorem d_Search_init_34 : decode s_Search_init.2.1 34 = .ok (.sipush 600, 3) := by decide +kernel
theorem d_Search_init_37 : decode s_Search_init.2.1 37 = .ok (.newarray .int, 2) := by decide +kernel
theorem d_Search_init_39 : decode s_Search_init.2.1 39 = .ok (.putfield 25, 3) := by decide +kernel
theorem d_Search_init_42 : decode s_Search_init.2.1 42 = .ok (.aload_n 0, 1) := by decide +kernel
theorem d_Search_init_43 : decode s_Search_init.2.1 43 = .ok (.sipush 600, 3) := by decide +kernel
theorem d_Search_init_46 : decode s_Search_init.2.1 46 = .ok (.newarray .int, 2) := by decide +kernel
theorem d_Search_init_48 : decode s_Search_init.2.1 48 = .ok (.putfield 29, 3) := by decide +kernel
theorem d_Search_init_51 : decode s_Search_init.2.1 51 = .ok (.aload_n 0, 1) := by decide +kernel
theorem d_Search_init_52 : decode s_Search_init.2.1 52 = .ok (.sipush 600, 3) := by decide +kernel
theorem d_Search_init_55 : decode s_Search_init.2.1 55 = .ok (.newarray .int, 2) := by decide +kernel
theorem d_Search_init_57 : decode s_Search_init.2.1 57 = .ok (.putfield 32, 3) := by decide +kernel
theorem d_Search_init_60 : decode s_Search_init.2.1 60 = .ok (.aload_n 0, 1) := by decide +kernel
theorem d_Search_init_61 : decode s_Search_init.2.1 61 = .ok (.new 35, 3) := by decide +kernel
theorem d_Search_init_64 : decode s_Search_init.2.1 64 = .ok (.dup, 1) := by decide +kernel
theorem d_Search_init_65 : decode s_Search_init.2.1 65 = .ok (.invokespecial 37, 3) := by decide +kernel
theorem d_Search_init_68 : decode s_Search_init.2.1 68 = .ok (.putfield 38, 3) := by decide +kernel
theorem d_Search_init_71 : decode s_Search_init.2.1 71 = .ok (.aload_n 0, 1) := by decide +kernel
theorem d_Search_init_72 : decode s_Search_init.2.1 72 = .ok (.new 35, 3) := by decide +kernel
theorem d_Search_init_75 : decode s_Search_init.2.1 75 = .ok (.dup, 1) := by decide +kernel
theorem d_Search_init_76 : decode s_Search_init.2.1 76 = .ok (.invokespecial 37, 3) := by decide +kernel
theorem d_Search_init_79 : decode s_Search_init.2.1 79 = .ok (.putfield 42, 3) := by decide +kernel
theorem d_Search_init_82 : decode s_Search_init.2.1 82 = .ok (.aload_n 0, 1) := by decide +kernel
theorem d_Search_init_83 : decode s_Search_init.2.1 83 = .ok (.iconst 0, 1) := by decide +kernel
theorem d_Search_init_84 : decode s_Search_init.2.1 84 = .ok (.putfield 45, 3) := by decide +kernel
theorem d_Search_init_87 : decode s_Search_init.2.1 87 = .ok (.return_, 1) := by decide +kernel
theorem ty2_Search : ∀ k, k < 9 → (t_Search k = .int ∨ t_Search k = .boolean ∨ t_Search k = .long ∨ (∃ cn, t_Search k = .object cn) ∨ ∃ t, t_Search k = .array t) := by
  intro k hk
  have h : ∀ k, k < 9 → (match t_Search k with | .int => true | .boolean => true | .long => true | .object _ => true | .array _ => true | _ => false) = true := by decide +kernel
  have h1 := h k hk
  revert h1
  cases t_Search k <;> simp
def s_Atlas_init : zS := (⟨R_Atlas, "<init>", "()V"⟩, prog_2_method_1_code, 1, none, { frames := 2, cells := 23, slots := 52733, locals := 32 })
theorem d_Atlas_init_0 : decode s_Atlas_init.2.1 0 = .ok (.aload_n 0, 1) := by decide +kernel
theorem d_Atlas_init_1 : decode s_Atlas_init.2.1 1 = .ok (.invokespecial 3, 3) := by decide +kernel
theorem d_Atlas_init_4 : decode s_Atlas_init.2.1 4 = .ok (.aload_n 0, 1) := by decide +kernel
theorem d_Atlas_init_5 : decode s_Atlas_init.2.1 5 = .ok (.iconst 0, 1) := by decide +kernel
theorem d_Atlas_init_6 : decode s_Atlas_init.2.1 6 = .ok (.putfield 9, 3) := by decide +kernel
theorem d_Atlas_init_9 : decode s_Atlas_init.2.1 9 = .ok (.aload_n 0, 1) := by decide +kernel
theorem d_Atlas_init_10 : decode s_Atlas_init.2.1 10 = .ok (.iconst 0, 1) := by decide +kernel
theorem d_Atlas_init_11 : decode s_Atlas_init.2.1 11 = .ok (.putfield 15, 3) := by decide +kernel
theorem d_Atlas_init_14 : decode s_Atlas_init.2.1 14 = .ok (.aload_n 0, 1) := by decide +kernel
theorem d_Atlas_init_15 : decode s_Atlas_init.2.1 15 = .ok (.new 18, 3) := by decide +kernel
theorem d_Atlas_init_18 : decode s_Atlas_init.2.1 18 = .ok (.dup, 1) := by decide +kernel
theorem d_Atlas_init_19 : decode s_Atlas_init.2.1 19 = .ok (.invokespecial 20, 3) := by decide +kernel
theorem d_Atlas_init_22 : decode s_Atlas_init.2.1 22 = .ok (.putfield 21, 3) := by decide +kernel
theorem d_Atlas_init_25 : decode s_Atlas_init.2.1 25 = .ok (.aload_n 0, 1) := by decide +kernel
theorem d_Atlas_init_26 : decode s_Atlas_init.2.1 26 = .ok (.sipush 600, 3) := by decide +kernel
theorem d_Atlas_init_29 : decode s_Atlas_init.2.1 29 = .ok (.newarray .long, 2) := by decide +kernel
theorem d_Atlas_init_31 : decode s_Atlas_init.2.1 31 = .ok (.putfield 25, 3) := by decide +kernel
theorem d_Atlas_init_34 : decode s_Atlas_init.2.1 34 = .ok (.aload_n 0, 1) := by decide +kernel
theorem d_Atlas_init_35 : decode s_Atlas_init.2.1 35 = .ok (.sipush 600, 3) := by decide +kernel
theorem d_Atlas_init_38 : decode s_Atlas_init.2.1 38 = .ok (.newarray .int, 2) := by decide +kernel
theorem d_Atlas_init_40 : decode s_Atlas_init.2.1 40 = .ok (.putfield 29, 3) := by decide +kernel
theorem d_Atlas_init_43 : decode s_Atlas_init.2.1 43 = .ok (.aload_n 0, 1) := by decide +kernel
theorem d_Atlas_init_44 : decode s_Atlas_init.2.1 44 = .ok (.sipush 600, 3) := by decide +kernel
theorem d_Atlas_init_47 : decode s_Atlas_init.2.1 47 = .ok (.newarray .int, 2) := by decide +kernel
theorem d_Atlas_init_49 : decode s_Atlas_init.2.1 49 = .ok (.putfield 33, 3) := by decide +kernel
theorem d_Atlas_init_52 : decode s_Atlas_init.2.1 52 = .ok (.aload_n 0, 1) := by decide +kernel
theorem d_Atlas_init_53 : decode s_Atlas_init.2.1 53 = .ok (.sipush 600, 3) := by decide +kernel
theorem d_Atlas_init_56 : decode s_Atlas_init.2.1 56 = .ok (.newarray .int, 2) := by decide +kernel
theorem d_Atlas_init_58 : decode s_Atlas_init.2.1 58 = .ok (.putfield 36, 3) := by decide +kernel
theorem d_Atlas_init_61 : decode s_Atlas_init.2.1 61 = .ok (.aload_n 0, 1) := by decide +kernel
theorem d_Atlas_init_62 : decode s_Atlas_init.2.1 62 = .ok (.sipush 600, 3) := by decide +kernel
theorem d_Atlas_init_65 : decode s_Atlas_init.2.1 65 = .ok (.newarray .int, 2) := by decide +kernel
theorem d_Atlas_init_67 : decode s_Atlas_init.2.1 67 = .ok (.putfield 39, 3) := by decide +kernel
theorem d_Atlas_init_70 : decode s_Atlas_init.2.1 70 = .ok (.aload_n 0, 1) := by decide +kernel
theorem d_Atlas_init_71 : decode s_Atlas_init.2.1 71 = .ok (.sipush 600, 3) := by decide +kernel
theorem d_Atlas_init_74 : decode s_Atlas_init.2.1 74 = .ok (.newarray .boolean, 2) := by decide +kernel
theorem d_Atlas_init_76 : decode s_Atlas_init.2.1 76 = .ok (.putfield 42, 3) := by decide +kernel
theorem d_Atlas_init_79 : decode s_Atlas_init.2.1 79 = .ok (.aload_n 0, 1) := by decide +kernel
theorem d_Atlas_init_80 : decode s_Atlas_init.2.1 80 = .ok (.sipush 2400, 3) := by decide +kernel
theorem d_Atlas_init_83 : decode s_Atlas_init.2.1 83 = .ok (.newarray .int, 2) := by decide +kernel
theorem d_Atlas_init_85 : decode s_Atlas_init.2.1 85 = .ok (.putfield 46, 3) := by decide +kernel
theorem d_Atlas_init_88 : decode s_Atlas_init.2.1 88 = .ok (.aload_n 0, 1) := by decide +kernel
theorem d_Atlas_init_89 : decode s_Atlas_init.2.1 89 = .ok (.sipush 2400, 3) := by decide +kernel
theorem d_Atlas_init_92 : decode s_Atlas_init.2.1 92 = .ok (.newarray .int, 2) := by decide +kernel
theorem d_Atlas_init_94 : decode s_Atlas_init.2.1 94 = .ok (.putfield 49, 3) := by decide +kernel
theorem d_Atlas_init_97 : decode s_Atlas_init.2.1 97 = .ok (.aload_n 0, 1) := by decide +kernel
theorem d_Atlas_init_98 : decode s_Atlas_init.2.1 98 = .ok (.sipush 601, 3) := by decide +kernel
theorem d_Atlas_init_101 : decode s_Atlas_init.2.1 101 = .ok (.newarray .int, 2) := by decide +kernel
theorem d_Atlas_init_103 : decode s_Atlas_init.2.1 103 = .ok (.putfield 52, 3) := by decide +kernel
theorem d_Atlas_init_106 : decode s_Atlas_init.2.1 106 = .ok (.aload_n 0, 1) := by decide +kernel
theorem d_Atlas_init_107 : decode s_Atlas_init.2.1 107 = .ok (.ldc 55, 2) := by decide +kernel
theorem d_Atlas_init_109 : decode s_Atlas_init.2.1 109 = .ok (.newarray .int, 2) := by decide +kernel
theorem d_Atlas_init_111 : decode s_Atlas_init.2.1 111 = .ok (.putfield 56, 3) := by decide +kernel
theorem d_Atlas_init_114 : decode s_Atlas_init.2.1 114 = .ok (.aload_n 0, 1) := by decide +kernel
theorem d_Atlas_init_115 : decode s_Atlas_init.2.1 115 = .ok (.sipush 600, 3) := by decide +kernel
theorem d_Atlas_init_118 : decode s_Atlas_init.2.1 118 = .ok (.newarray .int, 2) := by decide +kernel
theorem d_Atlas_init_120 : decode s_Atlas_init.2.1 120 = .ok (.putfield 59, 3) := by decide +kernel
theorem d_Atlas_init_123 : decode s_Atlas_init.2.1 123 = .ok (.aload_n 0, 1) := by decide +kernel
theorem d_Atlas_init_124 : decode s_Atlas_init.2.1 124 = .ok (.sipush 600, 3) := by decide +kernel
theorem d_Atlas_init_127 : decode s_Atlas_init.2.1 127 = .ok (.newarray .int, 2) := by decide +kernel
theorem d_Atlas_init_129 : decode s_Atlas_init.2.1 129 = .ok (.putfield 62, 3) := by decide +kernel
theorem d_Atlas_init_132 : decode s_Atlas_init.2.1 132 = .ok (.aload_n 0, 1) := by decide +kernel
theorem d_Atlas_init_133 : decode s_Atlas_init.2.1 133 = .ok (.new 65, 3) := by decide +kernel
theorem d_Atlas_init_136 : decode s_Atlas_init.2.1 136 = .ok (.dup, 1) := by decide +kernel
theorem d_Atlas_init_137 : decode s_Atlas_init.2.1 137 = .ok (.invokespecial 67, 3) := by decide +kernel
theorem d_Atlas_init_140 : decode s_Atlas_init.2.1 140 = .ok (.putfield 68, 3) := by decide +kernel
theorem d_Atlas_init_143 : decode s_Atlas_init.2.1 143 = .ok (.aload_n 0, 1) := by decide +kernel
theorem d_Atlas_init_144 : decode s_Atlas_init.2.1 144 = .ok (.new 65, 3) := by decide +kernel
theorem d_Atlas_init_147 : decode s_Atlas_init.2.1 147 = .ok (.dup, 1) := by decide +kernel
theorem d_Atlas_init_148 : decode s_Atlas_init.2.1 148 = .ok (.invokespecial 67, 3) := by decide +kernel
theorem d_Atlas_init_151 : decode s_Atlas_init.2.1 151 = .ok (.putfield 72, 3) := by decide +kernel
theorem d_Atlas_init_154 : decode s_Atlas_init.2.1 154 = .ok (.return_, 1) := by decide +kernel
theorem ty2_Atlas : ∀ k, k < 17 → (t_Atlas k = .int ∨ t_Atlas k = .boolean ∨ t_Atlas k = .long ∨ (∃ cn, t_Atlas k = .object cn) ∨ ∃ t, t_Atlas k = .array t) := by
  intro k hk
  have h : ∀ k, k < 17 → (match t_Atlas k with | .int => true | .boolean => true | .long => true | .object _ => true | .array _ => true | _ => false) = true := by decide +kernel
  have h1 := h k hk
  revert h1
  cases t_Atlas k <;> simp
def s_Sight_init : zS := (⟨R_Sight, "<init>", "()V"⟩, prog_9_method_1_code, 1, none, { frames := 1, cells := 6, slots := 1817, locals := 12 })
theorem d_Sight_init_0 : decode s_Sight_init.2.1 0 = .ok (.aload_n 0, 1) := by decide +kernel
theorem d_Sight_init_1 : decode s_Sight_init.2.1 1 = .ok (.invokespecial 3, 3) := by decide +kernel
theorem d_Sight_init_4 : decode s_Sight_init.2.1 4 = .ok (.aload_n 0, 1) := by decide +kernel
theorem d_Sight_init_5 : decode s_Sight_init.2.1 5 = .ok (.bipush 6, 2) := by decide +kernel
theorem d_Sight_init_7 : decode s_Sight_init.2.1 7 = .ok (.newarray .int, 2) := by decide +kernel
theorem d_Sight_init_9 : decode s_Sight_init.2.1 9 = .ok (.putfield 9, 3) := by decide +kernel
theorem d_Sight_init_12 : decode s_Sight_init.2.1 12 = .ok (.aload_n 0, 1) := by decide +kernel
theorem d_Sight_init_13 : decode s_Sight_init.2.1 13 = .ok (.bipush 6, 2) := by decide +kernel
theorem d_Sight_init_15 : decode s_Sight_init.2.1 15 = .ok (.newarray .int, 2) := by decide +kernel
theorem d_Sight_init_17 : decode s_Sight_init.2.1 17 = .ok (.putfield 15, 3) := by decide +kernel
theorem d_Sight_init_20 : decode s_Sight_init.2.1 20 = .ok (.aload_n 0, 1) := by decide +kernel
theorem d_Sight_init_21 : decode s_Sight_init.2.1 21 = .ok (.iconst 0, 1) := by decide +kernel
theorem d_Sight_init_22 : decode s_Sight_init.2.1 22 = .ok (.putfield 18, 3) := by decide +kernel
theorem d_Sight_init_25 : decode s_Sight_init.2.1 25 = .ok (.aload_n 0, 1) := by decide +kernel
theorem d_Sight_init_26 : decode s_Sight_init.2.1 26 = .ok (.iconst 0, 1) := by decide +kernel
theorem d_Sight_init_27 : decode s_Sight_init.2.1 27 = .ok (.putfield 22, 3) := by decide +kernel
theorem d_Sight_init_30 : decode s_Sight_init.2.1 30 = .ok (.aload_n 0, 1) := by decide +kernel
theorem d_Sight_init_31 : decode s_Sight_init.2.1 31 = .ok (.sipush 600, 3) := by decide +kernel
theorem d_Sight_init_34 : decode s_Sight_init.2.1 34 = .ok (.newarray .boolean, 2) := by decide +kernel
theorem d_Sight_init_36 : decode s_Sight_init.2.1 36 = .ok (.putfield 25, 3) := by decide +kernel
theorem d_Sight_init_39 : decode s_Sight_init.2.1 39 = .ok (.aload_n 0, 1) := by decide +kernel
theorem d_Sight_init_40 : decode s_Sight_init.2.1 40 = .ok (.sipush 600, 3) := by decide +kernel
theorem d_Sight_init_43 : decode s_Sight_init.2.1 43 = .ok (.newarray .boolean, 2) := by decide +kernel
theorem d_Sight_init_45 : decode s_Sight_init.2.1 45 = .ok (.putfield 29, 3) := by decide +kernel
theorem d_Sight_init_48 : decode s_Sight_init.2.1 48 = .ok (.aload_n 0, 1) := by decide +kernel
theorem d_Sight_init_49 : decode s_Sight_init.2.1 49 = .ok (.sipush 600, 3) := by decide +kernel
theorem d_Sight_init_52 : decode s_Sight_init.2.1 52 = .ok (.newarray .int, 2) := by decide +kernel
theorem d_Sight_init_54 : decode s_Sight_init.2.1 54 = .ok (.putfield 32, 3) := by decide +kernel
theorem d_Sight_init_57 : decode s_Sight_init.2.1 57 = .ok (.aload_n 0, 1) := by decide +kernel
theorem d_Sight_init_58 : decode s_Sight_init.2.1 58 = .ok (.iconst 0, 1) := by decide +kernel
theorem d_Sight_init_59 : decode s_Sight_init.2.1 59 = .ok (.putfield 35, 3) := by decide +kernel
theorem d_Sight_init_62 : decode s_Sight_init.2.1 62 = .ok (.aload_n 0, 1) := by decide +kernel
theorem d_Sight_init_63 : decode s_Sight_init.2.1 63 = .ok (.iconst (-1), 1) := by decide +kernel
theorem d_Sight_init_64 : decode s_Sight_init.2.1 64 = .ok (.putfield 38, 3) := by decide +kernel
theorem d_Sight_init_67 : decode s_Sight_init.2.1 67 = .ok (.aload_n 0, 1) := by decide +kernel
theorem d_Sight_init_68 : decode s_Sight_init.2.1 68 = .ok (.iconst 5, 1) := by decide +kernel
theorem d_Sight_init_69 : decode s_Sight_init.2.1 69 = .ok (.newarray .int, 2) := by decide +kernel
theorem d_Sight_init_71 : decode s_Sight_init.2.1 71 = .ok (.putfield 41, 3) := by decide +kernel
theorem d_Sight_init_74 : decode s_Sight_init.2.1 74 = .ok (.return_, 1) := by decide +kernel
theorem ty2_Sight : ∀ k, k < 10 → (t_Sight k = .int ∨ t_Sight k = .boolean ∨ t_Sight k = .long ∨ (∃ cn, t_Sight k = .object cn) ∨ ∃ t, t_Sight k = .array t) := by
  intro k hk
  have h : ∀ k, k < 10 → (match t_Sight k with | .int => true | .boolean => true | .long => true | .object _ => true | .array _ => true | _ => false) = true := by decide +kernel
  have h1 := h k hk
  revert h1
  cases t_Sight k <;> simp
def s_Row_init : zS := (⟨R_Row, "<init>", "()V"⟩, prog_7_method_1_code, 1, none, { frames := 1, cells := 0, slots := 0, locals := 12 })
theorem d_Row_init_0 : decode s_Row_init.2.1 0 = .ok (.aload_n 0, 1) := by decide +kernel
theorem d_Row_init_1 : decode s_Row_init.2.1 1 = .ok (.invokespecial 3, 3) := by decide +kernel
theorem d_Row_init_4 : decode s_Row_init.2.1 4 = .ok (.aload_n 0, 1) := by decide +kernel
theorem d_Row_init_5 : decode s_Row_init.2.1 5 = .ok (.iconst 0, 1) := by decide +kernel
theorem d_Row_init_6 : decode s_Row_init.2.1 6 = .ok (.putfield 9, 3) := by decide +kernel
theorem d_Row_init_9 : decode s_Row_init.2.1 9 = .ok (.aload_n 0, 1) := by decide +kernel
theorem d_Row_init_10 : decode s_Row_init.2.1 10 = .ok (.iconst (-1), 1) := by decide +kernel
theorem d_Row_init_11 : decode s_Row_init.2.1 11 = .ok (.putfield 15, 3) := by decide +kernel
theorem d_Row_init_14 : decode s_Row_init.2.1 14 = .ok (.aload_n 0, 1) := by decide +kernel
theorem d_Row_init_15 : decode s_Row_init.2.1 15 = .ok (.iconst (-1), 1) := by decide +kernel
theorem d_Row_init_16 : decode s_Row_init.2.1 16 = .ok (.putfield 19, 3) := by decide +kernel
theorem d_Row_init_19 : decode s_Row_init.2.1 19 = .ok (.aload_n 0, 1) := by decide +kernel
theorem d_Row_init_20 : decode s_Row_init.2.1 20 = .ok (.iconst (-1), 1) := by decide +kernel
theorem d_Row_init_21 : decode s_Row_init.2.1 21 = .ok (.putfield 22, 3) := by decide +kernel
theorem d_Row_init_24 : decode s_Row_init.2.1 24 = .ok (.aload_n 0, 1) := by decide +kernel
theorem d_Row_init_25 : decode s_Row_init.2.1 25 = .ok (.iconst (-1), 1) := by decide +kernel
theorem d_Row_init_26 : decode s_Row_init.2.1 26 = .ok (.putfield 25, 3) := by decide +kernel
theorem d_Row_init_29 : decode s_Row_init.2.1 29 = .ok (.aload_n 0, 1) := by decide +kernel
theorem d_Row_init_30 : decode s_Row_init.2.1 30 = .ok (.iconst (-1), 1) := by decide +kernel
theorem d_Row_init_31 : decode s_Row_init.2.1 31 = .ok (.putfield 28, 3) := by decide +kernel
theorem d_Row_init_34 : decode s_Row_init.2.1 34 = .ok (.aload_n 0, 1) := by decide +kernel
theorem d_Row_init_35 : decode s_Row_init.2.1 35 = .ok (.iconst (-1), 1) := by decide +kernel
theorem d_Row_init_36 : decode s_Row_init.2.1 36 = .ok (.putfield 31, 3) := by decide +kernel
theorem d_Row_init_39 : decode s_Row_init.2.1 39 = .ok (.aload_n 0, 1) := by decide +kernel
theorem d_Row_init_40 : decode s_Row_init.2.1 40 = .ok (.iconst 0, 1) := by decide +kernel
theorem d_Row_init_41 : decode s_Row_init.2.1 41 = .ok (.putfield 34, 3) := by decide +kernel
theorem d_Row_init_44 : decode s_Row_init.2.1 44 = .ok (.return_, 1) := by decide +kernel
theorem ty2_Row : ∀ k, k < 8 → (t_Row k = .int ∨ t_Row k = .boolean ∨ t_Row k = .long ∨ (∃ cn, t_Row k = .object cn) ∨ ∃ t, t_Row k = .array t) := by
  intro k hk
  have h : ∀ k, k < 8 → (match t_Row k with | .int => true | .boolean => true | .long => true | .object _ => true | .array _ => true | _ => false) = true := by decide +kernel
  have h1 := h k hk
  revert h1
  cases t_Row k <;> simp
def s_Table_init : zS := (⟨R_Table, "<init>", "()V"⟩, prog_11_method_1_code, 2, none, { frames := 2, cells := 22, slots := 193, locals := 32 })
theorem d_Table_init_0 : decode s_Table_init.2.1 0 = .ok (.aload_n 0, 1) := by decide +kernel
theorem d_Table_init_1 : decode s_Table_init.2.1 1 = .ok (.invokespecial 3, 3) := by decide +kernel
theorem d_Table_init_4 : decode s_Table_init.2.1 4 = .ok (.aload_n 0, 1) := by decide +kernel
theorem d_Table_init_5 : decode s_Table_init.2.1 5 = .ok (.iconst 0, 1) := by decide +kernel
theorem d_Table_init_6 : decode s_Table_init.2.1 6 = .ok (.putfield 9, 3) := by decide +kernel
theorem d_Table_init_9 : decode s_Table_init.2.1 9 = .ok (.aload_n 0, 1) := by decide +kernel
theorem d_Table_init_10 : decode s_Table_init.2.1 10 = .ok (.iconst 3, 1) := by decide +kernel
theorem d_Table_init_11 : decode s_Table_init.2.1 11 = .ok (.newarray .int, 2) := by decide +kernel
theorem d_Table_init_13 : decode s_Table_init.2.1 13 = .ok (.putfield 15, 3) := by decide +kernel
theorem d_Table_init_16 : decode s_Table_init.2.1 16 = .ok (.aload_n 0, 1) := by decide +kernel
theorem d_Table_init_17 : decode s_Table_init.2.1 17 = .ok (.bipush 18, 2) := by decide +kernel
theorem d_Table_init_19 : decode s_Table_init.2.1 19 = .ok (.newarray .int, 2) := by decide +kernel
theorem d_Table_init_21 : decode s_Table_init.2.1 21 = .ok (.putfield 19, 3) := by decide +kernel
theorem d_Table_init_24 : decode s_Table_init.2.1 24 = .ok (.aload_n 0, 1) := by decide +kernel
theorem d_Table_init_25 : decode s_Table_init.2.1 25 = .ok (.iconst 0, 1) := by decide +kernel
theorem d_Table_init_26 : decode s_Table_init.2.1 26 = .ok (.putfield 22, 3) := by decide +kernel
theorem d_Table_init_29 : decode s_Table_init.2.1 29 = .ok (.aload_n 0, 1) := by decide +kernel
theorem d_Table_init_30 : decode s_Table_init.2.1 30 = .ok (.iconst 0, 1) := by decide +kernel
theorem d_Table_init_31 : decode s_Table_init.2.1 31 = .ok (.putfield 26, 3) := by decide +kernel
theorem d_Table_init_34 : decode s_Table_init.2.1 34 = .ok (.aload_n 0, 1) := by decide +kernel
theorem d_Table_init_35 : decode s_Table_init.2.1 35 = .ok (.bipush 16, 2) := by decide +kernel
theorem d_Table_init_37 : decode s_Table_init.2.1 37 = .ok (.anewarray 29, 3) := by decide +kernel
theorem d_Table_init_40 : decode s_Table_init.2.1 40 = .ok (.putfield 31, 3) := by decide +kernel
theorem d_Table_init_43 : decode s_Table_init.2.1 43 = .ok (.aload_n 0, 1) := by decide +kernel
theorem d_Table_init_44 : decode s_Table_init.2.1 44 = .ok (.iconst 0, 1) := by decide +kernel
theorem d_Table_init_45 : decode s_Table_init.2.1 45 = .ok (.putfield 35, 3) := by decide +kernel
theorem d_Table_init_48 : decode s_Table_init.2.1 48 = .ok (.aload_n 0, 1) := by decide +kernel
theorem d_Table_init_49 : decode s_Table_init.2.1 49 = .ok (.iconst 4, 1) := by decide +kernel
theorem d_Table_init_50 : decode s_Table_init.2.1 50 = .ok (.newarray .int, 2) := by decide +kernel
theorem d_Table_init_52 : decode s_Table_init.2.1 52 = .ok (.putfield 38, 3) := by decide +kernel
theorem d_Table_init_55 : decode s_Table_init.2.1 55 = .ok (.aload_n 0, 1) := by decide +kernel
theorem d_Table_init_56 : decode s_Table_init.2.1 56 = .ok (.bipush 12, 2) := by decide +kernel
theorem d_Table_init_58 : decode s_Table_init.2.1 58 = .ok (.newarray .int, 2) := by decide +kernel
theorem d_Table_init_60 : decode s_Table_init.2.1 60 = .ok (.putfield 41, 3) := by decide +kernel
theorem d_Table_init_63 : decode s_Table_init.2.1 63 = .ok (.aload_n 0, 1) := by decide +kernel
theorem d_Table_init_64 : decode s_Table_init.2.1 64 = .ok (.bipush 12, 2) := by decide +kernel
theorem d_Table_init_66 : decode s_Table_init.2.1 66 = .ok (.newarray .int, 2) := by decide +kernel
theorem d_Table_init_68 : decode s_Table_init.2.1 68 = .ok (.putfield 44, 3) := by decide +kernel
theorem d_Table_init_71 : decode s_Table_init.2.1 71 = .ok (.aload_n 0, 1) := by decide +kernel
theorem d_Table_init_72 : decode s_Table_init.2.1 72 = .ok (.iconst (-1), 1) := by decide +kernel
theorem d_Table_init_73 : decode s_Table_init.2.1 73 = .ok (.putfield 47, 3) := by decide +kernel
theorem d_Table_init_76 : decode s_Table_init.2.1 76 = .ok (.aload_n 0, 1) := by decide +kernel
theorem d_Table_init_77 : decode s_Table_init.2.1 77 = .ok (.iconst (-1), 1) := by decide +kernel
theorem d_Table_init_78 : decode s_Table_init.2.1 78 = .ok (.putfield 50, 3) := by decide +kernel
theorem d_Table_init_81 : decode s_Table_init.2.1 81 = .ok (.iconst 0, 1) := by decide +kernel
theorem d_Table_init_82 : decode s_Table_init.2.1 82 = .ok (.istore_n 1, 1) := by decide +kernel
theorem d_Table_init_83 : decode s_Table_init.2.1 83 = .ok (.iload_n 1, 1) := by decide +kernel
theorem d_Table_init_84 : decode s_Table_init.2.1 84 = .ok (.bipush 16, 2) := by decide +kernel
theorem d_Table_init_86 : decode s_Table_init.2.1 86 = .ok (.if_icmp .ge 22, 3) := by decide +kernel
theorem d_Table_init_89 : decode s_Table_init.2.1 89 = .ok (.aload_n 0, 1) := by decide +kernel
theorem d_Table_init_90 : decode s_Table_init.2.1 90 = .ok (.getfield 31, 3) := by decide +kernel
theorem d_Table_init_93 : decode s_Table_init.2.1 93 = .ok (.iload_n 1, 1) := by decide +kernel
theorem d_Table_init_94 : decode s_Table_init.2.1 94 = .ok (.new 29, 3) := by decide +kernel
theorem d_Table_init_97 : decode s_Table_init.2.1 97 = .ok (.dup, 1) := by decide +kernel
theorem d_Table_init_98 : decode s_Table_init.2.1 98 = .ok (.invokespecial 53, 3) := by decide +kernel
theorem d_Table_init_101 : decode s_Table_init.2.1 101 = .ok (.aastore, 1) := by decide +kernel
theorem d_Table_init_102 : decode s_Table_init.2.1 102 = .ok (.iinc 1 1, 3) := by decide +kernel
theorem d_Table_init_105 : decode s_Table_init.2.1 105 = .ok (.goto (-22), 3) := by decide +kernel
theorem d_Table_init_108 : decode s_Table_init.2.1 108 = .ok (.return_, 1) := by decide +kernel
theorem ty2_Table : ∀ k, k < 12 → (t_Table k = .int ∨ t_Table k = .boolean ∨ t_Table k = .long ∨ (∃ cn, t_Table k = .object cn) ∨ ∃ t, t_Table k = .array t) := by
  intro k hk
  have h : ∀ k, k < 12 → (match t_Table k with | .int => true | .boolean => true | .long => true | .object _ => true | .array _ => true | _ => false) = true := by decide +kernel
  have h1 := h k hk
  revert h1
  cases t_Table k <;> simp
def s_Reader_init : zS := (⟨R_Reader, "<init>", "()V"⟩, prog_6_method_1_code, 1, none, { frames := 3, cells := 27, slots := 6609, locals := 53 })
theorem d_Reader_init_0 : decode s_Reader_init.2.1 0 = .ok (.aload_n 0, 1) := by decide +kernel
theorem d_Reader_init_1 : decode s_Reader_init.2.1 1 = .ok (.invokespecial 3, 3) := by decide +kernel
theorem d_Reader_init_4 : decode s_Reader_init.2.1 4 = .ok (.aload_n 0, 1) := by decide +kernel
theorem d_Reader_init_5 : decode s_Reader_init.2.1 5 = .ok (.new 9, 3) := by decide +kernel
theorem d_Reader_init_8 : decode s_Reader_init.2.1 8 = .ok (.dup, 1) := by decide +kernel
theorem d_Reader_init_9 : decode s_Reader_init.2.1 9 = .ok (.invokespecial 11, 3) := by decide +kernel
theorem d_Reader_init_12 : decode s_Reader_init.2.1 12 = .ok (.putfield 12, 3) := by decide +kernel
theorem d_Reader_init_15 : decode s_Reader_init.2.1 15 = .ok (.aload_n 0, 1) := by decide +kernel
theorem d_Reader_init_16 : decode s_Reader_init.2.1 16 = .ok (.sipush 1601, 3) := by decide +kernel
theorem d_Reader_init_19 : decode s_Reader_init.2.1 19 = .ok (.newarray .int, 2) := by decide +kernel
theorem d_Reader_init_21 : decode s_Reader_init.2.1 21 = .ok (.putfield 18, 3) := by decide +kernel
theorem d_Reader_init_24 : decode s_Reader_init.2.1 24 = .ok (.aload_n 0, 1) := by decide +kernel
theorem d_Reader_init_25 : decode s_Reader_init.2.1 25 = .ok (.sipush 1601, 3) := by decide +kernel
theorem d_Reader_init_28 : decode s_Reader_init.2.1 28 = .ok (.newarray .int, 2) := by decide +kernel
theorem d_Reader_init_30 : decode s_Reader_init.2.1 30 = .ok (.putfield 22, 3) := by decide +kernel
theorem d_Reader_init_33 : decode s_Reader_init.2.1 33 = .ok (.aload_n 0, 1) := by decide +kernel
theorem d_Reader_init_34 : decode s_Reader_init.2.1 34 = .ok (.sipush 1601, 3) := by decide +kernel
theorem d_Reader_init_37 : decode s_Reader_init.2.1 37 = .ok (.newarray .int, 2) := by decide +kernel
theorem d_Reader_init_39 : decode s_Reader_init.2.1 39 = .ok (.putfield 25, 3) := by decide +kernel
theorem d_Reader_init_42 : decode s_Reader_init.2.1 42 = .ok (.aload_n 0, 1) := by decide +kernel
theorem d_Reader_init_43 : decode s_Reader_init.2.1 43 = .ok (.sipush 1601, 3) := by decide +kernel
theorem d_Reader_init_46 : decode s_Reader_init.2.1 46 = .ok (.newarray .long, 2) := by decide +kernel
theorem d_Reader_init_48 : decode s_Reader_init.2.1 48 = .ok (.putfield 28, 3) := by decide +kernel
theorem d_Reader_init_51 : decode s_Reader_init.2.1 51 = .ok (.aload_n 0, 1) := by decide +kernel
theorem d_Reader_init_52 : decode s_Reader_init.2.1 52 = .ok (.iconst 0, 1) := by decide +kernel
theorem d_Reader_init_53 : decode s_Reader_init.2.1 53 = .ok (.putfield 32, 3) := by decide +kernel
theorem d_Reader_init_56 : decode s_Reader_init.2.1 56 = .ok (.aload_n 0, 1) := by decide +kernel
theorem d_Reader_init_57 : decode s_Reader_init.2.1 57 = .ok (.iconst (-1), 1) := by decide +kernel
theorem d_Reader_init_58 : decode s_Reader_init.2.1 58 = .ok (.putfield 36, 3) := by decide +kernel
theorem d_Reader_init_61 : decode s_Reader_init.2.1 61 = .ok (.aload_n 0, 1) := by decide +kernel
theorem d_Reader_init_62 : decode s_Reader_init.2.1 62 = .ok (.iconst 0, 1) := by decide +kernel
theorem d_Reader_init_63 : decode s_Reader_init.2.1 63 = .ok (.putfield 39, 3) := by decide +kernel
theorem d_Reader_init_66 : decode s_Reader_init.2.1 66 = .ok (.aload_n 0, 1) := by decide +kernel
theorem d_Reader_init_67 : decode s_Reader_init.2.1 67 = .ok (.iconst (-1), 1) := by decide +kernel
theorem d_Reader_init_68 : decode s_Reader_init.2.1 68 = .ok (.putfield 42, 3) := by decide +kernel
theorem d_Reader_init_71 : decode s_Reader_init.2.1 71 = .ok (.return_, 1) := by decide +kernel
theorem ty2_Reader : ∀ k, k < 9 → (t_Reader k = .int ∨ t_Reader k = .boolean ∨ t_Reader k = .long ∨ (∃ cn, t_Reader k = .object cn) ∨ ∃ t, t_Reader k = .array t) := by
  intro k hk
  have h : ∀ k, k < 9 → (match t_Reader k with | .int => true | .boolean => true | .long => true | .object _ => true | .array _ => true | _ => false) = true := by decide +kernel
  have h1 := h k hk
  revert h1
  cases t_Reader k <;> simp
def s_Joined_init : zS := (⟨R_Joined, "<init>", "(LProtocolAtlas$Atlas;)V"⟩, prog_5_method_1_code, 2, none, { frames := 1, cells := 8, slots := 19201, locals := 12 })
theorem d_Joined_init_0 : decode s_Joined_init.2.1 0 = .ok (.aload_n 0, 1) := by decide +kernel
theorem d_Joined_init_1 : decode s_Joined_init.2.1 1 = .ok (.invokespecial 3, 3) := by decide +kernel
theorem d_Joined_init_4 : decode s_Joined_init.2.1 4 = .ok (.aload_n 0, 1) := by decide +kernel
theorem d_Joined_init_5 : decode s_Joined_init.2.1 5 = .ok (.iconst 0, 1) := by decide +kernel
theorem d_Joined_init_6 : decode s_Joined_init.2.1 6 = .ok (.putfield 9, 3) := by decide +kernel
theorem d_Joined_init_9 : decode s_Joined_init.2.1 9 = .ok (.aload_n 0, 1) := by decide +kernel
theorem d_Joined_init_10 : decode s_Joined_init.2.1 10 = .ok (.iconst (-1), 1) := by decide +kernel
theorem d_Joined_init_11 : decode s_Joined_init.2.1 11 = .ok (.putfield 15, 3) := by decide +kernel
theorem d_Joined_init_14 : decode s_Joined_init.2.1 14 = .ok (.aload_n 0, 1) := by decide +kernel
theorem d_Joined_init_15 : decode s_Joined_init.2.1 15 = .ok (.iconst (-1), 1) := by decide +kernel
theorem d_Joined_init_16 : decode s_Joined_init.2.1 16 = .ok (.putfield 19, 3) := by decide +kernel
theorem d_Joined_init_19 : decode s_Joined_init.2.1 19 = .ok (.aload_n 0, 1) := by decide +kernel
theorem d_Joined_init_20 : decode s_Joined_init.2.1 20 = .ok (.iconst 0, 1) := by decide +kernel
theorem d_Joined_init_21 : decode s_Joined_init.2.1 21 = .ok (.putfield 22, 3) := by decide +kernel
theorem d_Joined_init_24 : decode s_Joined_init.2.1 24 = .ok (.aload_n 0, 1) := by decide +kernel
theorem d_Joined_init_25 : decode s_Joined_init.2.1 25 = .ok (.sipush 2400, 3) := by decide +kernel
theorem d_Joined_init_28 : decode s_Joined_init.2.1 28 = .ok (.newarray .int, 2) := by decide +kernel
theorem d_Joined_init_30 : decode s_Joined_init.2.1 30 = .ok (.putfield 25, 3) := by decide +kernel
theorem d_Joined_init_33 : decode s_Joined_init.2.1 33 = .ok (.aload_n 0, 1) := by decide +kernel
theorem d_Joined_init_34 : decode s_Joined_init.2.1 34 = .ok (.sipush 2401, 3) := by decide +kernel
theorem d_Joined_init_37 : decode s_Joined_init.2.1 37 = .ok (.newarray .int, 2) := by decide +kernel
theorem d_Joined_init_39 : decode s_Joined_init.2.1 39 = .ok (.putfield 29, 3) := by decide +kernel
theorem d_Joined_init_42 : decode s_Joined_init.2.1 42 = .ok (.aload_n 0, 1) := by decide +kernel
theorem d_Joined_init_43 : decode s_Joined_init.2.1 43 = .ok (.sipush 2400, 3) := by decide +kernel
theorem d_Joined_init_46 : decode s_Joined_init.2.1 46 = .ok (.newarray .int, 2) := by decide +kernel
theorem d_Joined_init_48 : decode s_Joined_init.2.1 48 = .ok (.putfield 32, 3) := by decide +kernel
theorem d_Joined_init_51 : decode s_Joined_init.2.1 51 = .ok (.aload_n 0, 1) := by decide +kernel
theorem d_Joined_init_52 : decode s_Joined_init.2.1 52 = .ok (.sipush 2400, 3) := by decide +kernel
theorem d_Joined_init_55 : decode s_Joined_init.2.1 55 = .ok (.newarray .int, 2) := by decide +kernel
theorem d_Joined_init_57 : decode s_Joined_init.2.1 57 = .ok (.putfield 35, 3) := by decide +kernel
theorem d_Joined_init_60 : decode s_Joined_init.2.1 60 = .ok (.aload_n 0, 1) := by decide +kernel
theorem d_Joined_init_61 : decode s_Joined_init.2.1 61 = .ok (.sipush 2400, 3) := by decide +kernel
theorem d_Joined_init_64 : decode s_Joined_init.2.1 64 = .ok (.newarray .int, 2) := by decide +kernel
theorem d_Joined_init_66 : decode s_Joined_init.2.1 66 = .ok (.putfield 38, 3) := by decide +kernel
theorem d_Joined_init_69 : decode s_Joined_init.2.1 69 = .ok (.aload_n 0, 1) := by decide +kernel
theorem d_Joined_init_70 : decode s_Joined_init.2.1 70 = .ok (.sipush 2400, 3) := by decide +kernel
theorem d_Joined_init_73 : decode s_Joined_init.2.1 73 = .ok (.newarray .int, 2) := by decide +kernel
theorem d_Joined_init_75 : decode s_Joined_init.2.1 75 = .ok (.putfield 41, 3) := by decide +kernel
theorem d_Joined_init_78 : decode s_Joined_init.2.1 78 = .ok (.aload_n 0, 1) := by decide +kernel
theorem d_Joined_init_79 : decode s_Joined_init.2.1 79 = .ok (.sipush 2400, 3) := by decide +kernel
theorem d_Joined_init_82 : decode s_Joined_init.2.1 82 = .ok (.newarray .int, 2) := by decide +kernel
theorem d_Joined_init_84 : decode s_Joined_init.2.1 84 = .ok (.putfield 44, 3) := by decide +kernel
theorem d_Joined_init_87 : decode s_Joined_init.2.1 87 = .ok (.aload_n 0, 1) := by decide +kernel
theorem d_Joined_init_88 : decode s_Joined_init.2.1 88 = .ok (.sipush 2400, 3) := by decide +kernel
theorem d_Joined_init_91 : decode s_Joined_init.2.1 91 = .ok (.newarray .int, 2) := by decide +kernel
theorem d_Joined_init_93 : decode s_Joined_init.2.1 93 = .ok (.putfield 47, 3) := by decide +kernel
theorem d_Joined_init_96 : decode s_Joined_init.2.1 96 = .ok (.aload_n 0, 1) := by decide +kernel
theorem d_Joined_init_97 : decode s_Joined_init.2.1 97 = .ok (.iconst 0, 1) := by decide +kernel
theorem d_Joined_init_98 : decode s_Joined_init.2.1 98 = .ok (.putfield 50, 3) := by decide +kernel
theorem d_Joined_init_101 : decode s_Joined_init.2.1 101 = .ok (.aload_n 0, 1) := by decide +kernel
theorem d_Joined_init_102 : decode s_Joined_init.2.1 102 = .ok (.iconst 0, 1) := by decide +kernel
theorem d_Joined_init_103 : decode s_Joined_init.2.1 103 = .ok (.putfield 53, 3) := by decide +kernel
theorem d_Joined_init_106 : decode s_Joined_init.2.1 106 = .ok (.aload_n 0, 1) := by decide +kernel
theorem d_Joined_init_107 : decode s_Joined_init.2.1 107 = .ok (.iconst 0, 1) := by decide +kernel
theorem d_Joined_init_108 : decode s_Joined_init.2.1 108 = .ok (.putfield 56, 3) := by decide +kernel
theorem d_Joined_init_111 : decode s_Joined_init.2.1 111 = .ok (.aload_n 0, 1) := by decide +kernel
theorem d_Joined_init_112 : decode s_Joined_init.2.1 112 = .ok (.aload_n 1, 1) := by decide +kernel
theorem d_Joined_init_113 : decode s_Joined_init.2.1 113 = .ok (.putfield 59, 3) := by decide +kernel
theorem d_Joined_init_116 : decode s_Joined_init.2.1 116 = .ok (.return_, 1) := by decide +kernel
theorem ty2_Joined : ∀ k, k < 16 → (t_Joined k = .int ∨ t_Joined k = .boolean ∨ t_Joined k = .long ∨ (∃ cn, t_Joined k = .object cn) ∨ ∃ t, t_Joined k = .array t) := by
  intro k hk
  have h : ∀ k, k < 16 → (match t_Joined k with | .int => true | .boolean => true | .long => true | .object _ => true | .array _ => true | _ => false) = true := by decide +kernel
  have h1 := h k hk
  revert h1
  cases t_Joined k <;> simp
def s_Study_init : zS := (⟨R_Study, "<init>", "(LProtocolAtlas$Atlas;LProtocolAtlas$Table;)V"⟩, prog_10_method_1_code, 3, none, { frames := 2, cells := 21, slots := 30713, locals := 33 })
theorem d_Study_init_0 : decode s_Study_init.2.1 0 = .ok (.aload_n 0, 1) := by decide +kernel
theorem d_Study_init_1 : decode s_Study_init.2.1 1 = .ok (.invokespecial 3, 3) := by decide +kernel
theorem d_Study_init_4 : decode s_Study_init.2.1 4 = .ok (.aload_n 0, 1) := by decide +kernel
theorem d_Study_init_5 : decode s_Study_init.2.1 5 = .ok (.iconst 0, 1) := by decide +kernel
theorem d_Study_init_6 : decode s_Study_init.2.1 6 = .ok (.putfield 9, 3) := by decide +kernel
theorem d_Study_init_9 : decode s_Study_init.2.1 9 = .ok (.aload_n 0, 1) := by decide +kernel
theorem d_Study_init_10 : decode s_Study_init.2.1 10 = .ok (.sipush 600, 3) := by decide +kernel
theorem d_Study_init_13 : decode s_Study_init.2.1 13 = .ok (.newarray .int, 2) := by decide +kernel
theorem d_Study_init_15 : decode s_Study_init.2.1 15 = .ok (.putfield 15, 3) := by decide +kernel
theorem d_Study_init_18 : decode s_Study_init.2.1 18 = .ok (.aload_n 0, 1) := by decide +kernel
theorem d_Study_init_19 : decode s_Study_init.2.1 19 = .ok (.sipush 600, 3) := by decide +kernel
theorem d_Study_init_22 : decode s_Study_init.2.1 22 = .ok (.newarray .int, 2) := by decide +kernel
theorem d_Study_init_24 : decode s_Study_init.2.1 24 = .ok (.putfield 19, 3) := by decide +kernel
theorem d_Study_init_27 : decode s_Study_init.2.1 27 = .ok (.aload_n 0, 1) := by decide +kernel
theorem d_Study_init_28 : decode s_Study_init.2.1 28 = .ok (.sipush 600, 3) := by decide +kernel
theorem d_Study_init_31 : decode s_Study_init.2.1 31 = .ok (.newarray .int, 2) := by decide +kernel
theorem d_Study_init_33 : decode s_Study_init.2.1 33 = .ok (.putfield 22, 3) := by decide +kernel
theorem d_Study_init_36 : decode s_Study_init.2.1 36 = .ok (.aload_n 0, 1) := by decide +kernel
theorem d_Study_init_37 : decode s_Study_init.2.1 37 = .ok (.sipush 600, 3) := by decide +kernel
theorem d_Study_init_40 : decode s_Study_init.2.1 40 = .ok (.newarray .boolean, 2) := by decide +kernel
theorem d_Study_init_42 : decode s_Study_init.2.1 42 = .ok (.putfield 25, 3) := by decide +kernel
theorem d_Study_init_45 : decode s_Study_init.2.1 45 = .ok (.aload_n 0, 1) := by decide +kernel
theorem d_Study_init_46 : decode s_Study_init.2.1 46 = .ok (.sipush 600, 3) := by decide +kernel
theorem d_Study_init_49 : decode s_Study_init.2.1 49 = .ok (.newarray .int, 2) := by decide +kernel
theorem d_Study_init_51 : decode s_Study_init.2.1 51 = .ok (.putfield 29, 3) := by decide +kernel
theorem d_Study_init_54 : decode s_Study_init.2.1 54 = .ok (.aload_n 0, 1) := by decide +kernel
theorem d_Study_init_55 : decode s_Study_init.2.1 55 = .ok (.sipush 2400, 3) := by decide +kernel
theorem d_Study_init_58 : decode s_Study_init.2.1 58 = .ok (.newarray .boolean, 2) := by decide +kernel
theorem d_Study_init_60 : decode s_Study_init.2.1 60 = .ok (.putfield 32, 3) := by decide +kernel
theorem d_Study_init_63 : decode s_Study_init.2.1 63 = .ok (.aload_n 0, 1) := by decide +kernel
theorem d_Study_init_64 : decode s_Study_init.2.1 64 = .ok (.sipush 2400, 3) := by decide +kernel
theorem d_Study_init_67 : decode s_Study_init.2.1 67 = .ok (.newarray .boolean, 2) := by decide +kernel
theorem d_Study_init_69 : decode s_Study_init.2.1 69 = .ok (.putfield 35, 3) := by decide +kernel
theorem d_Study_init_72 : decode s_Study_init.2.1 72 = .ok (.aload_n 0, 1) := by decide +kernel
theorem d_Study_init_73 : decode s_Study_init.2.1 73 = .ok (.sipush 2400, 3) := by decide +kernel
theorem d_Study_init_76 : decode s_Study_init.2.1 76 = .ok (.newarray .boolean, 2) := by decide +kernel
theorem d_Study_init_78 : decode s_Study_init.2.1 78 = .ok (.putfield 38, 3) := by decide +kernel
theorem d_Study_init_81 : decode s_Study_init.2.1 81 = .ok (.aload_n 0, 1) := by decide +kernel
theorem d_Study_init_82 : decode s_Study_init.2.1 82 = .ok (.sipush 600, 3) := by decide +kernel
theorem d_Study_init_85 : decode s_Study_init.2.1 85 = .ok (.newarray .boolean, 2) := by decide +kernel
theorem d_Study_init_87 : decode s_Study_init.2.1 87 = .ok (.putfield 41, 3) := by decide +kernel
theorem d_Study_init_90 : decode s_Study_init.2.1 90 = .ok (.aload_n 0, 1) := by decide +kernel
theorem d_Study_init_91 : decode s_Study_init.2.1 91 = .ok (.sipush 600, 3) := by decide +kernel
theorem d_Study_init_94 : decode s_Study_init.2.1 94 = .ok (.newarray .int, 2) := by decide +kernel
theorem d_Study_init_96 : decode s_Study_init.2.1 96 = .ok (.putfield 44, 3) := by decide +kernel
theorem d_Study_init_99 : decode s_Study_init.2.1 99 = .ok (.aload_n 0, 1) := by decide +kernel
theorem d_Study_init_100 : decode s_Study_init.2.1 100 = .ok (.bipush 16, 2) := by decide +kernel
theorem d_Study_init_102 : decode s_Study_init.2.1 102 = .ok (.newarray .boolean, 2) := by decide +kernel
theorem d_Study_init_104 : decode s_Study_init.2.1 104 = .ok (.putfield 47, 3) := by decide +kernel
theorem d_Study_init_107 : decode s_Study_init.2.1 107 = .ok (.aload_n 0, 1) := by decide +kernel
theorem d_Study_init_108 : decode s_Study_init.2.1 108 = .ok (.bipush 80, 2) := by decide +kernel
theorem d_Study_init_110 : decode s_Study_init.2.1 110 = .ok (.newarray .int, 2) := by decide +kernel
theorem d_Study_init_112 : decode s_Study_init.2.1 112 = .ok (.putfield 50, 3) := by decide +kernel
theorem d_Study_init_115 : decode s_Study_init.2.1 115 = .ok (.aload_n 0, 1) := by decide +kernel
theorem d_Study_init_116 : decode s_Study_init.2.1 116 = .ok (.aload_n 1, 1) := by decide +kernel
theorem d_Study_init_117 : decode s_Study_init.2.1 117 = .ok (.putfield 53, 3) := by decide +kernel
theorem d_Study_init_120 : decode s_Study_init.2.1 120 = .ok (.aload_n 0, 1) := by decide +kernel
theorem d_Study_init_121 : decode s_Study_init.2.1 121 = .ok (.new 57, 3) := by decide +kernel
theorem d_Study_init_124 : decode s_Study_init.2.1 124 = .ok (.dup, 1) := by decide +kernel
theorem d_Study_init_125 : decode s_Study_init.2.1 125 = .ok (.aload_n 1, 1) := by decide +kernel
theorem d_Study_init_126 : decode s_Study_init.2.1 126 = .ok (.invokespecial 59, 3) := by decide +kernel
theorem d_Study_init_129 : decode s_Study_init.2.1 129 = .ok (.putfield 62, 3) := by decide +kernel
theorem d_Study_init_132 : decode s_Study_init.2.1 132 = .ok (.aload_n 0, 1) := by decide +kernel
theorem d_Study_init_133 : decode s_Study_init.2.1 133 = .ok (.aload_n 2, 1) := by decide +kernel
theorem d_Study_init_134 : decode s_Study_init.2.1 134 = .ok (.putfield 66, 3) := by decide +kernel
theorem d_Study_init_137 : decode s_Study_init.2.1 137 = .ok (.return_, 1) := by decide +kernel
theorem ty2_Study : ∀ k, k < 16 → (t_Study k = .int ∨ t_Study k = .boolean ∨ t_Study k = .long ∨ (∃ cn, t_Study k = .object cn) ∨ ∃ t, t_Study k = .array t) := by
  intro k hk
  have h : ∀ k, k < 16 → (match t_Study k with | .int => true | .boolean => true | .long => true | .object _ => true | .array _ => true | _ => false) = true := by decide +kernel
  have h1 := h k hk
  revert h1
  cases t_Study k <;> simp
def s_PA_init : zS := (⟨R_PA, "<init>", "()V"⟩, prog_1_method_1_code, 1, none, { frames := 4, cells := 137, slots := 104136, locals := 73 })
theorem d_PA_init_0 : decode s_PA_init.2.1 0 = .ok (.aload_n 0, 1) := by decide +kernel
theorem d_PA_init_1 : decode s_PA_init.2.1 1 = .ok (.invokespecial 3, 3) := by decide +kernel
theorem d_PA_init_4 : decode s_PA_init.2.1 4 = .ok (.aload_n 0, 1) := by decide +kernel
theorem d_PA_init_5 : decode s_PA_init.2.1 5 = .ok (.new 9, 3) := by decide +kernel
theorem d_PA_init_8 : decode s_PA_init.2.1 8 = .ok (.dup, 1) := by decide +kernel
theorem d_PA_init_9 : decode s_PA_init.2.1 9 = .ok (.invokespecial 11, 3) := by decide +kernel
theorem d_PA_init_12 : decode s_PA_init.2.1 12 = .ok (.putfield 12, 3) := by decide +kernel
theorem d_PA_init_15 : decode s_PA_init.2.1 15 = .ok (.aload_n 0, 1) := by decide +kernel
theorem d_PA_init_16 : decode s_PA_init.2.1 16 = .ok (.new 9, 3) := by decide +kernel
theorem d_PA_init_19 : decode s_PA_init.2.1 19 = .ok (.dup, 1) := by decide +kernel
theorem d_PA_init_20 : decode s_PA_init.2.1 20 = .ok (.invokespecial 11, 3) := by decide +kernel
theorem d_PA_init_23 : decode s_PA_init.2.1 23 = .ok (.putfield 16, 3) := by decide +kernel
theorem d_PA_init_26 : decode s_PA_init.2.1 26 = .ok (.aload_n 0, 1) := by decide +kernel
theorem d_PA_init_27 : decode s_PA_init.2.1 27 = .ok (.new 9, 3) := by decide +kernel
theorem d_PA_init_30 : decode s_PA_init.2.1 30 = .ok (.dup, 1) := by decide +kernel
theorem d_PA_init_31 : decode s_PA_init.2.1 31 = .ok (.invokespecial 11, 3) := by decide +kernel
theorem d_PA_init_34 : decode s_PA_init.2.1 34 = .ok (.putfield 19, 3) := by decide +kernel
theorem d_PA_init_37 : decode s_PA_init.2.1 37 = .ok (.aload_n 0, 1) := by decide +kernel
theorem d_PA_init_38 : decode s_PA_init.2.1 38 = .ok (.new 22, 3) := by decide +kernel
theorem d_PA_init_41 : decode s_PA_init.2.1 41 = .ok (.dup, 1) := by decide +kernel
theorem d_PA_init_42 : decode s_PA_init.2.1 42 = .ok (.invokespecial 24, 3) := by decide +kernel
theorem d_PA_init_45 : decode s_PA_init.2.1 45 = .ok (.putfield 25, 3) := by decide +kernel
theorem d_PA_init_48 : decode s_PA_init.2.1 48 = .ok (.aload_n 0, 1) := by decide +kernel
theorem d_PA_init_49 : decode s_PA_init.2.1 49 = .ok (.new 29, 3) := by decide +kernel
theorem d_PA_init_52 : decode s_PA_init.2.1 52 = .ok (.dup, 1) := by decide +kernel
theorem d_PA_init_53 : decode s_PA_init.2.1 53 = .ok (.invokespecial 31, 3) := by decide +kernel
theorem d_PA_init_56 : decode s_PA_init.2.1 56 = .ok (.putfield 32, 3) := by decide +kernel
theorem d_PA_init_59 : decode s_PA_init.2.1 59 = .ok (.aload_n 0, 1) := by decide +kernel
theorem d_PA_init_60 : decode s_PA_init.2.1 60 = .ok (.new 36, 3) := by decide +kernel
theorem d_PA_init_63 : decode s_PA_init.2.1 63 = .ok (.dup, 1) := by decide +kernel
theorem d_PA_init_64 : decode s_PA_init.2.1 64 = .ok (.invokespecial 38, 3) := by decide +kernel
theorem d_PA_init_67 : decode s_PA_init.2.1 67 = .ok (.putfield 39, 3) := by decide +kernel
theorem d_PA_init_70 : decode s_PA_init.2.1 70 = .ok (.aload_n 0, 1) := by decide +kernel
theorem d_PA_init_71 : decode s_PA_init.2.1 71 = .ok (.new 43, 3) := by decide +kernel
theorem d_PA_init_74 : decode s_PA_init.2.1 74 = .ok (.dup, 1) := by decide +kernel
theorem d_PA_init_75 : decode s_PA_init.2.1 75 = .ok (.invokespecial 45, 3) := by decide +kernel
theorem d_PA_init_78 : decode s_PA_init.2.1 78 = .ok (.putfield 46, 3) := by decide +kernel
theorem d_PA_init_81 : decode s_PA_init.2.1 81 = .ok (.aload_n 0, 1) := by decide +kernel
theorem d_PA_init_82 : decode s_PA_init.2.1 82 = .ok (.new 43, 3) := by decide +kernel
theorem d_PA_init_85 : decode s_PA_init.2.1 85 = .ok (.dup, 1) := by decide +kernel
theorem d_PA_init_86 : decode s_PA_init.2.1 86 = .ok (.invokespecial 45, 3) := by decide +kernel
theorem d_PA_init_89 : decode s_PA_init.2.1 89 = .ok (.putfield 50, 3) := by decide +kernel
theorem d_PA_init_92 : decode s_PA_init.2.1 92 = .ok (.aload_n 0, 1) := by decide +kernel
theorem d_PA_init_93 : decode s_PA_init.2.1 93 = .ok (.bipush 20, 2) := by decide +kernel
theorem d_PA_init_95 : decode s_PA_init.2.1 95 = .ok (.newarray .long, 2) := by decide +kernel
theorem d_PA_init_97 : decode s_PA_init.2.1 97 = .ok (.putfield 53, 3) := by decide +kernel
theorem d_PA_init_100 : decode s_PA_init.2.1 100 = .ok (.aload_n 0, 1) := by decide +kernel
theorem d_PA_init_101 : decode s_PA_init.2.1 101 = .ok (.bipush 6, 2) := by decide +kernel
theorem d_PA_init_103 : decode s_PA_init.2.1 103 = .ok (.newarray .int, 2) := by decide +kernel
theorem d_PA_init_105 : decode s_PA_init.2.1 105 = .ok (.putfield 57, 3) := by decide +kernel
theorem d_PA_init_108 : decode s_PA_init.2.1 108 = .ok (.aload_n 0, 1) := by decide +kernel
theorem d_PA_init_109 : decode s_PA_init.2.1 109 = .ok (.new 61, 3) := by decide +kernel
theorem d_PA_init_112 : decode s_PA_init.2.1 112 = .ok (.dup, 1) := by decide +kernel
theorem d_PA_init_113 : decode s_PA_init.2.1 113 = .ok (.invokespecial 63, 3) := by decide +kernel
theorem d_PA_init_116 : decode s_PA_init.2.1 116 = .ok (.putfield 64, 3) := by decide +kernel
theorem d_PA_init_119 : decode s_PA_init.2.1 119 = .ok (.aload_n 0, 1) := by decide +kernel
theorem d_PA_init_120 : decode s_PA_init.2.1 120 = .ok (.new 68, 3) := by decide +kernel
theorem d_PA_init_123 : decode s_PA_init.2.1 123 = .ok (.dup, 1) := by decide +kernel
theorem d_PA_init_124 : decode s_PA_init.2.1 124 = .ok (.invokespecial 70, 3) := by decide +kernel
theorem d_PA_init_127 : decode s_PA_init.2.1 127 = .ok (.putfield 71, 3) := by decide +kernel
theorem d_PA_init_130 : decode s_PA_init.2.1 130 = .ok (.aload_n 0, 1) := by decide +kernel
theorem d_PA_init_131 : decode s_PA_init.2.1 131 = .ok (.new 75, 3) := by decide +kernel
theorem d_PA_init_134 : decode s_PA_init.2.1 134 = .ok (.dup, 1) := by decide +kernel
theorem d_PA_init_135 : decode s_PA_init.2.1 135 = .ok (.aload_n 0, 1) := by decide +kernel
theorem d_PA_init_136 : decode s_PA_init.2.1 136 = .ok (.getfield 32, 3) := by decide +kernel
theorem d_PA_init_139 : decode s_PA_init.2.1 139 = .ok (.aload_n 0, 1) := by decide +kernel
theorem d_PA_init_140 : decode s_PA_init.2.1 140 = .ok (.getfield 71, 3) := by decide +kernel
theorem d_PA_init_143 : decode s_PA_init.2.1 143 = .ok (.invokespecial 77, 3) := by decide +kernel
theorem d_PA_init_146 : decode s_PA_init.2.1 146 = .ok (.putfield 80, 3) := by decide +kernel
theorem d_PA_init_149 : decode s_PA_init.2.1 149 = .ok (.aload_n 0, 1) := by decide +kernel
theorem d_PA_init_150 : decode s_PA_init.2.1 150 = .ok (.iconst 0, 1) := by decide +kernel
theorem d_PA_init_151 : decode s_PA_init.2.1 151 = .ok (.putfield 84, 3) := by decide +kernel
theorem d_PA_init_154 : decode s_PA_init.2.1 154 = .ok (.aload_n 0, 1) := by decide +kernel
theorem d_PA_init_155 : decode s_PA_init.2.1 155 = .ok (.iconst 0, 1) := by decide +kernel
theorem d_PA_init_156 : decode s_PA_init.2.1 156 = .ok (.putfield 88, 3) := by decide +kernel
theorem d_PA_init_159 : decode s_PA_init.2.1 159 = .ok (.aload_n 0, 1) := by decide +kernel
theorem d_PA_init_160 : decode s_PA_init.2.1 160 = .ok (.lconst 1, 1) := by decide +kernel
theorem d_PA_init_161 : decode s_PA_init.2.1 161 = .ok (.putfield 92, 3) := by decide +kernel
theorem d_PA_init_164 : decode s_PA_init.2.1 164 = .ok (.return_, 1) := by decide +kernel
theorem ty2_PA : ∀ k, k < 16 → (t_PA k = .int ∨ t_PA k = .boolean ∨ t_PA k = .long ∨ (∃ cn, t_PA k = .object cn) ∨ ∃ t, t_PA k = .array t) := by
  intro k hk
  have h : ∀ k, k < 16 → (match t_PA k with | .int => true | .boolean => true | .long => true | .object _ => true | .array _ => true | _ => false) = true := by decide +kernel
  have h1 := h k hk
  revert h1
  cases t_PA k <;> simp
def s_MO_init : zS := (⟨R_MO, "<init>", "()V"⟩, prog_14_method_1_code, 1, none, { frames := 1, cells := 57, slots := 242325, locals := 12 })
theorem d_MO_init_0 : decode s_MO_init.2.1 0 = .ok (.aload_n 0, 1) := by decide +kernel
theorem d_MO_init_1 : decode s_MO_init.2.1 1 = .ok (.invokespecial 1, 3) := by decide +kernel
theorem d_MO_init_4 : decode s_MO_init.2.1 4 = .ok (.aload_n 0, 1) := by decide +kernel
theorem d_MO_init_5 : decode s_MO_init.2.1 5 = .ok (.sipush 1600, 3) := by decide +kernel
theorem d_MO_init_8 : decode s_MO_init.2.1 8 = .ok (.newarray .int, 2) := by decide +kernel
theorem d_MO_init_10 : decode s_MO_init.2.1 10 = .ok (.putfield 7, 3) := by decide +kernel
theorem d_MO_init_13 : decode s_MO_init.2.1 13 = .ok (.aload_n 0, 1) := by decide +kernel
theorem d_MO_init_14 : decode s_MO_init.2.1 14 = .ok (.iconst (-1), 1) := by decide +kernel
theorem d_MO_init_15 : decode s_MO_init.2.1 15 = .ok (.putfield 13, 3) := by decide +kernel
theorem d_MO_init_18 : decode s_MO_init.2.1 18 = .ok (.aload_n 0, 1) := by decide +kernel
theorem d_MO_init_19 : decode s_MO_init.2.1 19 = .ok (.bipush 6, 2) := by decide +kernel
theorem d_MO_init_21 : decode s_MO_init.2.1 21 = .ok (.newarray .int, 2) := by decide +kernel
theorem d_MO_init_23 : decode s_MO_init.2.1 23 = .ok (.putfield 17, 3) := by decide +kernel
theorem d_MO_init_26 : decode s_MO_init.2.1 26 = .ok (.aload_n 0, 1) := by decide +kernel
theorem d_MO_init_27 : decode s_MO_init.2.1 27 = .ok (.bipush 6, 2) := by decide +kernel
theorem d_MO_init_29 : decode s_MO_init.2.1 29 = .ok (.newarray .char, 2) := by decide +kernel
theorem d_MO_init_31 : decode s_MO_init.2.1 31 = .ok (.dup, 1) := by decide +kernel
theorem d_MO_init_32 : decode s_MO_init.2.1 32 = .ok (.iconst 0, 1) := by decide +kernel
theorem d_MO_init_33 : decode s_MO_init.2.1 33 = .ok (.bipush 97, 2) := by decide +kernel
theorem d_MO_init_35 : decode s_MO_init.2.1 35 = .ok (.castore, 1) := by decide +kernel
theorem d_MO_init_36 : decode s_MO_init.2.1 36 = .ok (.dup, 1) := by decide +kernel
theorem d_MO_init_37 : decode s_MO_init.2.1 37 = .ok (.iconst 1, 1) := by decide +kernel
theorem d_MO_init_38 : decode s_MO_init.2.1 38 = .ok (.bipush 103, 2) := by decide +kernel
theorem d_MO_init_40 : decode s_MO_init.2.1 40 = .ok (.castore, 1) := by decide +kernel
theorem d_MO_init_41 : decode s_MO_init.2.1 41 = .ok (.dup, 1) := by decide +kernel
theorem d_MO_init_42 : decode s_MO_init.2.1 42 = .ok (.iconst 2, 1) := by decide +kernel
theorem d_MO_init_43 : decode s_MO_init.2.1 43 = .ok (.bipush 101, 2) := by decide +kernel
theorem d_MO_init_45 : decode s_MO_init.2.1 45 = .ok (.castore, 1) := by decide +kernel
theorem d_MO_init_46 : decode s_MO_init.2.1 46 = .ok (.dup, 1) := by decide +kernel
theorem d_MO_init_47 : decode s_MO_init.2.1 47 = .ok (.iconst 3, 1) := by decide +kernel
theorem d_MO_init_48 : decode s_MO_init.2.1 48 = .ok (.bipush 110, 2) := by decide +kernel
theorem d_MO_init_50 : decode s_MO_init.2.1 50 = .ok (.castore, 1) := by decide +kernel
theorem d_MO_init_51 : decode s_MO_init.2.1 51 = .ok (.dup, 1) := by decide +kernel
theorem d_MO_init_52 : decode s_MO_init.2.1 52 = .ok (.iconst 4, 1) := by decide +kernel
theorem d_MO_init_53 : decode s_MO_init.2.1 53 = .ok (.bipush 116, 2) := by decide +kernel
theorem d_MO_init_55 : decode s_MO_init.2.1 55 = .ok (.castore, 1) := by decide +kernel
theorem d_MO_init_56 : decode s_MO_init.2.1 56 = .ok (.dup, 1) := by decide +kernel
theorem d_MO_init_57 : decode s_MO_init.2.1 57 = .ok (.iconst 5, 1) := by decide +kernel
theorem d_MO_init_58 : decode s_MO_init.2.1 58 = .ok (.bipush 115, 2) := by decide +kernel
theorem d_MO_init_60 : decode s_MO_init.2.1 60 = .ok (.castore, 1) := by decide +kernel
theorem d_MO_init_61 : decode s_MO_init.2.1 61 = .ok (.putfield 20, 3) := by decide +kernel
theorem d_MO_init_64 : decode s_MO_init.2.1 64 = .ok (.aload_n 0, 1) := by decide +kernel
theorem d_MO_init_65 : decode s_MO_init.2.1 65 = .ok (.bipush 6, 2) := by decide +kernel
theorem d_MO_init_67 : decode s_MO_init.2.1 67 = .ok (.newarray .char, 2) := by decide +kernel
theorem d_MO_init_69 : decode s_MO_init.2.1 69 = .ok (.dup, 1) := by decide +kernel
theorem d_MO_init_70 : decode s_MO_init.2.1 70 = .ok (.iconst 0, 1) := by decide +kernel
theorem d_MO_init_71 : decode s_MO_init.2.1 71 = .ok (.bipush 115, 2) := by decide +kernel
theorem d_MO_init_73 : decode s_MO_init.2.1 73 = .ok (.castore, 1) := by decide +kernel
theorem d_MO_init_74 : decode s_MO_init.2.1 74 = .ok (.dup, 1) := by decide +kernel
theorem d_MO_init_75 : decode s_MO_init.2.1 75 = .ok (.iconst 1, 1) := by decide +kernel
theorem d_MO_init_76 : decode s_MO_init.2.1 76 = .ok (.bipush 116, 2) := by decide +kernel
theorem d_MO_init_78 : decode s_MO_init.2.1 78 = .ok (.castore, 1) := by decide +kernel
theorem d_MO_init_79 : decode s_MO_init.2.1 79 = .ok (.dup, 1) := by decide +kernel
theorem d_MO_init_80 : decode s_MO_init.2.1 80 = .ok (.iconst 2, 1) := by decide +kernel
theorem d_MO_init_81 : decode s_MO_init.2.1 81 = .ok (.bipush 97, 2) := by decide +kernel
theorem d_MO_init_83 : decode s_MO_init.2.1 83 = .ok (.castore, 1) := by decide +kernel
theorem d_MO_init_84 : decode s_MO_init.2.1 84 = .ok (.dup, 1) := by decide +kernel
theorem d_MO_init_85 : decode s_MO_init.2.1 85 = .ok (.iconst 3, 1) := by decide +kernel
theorem d_MO_init_86 : decode s_MO_init.2.1 86 = .ok (.bipush 116, 2) := by decide +kernel
theorem d_MO_init_88 : decode s_MO_init.2.1 88 = .ok (.castore, 1) := by decide +kernel
theorem d_MO_init_89 : decode s_MO_init.2.1 89 = .ok (.dup, 1) := by decide +kernel
theorem d_MO_init_90 : decode s_MO_init.2.1 90 = .ok (.iconst 4, 1) := by decide +kernel
theorem d_MO_init_91 : decode s_MO_init.2.1 91 = .ok (.bipush 101, 2) := by decide +kernel
theorem d_MO_init_93 : decode s_MO_init.2.1 93 = .ok (.castore, 1) := by decide +kernel
theorem d_MO_init_94 : decode s_MO_init.2.1 94 = .ok (.dup, 1) := by decide +kernel
theorem d_MO_init_95 : decode s_MO_init.2.1 95 = .ok (.iconst 5, 1) := by decide +kernel
theorem d_MO_init_96 : decode s_MO_init.2.1 96 = .ok (.bipush 115, 2) := by decide +kernel
theorem d_MO_init_98 : decode s_MO_init.2.1 98 = .ok (.castore, 1) := by decide +kernel
theorem d_MO_init_99 : decode s_MO_init.2.1 99 = .ok (.putfield 24, 3) := by decide +kernel
theorem d_MO_init_102 : decode s_MO_init.2.1 102 = .ok (.aload_n 0, 1) := by decide +kernel
theorem d_MO_init_103 : decode s_MO_init.2.1 103 = .ok (.iconst 4, 1) := by decide +kernel
theorem d_MO_init_104 : decode s_MO_init.2.1 104 = .ok (.newarray .char, 2) := by decide +kernel
theorem d_MO_init_106 : decode s_MO_init.2.1 106 = .ok (.dup, 1) := by decide +kernel
theorem d_MO_init_107 : decode s_MO_init.2.1 107 = .ok (.iconst 0, 1) := by decide +kernel
theorem d_MO_init_108 : decode s_MO_init.2.1 108 = .ok (.bipush 104, 2) := by decide +kernel
theorem d_MO_init_110 : decode s_MO_init.2.1 110 = .ok (.castore, 1) := by decide +kernel
theorem d_MO_init_111 : decode s_MO_init.2.1 111 = .ok (.dup, 1) := by decide +kernel
theorem d_MO_init_112 : decode s_MO_init.2.1 112 = .ok (.iconst 1, 1) := by decide +kernel
theorem d_MO_init_113 : decode s_MO_init.2.1 113 = .ok (.bipush 111, 2) := by decide +kernel
theorem d_MO_init_115 : decode s_MO_init.2.1 115 = .ok (.castore, 1) := by decide +kernel
theorem d_MO_init_116 : decode s_MO_init.2.1 116 = .ok (.dup, 1) := by decide +kernel
theorem d_MO_init_117 : decode s_MO_init.2.1 117 = .ok (.iconst 2, 1) := by decide +kernel
theorem d_MO_init_118 : decode s_MO_init.2.1 118 = .ok (.bipush 109, 2) := by decide +kernel
theorem d_MO_init_120 : decode s_MO_init.2.1 120 = .ok (.castore, 1) := by decide +kernel
theorem d_MO_init_121 : decode s_MO_init.2.1 121 = .ok (.dup, 1) := by decide +kernel
theorem d_MO_init_122 : decode s_MO_init.2.1 122 = .ok (.iconst 3, 1) := by decide +kernel
theorem d_MO_init_123 : decode s_MO_init.2.1 123 = .ok (.bipush 101, 2) := by decide +kernel
theorem d_MO_init_125 : decode s_MO_init.2.1 125 = .ok (.castore, 1) := by decide +kernel
theorem d_MO_init_126 : decode s_MO_init.2.1 126 = .ok (.putfield 27, 3) := by decide +kernel
theorem d_MO_init_129 : decode s_MO_init.2.1 129 = .ok (.aload_n 0, 1) := by decide +kernel
theorem d_MO_init_130 : decode s_MO_init.2.1 130 = .ok (.bipush 8, 2) := by decide +kernel
theorem d_MO_init_132 : decode s_MO_init.2.1 132 = .ok (.newarray .char, 2) := by decide +kernel
theorem d_MO_init_134 : decode s_MO_init.2.1 134 = .ok (.dup, 1) := by decide +kernel
theorem d_MO_init_135 : decode s_MO_init.2.1 135 = .ok (.iconst 0, 1) := by decide +kernel
theorem d_MO_init_136 : decode s_MO_init.2.1 136 = .ok (.bipush 109, 2) := by decide +kernel
theorem d_MO_init_138 : decode s_MO_init.2.1 138 = .ok (.castore, 1) := by decide +kernel
theorem d_MO_init_139 : decode s_MO_init.2.1 139 = .ok (.dup, 1) := by decide +kernel
theorem d_MO_init_140 : decode s_MO_init.2.1 140 = .ok (.iconst 1, 1) := by decide +kernel
theorem d_MO_init_141 : decode s_MO_init.2.1 141 = .ok (.bipush 101, 2) := by decide +kernel
theorem d_MO_init_143 : decode s_MO_init.2.1 143 = .ok (.castore, 1) := by decide +kernel
theorem d_MO_init_144 : decode s_MO_init.2.1 144 = .ok (.dup, 1) := by decide +kernel
theorem d_MO_init_145 : decode s_MO_init.2.1 145 = .ok (.iconst 2, 1) := by decide +kernel
theorem d_MO_init_146 : decode s_MO_init.2.1 146 = .ok (.bipush 115, 2) := by decide +kernel
theorem d_MO_init_148 : decode s_MO_init.2.1 148 = .ok (.castore, 1) := by decide +kernel
theorem d_MO_init_149 : decode s_MO_init.2.1 149 = .ok (.dup, 1) := by decide +kernel
theorem d_MO_init_150 : decode s_MO_init.2.1 150 = .ok (.iconst 3, 1) := by decide +kernel
theorem d_MO_init_151 : decode s_MO_init.2.1 151 = .ok (.bipush 115, 2) := by decide +kernel
theorem d_MO_init_153 : decode s_MO_init.2.1 153 = .ok (.castore, 1) := by decide +kernel
theorem d_MO_init_154 : decode s_MO_init.2.1 154 = .ok (.dup, 1) := by decide +kernel
theorem d_MO_init_155 : decode s_MO_init.2.1 155 = .ok (.iconst 4, 1) := by decide +kernel
theorem d_MO_init_156 : decode s_MO_init.2.1 156 = .ok (.bipush 97, 2) := by decide +kernel
theorem d_MO_init_158 : decode s_MO_init.2.1 158 = .ok (.castore, 1) := by decide +kernel
theorem d_MO_init_159 : decode s_MO_init.2.1 159 = .ok (.dup, 1) := by decide +kernel
theorem d_MO_init_160 : decode s_MO_init.2.1 160 = .ok (.iconst 5, 1) := by decide +kernel
theorem d_MO_init_161 : decode s_MO_init.2.1 161 = .ok (.bipush 103, 2) := by decide +kernel
theorem d_MO_init_163 : decode s_MO_init.2.1 163 = .ok (.castore, 1) := by decide +kernel
theorem d_MO_init_164 : decode s_MO_init.2.1 164 = .ok (.dup, 1) := by decide +kernel
theorem d_MO_init_165 : decode s_MO_init.2.1 165 = .ok (.bipush 6, 2) := by decide +kernel
theorem d_MO_init_167 : decode s_MO_init.2.1 167 = .ok (.bipush 101, 2) := by decide +kernel
theorem d_MO_init_169 : decode s_MO_init.2.1 169 = .ok (.castore, 1) := by decide +kernel
theorem d_MO_init_170 : decode s_MO_init.2.1 170 = .ok (.dup, 1) := by decide +kernel
theorem d_MO_init_171 : decode s_MO_init.2.1 171 = .ok (.bipush 7, 2) := by decide +kernel
theorem d_MO_init_173 : decode s_MO_init.2.1 173 = .ok (.bipush 115, 2) := by decide +kernel
theorem d_MO_init_175 : decode s_MO_init.2.1 175 = .ok (.castore, 1) := by decide +kernel
theorem d_MO_init_176 : decode s_MO_init.2.1 176 = .ok (.putfield 30, 3) := by decide +kernel
theorem d_MO_init_179 : decode s_MO_init.2.1 179 = .ok (.aload_n 0, 1) := by decide +kernel
theorem d_MO_init_180 : decode s_MO_init.2.1 180 = .ok (.iconst 5, 1) := by decide +kernel
theorem d_MO_init_181 : decode s_MO_init.2.1 181 = .ok (.newarray .char, 2) := by decide +kernel
theorem d_MO_init_183 : decode s_MO_init.2.1 183 = .ok (.dup, 1) := by decide +kernel
theorem d_MO_init_184 : decode s_MO_init.2.1 184 = .ok (.iconst 0, 1) := by decide +kernel
theorem d_MO_init_185 : decode s_MO_init.2.1 185 = .ok (.bipush 111, 2) := by decide +kernel
theorem d_MO_init_187 : decode s_MO_init.2.1 187 = .ok (.castore, 1) := by decide +kernel
theorem d_MO_init_188 : decode s_MO_init.2.1 188 = .ok (.dup, 1) := by decide +kernel
theorem d_MO_init_189 : decode s_MO_init.2.1 189 = .ok (.iconst 1, 1) := by decide +kernel
theorem d_MO_init_190 : decode s_MO_init.2.1 190 = .ok (.bipush 114, 2) := by decide +kernel
theorem d_MO_init_192 : decode s_MO_init.2.1 192 = .ok (.castore, 1) := by decide +kernel
theorem d_MO_init_193 : decode s_MO_init.2.1 193 = .ok (.dup, 1) := by decide +kernel
theorem d_MO_init_194 : decode s_MO_init.2.1 194 = .ok (.iconst 2, 1) := by decide +kernel
theorem d_MO_init_195 : decode s_MO_init.2.1 195 = .ok (.bipush 100, 2) := by decide +kernel
theorem d_MO_init_197 : decode s_MO_init.2.1 197 = .ok (.castore, 1) := by decide +kernel
theorem d_MO_init_198 : decode s_MO_init.2.1 198 = .ok (.dup, 1) := by decide +kernel
theorem d_MO_init_199 : decode s_MO_init.2.1 199 = .ok (.iconst 3, 1) := by decide +kernel
theorem d_MO_init_200 : decode s_MO_init.2.1 200 = .ok (.bipush 101, 2) := by decide +kernel
theorem d_MO_init_202 : decode s_MO_init.2.1 202 = .ok (.castore, 1) := by decide +kernel
theorem d_MO_init_203 : decode s_MO_init.2.1 203 = .ok (.dup, 1) := by decide +kernel
theorem d_MO_init_204 : decode s_MO_init.2.1 204 = .ok (.iconst 4, 1) := by decide +kernel
theorem d_MO_init_205 : decode s_MO_init.2.1 205 = .ok (.bipush 114, 2) := by decide +kernel
theorem d_MO_init_207 : decode s_MO_init.2.1 207 = .ok (.castore, 1) := by decide +kernel
theorem d_MO_init_208 : decode s_MO_init.2.1 208 = .ok (.putfield 33, 3) := by decide +kernel
theorem d_MO_init_211 : decode s_MO_init.2.1 211 = .ok (.aload_n 0, 1) := by decide +kernel
theorem d_MO_init_212 : decode s_MO_init.2.1 212 = .ok (.iconst 4, 1) := by decide +kernel
theorem d_MO_init_213 : decode s_MO_init.2.1 213 = .ok (.newarray .char, 2) := by decide +kernel
theorem d_MO_init_215 : decode s_MO_init.2.1 215 = .ok (.dup, 1) := by decide +kernel
theorem d_MO_init_216 : decode s_MO_init.2.1 216 = .ok (.iconst 0, 1) := by decide +kernel
theorem d_MO_init_217 : decode s_MO_init.2.1 217 = .ok (.bipush 107, 2) := by decide +kernel
theorem d_MO_init_219 : decode s_MO_init.2.1 219 = .ok (.castore, 1) := by decide +kernel
theorem d_MO_init_220 : decode s_MO_init.2.1 220 = .ok (.dup, 1) := by decide +kernel
theorem d_MO_init_221 : decode s_MO_init.2.1 221 = .ok (.iconst 1, 1) := by decide +kernel
theorem d_MO_init_222 : decode s_MO_init.2.1 222 = .ok (.bipush 101, 2) := by decide +kernel
theorem d_MO_init_224 : decode s_MO_init.2.1 224 = .ok (.castore, 1) := by decide +kernel
theorem d_MO_init_225 : decode s_MO_init.2.1 225 = .ok (.dup, 1) := by decide +kernel
theorem d_MO_init_226 : decode s_MO_init.2.1 226 = .ok (.iconst 2, 1) := by decide +kernel
theorem d_MO_init_227 : decode s_MO_init.2.1 227 = .ok (.bipush 112, 2) := by decide +kernel
theorem d_MO_init_229 : decode s_MO_init.2.1 229 = .ok (.castore, 1) := by decide +kernel
theorem d_MO_init_230 : decode s_MO_init.2.1 230 = .ok (.dup, 1) := by decide +kernel
theorem d_MO_init_231 : decode s_MO_init.2.1 231 = .ok (.iconst 3, 1) := by decide +kernel
theorem d_MO_init_232 : decode s_MO_init.2.1 232 = .ok (.bipush 116, 2) := by decide +kernel
theorem d_MO_init_234 : decode s_MO_init.2.1 234 = .ok (.castore, 1) := by decide +kernel
theorem d_MO_init_235 : decode s_MO_init.2.1 235 = .ok (.putfield 36, 3) := by decide +kernel
theorem d_MO_init_238 : decode s_MO_init.2.1 238 = .ok (.aload_n 0, 1) := by decide +kernel
theorem d_MO_init_239 : decode s_MO_init.2.1 239 = .ok (.iconst 5, 1) := by decide +kernel
theorem d_MO_init_240 : decode s_MO_init.2.1 240 = .ok (.newarray .char, 2) := by decide +kernel
theorem d_MO_init_242 : decode s_MO_init.2.1 242 = .ok (.dup, 1) := by decide +kernel
theorem d_MO_init_243 : decode s_MO_init.2.1 243 = .ok (.iconst 0, 1) := by decide +kernel
theorem d_MO_init_244 : decode s_MO_init.2.1 244 = .ok (.bipush 108, 2) := by decide +kernel
theorem d_MO_init_246 : decode s_MO_init.2.1 246 = .ok (.castore, 1) := by decide +kernel
theorem d_MO_init_247 : decode s_MO_init.2.1 247 = .ok (.dup, 1) := by decide +kernel
theorem d_MO_init_248 : decode s_MO_init.2.1 248 = .ok (.iconst 1, 1) := by decide +kernel
theorem d_MO_init_249 : decode s_MO_init.2.1 249 = .ok (.bipush 111, 2) := by decide +kernel
theorem d_MO_init_251 : decode s_MO_init.2.1 251 = .ok (.castore, 1) := by decide +kernel
theorem d_MO_init_252 : decode s_MO_init.2.1 252 = .ok (.dup, 1) := by decide +kernel
theorem d_MO_init_253 : decode s_MO_init.2.1 253 = .ok (.iconst 2, 1) := by decide +kernel
theorem d_MO_init_254 : decode s_MO_init.2.1 254 = .ok (.bipush 111, 2) := by decide +kernel
theorem d_MO_init_256 : decode s_MO_init.2.1 256 = .ok (.castore, 1) := by decide +kernel
theorem d_MO_init_257 : decode s_MO_init.2.1 257 = .ok (.dup, 1) := by decide +kernel
theorem d_MO_init_258 : decode s_MO_init.2.1 258 = .ok (.iconst 3, 1) := by decide +kernel
theorem d_MO_init_259 : decode s_MO_init.2.1 259 = .ok (.bipush 115, 2) := by decide +kernel
theorem d_MO_init_261 : decode s_MO_init.2.1 261 = .ok (.castore, 1) := by decide +kernel
theorem d_MO_init_262 : decode s_MO_init.2.1 262 = .ok (.dup, 1) := by decide +kernel
theorem d_MO_init_263 : decode s_MO_init.2.1 263 = .ok (.iconst 4, 1) := by decide +kernel
theorem d_MO_init_264 : decode s_MO_init.2.1 264 = .ok (.bipush 101, 2) := by decide +kernel
theorem d_MO_init_266 : decode s_MO_init.2.1 266 = .ok (.castore, 1) := by decide +kernel
theorem d_MO_init_267 : decode s_MO_init.2.1 267 = .ok (.putfield 39, 3) := by decide +kernel
theorem d_MO_init_270 : decode s_MO_init.2.1 270 = .ok (.aload_n 0, 1) := by decide +kernel
theorem d_MO_init_271 : decode s_MO_init.2.1 271 = .ok (.iconst 5, 1) := by decide +kernel
theorem d_MO_init_272 : decode s_MO_init.2.1 272 = .ok (.newarray .char, 2) := by decide +kernel
theorem d_MO_init_274 : decode s_MO_init.2.1 274 = .ok (.dup, 1) := by decide +kernel
theorem d_MO_init_275 : decode s_MO_init.2.1 275 = .ok (.iconst 0, 1) := by decide +kernel
theorem d_MO_init_276 : decode s_MO_init.2.1 276 = .ok (.bipush 110, 2) := by decide +kernel
theorem d_MO_init_278 : decode s_MO_init.2.1 278 = .ok (.castore, 1) := by decide +kernel
theorem d_MO_init_279 : decode s_MO_init.2.1 279 = .ok (.dup, 1) := by decide +kernel
theorem d_MO_init_280 : decode s_MO_init.2.1 280 = .ok (.iconst 1, 1) := by decide +kernel
theorem d_MO_init_281 : decode s_MO_init.2.1 281 = .ok (.bipush 101, 2) := by decide +kernel
theorem d_MO_init_283 : decode s_MO_init.2.1 283 = .ok (.castore, 1) := by decide +kernel
theorem d_MO_init_284 : decode s_MO_init.2.1 284 = .ok (.dup, 1) := by decide +kernel
theorem d_MO_init_285 : decode s_MO_init.2.1 285 = .ok (.iconst 2, 1) := by decide +kernel
theorem d_MO_init_286 : decode s_MO_init.2.1 286 = .ok (.bipush 118, 2) := by decide +kernel
theorem d_MO_init_288 : decode s_MO_init.2.1 288 = .ok (.castore, 1) := by decide +kernel
theorem d_MO_init_289 : decode s_MO_init.2.1 289 = .ok (.dup, 1) := by decide +kernel
theorem d_MO_init_290 : decode s_MO_init.2.1 290 = .ok (.iconst 3, 1) := by decide +kernel
theorem d_MO_init_291 : decode s_MO_init.2.1 291 = .ok (.bipush 101, 2) := by decide +kernel
theorem d_MO_init_293 : decode s_MO_init.2.1 293 = .ok (.castore, 1) := by decide +kernel
theorem d_MO_init_294 : decode s_MO_init.2.1 294 = .ok (.dup, 1) := by decide +kernel
theorem d_MO_init_295 : decode s_MO_init.2.1 295 = .ok (.iconst 4, 1) := by decide +kernel
theorem d_MO_init_296 : decode s_MO_init.2.1 296 = .ok (.bipush 114, 2) := by decide +kernel
theorem d_MO_init_298 : decode s_MO_init.2.1 298 = .ok (.castore, 1) := by decide +kernel
theorem d_MO_init_299 : decode s_MO_init.2.1 299 = .ok (.putfield 42, 3) := by decide +kernel
theorem d_MO_init_302 : decode s_MO_init.2.1 302 = .ok (.aload_n 0, 1) := by decide +kernel
theorem d_MO_init_303 : decode s_MO_init.2.1 303 = .ok (.iconst 3, 1) := by decide +kernel
theorem d_MO_init_304 : decode s_MO_init.2.1 304 = .ok (.newarray .char, 2) := by decide +kernel
theorem d_MO_init_306 : decode s_MO_init.2.1 306 = .ok (.dup, 1) := by decide +kernel
theorem d_MO_init_307 : decode s_MO_init.2.1 307 = .ok (.iconst 0, 1) := by decide +kernel
theorem d_MO_init_308 : decode s_MO_init.2.1 308 = .ok (.bipush 97, 2) := by decide +kernel
theorem d_MO_init_310 : decode s_MO_init.2.1 310 = .ok (.castore, 1) := by decide +kernel
theorem d_MO_init_311 : decode s_MO_init.2.1 311 = .ok (.dup, 1) := by decide +kernel
theorem d_MO_init_312 : decode s_MO_init.2.1 312 = .ok (.iconst 1, 1) := by decide +kernel
theorem d_MO_init_313 : decode s_MO_init.2.1 313 = .ok (.bipush 110, 2) := by decide +kernel
theorem d_MO_init_315 : decode s_MO_init.2.1 315 = .ok (.castore, 1) := by decide +kernel
theorem d_MO_init_316 : decode s_MO_init.2.1 316 = .ok (.dup, 1) := by decide +kernel
theorem d_MO_init_317 : decode s_MO_init.2.1 317 = .ok (.iconst 2, 1) := by decide +kernel
theorem d_MO_init_318 : decode s_MO_init.2.1 318 = .ok (.bipush 100, 2) := by decide +kernel
theorem d_MO_init_320 : decode s_MO_init.2.1 320 = .ok (.castore, 1) := by decide +kernel
theorem d_MO_init_321 : decode s_MO_init.2.1 321 = .ok (.putfield 45, 3) := by decide +kernel
theorem d_MO_init_324 : decode s_MO_init.2.1 324 = .ok (.aload_n 0, 1) := by decide +kernel
theorem d_MO_init_325 : decode s_MO_init.2.1 325 = .ok (.iconst 5, 1) := by decide +kernel
theorem d_MO_init_326 : decode s_MO_init.2.1 326 = .ok (.newarray .char, 2) := by decide +kernel
theorem d_MO_init_328 : decode s_MO_init.2.1 328 = .ok (.dup, 1) := by decide +kernel
theorem d_MO_init_329 : decode s_MO_init.2.1 329 = .ok (.iconst 0, 1) := by decide +kernel
theorem d_MO_init_330 : decode s_MO_init.2.1 330 = .ok (.bipush 119, 2) := by decide +kernel
theorem d_MO_init_332 : decode s_MO_init.2.1 332 = .ok (.castore, 1) := by decide +kernel
theorem d_MO_init_333 : decode s_MO_init.2.1 333 = .ok (.dup, 1) := by decide +kernel
theorem d_MO_init_334 : decode s_MO_init.2.1 334 = .ok (.iconst 1, 1) := by decide +kernel
theorem d_MO_init_335 : decode s_MO_init.2.1 335 = .ok (.bipush 97, 2) := by decide +kernel
theorem d_MO_init_337 : decode s_MO_init.2.1 337 = .ok (.castore, 1) := by decide +kernel
theorem d_MO_init_338 : decode s_MO_init.2.1 338 = .ok (.dup, 1) := by decide +kernel
theorem d_MO_init_339 : decode s_MO_init.2.1 339 = .ok (.iconst 2, 1) := by decide +kernel
theorem d_MO_init_340 : decode s_MO_init.2.1 340 = .ok (.bipush 110, 2) := by decide +kernel
theorem d_MO_init_342 : decode s_MO_init.2.1 342 = .ok (.castore, 1) := by decide +kernel
theorem d_MO_init_343 : decode s_MO_init.2.1 343 = .ok (.dup, 1) := by decide +kernel
theorem d_MO_init_344 : decode s_MO_init.2.1 344 = .ok (.iconst 3, 1) := by decide +kernel
theorem d_MO_init_345 : decode s_MO_init.2.1 345 = .ok (.bipush 116, 2) := by decide +kernel
theorem d_MO_init_347 : decode s_MO_init.2.1 347 = .ok (.castore, 1) := by decide +kernel
theorem d_MO_init_348 : decode s_MO_init.2.1 348 = .ok (.dup, 1) := by decide +kernel
theorem d_MO_init_349 : decode s_MO_init.2.1 349 = .ok (.iconst 4, 1) := by decide +kernel
theorem d_MO_init_350 : decode s_MO_init.2.1 350 = .ok (.bipush 115, 2) := by decide +kernel
theorem d_MO_init_352 : decode s_MO_init.2.1 352 = .ok (.castore, 1) := by decide +kernel
theorem d_MO_init_353 : decode s_MO_init.2.1 353 = .ok (.putfield 48, 3) := by decide +kernel
theorem d_MO_init_356 : decode s_MO_init.2.1 356 = .ok (.aload_n 0, 1) := by decide +kernel
theorem d_MO_init_357 : decode s_MO_init.2.1 357 = .ok (.iconst 2, 1) := by decide +kernel
theorem d_MO_init_358 : decode s_MO_init.2.1 358 = .ok (.newarray .char, 2) := by decide +kernel
theorem d_MO_init_360 : decode s_MO_init.2.1 360 = .ok (.dup, 1) := by decide +kernel
theorem d_MO_init_361 : decode s_MO_init.2.1 361 = .ok (.iconst 0, 1) := by decide +kernel
theorem d_MO_init_362 : decode s_MO_init.2.1 362 = .ok (.bipush 111, 2) := by decide +kernel
theorem d_MO_init_364 : decode s_MO_init.2.1 364 = .ok (.castore, 1) := by decide +kernel
theorem d_MO_init_365 : decode s_MO_init.2.1 365 = .ok (.dup, 1) := by decide +kernel
theorem d_MO_init_366 : decode s_MO_init.2.1 366 = .ok (.iconst 1, 1) := by decide +kernel
theorem d_MO_init_367 : decode s_MO_init.2.1 367 = .ok (.bipush 110, 2) := by decide +kernel
theorem d_MO_init_369 : decode s_MO_init.2.1 369 = .ok (.castore, 1) := by decide +kernel
theorem d_MO_init_370 : decode s_MO_init.2.1 370 = .ok (.putfield 51, 3) := by decide +kernel
theorem d_MO_init_373 : decode s_MO_init.2.1 373 = .ok (.aload_n 0, 1) := by decide +kernel
theorem d_MO_init_374 : decode s_MO_init.2.1 374 = .ok (.iconst 4, 1) := by decide +kernel
theorem d_MO_init_375 : decode s_MO_init.2.1 375 = .ok (.newarray .char, 2) := by decide +kernel
theorem d_MO_init_377 : decode s_MO_init.2.1 377 = .ok (.dup, 1) := by decide +kernel
theorem d_MO_init_378 : decode s_MO_init.2.1 378 = .ok (.iconst 0, 1) := by decide +kernel
theorem d_MO_init_379 : decode s_MO_init.2.1 379 = .ok (.bipush 119, 2) := by decide +kernel
theorem d_MO_init_381 : decode s_MO_init.2.1 381 = .ok (.castore, 1) := by decide +kernel
theorem d_MO_init_382 : decode s_MO_init.2.1 382 = .ok (.dup, 1) := by decide +kernel
theorem d_MO_init_383 : decode s_MO_init.2.1 383 = .ok (.iconst 1, 1) := by decide +kernel
theorem d_MO_init_384 : decode s_MO_init.2.1 384 = .ok (.bipush 105, 2) := by decide +kernel
theorem d_MO_init_386 : decode s_MO_init.2.1 386 = .ok (.castore, 1) := by decide +kernel
theorem d_MO_init_387 : decode s_MO_init.2.1 387 = .ok (.dup, 1) := by decide +kernel
theorem d_MO_init_388 : decode s_MO_init.2.1 388 = .ok (.iconst 2, 1) := by decide +kernel
theorem d_MO_init_389 : decode s_MO_init.2.1 389 = .ok (.bipush 116, 2) := by decide +kernel
theorem d_MO_init_391 : decode s_MO_init.2.1 391 = .ok (.castore, 1) := by decide +kernel
theorem d_MO_init_392 : decode s_MO_init.2.1 392 = .ok (.dup, 1) := by decide +kernel
theorem d_MO_init_393 : decode s_MO_init.2.1 393 = .ok (.iconst 3, 1) := by decide +kernel
theorem d_MO_init_394 : decode s_MO_init.2.1 394 = .ok (.bipush 104, 2) := by decide +kernel
theorem d_MO_init_396 : decode s_MO_init.2.1 396 = .ok (.castore, 1) := by decide +kernel
theorem d_MO_init_397 : decode s_MO_init.2.1 397 = .ok (.putfield 54, 3) := by decide +kernel
theorem d_MO_init_400 : decode s_MO_init.2.1 400 = .ok (.aload_n 0, 1) := by decide +kernel
theorem d_MO_init_401 : decode s_MO_init.2.1 401 = .ok (.iconst 2, 1) := by decide +kernel
theorem d_MO_init_402 : decode s_MO_init.2.1 402 = .ok (.newarray .char, 2) := by decide +kernel
theorem d_MO_init_404 : decode s_MO_init.2.1 404 = .ok (.dup, 1) := by decide +kernel
theorem d_MO_init_405 : decode s_MO_init.2.1 405 = .ok (.iconst 0, 1) := by decide +kernel
theorem d_MO_init_406 : decode s_MO_init.2.1 406 = .ok (.bipush 116, 2) := by decide +kernel
theorem d_MO_init_408 : decode s_MO_init.2.1 408 = .ok (.castore, 1) := by decide +kernel
theorem d_MO_init_409 : decode s_MO_init.2.1 409 = .ok (.dup, 1) := by decide +kernel
theorem d_MO_init_410 : decode s_MO_init.2.1 410 = .ok (.iconst 1, 1) := by decide +kernel
theorem d_MO_init_411 : decode s_MO_init.2.1 411 = .ok (.bipush 111, 2) := by decide +kernel
theorem d_MO_init_413 : decode s_MO_init.2.1 413 = .ok (.castore, 1) := by decide +kernel
theorem d_MO_init_414 : decode s_MO_init.2.1 414 = .ok (.putfield 57, 3) := by decide +kernel
theorem d_MO_init_417 : decode s_MO_init.2.1 417 = .ok (.aload_n 0, 1) := by decide +kernel
theorem d_MO_init_418 : decode s_MO_init.2.1 418 = .ok (.iconst 5, 1) := by decide +kernel
theorem d_MO_init_419 : decode s_MO_init.2.1 419 = .ok (.newarray .char, 2) := by decide +kernel
theorem d_MO_init_421 : decode s_MO_init.2.1 421 = .ok (.dup, 1) := by decide +kernel
theorem d_MO_init_422 : decode s_MO_init.2.1 422 = .ok (.iconst 0, 1) := by decide +kernel
theorem d_MO_init_423 : decode s_MO_init.2.1 423 = .ok (.bipush 115, 2) := by decide +kernel
theorem d_MO_init_425 : decode s_MO_init.2.1 425 = .ok (.castore, 1) := by decide +kernel
theorem d_MO_init_426 : decode s_MO_init.2.1 426 = .ok (.dup, 1) := by decide +kernel
theorem d_MO_init_427 : decode s_MO_init.2.1 427 = .ok (.iconst 1, 1) := by decide +kernel
theorem d_MO_init_428 : decode s_MO_init.2.1 428 = .ok (.bipush 101, 2) := by decide +kernel
theorem d_MO_init_430 : decode s_MO_init.2.1 430 = .ok (.castore, 1) := by decide +kernel
theorem d_MO_init_431 : decode s_MO_init.2.1 431 = .ok (.dup, 1) := by decide +kernel
theorem d_MO_init_432 : decode s_MO_init.2.1 432 = .ok (.iconst 2, 1) := by decide +kernel
theorem d_MO_init_433 : decode s_MO_init.2.1 433 = .ok (.bipush 110, 2) := by decide +kernel
theorem d_MO_init_435 : decode s_MO_init.2.1 435 = .ok (.castore, 1) := by decide +kernel
theorem d_MO_init_436 : decode s_MO_init.2.1 436 = .ok (.dup, 1) := by decide +kernel
theorem d_MO_init_437 : decode s_MO_init.2.1 437 = .ok (.iconst 3, 1) := by decide +kernel
theorem d_MO_init_438 : decode s_MO_init.2.1 438 = .ok (.bipush 100, 2) := by decide +kernel
theorem d_MO_init_440 : decode s_MO_init.2.1 440 = .ok (.castore, 1) := by decide +kernel
theorem d_MO_init_441 : decode s_MO_init.2.1 441 = .ok (.dup, 1) := by decide +kernel
theorem d_MO_init_442 : decode s_MO_init.2.1 442 = .ok (.iconst 4, 1) := by decide +kernel
theorem d_MO_init_443 : decode s_MO_init.2.1 443 = .ok (.bipush 115, 2) := by decide +kernel
theorem d_MO_init_445 : decode s_MO_init.2.1 445 = .ok (.castore, 1) := by decide +kernel
theorem d_MO_init_446 : decode s_MO_init.2.1 446 = .ok (.putfield 60, 3) := by decide +kernel
theorem d_MO_init_449 : decode s_MO_init.2.1 449 = .ok (.aload_n 0, 1) := by decide +kernel
theorem d_MO_init_450 : decode s_MO_init.2.1 450 = .ok (.iconst 2, 1) := by decide +kernel
theorem d_MO_init_451 : decode s_MO_init.2.1 451 = .ok (.newarray .char, 2) := by decide +kernel
theorem d_MO_init_453 : decode s_MO_init.2.1 453 = .ok (.dup, 1) := by decide +kernel
theorem d_MO_init_454 : decode s_MO_init.2.1 454 = .ok (.iconst 0, 1) := by decide +kernel
theorem d_MO_init_455 : decode s_MO_init.2.1 455 = .ok (.bipush 97, 2) := by decide +kernel
theorem d_MO_init_457 : decode s_MO_init.2.1 457 = .ok (.castore, 1) := by decide +kernel
theorem d_MO_init_458 : decode s_MO_init.2.1 458 = .ok (.dup, 1) := by decide +kernel
theorem d_MO_init_459 : decode s_MO_init.2.1 459 = .ok (.iconst 1, 1) := by decide +kernel
theorem d_MO_init_460 : decode s_MO_init.2.1 460 = .ok (.bipush 116, 2) := by decide +kernel
theorem d_MO_init_462 : decode s_MO_init.2.1 462 = .ok (.castore, 1) := by decide +kernel
theorem d_MO_init_463 : decode s_MO_init.2.1 463 = .ok (.putfield 63, 3) := by decide +kernel
theorem d_MO_init_466 : decode s_MO_init.2.1 466 = .ok (.aload_n 0, 1) := by decide +kernel
theorem d_MO_init_467 : decode s_MO_init.2.1 467 = .ok (.bipush 7, 2) := by decide +kernel
theorem d_MO_init_469 : decode s_MO_init.2.1 469 = .ok (.newarray .char, 2) := by decide +kernel
theorem d_MO_init_471 : decode s_MO_init.2.1 471 = .ok (.dup, 1) := by decide +kernel
theorem d_MO_init_472 : decode s_MO_init.2.1 472 = .ok (.iconst 0, 1) := by decide +kernel
theorem d_MO_init_473 : decode s_MO_init.2.1 473 = .ok (.bipush 114, 2) := by decide +kernel
theorem d_MO_init_475 : decode s_MO_init.2.1 475 = .ok (.castore, 1) := by decide +kernel
theorem d_MO_init_476 : decode s_MO_init.2.1 476 = .ok (.dup, 1) := by decide +kernel
theorem d_MO_init_477 : decode s_MO_init.2.1 477 = .ok (.iconst 1, 1) := by decide +kernel
theorem d_MO_init_478 : decode s_MO_init.2.1 478 = .ok (.bipush 101, 2) := by decide +kernel
theorem d_MO_init_480 : decode s_MO_init.2.1 480 = .ok (.castore, 1) := by decide +kernel
theorem d_MO_init_481 : decode s_MO_init.2.1 481 = .ok (.dup, 1) := by decide +kernel
theorem d_MO_init_482 : decode s_MO_init.2.1 482 = .ok (.iconst 2, 1) := by decide +kernel
theorem d_MO_init_483 : decode s_MO_init.2.1 483 = .ok (.bipush 112, 2) := by decide +kernel
theorem d_MO_init_485 : decode s_MO_init.2.1 485 = .ok (.castore, 1) := by decide +kernel
theorem d_MO_init_486 : decode s_MO_init.2.1 486 = .ok (.dup, 1) := by decide +kernel
theorem d_MO_init_487 : decode s_MO_init.2.1 487 = .ok (.iconst 3, 1) := by decide +kernel
theorem d_MO_init_488 : decode s_MO_init.2.1 488 = .ok (.bipush 108, 2) := by decide +kernel
theorem d_MO_init_490 : decode s_MO_init.2.1 490 = .ok (.castore, 1) := by decide +kernel
theorem d_MO_init_491 : decode s_MO_init.2.1 491 = .ok (.dup, 1) := by decide +kernel
theorem d_MO_init_492 : decode s_MO_init.2.1 492 = .ok (.iconst 4, 1) := by decide +kernel
theorem d_MO_init_493 : decode s_MO_init.2.1 493 = .ok (.bipush 105, 2) := by decide +kernel
theorem d_MO_init_495 : decode s_MO_init.2.1 495 = .ok (.castore, 1) := by decide +kernel
theorem d_MO_init_496 : decode s_MO_init.2.1 496 = .ok (.dup, 1) := by decide +kernel
theorem d_MO_init_497 : decode s_MO_init.2.1 497 = .ok (.iconst 5, 1) := by decide +kernel
theorem d_MO_init_498 : decode s_MO_init.2.1 498 = .ok (.bipush 101, 2) := by decide +kernel
theorem d_MO_init_500 : decode s_MO_init.2.1 500 = .ok (.castore, 1) := by decide +kernel
theorem d_MO_init_501 : decode s_MO_init.2.1 501 = .ok (.dup, 1) := by decide +kernel
theorem d_MO_init_502 : decode s_MO_init.2.1 502 = .ok (.bipush 6, 2) := by decide +kernel
theorem d_MO_init_504 : decode s_MO_init.2.1 504 = .ok (.bipush 115, 2) := by decide +kernel
theorem d_MO_init_506 : decode s_MO_init.2.1 506 = .ok (.castore, 1) := by decide +kernel
theorem d_MO_init_507 : decode s_MO_init.2.1 507 = .ok (.putfield 66, 3) := by decide +kernel
theorem d_MO_init_510 : decode s_MO_init.2.1 510 = .ok (.aload_n 0, 1) := by decide +kernel
theorem d_MO_init_511 : decode s_MO_init.2.1 511 = .ok (.iconst 5, 1) := by decide +kernel
theorem d_MO_init_512 : decode s_MO_init.2.1 512 = .ok (.newarray .char, 2) := by decide +kernel
theorem d_MO_init_514 : decode s_MO_init.2.1 514 = .ok (.dup, 1) := by decide +kernel
theorem d_MO_init_515 : decode s_MO_init.2.1 515 = .ok (.iconst 0, 1) := by decide +kernel
theorem d_MO_init_516 : decode s_MO_init.2.1 516 = .ok (.bipush 116, 2) := by decide +kernel
theorem d_MO_init_518 : decode s_MO_init.2.1 518 = .ok (.castore, 1) := by decide +kernel
theorem d_MO_init_519 : decode s_MO_init.2.1 519 = .ok (.dup, 1) := by decide +kernel
theorem d_MO_init_520 : decode s_MO_init.2.1 520 = .ok (.iconst 1, 1) := by decide +kernel
theorem d_MO_init_521 : decode s_MO_init.2.1 521 = .ok (.bipush 101, 2) := by decide +kernel
theorem d_MO_init_523 : decode s_MO_init.2.1 523 = .ok (.castore, 1) := by decide +kernel
theorem d_MO_init_524 : decode s_MO_init.2.1 524 = .ok (.dup, 1) := by decide +kernel
theorem d_MO_init_525 : decode s_MO_init.2.1 525 = .ok (.iconst 2, 1) := by decide +kernel
theorem d_MO_init_526 : decode s_MO_init.2.1 526 = .ok (.bipush 108, 2) := by decide +kernel
theorem d_MO_init_528 : decode s_MO_init.2.1 528 = .ok (.castore, 1) := by decide +kernel
theorem d_MO_init_529 : decode s_MO_init.2.1 529 = .ok (.dup, 1) := by decide +kernel
theorem d_MO_init_530 : decode s_MO_init.2.1 530 = .ok (.iconst 3, 1) := by decide +kernel
theorem d_MO_init_531 : decode s_MO_init.2.1 531 = .ok (.bipush 108, 2) := by decide +kernel
theorem d_MO_init_533 : decode s_MO_init.2.1 533 = .ok (.castore, 1) := by decide +kernel
theorem d_MO_init_534 : decode s_MO_init.2.1 534 = .ok (.dup, 1) := by decide +kernel
theorem d_MO_init_535 : decode s_MO_init.2.1 535 = .ok (.iconst 4, 1) := by decide +kernel
theorem d_MO_init_536 : decode s_MO_init.2.1 536 = .ok (.bipush 115, 2) := by decide +kernel
theorem d_MO_init_538 : decode s_MO_init.2.1 538 = .ok (.castore, 1) := by decide +kernel
theorem d_MO_init_539 : decode s_MO_init.2.1 539 = .ok (.putfield 69, 3) := by decide +kernel
theorem d_MO_init_542 : decode s_MO_init.2.1 542 = .ok (.aload_n 0, 1) := by decide +kernel
theorem d_MO_init_543 : decode s_MO_init.2.1 543 = .ok (.iconst 4, 1) := by decide +kernel
theorem d_MO_init_544 : decode s_MO_init.2.1 544 = .ok (.newarray .char, 2) := by decide +kernel
theorem d_MO_init_546 : decode s_MO_init.2.1 546 = .ok (.dup, 1) := by decide +kernel
theorem d_MO_init_547 : decode s_MO_init.2.1 547 = .ok (.iconst 0, 1) := by decide +kernel
theorem d_MO_init_548 : decode s_MO_init.2.1 548 = .ok (.bipush 110, 2) := by decide +kernel
theorem d_MO_init_550 : decode s_MO_init.2.1 550 = .ok (.castore, 1) := by decide +kernel
theorem d_MO_init_551 : decode s_MO_init.2.1 551 = .ok (.dup, 1) := by decide +kernel
theorem d_MO_init_552 : decode s_MO_init.2.1 552 = .ok (.iconst 1, 1) := by decide +kernel
theorem d_MO_init_553 : decode s_MO_init.2.1 553 = .ok (.bipush 111, 2) := by decide +kernel
theorem d_MO_init_555 : decode s_MO_init.2.1 555 = .ok (.castore, 1) := by decide +kernel
theorem d_MO_init_556 : decode s_MO_init.2.1 556 = .ok (.dup, 1) := by decide +kernel
theorem d_MO_init_557 : decode s_MO_init.2.1 557 = .ok (.iconst 2, 1) := by decide +kernel
theorem d_MO_init_558 : decode s_MO_init.2.1 558 = .ok (.bipush 110, 2) := by decide +kernel
theorem d_MO_init_560 : decode s_MO_init.2.1 560 = .ok (.castore, 1) := by decide +kernel
theorem d_MO_init_561 : decode s_MO_init.2.1 561 = .ok (.dup, 1) := by decide +kernel
theorem d_MO_init_562 : decode s_MO_init.2.1 562 = .ok (.iconst 3, 1) := by decide +kernel
theorem d_MO_init_563 : decode s_MO_init.2.1 563 = .ok (.bipush 101, 2) := by decide +kernel
theorem d_MO_init_565 : decode s_MO_init.2.1 565 = .ok (.castore, 1) := by decide +kernel
theorem d_MO_init_566 : decode s_MO_init.2.1 566 = .ok (.putfield 72, 3) := by decide +kernel
theorem d_MO_init_569 : decode s_MO_init.2.1 569 = .ok (.aload_n 0, 1) := by decide +kernel
theorem d_MO_init_570 : decode s_MO_init.2.1 570 = .ok (.iconst 4, 1) := by decide +kernel
theorem d_MO_init_571 : decode s_MO_init.2.1 571 = .ok (.newarray .char, 2) := by decide +kernel
theorem d_MO_init_573 : decode s_MO_init.2.1 573 = .ok (.dup, 1) := by decide +kernel
theorem d_MO_init_574 : decode s_MO_init.2.1 574 = .ok (.iconst 0, 1) := by decide +kernel
theorem d_MO_init_575 : decode s_MO_init.2.1 575 = .ok (.bipush 115, 2) := by decide +kernel
theorem d_MO_init_577 : decode s_MO_init.2.1 577 = .ok (.castore, 1) := by decide +kernel
theorem d_MO_init_578 : decode s_MO_init.2.1 578 = .ok (.dup, 1) := by decide +kernel
theorem d_MO_init_579 : decode s_MO_init.2.1 579 = .ok (.iconst 1, 1) := by decide +kernel
theorem d_MO_init_580 : decode s_MO_init.2.1 580 = .ok (.bipush 111, 2) := by decide +kernel
theorem d_MO_init_582 : decode s_MO_init.2.1 582 = .ok (.castore, 1) := by decide +kernel
theorem d_MO_init_583 : decode s_MO_init.2.1 583 = .ok (.dup, 1) := by decide +kernel
theorem d_MO_init_584 : decode s_MO_init.2.1 584 = .ok (.iconst 2, 1) := by decide +kernel
theorem d_MO_init_585 : decode s_MO_init.2.1 585 = .ok (.bipush 109, 2) := by decide +kernel
theorem d_MO_init_587 : decode s_MO_init.2.1 587 = .ok (.castore, 1) := by decide +kernel
theorem d_MO_init_588 : decode s_MO_init.2.1 588 = .ok (.dup, 1) := by decide +kernel
theorem d_MO_init_589 : decode s_MO_init.2.1 589 = .ok (.iconst 3, 1) := by decide +kernel
theorem d_MO_init_590 : decode s_MO_init.2.1 590 = .ok (.bipush 101, 2) := by decide +kernel
theorem d_MO_init_592 : decode s_MO_init.2.1 592 = .ok (.castore, 1) := by decide +kernel
theorem d_MO_init_593 : decode s_MO_init.2.1 593 = .ok (.putfield 75, 3) := by decide +kernel
theorem d_MO_init_596 : decode s_MO_init.2.1 596 = .ok (.aload_n 0, 1) := by decide +kernel
theorem d_MO_init_597 : decode s_MO_init.2.1 597 = .ok (.sipush 184, 3) := by decide +kernel
theorem d_MO_init_600 : decode s_MO_init.2.1 600 = .ok (.newarray .int, 2) := by decide +kernel
theorem d_MO_init_602 : decode s_MO_init.2.1 602 = .ok (.putfield 78, 3) := by decide +kernel
theorem d_MO_init_605 : decode s_MO_init.2.1 605 = .ok (.aload_n 0, 1) := by decide +kernel
theorem d_MO_init_606 : decode s_MO_init.2.1 606 = .ok (.sipush 184, 3) := by decide +kernel
theorem d_MO_init_609 : decode s_MO_init.2.1 609 = .ok (.newarray .int, 2) := by decide +kernel
theorem d_MO_init_611 : decode s_MO_init.2.1 611 = .ok (.putfield 81, 3) := by decide +kernel
theorem d_MO_init_614 : decode s_MO_init.2.1 614 = .ok (.aload_n 0, 1) := by decide +kernel
theorem d_MO_init_615 : decode s_MO_init.2.1 615 = .ok (.sipush 184, 3) := by decide +kernel
theorem d_MO_init_618 : decode s_MO_init.2.1 618 = .ok (.newarray .int, 2) := by decide +kernel
theorem d_MO_init_620 : decode s_MO_init.2.1 620 = .ok (.putfield 84, 3) := by decide +kernel
theorem d_MO_init_623 : decode s_MO_init.2.1 623 = .ok (.aload_n 0, 1) := by decide +kernel
theorem d_MO_init_624 : decode s_MO_init.2.1 624 = .ok (.iconst 4, 1) := by decide +kernel
theorem d_MO_init_625 : decode s_MO_init.2.1 625 = .ok (.newarray .int, 2) := by decide +kernel
theorem d_MO_init_627 : decode s_MO_init.2.1 627 = .ok (.putfield 87, 3) := by decide +kernel
theorem d_MO_init_630 : decode s_MO_init.2.1 630 = .ok (.aload_n 0, 1) := by decide +kernel
theorem d_MO_init_631 : decode s_MO_init.2.1 631 = .ok (.iconst 4, 1) := by decide +kernel
theorem d_MO_init_632 : decode s_MO_init.2.1 632 = .ok (.newarray .int, 2) := by decide +kernel
theorem d_MO_init_634 : decode s_MO_init.2.1 634 = .ok (.putfield 90, 3) := by decide +kernel
theorem d_MO_init_637 : decode s_MO_init.2.1 637 = .ok (.aload_n 0, 1) := by decide +kernel
theorem d_MO_init_638 : decode s_MO_init.2.1 638 = .ok (.bipush (-2), 2) := by decide +kernel
theorem d_MO_init_640 : decode s_MO_init.2.1 640 = .ok (.putfield 93, 3) := by decide +kernel
theorem d_MO_init_643 : decode s_MO_init.2.1 643 = .ok (.aload_n 0, 1) := by decide +kernel
theorem d_MO_init_644 : decode s_MO_init.2.1 644 = .ok (.sipush 608, 3) := by decide +kernel
theorem d_MO_init_647 : decode s_MO_init.2.1 647 = .ok (.newarray .long, 2) := by decide +kernel
theorem d_MO_init_649 : decode s_MO_init.2.1 649 = .ok (.putfield 96, 3) := by decide +kernel
theorem d_MO_init_652 : decode s_MO_init.2.1 652 = .ok (.aload_n 0, 1) := by decide +kernel
theorem d_MO_init_653 : decode s_MO_init.2.1 653 = .ok (.sipush 608, 3) := by decide +kernel
theorem d_MO_init_656 : decode s_MO_init.2.1 656 = .ok (.newarray .int, 2) := by decide +kernel
theorem d_MO_init_658 : decode s_MO_init.2.1 658 = .ok (.putfield 100, 3) := by decide +kernel
theorem d_MO_init_661 : decode s_MO_init.2.1 661 = .ok (.aload_n 0, 1) := by decide +kernel
theorem d_MO_init_662 : decode s_MO_init.2.1 662 = .ok (.sipush 2048, 3) := by decide +kernel
theorem d_MO_init_665 : decode s_MO_init.2.1 665 = .ok (.newarray .int, 2) := by decide +kernel
theorem d_MO_init_667 : decode s_MO_init.2.1 667 = .ok (.putfield 103, 3) := by decide +kernel
theorem d_MO_init_670 : decode s_MO_init.2.1 670 = .ok (.aload_n 0, 1) := by decide +kernel
theorem d_MO_init_671 : decode s_MO_init.2.1 671 = .ok (.ldc 106, 2) := by decide +kernel
theorem d_MO_init_673 : decode s_MO_init.2.1 673 = .ok (.newarray .int, 2) := by decide +kernel
theorem d_MO_init_675 : decode s_MO_init.2.1 675 = .ok (.putfield 107, 3) := by decide +kernel
theorem d_MO_init_678 : decode s_MO_init.2.1 678 = .ok (.aload_n 0, 1) := by decide +kernel
theorem d_MO_init_679 : decode s_MO_init.2.1 679 = .ok (.ldc 110, 2) := by decide +kernel
theorem d_MO_init_681 : decode s_MO_init.2.1 681 = .ok (.newarray .int, 2) := by decide +kernel
theorem d_MO_init_683 : decode s_MO_init.2.1 683 = .ok (.putfield 111, 3) := by decide +kernel
theorem d_MO_init_686 : decode s_MO_init.2.1 686 = .ok (.aload_n 0, 1) := by decide +kernel
theorem d_MO_init_687 : decode s_MO_init.2.1 687 = .ok (.sipush 2432, 3) := by decide +kernel
theorem d_MO_init_690 : decode s_MO_init.2.1 690 = .ok (.newarray .int, 2) := by decide +kernel
theorem d_MO_init_692 : decode s_MO_init.2.1 692 = .ok (.putfield 114, 3) := by decide +kernel
theorem d_MO_init_695 : decode s_MO_init.2.1 695 = .ok (.aload_n 0, 1) := by decide +kernel
theorem d_MO_init_696 : decode s_MO_init.2.1 696 = .ok (.sipush 2432, 3) := by decide +kernel
theorem d_MO_init_699 : decode s_MO_init.2.1 699 = .ok (.newarray .int, 2) := by decide +kernel
theorem d_MO_init_701 : decode s_MO_init.2.1 701 = .ok (.putfield 117, 3) := by decide +kernel
theorem d_MO_init_704 : decode s_MO_init.2.1 704 = .ok (.aload_n 0, 1) := by decide +kernel
theorem d_MO_init_705 : decode s_MO_init.2.1 705 = .ok (.sipush 2432, 3) := by decide +kernel
theorem d_MO_init_708 : decode s_MO_init.2.1 708 = .ok (.newarray .boolean, 2) := by decide +kernel
theorem d_MO_init_710 : decode s_MO_init.2.1 710 = .ok (.putfield 120, 3) := by decide +kernel
theorem d_MO_init_713 : decode s_MO_init.2.1 713 = .ok (.aload_n 0, 1) := by decide +kernel
theorem d_MO_init_714 : decode s_MO_init.2.1 714 = .ok (.sipush 2432, 3) := by decide +kernel
theorem d_MO_init_717 : decode s_MO_init.2.1 717 = .ok (.newarray .boolean, 2) := by decide +kernel
theorem d_MO_init_719 : decode s_MO_init.2.1 719 = .ok (.putfield 124, 3) := by decide +kernel
theorem d_MO_init_722 : decode s_MO_init.2.1 722 = .ok (.aload_n 0, 1) := by decide +kernel
theorem d_MO_init_723 : decode s_MO_init.2.1 723 = .ok (.sipush 2432, 3) := by decide +kernel
theorem d_MO_init_726 : decode s_MO_init.2.1 726 = .ok (.newarray .boolean, 2) := by decide +kernel
theorem d_MO_init_728 : decode s_MO_init.2.1 728 = .ok (.putfield 127, 3) := by decide +kernel
theorem d_MO_init_731 : decode s_MO_init.2.1 731 = .ok (.aload_n 0, 1) := by decide +kernel
theorem d_MO_init_732 : decode s_MO_init.2.1 732 = .ok (.sipush 2432, 3) := by decide +kernel
theorem d_MO_init_735 : decode s_MO_init.2.1 735 = .ok (.newarray .int, 2) := by decide +kernel
theorem d_MO_init_737 : decode s_MO_init.2.1 737 = .ok (.putfield 130, 3) := by decide +kernel
theorem d_MO_init_740 : decode s_MO_init.2.1 740 = .ok (.aload_n 0, 1) := by decide +kernel
theorem d_MO_init_741 : decode s_MO_init.2.1 741 = .ok (.sipush 2432, 3) := by decide +kernel
theorem d_MO_init_744 : decode s_MO_init.2.1 744 = .ok (.newarray .int, 2) := by decide +kernel
theorem d_MO_init_746 : decode s_MO_init.2.1 746 = .ok (.putfield 133, 3) := by decide +kernel
theorem d_MO_init_749 : decode s_MO_init.2.1 749 = .ok (.aload_n 0, 1) := by decide +kernel
theorem d_MO_init_750 : decode s_MO_init.2.1 750 = .ok (.sipush 2432, 3) := by decide +kernel
theorem d_MO_init_753 : decode s_MO_init.2.1 753 = .ok (.newarray .int, 2) := by decide +kernel
theorem d_MO_init_755 : decode s_MO_init.2.1 755 = .ok (.putfield 136, 3) := by decide +kernel
theorem d_MO_init_758 : decode s_MO_init.2.1 758 = .ok (.aload_n 0, 1) := by decide +kernel
theorem d_MO_init_759 : decode s_MO_init.2.1 759 = .ok (.sipush 2432, 3) := by decide +kernel
theorem d_MO_init_762 : decode s_MO_init.2.1 762 = .ok (.newarray .int, 2) := by decide +kernel
theorem d_MO_init_764 : decode s_MO_init.2.1 764 = .ok (.putfield 139, 3) := by decide +kernel
theorem d_MO_init_767 : decode s_MO_init.2.1 767 = .ok (.aload_n 0, 1) := by decide +kernel
theorem d_MO_init_768 : decode s_MO_init.2.1 768 = .ok (.sipush 2432, 3) := by decide +kernel
theorem d_MO_init_771 : decode s_MO_init.2.1 771 = .ok (.newarray .int, 2) := by decide +kernel
theorem d_MO_init_773 : decode s_MO_init.2.1 773 = .ok (.putfield 142, 3) := by decide +kernel
theorem d_MO_init_776 : decode s_MO_init.2.1 776 = .ok (.aload_n 0, 1) := by decide +kernel
theorem d_MO_init_777 : decode s_MO_init.2.1 777 = .ok (.sipush 2432, 3) := by decide +kernel
theorem d_MO_init_780 : decode s_MO_init.2.1 780 = .ok (.newarray .int, 2) := by decide +kernel
theorem d_MO_init_782 : decode s_MO_init.2.1 782 = .ok (.putfield 145, 3) := by decide +kernel
theorem d_MO_init_785 : decode s_MO_init.2.1 785 = .ok (.aload_n 0, 1) := by decide +kernel
theorem d_MO_init_786 : decode s_MO_init.2.1 786 = .ok (.sipush 2432, 3) := by decide +kernel
theorem d_MO_init_789 : decode s_MO_init.2.1 789 = .ok (.newarray .boolean, 2) := by decide +kernel
theorem d_MO_init_791 : decode s_MO_init.2.1 791 = .ok (.putfield 148, 3) := by decide +kernel
theorem d_MO_init_794 : decode s_MO_init.2.1 794 = .ok (.aload_n 0, 1) := by decide +kernel
theorem d_MO_init_795 : decode s_MO_init.2.1 795 = .ok (.sipush 2432, 3) := by decide +kernel
theorem d_MO_init_798 : decode s_MO_init.2.1 798 = .ok (.newarray .boolean, 2) := by decide +kernel
theorem d_MO_init_800 : decode s_MO_init.2.1 800 = .ok (.putfield 151, 3) := by decide +kernel
theorem d_MO_init_803 : decode s_MO_init.2.1 803 = .ok (.aload_n 0, 1) := by decide +kernel
theorem d_MO_init_804 : decode s_MO_init.2.1 804 = .ok (.sipush 2432, 3) := by decide +kernel
theorem d_MO_init_807 : decode s_MO_init.2.1 807 = .ok (.newarray .int, 2) := by decide +kernel
theorem d_MO_init_809 : decode s_MO_init.2.1 809 = .ok (.putfield 154, 3) := by decide +kernel
theorem d_MO_init_812 : decode s_MO_init.2.1 812 = .ok (.aload_n 0, 1) := by decide +kernel
theorem d_MO_init_813 : decode s_MO_init.2.1 813 = .ok (.sipush 2432, 3) := by decide +kernel
theorem d_MO_init_816 : decode s_MO_init.2.1 816 = .ok (.newarray .int, 2) := by decide +kernel
theorem d_MO_init_818 : decode s_MO_init.2.1 818 = .ok (.putfield 157, 3) := by decide +kernel
theorem d_MO_init_821 : decode s_MO_init.2.1 821 = .ok (.aload_n 0, 1) := by decide +kernel
theorem d_MO_init_822 : decode s_MO_init.2.1 822 = .ok (.sipush 608, 3) := by decide +kernel
theorem d_MO_init_825 : decode s_MO_init.2.1 825 = .ok (.newarray .int, 2) := by decide +kernel
theorem d_MO_init_827 : decode s_MO_init.2.1 827 = .ok (.putfield 160, 3) := by decide +kernel
theorem d_MO_init_830 : decode s_MO_init.2.1 830 = .ok (.aload_n 0, 1) := by decide +kernel
theorem d_MO_init_831 : decode s_MO_init.2.1 831 = .ok (.sipush 608, 3) := by decide +kernel
theorem d_MO_init_834 : decode s_MO_init.2.1 834 = .ok (.newarray .int, 2) := by decide +kernel
theorem d_MO_init_836 : decode s_MO_init.2.1 836 = .ok (.putfield 163, 3) := by decide +kernel
theorem d_MO_init_839 : decode s_MO_init.2.1 839 = .ok (.aload_n 0, 1) := by decide +kernel
theorem d_MO_init_840 : decode s_MO_init.2.1 840 = .ok (.sipush 2432, 3) := by decide +kernel
theorem d_MO_init_843 : decode s_MO_init.2.1 843 = .ok (.newarray .int, 2) := by decide +kernel
theorem d_MO_init_845 : decode s_MO_init.2.1 845 = .ok (.putfield 166, 3) := by decide +kernel
theorem d_MO_init_848 : decode s_MO_init.2.1 848 = .ok (.aload_n 0, 1) := by decide +kernel
theorem d_MO_init_849 : decode s_MO_init.2.1 849 = .ok (.sipush 608, 3) := by decide +kernel
theorem d_MO_init_852 : decode s_MO_init.2.1 852 = .ok (.newarray .int, 2) := by decide +kernel
theorem d_MO_init_854 : decode s_MO_init.2.1 854 = .ok (.putfield 169, 3) := by decide +kernel
theorem d_MO_init_857 : decode s_MO_init.2.1 857 = .ok (.aload_n 0, 1) := by decide +kernel
theorem d_MO_init_858 : decode s_MO_init.2.1 858 = .ok (.iconst 5, 1) := by decide +kernel
theorem d_MO_init_859 : decode s_MO_init.2.1 859 = .ok (.newarray .int, 2) := by decide +kernel
theorem d_MO_init_861 : decode s_MO_init.2.1 861 = .ok (.putfield 172, 3) := by decide +kernel
theorem d_MO_init_864 : decode s_MO_init.2.1 864 = .ok (.aload_n 0, 1) := by decide +kernel
theorem d_MO_init_865 : decode s_MO_init.2.1 865 = .ok (.bipush 20, 2) := by decide +kernel
theorem d_MO_init_867 : decode s_MO_init.2.1 867 = .ok (.newarray .long, 2) := by decide +kernel
theorem d_MO_init_869 : decode s_MO_init.2.1 869 = .ok (.putfield 175, 3) := by decide +kernel
theorem d_MO_init_872 : decode s_MO_init.2.1 872 = .ok (.aload_n 0, 1) := by decide +kernel
theorem d_MO_init_873 : decode s_MO_init.2.1 873 = .ok (.lconst 1, 1) := by decide +kernel
theorem d_MO_init_874 : decode s_MO_init.2.1 874 = .ok (.putfield 178, 3) := by decide +kernel
theorem d_MO_init_877 : decode s_MO_init.2.1 877 = .ok (.aload_n 0, 1) := by decide +kernel
theorem d_MO_init_878 : decode s_MO_init.2.1 878 = .ok (.bipush 12, 2) := by decide +kernel
theorem d_MO_init_880 : decode s_MO_init.2.1 880 = .ok (.newarray .int, 2) := by decide +kernel
theorem d_MO_init_882 : decode s_MO_init.2.1 882 = .ok (.putfield 182, 3) := by decide +kernel
theorem d_MO_init_885 : decode s_MO_init.2.1 885 = .ok (.aload_n 0, 1) := by decide +kernel
theorem d_MO_init_886 : decode s_MO_init.2.1 886 = .ok (.sipush 608, 3) := by decide +kernel
theorem d_MO_init_889 : decode s_MO_init.2.1 889 = .ok (.newarray .boolean, 2) := by decide +kernel
theorem d_MO_init_891 : decode s_MO_init.2.1 891 = .ok (.putfield 185, 3) := by decide +kernel
theorem d_MO_init_894 : decode s_MO_init.2.1 894 = .ok (.aload_n 0, 1) := by decide +kernel
theorem d_MO_init_895 : decode s_MO_init.2.1 895 = .ok (.sipush 608, 3) := by decide +kernel
theorem d_MO_init_898 : decode s_MO_init.2.1 898 = .ok (.newarray .boolean, 2) := by decide +kernel
theorem d_MO_init_900 : decode s_MO_init.2.1 900 = .ok (.putfield 188, 3) := by decide +kernel
theorem d_MO_init_903 : decode s_MO_init.2.1 903 = .ok (.aload_n 0, 1) := by decide +kernel
theorem d_MO_init_904 : decode s_MO_init.2.1 904 = .ok (.sipush 130, 3) := by decide +kernel
theorem d_MO_init_907 : decode s_MO_init.2.1 907 = .ok (.newarray .int, 2) := by decide +kernel
theorem d_MO_init_909 : decode s_MO_init.2.1 909 = .ok (.putfield 191, 3) := by decide +kernel
theorem d_MO_init_912 : decode s_MO_init.2.1 912 = .ok (.aload_n 0, 1) := by decide +kernel
theorem d_MO_init_913 : decode s_MO_init.2.1 913 = .ok (.sipush 130, 3) := by decide +kernel
theorem d_MO_init_916 : decode s_MO_init.2.1 916 = .ok (.newarray .int, 2) := by decide +kernel
theorem d_MO_init_918 : decode s_MO_init.2.1 918 = .ok (.putfield 194, 3) := by decide +kernel
theorem d_MO_init_921 : decode s_MO_init.2.1 921 = .ok (.return_, 1) := by decide +kernel
theorem ty2_MO : ∀ k, k < 85 → (t_MO k = .int ∨ t_MO k = .boolean ∨ t_MO k = .long ∨ (∃ cn, t_MO k = .object cn) ∨ ∃ t, t_MO k = .array t) := by
  intro k hk
  have h : ∀ k, k < 85 → (match t_MO k with | .int => true | .boolean => true | .long => true | .object _ => true | .array _ => true | _ => false) = true := by decide +kernel
  have h1 := h k hk
  revert h1
  cases t_MO k <;> simp
