theorem ztb_at {i : Nat} {w : Cond} (h : lw_tbl[i]? = some w) (hg : goodWord w = true) : w ∈ ztb := List.mem_filter.mpr ⟨List.mem_of_getElem? h, hg⟩
theorem ztb_t {i : Nat} {w : Cond} (h : tables_1[i]? = some w) (hg : goodWord w = true) : w ∈ ztb := List.mem_filter.mpr ⟨List.mem_append_right _ (List.mem_of_getElem? h), hg⟩
theorem ztb_p {i : Nat} {y : MethodName} (n : Nat) (h : lw_privs[i]? = some (y, n)) : Cond.selects y.cls y y ∈ ztb := List.mem_filter.mpr ⟨List.mem_append_left _ (List.mem_map.mpr ⟨(y, n), List.mem_of_getElem? h, rfl⟩), rfl⟩
theorem ztb_u {w : Cond} (h : w ∈ tables_1) (hg : goodWord w = true) : w ∈ ztb := List.mem_filter.mpr ⟨List.mem_append_right _ h, hg⟩
theorem znw_at {i : Nat} {w : Cond} (h : znw[i]? = some w) : w ∈ znw := List.mem_of_getElem? h
theorem ztb_1 {i : Nat} {w : Cond} (h : tables_1_1[i]? = some w) (hg : goodWord w = true) : w ∈ ztb := ztb_u (List.mem_append_left _ (List.mem_of_getElem? h)) hg
theorem ztb_2 {i : Nat} {w : Cond} (h : tables_1_2[i]? = some w) (hg : goodWord w = true) : w ∈ ztb := ztb_u (List.mem_append_right _ (List.mem_append_left _ (List.mem_of_getElem? h))) hg
theorem ztb_3 {i : Nat} {w : Cond} (h : tables_1_3[i]? = some w) (hg : goodWord w = true) : w ∈ ztb := ztb_u (List.mem_append_right _ (List.mem_append_right _ (List.mem_append_left _ (List.mem_of_getElem? h)))) hg
theorem ztb_4 {i : Nat} {w : Cond} (h : tables_1_4[i]? = some w) (hg : goodWord w = true) : w ∈ ztb := ztb_u (List.mem_append_right _ (List.mem_append_right _ (List.mem_append_right _ (List.mem_append_left _ (List.mem_of_getElem? h))))) hg
theorem ztb_5 {i : Nat} {w : Cond} (h : tables_1_5[i]? = some w) (hg : goodWord w = true) : w ∈ ztb := ztb_u (List.mem_append_right _ (List.mem_append_right _ (List.mem_append_right _ (List.mem_append_right _ (List.mem_append_left _ (List.mem_of_getElem? h)))))) hg
theorem ztb_6 {i : Nat} {w : Cond} (h : tables_1_6[i]? = some w) (hg : goodWord w = true) : w ∈ ztb := ztb_u (List.mem_append_right _ (List.mem_append_right _ (List.mem_append_right _ (List.mem_append_right _ (List.mem_append_right _ (List.mem_append_left _ (List.mem_of_getElem? h))))))) hg
theorem ztb_7 {i : Nat} {w : Cond} (h : tables_1_7[i]? = some w) (hg : goodWord w = true) : w ∈ ztb := ztb_u (List.mem_append_right _ (List.mem_append_right _ (List.mem_append_right _ (List.mem_append_right _ (List.mem_append_right _ (List.mem_append_right _ (List.mem_append_left _ (List.mem_of_getElem? h)))))))) hg
theorem ztb_8 {i : Nat} {w : Cond} (h : tables_1_8[i]? = some w) (hg : goodWord w = true) : w ∈ ztb := ztb_u (List.mem_append_right _ (List.mem_append_right _ (List.mem_append_right _ (List.mem_append_right _ (List.mem_append_right _ (List.mem_append_right _ (List.mem_append_right _ (List.mem_append_left _ (List.mem_of_getElem? h))))))))) hg
theorem ztb_9 {i : Nat} {w : Cond} (h : tables_1_9[i]? = some w) (hg : goodWord w = true) : w ∈ ztb := ztb_u (List.mem_append_right _ (List.mem_append_right _ (List.mem_append_right _ (List.mem_append_right _ (List.mem_append_right _ (List.mem_append_right _ (List.mem_append_right _ (List.mem_append_right _ (List.mem_append_left _ (List.mem_of_getElem? h)))))))))) hg
theorem ztb_10 {i : Nat} {w : Cond} (h : tables_1_10[i]? = some w) (hg : goodWord w = true) : w ∈ ztb := ztb_u (List.mem_append_right _ (List.mem_append_right _ (List.mem_append_right _ (List.mem_append_right _ (List.mem_append_right _ (List.mem_append_right _ (List.mem_append_right _ (List.mem_append_right _ (List.mem_append_right _ (List.mem_of_getElem? h)))))))))) hg
theorem fl_PA_12 : zFL R_PA 12 11 0 R_PA F_PA 16 t_PA := ⟨zk_PA, Nat.le_of_ble_eq_true rfl, Or.inl (ztb_3 (i := 40) rfl rfl)⟩
theorem fl_PA_16 : zFL R_PA 16 11 1 R_PA F_PA 16 t_PA := ⟨zk_PA, Nat.le_of_ble_eq_true rfl, Or.inl (ztb_3 (i := 41) rfl rfl)⟩
theorem fl_PA_19 : zFL R_PA 19 11 2 R_PA F_PA 16 t_PA := ⟨zk_PA, Nat.le_of_ble_eq_true rfl, Or.inl (ztb_3 (i := 42) rfl rfl)⟩
theorem fl_PA_25 : zFL R_PA 25 11 3 R_PA F_PA 16 t_PA := ⟨zk_PA, Nat.le_of_ble_eq_true rfl, Or.inl (ztb_3 (i := 43) rfl rfl)⟩
theorem fl_PA_32 : zFL R_PA 32 11 4 R_PA F_PA 16 t_PA := ⟨zk_PA, Nat.le_of_ble_eq_true rfl, Or.inl (ztb_3 (i := 44) rfl rfl)⟩
theorem fl_PA_39 : zFL R_PA 39 11 5 R_PA F_PA 16 t_PA := ⟨zk_PA, Nat.le_of_ble_eq_true rfl, Or.inl (ztb_3 (i := 45) rfl rfl)⟩
theorem fl_PA_46 : zFL R_PA 46 11 6 R_PA F_PA 16 t_PA := ⟨zk_PA, Nat.le_of_ble_eq_true rfl, Or.inl (ztb_3 (i := 46) rfl rfl)⟩
theorem fl_PA_50 : zFL R_PA 50 11 7 R_PA F_PA 16 t_PA := ⟨zk_PA, Nat.le_of_ble_eq_true rfl, Or.inl (ztb_3 (i := 47) rfl rfl)⟩
theorem fl_PA_53 : zFL R_PA 53 11 8 R_PA F_PA 16 t_PA := ⟨zk_PA, Nat.le_of_ble_eq_true rfl, Or.inl (ztb_3 (i := 48) rfl rfl)⟩
theorem fl_PA_57 : zFL R_PA 57 11 9 R_PA F_PA 16 t_PA := ⟨zk_PA, Nat.le_of_ble_eq_true rfl, Or.inl (ztb_3 (i := 49) rfl rfl)⟩
theorem fl_PA_64 : zFL R_PA 64 11 10 R_PA F_PA 16 t_PA := ⟨zk_PA, Nat.le_of_ble_eq_true rfl, Or.inl (ztb_3 (i := 50) rfl rfl)⟩
theorem fl_PA_71 : zFL R_PA 71 11 11 R_PA F_PA 16 t_PA := ⟨zk_PA, Nat.le_of_ble_eq_true rfl, Or.inl (ztb_3 (i := 51) rfl rfl)⟩
theorem fl_PA_80 : zFL R_PA 80 11 12 R_PA F_PA 16 t_PA := ⟨zk_PA, Nat.le_of_ble_eq_true rfl, Or.inl (ztb_3 (i := 52) rfl rfl)⟩
theorem fl_PA_84 : zFL R_PA 84 11 13 R_PA F_PA 16 t_PA := ⟨zk_PA, Nat.le_of_ble_eq_true rfl, Or.inl (ztb_3 (i := 53) rfl rfl)⟩
theorem fl_PA_88 : zFL R_PA 88 11 14 R_PA F_PA 16 t_PA := ⟨zk_PA, Nat.le_of_ble_eq_true rfl, Or.inl (ztb_3 (i := 54) rfl rfl)⟩
theorem fl_PA_92 : zFL R_PA 92 11 15 R_PA F_PA 16 t_PA := ⟨zk_PA, Nat.le_of_ble_eq_true rfl, Or.inl (ztb_3 (i := 55) rfl rfl)⟩
theorem fl_PA_115 : zFL R_PA 115 4 0 R_Reader F_Reader 9 t_Reader := ⟨zk_Reader, Nat.le_of_ble_eq_true rfl, Or.inr ⟨"ProtocolAtlas", znw_at (i := 80) rfl⟩⟩
theorem fl_PA_137 : zFL R_PA 137 4 7 R_Reader F_Reader 9 t_Reader := ⟨zk_Reader, Nat.le_of_ble_eq_true rfl, Or.inr ⟨"ProtocolAtlas", znw_at (i := 81) rfl⟩⟩
theorem fl_PA_140 : zFL R_PA 140 4 8 R_Reader F_Reader 9 t_Reader := ⟨zk_Reader, Nat.le_of_ble_eq_true rfl, Or.inr ⟨"ProtocolAtlas", znw_at (i := 82) rfl⟩⟩
theorem fl_PA_143 : zFL R_PA 143 9 0 R_Table F_Table 12 t_Table := ⟨zk_Table, Nat.le_of_ble_eq_true rfl, Or.inr ⟨"ProtocolAtlas", znw_at (i := 61) rfl⟩⟩
theorem fl_PA_146 : zFL R_PA 146 9 1 R_Table F_Table 12 t_Table := ⟨zk_Table, Nat.le_of_ble_eq_true rfl, Or.inr ⟨"ProtocolAtlas", znw_at (i := 65) rfl⟩⟩
theorem fl_PA_149 : zFL R_PA 149 9 4 R_Table F_Table 12 t_Table := ⟨zk_Table, Nat.le_of_ble_eq_true rfl, Or.inr ⟨"ProtocolAtlas", znw_at (i := 70) rfl⟩⟩
theorem fl_PA_152 : zFL R_PA 152 0 0 R_Atlas F_Atlas 17 t_Atlas := ⟨zk_Atlas, Nat.le_of_ble_eq_true rfl, Or.inr ⟨"ProtocolAtlas", znw_at (i := 26) rfl⟩⟩
theorem fl_PA_158 : zFL R_PA 158 0 4 R_Atlas F_Atlas 17 t_Atlas := ⟨zk_Atlas, Nat.le_of_ble_eq_true rfl, Or.inr ⟨"ProtocolAtlas", znw_at (i := 30) rfl⟩⟩
theorem fl_PA_170 : zFL R_PA 170 8 3 R_Study F_Study 16 t_Study := ⟨zk_Study, Nat.le_of_ble_eq_true rfl, Or.inr ⟨"ProtocolAtlas", znw_at (i := 87) rfl⟩⟩
theorem fl_PA_173 : zFL R_PA 173 7 2 R_Sight F_Sight 10 t_Sight := ⟨zk_Sight, Nat.le_of_ble_eq_true rfl, Or.inr ⟨"ProtocolAtlas", znw_at (i := 44) rfl⟩⟩
theorem fl_PA_185 : zFL R_PA 185 9 5 R_Table F_Table 12 t_Table := ⟨zk_Table, Nat.le_of_ble_eq_true rfl, Or.inr ⟨"ProtocolAtlas", znw_at (i := 73) rfl⟩⟩
theorem fl_PA_197 : zFL R_PA 197 0 7 R_Atlas F_Atlas 17 t_Atlas := ⟨zk_Atlas, Nat.le_of_ble_eq_true rfl, Or.inr ⟨"ProtocolAtlas", znw_at (i := 31) rfl⟩⟩
theorem fl_PA_203 : zFL R_PA 203 0 8 R_Atlas F_Atlas 17 t_Atlas := ⟨zk_Atlas, Nat.le_of_ble_eq_true rfl, Or.inr ⟨"ProtocolAtlas", znw_at (i := 33) rfl⟩⟩
theorem fl_PA_214 : zFL R_PA 214 8 4 R_Study F_Study 16 t_Study := ⟨zk_Study, Nat.le_of_ble_eq_true rfl, Or.inr ⟨"ProtocolAtlas", znw_at (i := 88) rfl⟩⟩
theorem fl_PA_220 : zFL R_PA 220 8 9 R_Study F_Study 16 t_Study := ⟨zk_Study, Nat.le_of_ble_eq_true rfl, Or.inr ⟨"ProtocolAtlas", znw_at (i := 92) rfl⟩⟩
theorem fl_PA_223 : zFL R_PA 223 8 10 R_Study F_Study 16 t_Study := ⟨zk_Study, Nat.le_of_ble_eq_true rfl, Or.inr ⟨"ProtocolAtlas", znw_at (i := 93) rfl⟩⟩
theorem fl_PA_226 : zFL R_PA 226 0 9 R_Atlas F_Atlas 17 t_Atlas := ⟨zk_Atlas, Nat.le_of_ble_eq_true rfl, Or.inr ⟨"ProtocolAtlas", znw_at (i := 37) rfl⟩⟩
theorem fl_PA_249 : zFL R_PA 249 8 5 R_Study F_Study 16 t_Study := ⟨zk_Study, Nat.le_of_ble_eq_true rfl, Or.inr ⟨"ProtocolAtlas", znw_at (i := 89) rfl⟩⟩
theorem fl_PA_252 : zFL R_PA 252 8 6 R_Study F_Study 16 t_Study := ⟨zk_Study, Nat.le_of_ble_eq_true rfl, Or.inr ⟨"ProtocolAtlas", znw_at (i := 90) rfl⟩⟩
theorem fl_PA_255 : zFL R_PA 255 8 7 R_Study F_Study 16 t_Study := ⟨zk_Study, Nat.le_of_ble_eq_true rfl, Or.inr ⟨"ProtocolAtlas", znw_at (i := 91) rfl⟩⟩
theorem fl_PA_270 : zFL R_PA 270 10 0 R_World F_World 5 t_World := ⟨zk_World, Nat.le_of_ble_eq_true rfl, Or.inr ⟨"ProtocolAtlas", znw_at (i := 7) rfl⟩⟩
theorem fl_PA_280 : zFL R_PA 280 10 2 R_World F_World 5 t_World := ⟨zk_World, Nat.le_of_ble_eq_true rfl, Or.inr ⟨"ProtocolAtlas", znw_at (i := 13) rfl⟩⟩
theorem fl_PA_292 : zFL R_PA 292 0 3 R_Atlas F_Atlas 17 t_Atlas := ⟨zk_Atlas, Nat.le_of_ble_eq_true rfl, Or.inr ⟨"ProtocolAtlas", znw_at (i := 29) rfl⟩⟩
theorem fl_PA_322 : zFL R_PA 322 7 7 R_Sight F_Sight 10 t_Sight := ⟨zk_Sight, Nat.le_of_ble_eq_true rfl, Or.inr ⟨"ProtocolAtlas", znw_at (i := 46) rfl⟩⟩
theorem fl_PA_325 : zFL R_PA 325 7 6 R_Sight F_Sight 10 t_Sight := ⟨zk_Sight, Nat.le_of_ble_eq_true rfl, Or.inr ⟨"ProtocolAtlas", znw_at (i := 45) rfl⟩⟩
theorem fl_Atlas_9 : zFL R_Atlas 9 0 0 R_Atlas F_Atlas 17 t_Atlas := ⟨zk_Atlas, Nat.le_of_ble_eq_true rfl, Or.inl (ztb_1 (i := 140) rfl rfl)⟩
theorem fl_Atlas_15 : zFL R_Atlas 15 0 1 R_Atlas F_Atlas 17 t_Atlas := ⟨zk_Atlas, Nat.le_of_ble_eq_true rfl, Or.inl (ztb_1 (i := 145) rfl rfl)⟩
theorem fl_Atlas_21 : zFL R_Atlas 21 0 2 R_Atlas F_Atlas 17 t_Atlas := ⟨zk_Atlas, Nat.le_of_ble_eq_true rfl, Or.inl (ztb_1 (i := 148) rfl rfl)⟩
theorem fl_Atlas_25 : zFL R_Atlas 25 0 3 R_Atlas F_Atlas 17 t_Atlas := ⟨zk_Atlas, Nat.le_of_ble_eq_true rfl, Or.inl (ztb_1 (i := 149) rfl rfl)⟩
theorem fl_Atlas_29 : zFL R_Atlas 29 0 4 R_Atlas F_Atlas 17 t_Atlas := ⟨zk_Atlas, Nat.le_of_ble_eq_true rfl, Or.inl (ztb_1 (i := 151) rfl rfl)⟩
theorem fl_Atlas_33 : zFL R_Atlas 33 0 5 R_Atlas F_Atlas 17 t_Atlas := ⟨zk_Atlas, Nat.le_of_ble_eq_true rfl, Or.inl (ztb_1 (i := 153) rfl rfl)⟩
theorem fl_Atlas_36 : zFL R_Atlas 36 0 6 R_Atlas F_Atlas 17 t_Atlas := ⟨zk_Atlas, Nat.le_of_ble_eq_true rfl, Or.inl (ztb_1 (i := 154) rfl rfl)⟩
theorem fl_Atlas_39 : zFL R_Atlas 39 0 7 R_Atlas F_Atlas 17 t_Atlas := ⟨zk_Atlas, Nat.le_of_ble_eq_true rfl, Or.inl (ztb_1 (i := 155) rfl rfl)⟩
theorem fl_Atlas_42 : zFL R_Atlas 42 0 8 R_Atlas F_Atlas 17 t_Atlas := ⟨zk_Atlas, Nat.le_of_ble_eq_true rfl, Or.inl (ztb_1 (i := 158) rfl rfl)⟩
theorem fl_Atlas_46 : zFL R_Atlas 46 0 9 R_Atlas F_Atlas 17 t_Atlas := ⟨zk_Atlas, Nat.le_of_ble_eq_true rfl, Or.inl (ztb_1 (i := 161) rfl rfl)⟩
theorem fl_Atlas_49 : zFL R_Atlas 49 0 10 R_Atlas F_Atlas 17 t_Atlas := ⟨zk_Atlas, Nat.le_of_ble_eq_true rfl, Or.inl (ztb_1 (i := 165) rfl rfl)⟩
theorem fl_Atlas_52 : zFL R_Atlas 52 0 11 R_Atlas F_Atlas 17 t_Atlas := ⟨zk_Atlas, Nat.le_of_ble_eq_true rfl, Or.inl (ztb_1 (i := 168) rfl rfl)⟩
theorem fl_Atlas_56 : zFL R_Atlas 56 0 12 R_Atlas F_Atlas 17 t_Atlas := ⟨zk_Atlas, Nat.le_of_ble_eq_true rfl, Or.inl (ztb_1 (i := 172) rfl rfl)⟩
theorem fl_Atlas_59 : zFL R_Atlas 59 0 13 R_Atlas F_Atlas 17 t_Atlas := ⟨zk_Atlas, Nat.le_of_ble_eq_true rfl, Or.inl (ztb_1 (i := 173) rfl rfl)⟩
theorem fl_Atlas_62 : zFL R_Atlas 62 0 14 R_Atlas F_Atlas 17 t_Atlas := ⟨zk_Atlas, Nat.le_of_ble_eq_true rfl, Or.inl (ztb_1 (i := 174) rfl rfl)⟩
theorem fl_Atlas_68 : zFL R_Atlas 68 0 15 R_Atlas F_Atlas 17 t_Atlas := ⟨zk_Atlas, Nat.le_of_ble_eq_true rfl, Or.inl (ztb_1 (i := 175) rfl rfl)⟩
theorem fl_Atlas_72 : zFL R_Atlas 72 0 16 R_Atlas F_Atlas 17 t_Atlas := ⟨zk_Atlas, Nat.le_of_ble_eq_true rfl, Or.inl (ztb_1 (i := 176) rfl rfl)⟩
theorem fl_Atlas_75 : zFL R_Atlas 75 6 8 R_Search F_Search 9 t_Search := ⟨zk_Search, Nat.le_of_ble_eq_true rfl, Or.inr ⟨"ProtocolAtlas", znw_at (i := 19) rfl⟩⟩
theorem fl_Atlas_78 : zFL R_Atlas 78 9 0 R_Table F_Table 12 t_Table := ⟨zk_Table, Nat.le_of_ble_eq_true rfl, Or.inr ⟨"ProtocolAtlas", znw_at (i := 58) rfl⟩⟩
theorem fl_Atlas_88 : zFL R_Atlas 88 6 2 R_Search F_Search 9 t_Search := ⟨zk_Search, Nat.le_of_ble_eq_true rfl, Or.inr ⟨"ProtocolAtlas", znw_at (i := 15) rfl⟩⟩
theorem fl_Atlas_91 : zFL R_Atlas 91 6 3 R_Search F_Search 9 t_Search := ⟨zk_Search, Nat.le_of_ble_eq_true rfl, Or.inr ⟨"ProtocolAtlas", znw_at (i := 16) rfl⟩⟩
theorem fl_Atlas_92 : zFL R_Atlas 92 6 4 R_Search F_Search 9 t_Search := ⟨zk_Search, Nat.le_of_ble_eq_true rfl, Or.inr ⟨"ProtocolAtlas", znw_at (i := 17) rfl⟩⟩
theorem fl_Atlas_93 : zFL R_Atlas 93 6 5 R_Search F_Search 9 t_Search := ⟨zk_Search, Nat.le_of_ble_eq_true rfl, Or.inr ⟨"ProtocolAtlas", znw_at (i := 18) rfl⟩⟩
theorem fl_Atlas_117 : zFL R_Atlas 117 10 2 R_World F_World 5 t_World := ⟨zk_World, Nat.le_of_ble_eq_true rfl, Or.inr ⟨"ProtocolAtlas", znw_at (i := 11) rfl⟩⟩
theorem fl_Atlas_118 : zFL R_Atlas 118 9 4 R_Table F_Table 12 t_Table := ⟨zk_Table, Nat.le_of_ble_eq_true rfl, Or.inr ⟨"ProtocolAtlas", znw_at (i := 69) rfl⟩⟩
theorem fl_Atlas_133 : zFL R_Atlas 133 10 3 R_World F_World 5 t_World := ⟨zk_World, Nat.le_of_ble_eq_true rfl, Or.inr ⟨"ProtocolAtlas", znw_at (i := 14) rfl⟩⟩
theorem fl_Atlas_144 : zFL R_Atlas 144 10 0 R_World F_World 5 t_World := ⟨zk_World, Nat.le_of_ble_eq_true rfl, Or.inr ⟨"ProtocolAtlas", znw_at (i := 5) rfl⟩⟩
theorem fl_Bytes_9 : zFL R_Bytes 9 1 0 R_Bytes F_Bytes 2 t_Bytes := ⟨zk_Bytes, Nat.le_of_ble_eq_true rfl, Or.inl (ztb_1 (i := 35) rfl rfl)⟩
theorem fl_Bytes_15 : zFL R_Bytes 15 1 1 R_Bytes F_Bytes 2 t_Bytes := ⟨zk_Bytes, Nat.le_of_ble_eq_true rfl, Or.inl (ztb_1 (i := 36) rfl rfl)⟩
theorem fl_Index_11 : zFL R_Index 11 2 0 R_Index F_Index 2 t_Index := ⟨zk_Index, Nat.le_of_ble_eq_true rfl, Or.inl (ztb_1 (i := 55) rfl rfl)⟩
theorem fl_Index_15 : zFL R_Index 15 2 1 R_Index F_Index 2 t_Index := ⟨zk_Index, Nat.le_of_ble_eq_true rfl, Or.inl (ztb_1 (i := 56) rfl rfl)⟩
theorem fl_Joined_9 : zFL R_Joined 9 3 1 R_Joined F_Joined 16 t_Joined := ⟨zk_Joined, Nat.le_of_ble_eq_true rfl, Or.inl (ztb_2 (i := 172) rfl rfl)⟩
theorem fl_Joined_15 : zFL R_Joined 15 3 2 R_Joined F_Joined 16 t_Joined := ⟨zk_Joined, Nat.le_of_ble_eq_true rfl, Or.inl (ztb_2 (i := 173) rfl rfl)⟩
theorem fl_Joined_19 : zFL R_Joined 19 3 3 R_Joined F_Joined 16 t_Joined := ⟨zk_Joined, Nat.le_of_ble_eq_true rfl, Or.inl (ztb_2 (i := 174) rfl rfl)⟩
theorem fl_Joined_22 : zFL R_Joined 22 3 4 R_Joined F_Joined 16 t_Joined := ⟨zk_Joined, Nat.le_of_ble_eq_true rfl, Or.inl (ztb_2 (i := 175) rfl rfl)⟩
theorem fl_Joined_25 : zFL R_Joined 25 3 5 R_Joined F_Joined 16 t_Joined := ⟨zk_Joined, Nat.le_of_ble_eq_true rfl, Or.inl (ztb_2 (i := 177) rfl rfl)⟩
theorem fl_Joined_29 : zFL R_Joined 29 3 6 R_Joined F_Joined 16 t_Joined := ⟨zk_Joined, Nat.le_of_ble_eq_true rfl, Or.inl (ztb_2 (i := 179) rfl rfl)⟩
theorem fl_Joined_32 : zFL R_Joined 32 3 7 R_Joined F_Joined 16 t_Joined := ⟨zk_Joined, Nat.le_of_ble_eq_true rfl, Or.inl (ztb_2 (i := 181) rfl rfl)⟩
theorem fl_Joined_35 : zFL R_Joined 35 3 8 R_Joined F_Joined 16 t_Joined := ⟨zk_Joined, Nat.le_of_ble_eq_true rfl, Or.inl (ztb_2 (i := 183) rfl rfl)⟩
theorem fl_Joined_38 : zFL R_Joined 38 3 9 R_Joined F_Joined 16 t_Joined := ⟨zk_Joined, Nat.le_of_ble_eq_true rfl, Or.inl (ztb_2 (i := 184) rfl rfl)⟩
theorem fl_Joined_41 : zFL R_Joined 41 3 10 R_Joined F_Joined 16 t_Joined := ⟨zk_Joined, Nat.le_of_ble_eq_true rfl, Or.inl (ztb_2 (i := 185) rfl rfl)⟩
theorem fl_Joined_44 : zFL R_Joined 44 3 11 R_Joined F_Joined 16 t_Joined := ⟨zk_Joined, Nat.le_of_ble_eq_true rfl, Or.inl (ztb_2 (i := 186) rfl rfl)⟩
theorem fl_Joined_47 : zFL R_Joined 47 3 12 R_Joined F_Joined 16 t_Joined := ⟨zk_Joined, Nat.le_of_ble_eq_true rfl, Or.inl (ztb_2 (i := 187) rfl rfl)⟩
theorem fl_Joined_50 : zFL R_Joined 50 3 13 R_Joined F_Joined 16 t_Joined := ⟨zk_Joined, Nat.le_of_ble_eq_true rfl, Or.inl (ztb_2 (i := 188) rfl rfl)⟩
theorem fl_Joined_53 : zFL R_Joined 53 3 14 R_Joined F_Joined 16 t_Joined := ⟨zk_Joined, Nat.le_of_ble_eq_true rfl, Or.inl (ztb_2 (i := 189) rfl rfl)⟩
theorem fl_Joined_56 : zFL R_Joined 56 3 15 R_Joined F_Joined 16 t_Joined := ⟨zk_Joined, Nat.le_of_ble_eq_true rfl, Or.inl (ztb_2 (i := 190) rfl rfl)⟩
theorem fl_Joined_59 : zFL R_Joined 59 3 0 R_Joined F_Joined 16 t_Joined := ⟨zk_Joined, Nat.le_of_ble_eq_true rfl, Or.inl (ztb_2 (i := 171) rfl rfl)⟩
theorem fl_Joined_69 : zFL R_Joined 69 0 0 R_Atlas F_Atlas 17 t_Atlas := ⟨zk_Atlas, Nat.le_of_ble_eq_true rfl, Or.inr ⟨"ProtocolAtlas", znw_at (i := 23) rfl⟩⟩
theorem fl_Joined_82 : zFL R_Joined 82 0 1 R_Atlas F_Atlas 17 t_Atlas := ⟨zk_Atlas, Nat.le_of_ble_eq_true rfl, Or.inr ⟨"ProtocolAtlas", znw_at (i := 27) rfl⟩⟩
theorem fl_Joined_85 : zFL R_Joined 85 0 10 R_Atlas F_Atlas 17 t_Atlas := ⟨zk_Atlas, Nat.le_of_ble_eq_true rfl, Or.inr ⟨"ProtocolAtlas", znw_at (i := 38) rfl⟩⟩
theorem fl_Joined_91 : zFL R_Joined 91 0 9 R_Atlas F_Atlas 17 t_Atlas := ⟨zk_Atlas, Nat.le_of_ble_eq_true rfl, Or.inr ⟨"ProtocolAtlas", znw_at (i := 35) rfl⟩⟩
theorem fl_Joined_109 : zFL R_Joined 109 0 11 R_Atlas F_Atlas 17 t_Atlas := ⟨zk_Atlas, Nat.le_of_ble_eq_true rfl, Or.inr ⟨"ProtocolAtlas", znw_at (i := 42) rfl⟩⟩
theorem fl_Joined_137 : zFL R_Joined 137 9 5 R_Table F_Table 12 t_Table := ⟨zk_Table, Nat.le_of_ble_eq_true rfl, Or.inr ⟨"ProtocolAtlas", znw_at (i := 74) rfl⟩⟩
theorem fl_Joined_143 : zFL R_Joined 143 5 0 R_Row F_Row 8 t_Row := ⟨zk_Row, Nat.le_of_ble_eq_true rfl, Or.inr ⟨"ProtocolAtlas", znw_at (i := 50) rfl⟩⟩
theorem fl_Reader_12 : zFL R_Reader 12 4 0 R_Reader F_Reader 9 t_Reader := ⟨zk_Reader, Nat.le_of_ble_eq_true rfl, Or.inl (ztb_2 (i := 126) rfl rfl)⟩
theorem fl_Reader_18 : zFL R_Reader 18 4 1 R_Reader F_Reader 9 t_Reader := ⟨zk_Reader, Nat.le_of_ble_eq_true rfl, Or.inl (ztb_2 (i := 128) rfl rfl)⟩
theorem fl_Reader_22 : zFL R_Reader 22 4 2 R_Reader F_Reader 9 t_Reader := ⟨zk_Reader, Nat.le_of_ble_eq_true rfl, Or.inl (ztb_2 (i := 129) rfl rfl)⟩
theorem fl_Reader_25 : zFL R_Reader 25 4 3 R_Reader F_Reader 9 t_Reader := ⟨zk_Reader, Nat.le_of_ble_eq_true rfl, Or.inl (ztb_2 (i := 130) rfl rfl)⟩
theorem fl_Reader_28 : zFL R_Reader 28 4 4 R_Reader F_Reader 9 t_Reader := ⟨zk_Reader, Nat.le_of_ble_eq_true rfl, Or.inl (ztb_2 (i := 131) rfl rfl)⟩
theorem fl_Reader_32 : zFL R_Reader 32 4 5 R_Reader F_Reader 9 t_Reader := ⟨zk_Reader, Nat.le_of_ble_eq_true rfl, Or.inl (ztb_2 (i := 132) rfl rfl)⟩
theorem fl_Reader_36 : zFL R_Reader 36 4 6 R_Reader F_Reader 9 t_Reader := ⟨zk_Reader, Nat.le_of_ble_eq_true rfl, Or.inl (ztb_2 (i := 133) rfl rfl)⟩
theorem fl_Reader_39 : zFL R_Reader 39 4 7 R_Reader F_Reader 9 t_Reader := ⟨zk_Reader, Nat.le_of_ble_eq_true rfl, Or.inl (ztb_2 (i := 134) rfl rfl)⟩
theorem fl_Reader_42 : zFL R_Reader 42 4 8 R_Reader F_Reader 9 t_Reader := ⟨zk_Reader, Nat.le_of_ble_eq_true rfl, Or.inl (ztb_2 (i := 136) rfl rfl)⟩
theorem fl_Reader_155 : zFL R_Reader 155 9 0 R_Table F_Table 12 t_Table := ⟨zk_Table, Nat.le_of_ble_eq_true rfl, Or.inr ⟨"ProtocolAtlas", znw_at (i := 62) rfl⟩⟩
theorem fl_Reader_164 : zFL R_Reader 164 9 1 R_Table F_Table 12 t_Table := ⟨zk_Table, Nat.le_of_ble_eq_true rfl, Or.inr ⟨"ProtocolAtlas", znw_at (i := 66) rfl⟩⟩
theorem fl_Reader_177 : zFL R_Reader 177 9 3 R_Table F_Table 12 t_Table := ⟨zk_Table, Nat.le_of_ble_eq_true rfl, Or.inr ⟨"ProtocolAtlas", znw_at (i := 67) rfl⟩⟩
theorem fl_Reader_184 : zFL R_Reader 184 9 6 R_Table F_Table 12 t_Table := ⟨zk_Table, Nat.le_of_ble_eq_true rfl, Or.inr ⟨"ProtocolAtlas", znw_at (i := 75) rfl⟩⟩
theorem fl_Reader_191 : zFL R_Reader 191 9 10 R_Table F_Table 12 t_Table := ⟨zk_Table, Nat.le_of_ble_eq_true rfl, Or.inr ⟨"ProtocolAtlas", znw_at (i := 77) rfl⟩⟩
theorem fl_Reader_198 : zFL R_Reader 198 9 4 R_Table F_Table 12 t_Table := ⟨zk_Table, Nat.le_of_ble_eq_true rfl, Or.inr ⟨"ProtocolAtlas", znw_at (i := 72) rfl⟩⟩
theorem fl_Reader_221 : zFL R_Reader 221 9 11 R_Table F_Table 12 t_Table := ⟨zk_Table, Nat.le_of_ble_eq_true rfl, Or.inr ⟨"ProtocolAtlas", znw_at (i := 79) rfl⟩⟩
theorem fl_Reader_224 : zFL R_Reader 224 5 1 R_Row F_Row 8 t_Row := ⟨zk_Row, Nat.le_of_ble_eq_true rfl, Or.inr ⟨"ProtocolAtlas", znw_at (i := 51) rfl⟩⟩
theorem fl_Reader_235 : zFL R_Reader 235 5 2 R_Row F_Row 8 t_Row := ⟨zk_Row, Nat.le_of_ble_eq_true rfl, Or.inr ⟨"ProtocolAtlas", znw_at (i := 52) rfl⟩⟩
theorem fl_Reader_239 : zFL R_Reader 239 5 3 R_Row F_Row 8 t_Row := ⟨zk_Row, Nat.le_of_ble_eq_true rfl, Or.inr ⟨"ProtocolAtlas", znw_at (i := 53) rfl⟩⟩
theorem fl_Reader_243 : zFL R_Reader 243 5 4 R_Row F_Row 8 t_Row := ⟨zk_Row, Nat.le_of_ble_eq_true rfl, Or.inr ⟨"ProtocolAtlas", znw_at (i := 54) rfl⟩⟩
theorem fl_Reader_250 : zFL R_Reader 250 5 5 R_Row F_Row 8 t_Row := ⟨zk_Row, Nat.le_of_ble_eq_true rfl, Or.inr ⟨"ProtocolAtlas", znw_at (i := 55) rfl⟩⟩
theorem fl_Reader_255 : zFL R_Reader 255 5 7 R_Row F_Row 8 t_Row := ⟨zk_Row, Nat.le_of_ble_eq_true rfl, Or.inr ⟨"ProtocolAtlas", znw_at (i := 57) rfl⟩⟩
theorem fl_Reader_259 : zFL R_Reader 259 5 6 R_Row F_Row 8 t_Row := ⟨zk_Row, Nat.le_of_ble_eq_true rfl, Or.inr ⟨"ProtocolAtlas", znw_at (i := 56) rfl⟩⟩
theorem fl_Row_9 : zFL R_Row 9 5 0 R_Row F_Row 8 t_Row := ⟨zk_Row, Nat.le_of_ble_eq_true rfl, Or.inl (ztb_2 (i := 34) rfl rfl)⟩
theorem fl_Row_15 : zFL R_Row 15 5 1 R_Row F_Row 8 t_Row := ⟨zk_Row, Nat.le_of_ble_eq_true rfl, Or.inl (ztb_2 (i := 36) rfl rfl)⟩
theorem fl_Row_19 : zFL R_Row 19 5 2 R_Row F_Row 8 t_Row := ⟨zk_Row, Nat.le_of_ble_eq_true rfl, Or.inl (ztb_2 (i := 38) rfl rfl)⟩
theorem fl_Row_22 : zFL R_Row 22 5 3 R_Row F_Row 8 t_Row := ⟨zk_Row, Nat.le_of_ble_eq_true rfl, Or.inl (ztb_2 (i := 40) rfl rfl)⟩
theorem fl_Row_25 : zFL R_Row 25 5 4 R_Row F_Row 8 t_Row := ⟨zk_Row, Nat.le_of_ble_eq_true rfl, Or.inl (ztb_2 (i := 42) rfl rfl)⟩
theorem fl_Row_28 : zFL R_Row 28 5 5 R_Row F_Row 8 t_Row := ⟨zk_Row, Nat.le_of_ble_eq_true rfl, Or.inl (ztb_2 (i := 44) rfl rfl)⟩
theorem fl_Row_31 : zFL R_Row 31 5 6 R_Row F_Row 8 t_Row := ⟨zk_Row, Nat.le_of_ble_eq_true rfl, Or.inl (ztb_2 (i := 46) rfl rfl)⟩
theorem fl_Row_34 : zFL R_Row 34 5 7 R_Row F_Row 8 t_Row := ⟨zk_Row, Nat.le_of_ble_eq_true rfl, Or.inl (ztb_2 (i := 48) rfl rfl)⟩
theorem fl_Row_41 : zFL R_Row 41 10 2 R_World F_World 5 t_World := ⟨zk_World, Nat.le_of_ble_eq_true rfl, Or.inr ⟨"ProtocolAtlas", znw_at (i := 10) rfl⟩⟩
theorem fl_Row_47 : zFL R_Row 47 10 0 R_World F_World 5 t_World := ⟨zk_World, Nat.le_of_ble_eq_true rfl, Or.inr ⟨"ProtocolAtlas", znw_at (i := 4) rfl⟩⟩
theorem fl_Row_73 : zFL R_Row 73 10 1 R_World F_World 5 t_World := ⟨zk_World, Nat.le_of_ble_eq_true rfl, Or.inr ⟨"ProtocolAtlas", znw_at (i := 8) rfl⟩⟩
theorem fl_Search_12 : zFL R_Search 12 6 0 R_Search F_Search 9 t_Search := ⟨zk_Search, Nat.le_of_ble_eq_true rfl, Or.inl (ztb_1 (i := 96) rfl rfl)⟩
theorem fl_Search_18 : zFL R_Search 18 6 1 R_Search F_Search 9 t_Search := ⟨zk_Search, Nat.le_of_ble_eq_true rfl, Or.inl (ztb_1 (i := 97) rfl rfl)⟩
theorem fl_Search_22 : zFL R_Search 22 6 2 R_Search F_Search 9 t_Search := ⟨zk_Search, Nat.le_of_ble_eq_true rfl, Or.inl (ztb_1 (i := 98) rfl rfl)⟩
theorem fl_Search_25 : zFL R_Search 25 6 3 R_Search F_Search 9 t_Search := ⟨zk_Search, Nat.le_of_ble_eq_true rfl, Or.inl (ztb_1 (i := 100) rfl rfl)⟩
theorem fl_Search_29 : zFL R_Search 29 6 4 R_Search F_Search 9 t_Search := ⟨zk_Search, Nat.le_of_ble_eq_true rfl, Or.inl (ztb_1 (i := 102) rfl rfl)⟩
theorem fl_Search_32 : zFL R_Search 32 6 5 R_Search F_Search 9 t_Search := ⟨zk_Search, Nat.le_of_ble_eq_true rfl, Or.inl (ztb_1 (i := 104) rfl rfl)⟩
theorem fl_Search_38 : zFL R_Search 38 6 6 R_Search F_Search 9 t_Search := ⟨zk_Search, Nat.le_of_ble_eq_true rfl, Or.inl (ztb_1 (i := 106) rfl rfl)⟩
theorem fl_Search_42 : zFL R_Search 42 6 7 R_Search F_Search 9 t_Search := ⟨zk_Search, Nat.le_of_ble_eq_true rfl, Or.inl (ztb_1 (i := 107) rfl rfl)⟩
theorem fl_Search_45 : zFL R_Search 45 6 8 R_Search F_Search 9 t_Search := ⟨zk_Search, Nat.le_of_ble_eq_true rfl, Or.inl (ztb_1 (i := 108) rfl rfl)⟩
theorem fl_Search_60 : zFL R_Search 60 9 0 R_Table F_Table 12 t_Table := ⟨zk_Table, Nat.le_of_ble_eq_true rfl, Or.inr ⟨"ProtocolAtlas", znw_at (i := 60) rfl⟩⟩
theorem fl_Search_73 : zFL R_Search 73 9 4 R_Table F_Table 12 t_Table := ⟨zk_Table, Nat.le_of_ble_eq_true rfl, Or.inr ⟨"ProtocolAtlas", znw_at (i := 68) rfl⟩⟩
theorem fl_Sight_9 : zFL R_Sight 9 7 0 R_Sight F_Sight 10 t_Sight := ⟨zk_Sight, Nat.le_of_ble_eq_true rfl, Or.inl (ztb_1 (i := 219) rfl rfl)⟩
theorem fl_Sight_15 : zFL R_Sight 15 7 1 R_Sight F_Sight 10 t_Sight := ⟨zk_Sight, Nat.le_of_ble_eq_true rfl, Or.inl (ztb_1 (i := 220) rfl rfl)⟩
theorem fl_Sight_18 : zFL R_Sight 18 7 2 R_Sight F_Sight 10 t_Sight := ⟨zk_Sight, Nat.le_of_ble_eq_true rfl, Or.inl (ztb_1 (i := 221) rfl rfl)⟩
theorem fl_Sight_22 : zFL R_Sight 22 7 3 R_Sight F_Sight 10 t_Sight := ⟨zk_Sight, Nat.le_of_ble_eq_true rfl, Or.inl (ztb_1 (i := 223) rfl rfl)⟩
theorem fl_Sight_25 : zFL R_Sight 25 7 4 R_Sight F_Sight 10 t_Sight := ⟨zk_Sight, Nat.le_of_ble_eq_true rfl, Or.inl (ztb_1 (i := 224) rfl rfl)⟩
theorem fl_Sight_29 : zFL R_Sight 29 7 5 R_Sight F_Sight 10 t_Sight := ⟨zk_Sight, Nat.le_of_ble_eq_true rfl, Or.inl (ztb_1 (i := 225) rfl rfl)⟩
theorem fl_Sight_32 : zFL R_Sight 32 7 6 R_Sight F_Sight 10 t_Sight := ⟨zk_Sight, Nat.le_of_ble_eq_true rfl, Or.inl (ztb_1 (i := 226) rfl rfl)⟩
theorem fl_Sight_35 : zFL R_Sight 35 7 7 R_Sight F_Sight 10 t_Sight := ⟨zk_Sight, Nat.le_of_ble_eq_true rfl, Or.inl (ztb_1 (i := 228) rfl rfl)⟩
theorem fl_Sight_38 : zFL R_Sight 38 7 8 R_Sight F_Sight 10 t_Sight := ⟨zk_Sight, Nat.le_of_ble_eq_true rfl, Or.inl (ztb_1 (i := 230) rfl rfl)⟩
theorem fl_Sight_41 : zFL R_Sight 41 7 9 R_Sight F_Sight 10 t_Sight := ⟨zk_Sight, Nat.le_of_ble_eq_true rfl, Or.inl (ztb_1 (i := 231) rfl rfl)⟩
theorem fl_Sight_54 : zFL R_Sight 54 9 1 R_Table F_Table 12 t_Table := ⟨zk_Table, Nat.le_of_ble_eq_true rfl, Or.inr ⟨"ProtocolAtlas", znw_at (i := 64) rfl⟩⟩
theorem fl_Sight_65 : zFL R_Sight 65 0 0 R_Atlas F_Atlas 17 t_Atlas := ⟨zk_Atlas, Nat.le_of_ble_eq_true rfl, Or.inr ⟨"ProtocolAtlas", znw_at (i := 25) rfl⟩⟩
theorem fl_Sight_78 : zFL R_Sight 78 0 11 R_Atlas F_Atlas 17 t_Atlas := ⟨zk_Atlas, Nat.le_of_ble_eq_true rfl, Or.inr ⟨"ProtocolAtlas", znw_at (i := 41) rfl⟩⟩
theorem fl_Study_9 : zFL R_Study 9 8 3 R_Study F_Study 16 t_Study := ⟨zk_Study, Nat.le_of_ble_eq_true rfl, Or.inl (ztb_2 (i := 227) rfl rfl)⟩
theorem fl_Study_15 : zFL R_Study 15 8 4 R_Study F_Study 16 t_Study := ⟨zk_Study, Nat.le_of_ble_eq_true rfl, Or.inl (ztb_2 (i := 229) rfl rfl)⟩
theorem fl_Study_19 : zFL R_Study 19 8 5 R_Study F_Study 16 t_Study := ⟨zk_Study, Nat.le_of_ble_eq_true rfl, Or.inl (ztb_2 (i := 231) rfl rfl)⟩
theorem fl_Study_22 : zFL R_Study 22 8 6 R_Study F_Study 16 t_Study := ⟨zk_Study, Nat.le_of_ble_eq_true rfl, Or.inl (ztb_2 (i := 233) rfl rfl)⟩
theorem fl_Study_25 : zFL R_Study 25 8 7 R_Study F_Study 16 t_Study := ⟨zk_Study, Nat.le_of_ble_eq_true rfl, Or.inl (ztb_2 (i := 235) rfl rfl)⟩
theorem fl_Study_29 : zFL R_Study 29 8 8 R_Study F_Study 16 t_Study := ⟨zk_Study, Nat.le_of_ble_eq_true rfl, Or.inl (ztb_2 (i := 237) rfl rfl)⟩
theorem fl_Study_32 : zFL R_Study 32 8 9 R_Study F_Study 16 t_Study := ⟨zk_Study, Nat.le_of_ble_eq_true rfl, Or.inl (ztb_2 (i := 238) rfl rfl)⟩
theorem fl_Study_35 : zFL R_Study 35 8 10 R_Study F_Study 16 t_Study := ⟨zk_Study, Nat.le_of_ble_eq_true rfl, Or.inl (ztb_3 (i := 0) rfl rfl)⟩
theorem fl_Study_38 : zFL R_Study 38 8 11 R_Study F_Study 16 t_Study := ⟨zk_Study, Nat.le_of_ble_eq_true rfl, Or.inl (ztb_3 (i := 2) rfl rfl)⟩
theorem fl_Study_41 : zFL R_Study 41 8 12 R_Study F_Study 16 t_Study := ⟨zk_Study, Nat.le_of_ble_eq_true rfl, Or.inl (ztb_3 (i := 3) rfl rfl)⟩
theorem fl_Study_44 : zFL R_Study 44 8 13 R_Study F_Study 16 t_Study := ⟨zk_Study, Nat.le_of_ble_eq_true rfl, Or.inl (ztb_3 (i := 4) rfl rfl)⟩
theorem fl_Study_47 : zFL R_Study 47 8 14 R_Study F_Study 16 t_Study := ⟨zk_Study, Nat.le_of_ble_eq_true rfl, Or.inl (ztb_3 (i := 5) rfl rfl)⟩
theorem fl_Study_50 : zFL R_Study 50 8 15 R_Study F_Study 16 t_Study := ⟨zk_Study, Nat.le_of_ble_eq_true rfl, Or.inl (ztb_3 (i := 6) rfl rfl)⟩
theorem fl_Study_53 : zFL R_Study 53 8 0 R_Study F_Study 16 t_Study := ⟨zk_Study, Nat.le_of_ble_eq_true rfl, Or.inl (ztb_2 (i := 224) rfl rfl)⟩
theorem fl_Study_62 : zFL R_Study 62 8 1 R_Study F_Study 16 t_Study := ⟨zk_Study, Nat.le_of_ble_eq_true rfl, Or.inl (ztb_2 (i := 225) rfl rfl)⟩
theorem fl_Study_66 : zFL R_Study 66 8 2 R_Study F_Study 16 t_Study := ⟨zk_Study, Nat.le_of_ble_eq_true rfl, Or.inl (ztb_2 (i := 226) rfl rfl)⟩
theorem fl_Study_77 : zFL R_Study 77 9 10 R_Table F_Table 12 t_Table := ⟨zk_Table, Nat.le_of_ble_eq_true rfl, Or.inr ⟨"ProtocolAtlas", znw_at (i := 76) rfl⟩⟩
theorem fl_Study_103 : zFL R_Study 103 0 0 R_Atlas F_Atlas 17 t_Atlas := ⟨zk_Atlas, Nat.le_of_ble_eq_true rfl, Or.inr ⟨"ProtocolAtlas", znw_at (i := 24) rfl⟩⟩
theorem fl_Study_108 : zFL R_Study 108 3 5 R_Joined F_Joined 16 t_Joined := ⟨zk_Joined, Nat.le_of_ble_eq_true rfl, Or.inr ⟨"ProtocolAtlas", znw_at (i := 84) rfl⟩⟩
theorem fl_Study_111 : zFL R_Study 111 0 11 R_Atlas F_Atlas 17 t_Atlas := ⟨zk_Atlas, Nat.le_of_ble_eq_true rfl, Or.inr ⟨"ProtocolAtlas", znw_at (i := 40) rfl⟩⟩
theorem fl_Study_118 : zFL R_Study 118 9 11 R_Table F_Table 12 t_Table := ⟨zk_Table, Nat.le_of_ble_eq_true rfl, Or.inr ⟨"ProtocolAtlas", znw_at (i := 78) rfl⟩⟩
theorem fl_Study_128 : zFL R_Study 128 3 4 R_Joined F_Joined 16 t_Joined := ⟨zk_Joined, Nat.le_of_ble_eq_true rfl, Or.inr ⟨"ProtocolAtlas", znw_at (i := 83) rfl⟩⟩
theorem fl_Study_135 : zFL R_Study 135 3 6 R_Joined F_Joined 16 t_Joined := ⟨zk_Joined, Nat.le_of_ble_eq_true rfl, Or.inr ⟨"ProtocolAtlas", znw_at (i := 85) rfl⟩⟩
theorem fl_Study_138 : zFL R_Study 138 3 7 R_Joined F_Joined 16 t_Joined := ⟨zk_Joined, Nat.le_of_ble_eq_true rfl, Or.inr ⟨"ProtocolAtlas", znw_at (i := 86) rfl⟩⟩
theorem fl_Study_144 : zFL R_Study 144 0 1 R_Atlas F_Atlas 17 t_Atlas := ⟨zk_Atlas, Nat.le_of_ble_eq_true rfl, Or.inr ⟨"ProtocolAtlas", znw_at (i := 28) rfl⟩⟩
theorem fl_Study_147 : zFL R_Study 147 0 9 R_Atlas F_Atlas 17 t_Atlas := ⟨zk_Atlas, Nat.le_of_ble_eq_true rfl, Or.inr ⟨"ProtocolAtlas", znw_at (i := 36) rfl⟩⟩
theorem fl_Study_154 : zFL R_Study 154 0 10 R_Atlas F_Atlas 17 t_Atlas := ⟨zk_Atlas, Nat.le_of_ble_eq_true rfl, Or.inr ⟨"ProtocolAtlas", znw_at (i := 39) rfl⟩⟩
theorem fl_Study_157 : zFL R_Study 157 0 7 R_Atlas F_Atlas 17 t_Atlas := ⟨zk_Atlas, Nat.le_of_ble_eq_true rfl, Or.inr ⟨"ProtocolAtlas", znw_at (i := 32) rfl⟩⟩
theorem fl_Study_166 : zFL R_Study 166 0 8 R_Atlas F_Atlas 17 t_Atlas := ⟨zk_Atlas, Nat.le_of_ble_eq_true rfl, Or.inr ⟨"ProtocolAtlas", znw_at (i := 34) rfl⟩⟩
theorem fl_Study_178 : zFL R_Study 178 9 4 R_Table F_Table 12 t_Table := ⟨zk_Table, Nat.le_of_ble_eq_true rfl, Or.inr ⟨"ProtocolAtlas", znw_at (i := 71) rfl⟩⟩
theorem fl_Table_9 : zFL R_Table 9 9 0 R_Table F_Table 12 t_Table := ⟨zk_Table, Nat.le_of_ble_eq_true rfl, Or.inl (ztb_2 (i := 67) rfl rfl)⟩
theorem fl_Table_15 : zFL R_Table 15 9 1 R_Table F_Table 12 t_Table := ⟨zk_Table, Nat.le_of_ble_eq_true rfl, Or.inl (ztb_2 (i := 73) rfl rfl)⟩
theorem fl_Table_19 : zFL R_Table 19 9 2 R_Table F_Table 12 t_Table := ⟨zk_Table, Nat.le_of_ble_eq_true rfl, Or.inl (ztb_2 (i := 78) rfl rfl)⟩
theorem fl_Table_22 : zFL R_Table 22 9 3 R_Table F_Table 12 t_Table := ⟨zk_Table, Nat.le_of_ble_eq_true rfl, Or.inl (ztb_2 (i := 79) rfl rfl)⟩
theorem fl_Table_26 : zFL R_Table 26 9 4 R_Table F_Table 12 t_Table := ⟨zk_Table, Nat.le_of_ble_eq_true rfl, Or.inl (ztb_2 (i := 81) rfl rfl)⟩
theorem fl_Table_31 : zFL R_Table 31 9 5 R_Table F_Table 12 t_Table := ⟨zk_Table, Nat.le_of_ble_eq_true rfl, Or.inl (ztb_2 (i := 87) rfl rfl)⟩
theorem fl_Table_35 : zFL R_Table 35 9 6 R_Table F_Table 12 t_Table := ⟨zk_Table, Nat.le_of_ble_eq_true rfl, Or.inl (ztb_2 (i := 90) rfl rfl)⟩
theorem fl_Table_38 : zFL R_Table 38 9 7 R_Table F_Table 12 t_Table := ⟨zk_Table, Nat.le_of_ble_eq_true rfl, Or.inl (ztb_2 (i := 92) rfl rfl)⟩
theorem fl_Table_41 : zFL R_Table 41 9 8 R_Table F_Table 12 t_Table := ⟨zk_Table, Nat.le_of_ble_eq_true rfl, Or.inl (ztb_2 (i := 93) rfl rfl)⟩
theorem fl_Table_44 : zFL R_Table 44 9 9 R_Table F_Table 12 t_Table := ⟨zk_Table, Nat.le_of_ble_eq_true rfl, Or.inl (ztb_2 (i := 94) rfl rfl)⟩
theorem fl_Table_47 : zFL R_Table 47 9 10 R_Table F_Table 12 t_Table := ⟨zk_Table, Nat.le_of_ble_eq_true rfl, Or.inl (ztb_2 (i := 95) rfl rfl)⟩
theorem fl_Table_50 : zFL R_Table 50 9 11 R_Table F_Table 12 t_Table := ⟨zk_Table, Nat.le_of_ble_eq_true rfl, Or.inl (ztb_2 (i := 98) rfl rfl)⟩
theorem fl_Table_110 : zFL R_Table 110 10 1 R_World F_World 5 t_World := ⟨zk_World, Nat.le_of_ble_eq_true rfl, Or.inr ⟨"ProtocolAtlas", znw_at (i := 9) rfl⟩⟩
theorem fl_Table_114 : zFL R_Table 114 10 0 R_World F_World 5 t_World := ⟨zk_World, Nat.le_of_ble_eq_true rfl, Or.inr ⟨"ProtocolAtlas", znw_at (i := 6) rfl⟩⟩
theorem fl_Table_117 : zFL R_Table 117 10 2 R_World F_World 5 t_World := ⟨zk_World, Nat.le_of_ble_eq_true rfl, Or.inr ⟨"ProtocolAtlas", znw_at (i := 12) rfl⟩⟩
theorem fl_World_9 : zFL R_World 9 10 0 R_World F_World 5 t_World := ⟨zk_World, Nat.le_of_ble_eq_true rfl, Or.inl (ztb_1 (i := 69) rfl rfl)⟩
theorem fl_World_15 : zFL R_World 15 10 1 R_World F_World 5 t_World := ⟨zk_World, Nat.le_of_ble_eq_true rfl, Or.inl (ztb_1 (i := 74) rfl rfl)⟩
theorem fl_World_18 : zFL R_World 18 10 2 R_World F_World 5 t_World := ⟨zk_World, Nat.le_of_ble_eq_true rfl, Or.inl (ztb_1 (i := 77) rfl rfl)⟩
theorem fl_World_22 : zFL R_World 22 10 3 R_World F_World 5 t_World := ⟨zk_World, Nat.le_of_ble_eq_true rfl, Or.inl (ztb_1 (i := 82) rfl rfl)⟩
theorem fl_World_25 : zFL R_World 25 10 4 R_World F_World 5 t_World := ⟨zk_World, Nat.le_of_ble_eq_true rfl, Or.inl (ztb_1 (i := 84) rfl rfl)⟩
theorem fl_World_28 : zFL R_World 28 9 1 R_Table F_Table 12 t_Table := ⟨zk_Table, Nat.le_of_ble_eq_true rfl, Or.inr ⟨"ProtocolAtlas", znw_at (i := 63) rfl⟩⟩
theorem fl_World_33 : zFL R_World 33 9 0 R_Table F_Table 12 t_Table := ⟨zk_Table, Nat.le_of_ble_eq_true rfl, Or.inr ⟨"ProtocolAtlas", znw_at (i := 59) rfl⟩⟩
theorem fl_MO_7 : zFL R_MO 7 12 0 R_MO F_MO 85 t_MO := ⟨zk_MO, Nat.le_of_ble_eq_true rfl, Or.inl (ztb_6 (i := 229) rfl rfl)⟩
theorem fl_MO_13 : zFL R_MO 13 12 8 R_MO F_MO 85 t_MO := ⟨zk_MO, Nat.le_of_ble_eq_true rfl, Or.inl (ztb_6 (i := 237) rfl rfl)⟩
theorem fl_MO_17 : zFL R_MO 17 12 9 R_MO F_MO 85 t_MO := ⟨zk_MO, Nat.le_of_ble_eq_true rfl, Or.inl (ztb_6 (i := 238) rfl rfl)⟩
theorem fl_MO_20 : zFL R_MO 20 12 10 R_MO F_MO 85 t_MO := ⟨zk_MO, Nat.le_of_ble_eq_true rfl, Or.inl (ztb_6 (i := 239) rfl rfl)⟩
theorem fl_MO_24 : zFL R_MO 24 12 11 R_MO F_MO 85 t_MO := ⟨zk_MO, Nat.le_of_ble_eq_true rfl, Or.inl (ztb_7 (i := 0) rfl rfl)⟩
theorem fl_MO_27 : zFL R_MO 27 12 12 R_MO F_MO 85 t_MO := ⟨zk_MO, Nat.le_of_ble_eq_true rfl, Or.inl (ztb_7 (i := 1) rfl rfl)⟩
theorem fl_MO_30 : zFL R_MO 30 12 13 R_MO F_MO 85 t_MO := ⟨zk_MO, Nat.le_of_ble_eq_true rfl, Or.inl (ztb_7 (i := 2) rfl rfl)⟩
theorem fl_MO_33 : zFL R_MO 33 12 14 R_MO F_MO 85 t_MO := ⟨zk_MO, Nat.le_of_ble_eq_true rfl, Or.inl (ztb_7 (i := 3) rfl rfl)⟩
theorem fl_MO_36 : zFL R_MO 36 12 15 R_MO F_MO 85 t_MO := ⟨zk_MO, Nat.le_of_ble_eq_true rfl, Or.inl (ztb_7 (i := 4) rfl rfl)⟩
theorem fl_MO_39 : zFL R_MO 39 12 16 R_MO F_MO 85 t_MO := ⟨zk_MO, Nat.le_of_ble_eq_true rfl, Or.inl (ztb_7 (i := 5) rfl rfl)⟩
theorem fl_MO_42 : zFL R_MO 42 12 17 R_MO F_MO 85 t_MO := ⟨zk_MO, Nat.le_of_ble_eq_true rfl, Or.inl (ztb_7 (i := 6) rfl rfl)⟩
theorem fl_MO_45 : zFL R_MO 45 12 18 R_MO F_MO 85 t_MO := ⟨zk_MO, Nat.le_of_ble_eq_true rfl, Or.inl (ztb_7 (i := 7) rfl rfl)⟩
theorem fl_MO_48 : zFL R_MO 48 12 19 R_MO F_MO 85 t_MO := ⟨zk_MO, Nat.le_of_ble_eq_true rfl, Or.inl (ztb_7 (i := 8) rfl rfl)⟩
theorem fl_MO_51 : zFL R_MO 51 12 20 R_MO F_MO 85 t_MO := ⟨zk_MO, Nat.le_of_ble_eq_true rfl, Or.inl (ztb_7 (i := 9) rfl rfl)⟩
theorem fl_MO_54 : zFL R_MO 54 12 21 R_MO F_MO 85 t_MO := ⟨zk_MO, Nat.le_of_ble_eq_true rfl, Or.inl (ztb_7 (i := 10) rfl rfl)⟩
theorem fl_MO_57 : zFL R_MO 57 12 22 R_MO F_MO 85 t_MO := ⟨zk_MO, Nat.le_of_ble_eq_true rfl, Or.inl (ztb_7 (i := 11) rfl rfl)⟩
theorem fl_MO_60 : zFL R_MO 60 12 23 R_MO F_MO 85 t_MO := ⟨zk_MO, Nat.le_of_ble_eq_true rfl, Or.inl (ztb_7 (i := 12) rfl rfl)⟩
theorem fl_MO_63 : zFL R_MO 63 12 24 R_MO F_MO 85 t_MO := ⟨zk_MO, Nat.le_of_ble_eq_true rfl, Or.inl (ztb_7 (i := 13) rfl rfl)⟩
theorem fl_MO_66 : zFL R_MO 66 12 25 R_MO F_MO 85 t_MO := ⟨zk_MO, Nat.le_of_ble_eq_true rfl, Or.inl (ztb_7 (i := 14) rfl rfl)⟩
theorem fl_MO_69 : zFL R_MO 69 12 26 R_MO F_MO 85 t_MO := ⟨zk_MO, Nat.le_of_ble_eq_true rfl, Or.inl (ztb_7 (i := 15) rfl rfl)⟩
theorem fl_MO_72 : zFL R_MO 72 12 27 R_MO F_MO 85 t_MO := ⟨zk_MO, Nat.le_of_ble_eq_true rfl, Or.inl (ztb_7 (i := 16) rfl rfl)⟩
theorem fl_MO_75 : zFL R_MO 75 12 28 R_MO F_MO 85 t_MO := ⟨zk_MO, Nat.le_of_ble_eq_true rfl, Or.inl (ztb_7 (i := 17) rfl rfl)⟩
theorem fl_MO_78 : zFL R_MO 78 12 30 R_MO F_MO 85 t_MO := ⟨zk_MO, Nat.le_of_ble_eq_true rfl, Or.inl (ztb_7 (i := 19) rfl rfl)⟩
theorem fl_MO_81 : zFL R_MO 81 12 31 R_MO F_MO 85 t_MO := ⟨zk_MO, Nat.le_of_ble_eq_true rfl, Or.inl (ztb_7 (i := 20) rfl rfl)⟩
theorem fl_MO_84 : zFL R_MO 84 12 32 R_MO F_MO 85 t_MO := ⟨zk_MO, Nat.le_of_ble_eq_true rfl, Or.inl (ztb_7 (i := 21) rfl rfl)⟩
theorem fl_MO_87 : zFL R_MO 87 12 37 R_MO F_MO 85 t_MO := ⟨zk_MO, Nat.le_of_ble_eq_true rfl, Or.inl (ztb_7 (i := 26) rfl rfl)⟩
theorem fl_MO_90 : zFL R_MO 90 12 39 R_MO F_MO 85 t_MO := ⟨zk_MO, Nat.le_of_ble_eq_true rfl, Or.inl (ztb_7 (i := 28) rfl rfl)⟩
theorem fl_MO_93 : zFL R_MO 93 12 40 R_MO F_MO 85 t_MO := ⟨zk_MO, Nat.le_of_ble_eq_true rfl, Or.inl (ztb_7 (i := 29) rfl rfl)⟩
theorem fl_MO_96 : zFL R_MO 96 12 42 R_MO F_MO 85 t_MO := ⟨zk_MO, Nat.le_of_ble_eq_true rfl, Or.inl (ztb_7 (i := 31) rfl rfl)⟩
theorem fl_MO_100 : zFL R_MO 100 12 43 R_MO F_MO 85 t_MO := ⟨zk_MO, Nat.le_of_ble_eq_true rfl, Or.inl (ztb_7 (i := 32) rfl rfl)⟩
theorem fl_MO_103 : zFL R_MO 103 12 44 R_MO F_MO 85 t_MO := ⟨zk_MO, Nat.le_of_ble_eq_true rfl, Or.inl (ztb_7 (i := 33) rfl rfl)⟩
theorem fl_MO_107 : zFL R_MO 107 12 45 R_MO F_MO 85 t_MO := ⟨zk_MO, Nat.le_of_ble_eq_true rfl, Or.inl (ztb_7 (i := 34) rfl rfl)⟩
theorem fl_MO_111 : zFL R_MO 111 12 47 R_MO F_MO 85 t_MO := ⟨zk_MO, Nat.le_of_ble_eq_true rfl, Or.inl (ztb_7 (i := 36) rfl rfl)⟩
theorem fl_MO_114 : zFL R_MO 114 12 48 R_MO F_MO 85 t_MO := ⟨zk_MO, Nat.le_of_ble_eq_true rfl, Or.inl (ztb_7 (i := 37) rfl rfl)⟩
theorem fl_MO_120 : zFL R_MO 120 12 50 R_MO F_MO 85 t_MO := ⟨zk_MO, Nat.le_of_ble_eq_true rfl, Or.inl (ztb_7 (i := 39) rfl rfl)⟩
theorem fl_MO_124 : zFL R_MO 124 12 51 R_MO F_MO 85 t_MO := ⟨zk_MO, Nat.le_of_ble_eq_true rfl, Or.inl (ztb_7 (i := 40) rfl rfl)⟩
theorem fl_MO_127 : zFL R_MO 127 12 52 R_MO F_MO 85 t_MO := ⟨zk_MO, Nat.le_of_ble_eq_true rfl, Or.inl (ztb_7 (i := 41) rfl rfl)⟩
theorem fl_MO_130 : zFL R_MO 130 12 53 R_MO F_MO 85 t_MO := ⟨zk_MO, Nat.le_of_ble_eq_true rfl, Or.inl (ztb_7 (i := 42) rfl rfl)⟩
theorem fl_MO_133 : zFL R_MO 133 12 54 R_MO F_MO 85 t_MO := ⟨zk_MO, Nat.le_of_ble_eq_true rfl, Or.inl (ztb_7 (i := 43) rfl rfl)⟩
theorem fl_MO_136 : zFL R_MO 136 12 55 R_MO F_MO 85 t_MO := ⟨zk_MO, Nat.le_of_ble_eq_true rfl, Or.inl (ztb_7 (i := 44) rfl rfl)⟩
theorem fl_MO_139 : zFL R_MO 139 12 56 R_MO F_MO 85 t_MO := ⟨zk_MO, Nat.le_of_ble_eq_true rfl, Or.inl (ztb_7 (i := 45) rfl rfl)⟩
theorem fl_MO_142 : zFL R_MO 142 12 57 R_MO F_MO 85 t_MO := ⟨zk_MO, Nat.le_of_ble_eq_true rfl, Or.inl (ztb_7 (i := 46) rfl rfl)⟩
theorem fl_MO_145 : zFL R_MO 145 12 58 R_MO F_MO 85 t_MO := ⟨zk_MO, Nat.le_of_ble_eq_true rfl, Or.inl (ztb_7 (i := 47) rfl rfl)⟩
theorem fl_MO_148 : zFL R_MO 148 12 59 R_MO F_MO 85 t_MO := ⟨zk_MO, Nat.le_of_ble_eq_true rfl, Or.inl (ztb_7 (i := 48) rfl rfl)⟩
theorem fl_MO_151 : zFL R_MO 151 12 64 R_MO F_MO 85 t_MO := ⟨zk_MO, Nat.le_of_ble_eq_true rfl, Or.inl (ztb_7 (i := 53) rfl rfl)⟩
theorem fl_MO_154 : zFL R_MO 154 12 65 R_MO F_MO 85 t_MO := ⟨zk_MO, Nat.le_of_ble_eq_true rfl, Or.inl (ztb_7 (i := 54) rfl rfl)⟩
theorem fl_MO_157 : zFL R_MO 157 12 66 R_MO F_MO 85 t_MO := ⟨zk_MO, Nat.le_of_ble_eq_true rfl, Or.inl (ztb_7 (i := 55) rfl rfl)⟩
theorem fl_MO_160 : zFL R_MO 160 12 67 R_MO F_MO 85 t_MO := ⟨zk_MO, Nat.le_of_ble_eq_true rfl, Or.inl (ztb_7 (i := 56) rfl rfl)⟩
theorem fl_MO_163 : zFL R_MO 163 12 68 R_MO F_MO 85 t_MO := ⟨zk_MO, Nat.le_of_ble_eq_true rfl, Or.inl (ztb_7 (i := 57) rfl rfl)⟩
theorem fl_MO_166 : zFL R_MO 166 12 69 R_MO F_MO 85 t_MO := ⟨zk_MO, Nat.le_of_ble_eq_true rfl, Or.inl (ztb_7 (i := 58) rfl rfl)⟩
theorem fl_MO_169 : zFL R_MO 169 12 70 R_MO F_MO 85 t_MO := ⟨zk_MO, Nat.le_of_ble_eq_true rfl, Or.inl (ztb_7 (i := 59) rfl rfl)⟩
theorem fl_MO_172 : zFL R_MO 172 12 71 R_MO F_MO 85 t_MO := ⟨zk_MO, Nat.le_of_ble_eq_true rfl, Or.inl (ztb_7 (i := 60) rfl rfl)⟩
theorem fl_MO_175 : zFL R_MO 175 12 73 R_MO F_MO 85 t_MO := ⟨zk_MO, Nat.le_of_ble_eq_true rfl, Or.inl (ztb_7 (i := 62) rfl rfl)⟩
theorem fl_MO_178 : zFL R_MO 178 12 76 R_MO F_MO 85 t_MO := ⟨zk_MO, Nat.le_of_ble_eq_true rfl, Or.inl (ztb_7 (i := 65) rfl rfl)⟩
theorem fl_MO_182 : zFL R_MO 182 12 79 R_MO F_MO 85 t_MO := ⟨zk_MO, Nat.le_of_ble_eq_true rfl, Or.inl (ztb_7 (i := 68) rfl rfl)⟩
theorem fl_MO_185 : zFL R_MO 185 12 80 R_MO F_MO 85 t_MO := ⟨zk_MO, Nat.le_of_ble_eq_true rfl, Or.inl (ztb_7 (i := 69) rfl rfl)⟩
theorem fl_MO_188 : zFL R_MO 188 12 81 R_MO F_MO 85 t_MO := ⟨zk_MO, Nat.le_of_ble_eq_true rfl, Or.inl (ztb_7 (i := 70) rfl rfl)⟩
theorem fl_MO_191 : zFL R_MO 191 12 82 R_MO F_MO 85 t_MO := ⟨zk_MO, Nat.le_of_ble_eq_true rfl, Or.inl (ztb_7 (i := 71) rfl rfl)⟩
theorem fl_MO_194 : zFL R_MO 194 12 84 R_MO F_MO 85 t_MO := ⟨zk_MO, Nat.le_of_ble_eq_true rfl, Or.inl (ztb_7 (i := 73) rfl rfl)⟩
theorem fl_MO_197 : zFL R_MO 197 12 1 R_MO F_MO 85 t_MO := ⟨zk_MO, Nat.le_of_ble_eq_true rfl, Or.inl (ztb_6 (i := 230) rfl rfl)⟩
theorem fl_MO_214 : zFL R_MO 214 12 7 R_MO F_MO 85 t_MO := ⟨zk_MO, Nat.le_of_ble_eq_true rfl, Or.inl (ztb_6 (i := 236) rfl rfl)⟩
theorem fl_MO_217 : zFL R_MO 217 12 5 R_MO F_MO 85 t_MO := ⟨zk_MO, Nat.le_of_ble_eq_true rfl, Or.inl (ztb_6 (i := 234) rfl rfl)⟩
theorem fl_MO_220 : zFL R_MO 220 12 6 R_MO F_MO 85 t_MO := ⟨zk_MO, Nat.le_of_ble_eq_true rfl, Or.inl (ztb_6 (i := 235) rfl rfl)⟩
theorem fl_MO_223 : zFL R_MO 223 12 2 R_MO F_MO 85 t_MO := ⟨zk_MO, Nat.le_of_ble_eq_true rfl, Or.inl (ztb_6 (i := 231) rfl rfl)⟩
theorem fl_MO_226 : zFL R_MO 226 12 3 R_MO F_MO 85 t_MO := ⟨zk_MO, Nat.le_of_ble_eq_true rfl, Or.inl (ztb_6 (i := 232) rfl rfl)⟩
theorem fl_MO_236 : zFL R_MO 236 12 4 R_MO F_MO 85 t_MO := ⟨zk_MO, Nat.le_of_ble_eq_true rfl, Or.inl (ztb_6 (i := 233) rfl rfl)⟩
theorem fl_MO_260 : zFL R_MO 260 12 29 R_MO F_MO 85 t_MO := ⟨zk_MO, Nat.le_of_ble_eq_true rfl, Or.inl (ztb_7 (i := 18) rfl rfl)⟩
theorem fl_MO_286 : zFL R_MO 286 12 35 R_MO F_MO 85 t_MO := ⟨zk_MO, Nat.le_of_ble_eq_true rfl, Or.inl (ztb_7 (i := 24) rfl rfl)⟩
theorem fl_MO_289 : zFL R_MO 289 12 34 R_MO F_MO 85 t_MO := ⟨zk_MO, Nat.le_of_ble_eq_true rfl, Or.inl (ztb_7 (i := 23) rfl rfl)⟩
theorem fl_MO_321 : zFL R_MO 321 12 33 R_MO F_MO 85 t_MO := ⟨zk_MO, Nat.le_of_ble_eq_true rfl, Or.inl (ztb_7 (i := 22) rfl rfl)⟩
theorem fl_MO_325 : zFL R_MO 325 12 72 R_MO F_MO 85 t_MO := ⟨zk_MO, Nat.le_of_ble_eq_true rfl, Or.inl (ztb_7 (i := 61) rfl rfl)⟩
theorem fl_MO_328 : zFL R_MO 328 12 74 R_MO F_MO 85 t_MO := ⟨zk_MO, Nat.le_of_ble_eq_true rfl, Or.inl (ztb_7 (i := 63) rfl rfl)⟩
theorem fl_MO_331 : zFL R_MO 331 12 77 R_MO F_MO 85 t_MO := ⟨zk_MO, Nat.le_of_ble_eq_true rfl, Or.inl (ztb_7 (i := 66) rfl rfl)⟩
theorem fl_MO_334 : zFL R_MO 334 12 36 R_MO F_MO 85 t_MO := ⟨zk_MO, Nat.le_of_ble_eq_true rfl, Or.inl (ztb_7 (i := 25) rfl rfl)⟩
theorem fl_MO_337 : zFL R_MO 337 12 38 R_MO F_MO 85 t_MO := ⟨zk_MO, Nat.le_of_ble_eq_true rfl, Or.inl (ztb_7 (i := 27) rfl rfl)⟩
theorem fl_MO_380 : zFL R_MO 380 12 41 R_MO F_MO 85 t_MO := ⟨zk_MO, Nat.le_of_ble_eq_true rfl, Or.inl (ztb_7 (i := 30) rfl rfl)⟩
theorem fl_MO_412 : zFL R_MO 412 12 46 R_MO F_MO 85 t_MO := ⟨zk_MO, Nat.le_of_ble_eq_true rfl, Or.inl (ztb_7 (i := 35) rfl rfl)⟩
theorem fl_MO_463 : zFL R_MO 463 12 62 R_MO F_MO 85 t_MO := ⟨zk_MO, Nat.le_of_ble_eq_true rfl, Or.inl (ztb_7 (i := 51) rfl rfl)⟩
theorem fl_MO_466 : zFL R_MO 466 12 63 R_MO F_MO 85 t_MO := ⟨zk_MO, Nat.le_of_ble_eq_true rfl, Or.inl (ztb_7 (i := 52) rfl rfl)⟩
theorem fl_MO_469 : zFL R_MO 469 12 61 R_MO F_MO 85 t_MO := ⟨zk_MO, Nat.le_of_ble_eq_true rfl, Or.inl (ztb_7 (i := 50) rfl rfl)⟩
theorem fl_MO_475 : zFL R_MO 475 12 60 R_MO F_MO 85 t_MO := ⟨zk_MO, Nat.le_of_ble_eq_true rfl, Or.inl (ztb_7 (i := 49) rfl rfl)⟩
theorem fl_MO_562 : zFL R_MO 562 12 75 R_MO F_MO 85 t_MO := ⟨zk_MO, Nat.le_of_ble_eq_true rfl, Or.inl (ztb_7 (i := 64) rfl rfl)⟩
theorem fl_MO_591 : zFL R_MO 591 12 78 R_MO F_MO 85 t_MO := ⟨zk_MO, Nat.le_of_ble_eq_true rfl, Or.inl (ztb_7 (i := 67) rfl rfl)⟩
theorem fl_MO_609 : zFL R_MO 609 12 83 R_MO F_MO 85 t_MO := ⟨zk_MO, Nat.le_of_ble_eq_true rfl, Or.inl (ztb_7 (i := 72) rfl rfl)⟩
theorem wk_PA_372 : Cond.constantLong R_PA 372 1103515245 ∈ ztb := (ztb_6 (i := 83) rfl rfl)
theorem wk_PA_374 : Cond.constantLong R_PA 374 12345 ∈ ztb := (ztb_6 (i := 84) rfl rfl)
theorem wk_PA_376 : Cond.constantLong R_PA 376 2147483647 ∈ ztb := (ztb_6 (i := 85) rfl rfl)
theorem wk_PA_378 : Cond.constantLong R_PA 378 64 ∈ ztb := (ztb_6 (i := 86) rfl rfl)
theorem wk_Atlas_55 : Cond.constant R_Atlas 55 38400 ∈ ztb := (ztb_1 (i := 137) rfl rfl)
theorem wk_Index_29 : Cond.constantLong R_Index 29 (-7046029254386353131) ∈ ztb := (ztb_4 (i := 144) rfl rfl)
theorem wk_Joined_108 : Cond.constant R_Joined 108 1000000 ∈ ztb := (ztb_5 (i := 32) rfl rfl)
theorem wk_Reader_142 : Cond.constantLong R_Reader 142 44 ∈ ztb := (ztb_4 (i := 28) rfl rfl)
theorem wk_World_50 : Cond.constantLong R_World 50 2058 ∈ ztb := (ztb_4 (i := 135) rfl rfl)
theorem wk_MO_208 : Cond.constantLong R_MO 208 5 ∈ ztb := (ztb_8 (i := 26) rfl rfl)
theorem wk_MO_374 : Cond.constantLong R_MO 374 (-7046029254386353131) ∈ ztb := (ztb_8 (i := 150) rfl rfl)
theorem wk_MO_508 : Cond.constantLong R_MO 508 13 ∈ ztb := (ztb_8 (i := 227) rfl rfl)
theorem wk_MO_516 : Cond.constantLong R_MO 516 2 ∈ ztb := (ztb_9 (i := 40) rfl rfl)
theorem wk_MO_521 : Cond.constantLong R_MO 521 7 ∈ ztb := (ztb_9 (i := 48) rfl rfl)
theorem wk_MO_535 : Cond.constant R_MO 535 100000 ∈ ztb := (ztb_9 (i := 132) rfl rfl)
theorem wk_MO_546 : Cond.constantLong R_MO 546 3 ∈ ztb := (ztb_9 (i := 145) rfl rfl)
theorem wk_MO_554 : Cond.constantLong R_MO 554 4 ∈ ztb := (ztb_9 (i := 174) rfl rfl)
theorem wk_MO_565 : Cond.constantLong R_MO 565 (-1) ∈ ztb := (ztb_9 (i := 195) rfl rfl)
theorem wk_MO_573 : Cond.constantLong R_MO 573 1103515245 ∈ ztb := (ztb_9 (i := 230) rfl rfl)
theorem wk_MO_575 : Cond.constantLong R_MO 575 12345 ∈ ztb := (ztb_9 (i := 231) rfl rfl)
theorem wk_MO_577 : Cond.constantLong R_MO 577 2147483648 ∈ ztb := (ztb_9 (i := 232) rfl rfl)
theorem wk_MO_579 : Cond.constantLong R_MO 579 64 ∈ ztb := (ztb_9 (i := 233) rfl rfl)
theorem wk_MO_581 : Cond.constantLong R_MO 581 100 ∈ ztb := (ztb_9 (i := 221) rfl rfl)
theorem wk_MO_589 : Cond.constantLong R_MO 589 6 ∈ ztb := (ztb_9 (i := 238) rfl rfl)
theorem ac_PA_362 : zac_w R_PA 362 := ⟨(ztb_6 (i := 62) rfl rfl), (ztb_4 (i := 178) rfl rfl), (ztb_4 (i := 177) rfl rfl), (ztb_1 (i := 20) rfl rfl)⟩
theorem ac_World_44 : zac_w R_World 44 := ⟨(ztb_4 (i := 176) rfl rfl), (ztb_4 (i := 178) rfl rfl), (ztb_4 (i := 177) rfl rfl), (ztb_1 (i := 20) rfl rfl)⟩
def s_Bytes_size : zS := (⟨R_Bytes, "size", "()I"⟩, prog_3_method_2_code, 1, (some .int), { frames := 0, cells := 0, slots := 0, locals := 0 })
def s_PA_refuse : zS := (⟨R_PA, "refuse", "(I)I"⟩, prog_1_method_36_code, 2, (some .int), { frames := 0, cells := 0, slots := 0, locals := 0 })
def s_Bytes_add : zS := (⟨R_Bytes, "add", "(I)V"⟩, prog_3_method_5_code, 2, none, { frames := 0, cells := 0, slots := 0, locals := 0 })
def s_Bytes_addNumber : zS := (⟨R_Bytes, "addNumber", "(I)V"⟩, prog_3_method_6_code, 3, none, { frames := 1, cells := 0, slots := 0, locals := 21 })
def s_PA_feed : zS := (⟨R_PA, "feed", "(IIIII)I"⟩, prog_1_method_2_code, 6, (some .int), { frames := 2, cells := 0, slots := 0, locals := 43 })
def s_Bytes_cut : zS := (⟨R_Bytes, "cut", "(I)V"⟩, prog_3_method_4_code, 2, none, { frames := 0, cells := 0, slots := 0, locals := 0 })
def s_PA_end : zS := (⟨R_PA, "end", "(I)Z"⟩, prog_1_method_3_code, 2, (some .boolean), { frames := 1, cells := 0, slots := 0, locals := 21 })
def s_Arrays_fill : zS := (⟨"java/util/Arrays", "fill", "([II)V"⟩, prog_20_method_103_code, 4, none, { frames := 0, cells := 0, slots := 0, locals := 0 })
def s_Table_clear : zS := (⟨R_Table, "clear", "()V"⟩, prog_11_method_2_code, 1, none, { frames := 1, cells := 0, slots := 0, locals := 23 })
def s_Bytes_get : zS := (⟨R_Bytes, "get", "(I)I"⟩, prog_3_method_3_code, 2, (some .int), { frames := 0, cells := 0, slots := 0, locals := 0 })
def s_PA_isBlank : zS := (⟨R_PA, "isBlank", "(I)Z"⟩, prog_1_method_47_code, 1, (some .boolean), { frames := 0, cells := 0, slots := 0, locals := 0 })
def s_PA_isLetter : zS := (⟨R_PA, "isLetter", "(I)Z"⟩, prog_1_method_46_code, 1, (some .boolean), { frames := 0, cells := 0, slots := 0, locals := 0 })
def s_Reader_isOwnWord : zS := (⟨R_Reader, "isOwnWord", "(J)Z"⟩, prog_6_method_9_code, 6, (some .boolean), { frames := 5, cells := 0, slots := 0, locals := 161 })
def s_Reader_takeWord : zS := (⟨R_Reader, "takeWord", "(LProtocolAtlas$Bytes;II)V"⟩, prog_6_method_7_code, 7, none, { frames := 6, cells := 0, slots := 0, locals := 186 })
def s_PA_isDigit : zS := (⟨R_PA, "isDigit", "(I)Z"⟩, prog_1_method_48_code, 1, (some .boolean), { frames := 0, cells := 0, slots := 0, locals := 0 })
def s_Reader_takeNumber : zS := (⟨R_Reader, "takeNumber", "(LProtocolAtlas$Bytes;II)V"⟩, prog_6_method_8_code, 5, none, { frames := 1, cells := 0, slots := 0, locals := 21 })
def s_Reader_take : zS := (⟨R_Reader, "take", "(LProtocolAtlas$Bytes;II)Z"⟩, prog_6_method_6_code, 5, (some .boolean), { frames := 7, cells := 0, slots := 0, locals := 212 })
def s_Reader_scan : zS := (⟨R_Reader, "scan", "(LProtocolAtlas$Bytes;)V"⟩, prog_6_method_5_code, 8, none, { frames := 8, cells := 0, slots := 0, locals := 236 })
def s_Reader_refuse : zS := (⟨R_Reader, "refuse", "(II)Z"⟩, prog_6_method_3_code, 3, (some .boolean), { frames := 0, cells := 0, slots := 0, locals := 0 })
def s_Reader_isNext : zS := (⟨R_Reader, "isNext", "(Ljava/lang/String;)Z"⟩, prog_6_method_10_code, 5, (some .boolean), { frames := 5, cells := 0, slots := 0, locals := 161 })
def s_Reader_word : zS := (⟨R_Reader, "word", "(Ljava/lang/String;)Z"⟩, prog_6_method_11_code, 3, (some .boolean), { frames := 6, cells := 0, slots := 0, locals := 185 })
def s_Reader_unexpected : zS := (⟨R_Reader, "unexpected", "()Z"⟩, prog_6_method_4_code, 1, (some .boolean), { frames := 0, cells := 0, slots := 0, locals := 0 })
def s_Reader_ask : zS := (⟨R_Reader, "ask", "(Ljava/lang/String;)Z"⟩, prog_6_method_12_code, 2, (some .boolean), { frames := 7, cells := 0, slots := 0, locals := 207 })
def s_Reader_number : zS := (⟨R_Reader, "number", "(II)Z"⟩, prog_6_method_14_code, 3, (some .boolean), { frames := 1, cells := 0, slots := 0, locals := 22 })
def s_Reader_name : zS := (⟨R_Reader, "name", "()Z"⟩, prog_6_method_15_code, 1, (some .boolean), { frames := 1, cells := 0, slots := 0, locals := 22 })
def s_Table_find : zS := (⟨R_Table, "find", "(II)I"⟩, prog_11_method_4_code, 4, (some .int), { frames := 0, cells := 0, slots := 0, locals := 0 })
def s_Table_isTaken : zS := (⟨R_Table, "isTaken", "(I)Z"⟩, prog_11_method_5_code, 3, (some .boolean), { frames := 1, cells := 0, slots := 0, locals := 23 })
def s_Table_give : zS := (⟨R_Table, "give", "(II)V"⟩, prog_11_method_6_code, 3, none, { frames := 0, cells := 0, slots := 0, locals := 0 })
def s_Reader_given : zS := (⟨R_Reader, "given", "(I)Z"⟩, prog_6_method_17_code, 2, (some .boolean), { frames := 2, cells := 0, slots := 0, locals := 45 })
def s_Reader_oneTooMany : zS := (⟨R_Reader, "oneTooMany", "()Z"⟩, prog_6_method_19_code, 1, (some .boolean), { frames := 1, cells := 0, slots := 0, locals := 22 })
def s_Reader_names : zS := (⟨R_Reader, "names", "(I)Z"⟩, prog_6_method_20_code, 3, (some .boolean), { frames := 3, cells := 0, slots := 0, locals := 66 })
def s_Reader_opening : zS := (⟨R_Reader, "opening", "()Z"⟩, prog_6_method_21_code, 1, (some .boolean), { frames := 8, cells := 0, slots := 0, locals := 228 })
def s_Reader_isFree : zS := (⟨R_Reader, "isFree", "(ZI)Z"⟩, prog_6_method_23_code, 3, (some .boolean), { frames := 1, cells := 0, slots := 0, locals := 22 })
def s_Table_openNever : zS := (⟨R_Table, "openNever", "()V"⟩, prog_11_method_8_code, 1, none, { frames := 0, cells := 0, slots := 0, locals := 0 })
def s_Reader_known : zS := (⟨R_Reader, "known", "(I)Z"⟩, prog_6_method_16_code, 2, (some .boolean), { frames := 2, cells := 0, slots := 0, locals := 42 })
def s_Table_addCount : zS := (⟨R_Table, "addCount", "(II)V"⟩, prog_11_method_9_code, 5, none, { frames := 0, cells := 0, slots := 0, locals := 0 })
def s_Reader_never : zS := (⟨R_Reader, "never", "()Z"⟩, prog_6_method_24_code, 3, (some .boolean), { frames := 7, cells := 0, slots := 0, locals := 207 })
def s_Reader_wants : zS := (⟨R_Reader, "wants", "()Z"⟩, prog_6_method_25_code, 1, (some .boolean), { frames := 3, cells := 0, slots := 0, locals := 63 })
def s_Math_min : zS := (⟨"java/lang/Math", "min", "(II)I"⟩, prog_15_method_69_code, 2, (some .int), { frames := 0, cells := 0, slots := 0, locals := 0 })
def s_Row_clear : zS := (⟨R_Row, "clear", "(Z)V"⟩, prog_7_method_2_code, 2, none, { frames := 0, cells := 0, slots := 0, locals := 0 })
def s_Table_newRow : zS := (⟨R_Table, "newRow", "(Z)LProtocolAtlas$Row;"⟩, prog_11_method_7_code, 3, (some (.object "ProtocolAtlas$Row")), { frames := 1, cells := 0, slots := 0, locals := 21 })
def s_Reader_maybe : zS := (⟨R_Reader, "maybe", "(Ljava/lang/String;I)Z"⟩, prog_6_method_18_code, 3, (some .boolean), { frames := 7, cells := 0, slots := 0, locals := 207 })
def s_Reader_agentRow : zS := (⟨R_Reader, "agentRow", "(LProtocolAtlas$Row;)Z"⟩, prog_6_method_26_code, 2, (some .boolean), { frames := 8, cells := 0, slots := 0, locals := 229 })
def s_Reader_homeRow : zS := (⟨R_Reader, "homeRow", "(LProtocolAtlas$Row;)Z"⟩, prog_6_method_27_code, 2, (some .boolean), { frames := 8, cells := 0, slots := 0, locals := 229 })
def s_Reader_statement : zS := (⟨R_Reader, "statement", "()Z"⟩, prog_6_method_22_code, 2, (some .boolean), { frames := 9, cells := 0, slots := 0, locals := 250 })
def s_Reader_sign : zS := (⟨R_Reader, "sign", "(C)Z"⟩, prog_6_method_13_code, 2, (some .boolean), { frames := 1, cells := 0, slots := 0, locals := 20 })
def s_Reader_read : zS := (⟨R_Reader, "read", "(LProtocolAtlas$Bytes;)I"⟩, prog_6_method_2_code, 4, (some .int), { frames := 10, cells := 0, slots := 0, locals := 271 })
def s_Index_clear : zS := (⟨R_Index, "clear", "()V"⟩, prog_4_method_2_code, 1, none, { frames := 1, cells := 0, slots := 0, locals := 23 })
def s_PA_codeOf : zS := (⟨R_PA, "codeOf", "(IIII)I"⟩, prog_1_method_50_code, 4, (some .int), { frames := 0, cells := 0, slots := 0, locals := 0 })
def s_World_begin : zS := (⟨R_World, "begin", "(LProtocolAtlas$Table;)V"⟩, prog_12_method_2_code, 2, none, { frames := 1, cells := 0, slots := 0, locals := 23 })
def s_World_keyOf : zS := (⟨R_World, "keyOf", "([I)J"⟩, prog_12_method_7_code, 5, (some .long), { frames := 0, cells := 0, slots := 0, locals := 0 })
def s_World_foldedKey : zS := (⟨R_World, "foldedKey", "()J"⟩, prog_12_method_6_code, 4, (some .long), { frames := 1, cells := 0, slots := 0, locals := 24 })
def s_Index_slotOf : zS := (⟨R_Index, "slotOf", "(J)I"⟩, prog_4_method_5_code, 6, (some .int), { frames := 0, cells := 0, slots := 0, locals := 0 })
def s_Index_find : zS := (⟨R_Index, "find", "(J)I"⟩, prog_4_method_3_code, 4, (some .int), { frames := 1, cells := 0, slots := 0, locals := 25 })
def s_Index_put : zS := (⟨R_Index, "put", "(JI)V"⟩, prog_4_method_4_code, 5, none, { frames := 1, cells := 0, slots := 0, locals := 25 })
def s_World_ownKey : zS := (⟨R_World, "ownKey", "()J"⟩, prog_12_method_5_code, 1, (some .long), { frames := 1, cells := 0, slots := 0, locals := 24 })
def s_Search_meet : zS := (⟨R_Search, "meet", "(II)Z"⟩, prog_8_method_4_code, 5, (some .boolean), { frames := 2, cells := 0, slots := 0, locals := 49 })
def s_World_load : zS := (⟨R_World, "load", "(JI)V"⟩, prog_12_method_4_code, 7, none, { frames := 0, cells := 0, slots := 0, locals := 0 })
def s_PA_held : zS := (⟨R_PA, "held", "(II)I"⟩, prog_1_method_51_code, 2, (some .int), { frames := 0, cells := 0, slots := 0, locals := 0 })
def s_Row_isFor : zS := (⟨R_Row, "isFor", "(LProtocolAtlas$World;I)Z"⟩, prog_7_method_4_code, 4, (some .boolean), { frames := 1, cells := 0, slots := 0, locals := 21 })
def s_World_copy : zS := (⟨R_World, "copy", "(LProtocolAtlas$World;)V"⟩, prog_12_method_3_code, 2, none, { frames := 1, cells := 0, slots := 0, locals := 60 })
def s_World_hasOther : zS := (⟨R_World, "hasOther", "(II)Z"⟩, prog_12_method_8_code, 4, (some .boolean), { frames := 1, cells := 0, slots := 0, locals := 21 })
def s_World_receive : zS := (⟨R_World, "receive", "(IIZ)Z"⟩, prog_12_method_10_code, 6, (some .boolean), { frames := 1, cells := 0, slots := 0, locals := 23 })
def s_Row_serve : zS := (⟨R_Row, "serve", "(LProtocolAtlas$World;IZ)Z"⟩, prog_7_method_7_code, 6, (some .boolean), { frames := 2, cells := 0, slots := 0, locals := 48 })
def s_Row_step : zS := (⟨R_Row, "step", "(LProtocolAtlas$World;IZ)Z"⟩, prog_7_method_6_code, 9, (some .boolean), { frames := 1, cells := 0, slots := 0, locals := 23 })
def s_Row_go : zS := (⟨R_Row, "go", "(LProtocolAtlas$World;IZ)Z"⟩, prog_7_method_5_code, 4, (some .boolean), { frames := 3, cells := 0, slots := 0, locals := 73 })
def s_Table_go : zS := (⟨R_Table, "go", "(LProtocolAtlas$World;IILProtocolAtlas$World;)Z"⟩, prog_11_method_11_code, 5, (some .boolean), { frames := 4, cells := 0, slots := 0, locals := 96 })
def s_Search_expand : zS := (⟨R_Search, "expand", "(ILProtocolAtlas$Table;)Z"⟩, prog_8_method_3_code, 5, (some .boolean), { frames := 5, cells := 0, slots := 0, locals := 120 })
def s_Search_explore : zS := (⟨R_Search, "explore", "(LProtocolAtlas$Table;)Z"⟩, prog_8_method_2_code, 3, (some .boolean), { frames := 6, cells := 0, slots := 0, locals := 144 })
def s_Atlas_isAfter : zS := (⟨R_Atlas, "isAfter", "(LProtocolAtlas$Search;II)Z"⟩, prog_2_method_4_code, 3, (some .boolean), { frames := 0, cells := 0, slots := 0, locals := 0 })
def s_Atlas_sort : zS := (⟨R_Atlas, "sort", "(LProtocolAtlas$Search;)V"⟩, prog_2_method_3_code, 4, none, { frames := 1, cells := 0, slots := 0, locals := 22 })
def s_World_inState : zS := (⟨R_World, "inState", "(I)I"⟩, prog_12_method_9_code, 4, (some .int), { frames := 1, cells := 0, slots := 0, locals := 21 })
def s_Table_isBad : zS := (⟨R_Table, "isBad", "(LProtocolAtlas$World;)Z"⟩, prog_11_method_10_code, 6, (some .boolean), { frames := 2, cells := 0, slots := 0, locals := 44 })
def s_Atlas_describe : zS := (⟨R_Atlas, "describe", "(ILProtocolAtlas$Table;)V"⟩, prog_2_method_5_code, 8, none, { frames := 3, cells := 0, slots := 0, locals := 69 })
def s_Atlas_number : zS := (⟨R_Atlas, "number", "(LProtocolAtlas$World;)I"⟩, prog_2_method_8_code, 2, (some .int), { frames := 2, cells := 0, slots := 0, locals := 48 })
def s_Atlas_pack : zS := (⟨R_Atlas, "pack", "(III)I"⟩, prog_2_method_7_code, 6, (some .int), { frames := 0, cells := 0, slots := 0, locals := 0 })
def s_Atlas_addMoves : zS := (⟨R_Atlas, "addMoves", "(ILProtocolAtlas$Table;)I"⟩, prog_2_method_6_code, 6, (some .int), { frames := 5, cells := 0, slots := 0, locals := 120 })
def s_Atlas_fill : zS := (⟨R_Atlas, "fill", "(LProtocolAtlas$Search;LProtocolAtlas$Table;)V"⟩, prog_2_method_2_code, 5, none, { frames := 6, cells := 0, slots := 0, locals := 145 })
def s_Joined_isAvoided : zS := (⟨R_Joined, "isAvoided", "(I)Z"⟩, prog_5_method_4_code, 2, (some .boolean), { frames := 0, cells := 0, slots := 0, locals := 0 })
def s_Joined_isNode : zS := (⟨R_Joined, "isNode", "(I)Z"⟩, prog_5_method_3_code, 3, (some .boolean), { frames := 1, cells := 0, slots := 0, locals := 21 })
def s_Joined_enter : zS := (⟨R_Joined, "enter", "(I)V"⟩, prog_5_method_7_code, 2, none, { frames := 0, cells := 0, slots := 0, locals := 0 })
def s_Atlas_by : zS := (⟨R_Atlas, "by", "(I)I"⟩, prog_2_method_10_code, 2, (some .int), { frames := 0, cells := 0, slots := 0, locals := 0 })
def s_Atlas_target : zS := (⟨R_Atlas, "target", "(I)I"⟩, prog_2_method_9_code, 2, (some .int), { frames := 0, cells := 0, slots := 0, locals := 0 })
def s_Atlas_put : zS := (⟨R_Atlas, "put", "(II)I"⟩, prog_2_method_12_code, 3, (some .int), { frames := 0, cells := 0, slots := 0, locals := 0 })
def s_Joined_next : zS := (⟨R_Joined, "next", "(II)I"⟩, prog_5_method_5_code, 4, (some .int), { frames := 1, cells := 0, slots := 0, locals := 22 })
def s_Joined_follow : zS := (⟨R_Joined, "follow", "(II)V"⟩, prog_5_method_8_code, 3, none, { frames := 1, cells := 0, slots := 0, locals := 21 })
def s_Joined_close : zS := (⟨R_Joined, "close", "(I)V"⟩, prog_5_method_10_code, 4, none, { frames := 0, cells := 0, slots := 0, locals := 0 })
def s_Joined_leave : zS := (⟨R_Joined, "leave", "(I)V"⟩, prog_5_method_9_code, 3, none, { frames := 1, cells := 0, slots := 0, locals := 23 })
def s_Joined_goThrough : zS := (⟨R_Joined, "goThrough", "(I)V"⟩, prog_5_method_6_code, 5, none, { frames := 2, cells := 0, slots := 0, locals := 45 })
def s_Joined_join : zS := (⟨R_Joined, "join", "(ZII)V"⟩, prog_5_method_2_code, 5, none, { frames := 3, cells := 0, slots := 0, locals := 69 })
def s_Study_findParts : zS := (⟨R_Study, "findParts", "()V"⟩, prog_10_method_4_code, 3, none, { frames := 4, cells := 0, slots := 0, locals := 93 })
def s_Study_clear : zS := (⟨R_Study, "clear", "([Z)V"⟩, prog_10_method_3_code, 2, none, { frames := 0, cells := 0, slots := 0, locals := 0 })
def s_Study_isAgentIn : zS := (⟨R_Study, "isAgentIn", "(II)Z"⟩, prog_10_method_8_code, 3, (some .boolean), { frames := 1, cells := 0, slots := 0, locals := 21 })
def s_Joined_leadsToMarked : zS := (⟨R_Joined, "leadsToMarked", "(I[Z)Z"⟩, prog_5_method_12_code, 6, (some .boolean), { frames := 2, cells := 0, slots := 0, locals := 45 })
def s_Joined_spread : zS := (⟨R_Joined, "spread", "([Z)V"⟩, prog_5_method_11_code, 5, none, { frames := 3, cells := 0, slots := 0, locals := 70 })
def s_Study_markHoping : zS := (⟨R_Study, "markHoping", "(I)V"⟩, prog_10_method_5_code, 3, none, { frames := 4, cells := 0, slots := 0, locals := 94 })
def s_Study_firstLike : zS := (⟨R_Study, "firstLike", "(I)I"⟩, prog_10_method_9_code, 2, (some .int), { frames := 0, cells := 0, slots := 0, locals := 0 })
def s_Study_tellWanting : zS := (⟨R_Study, "tellWanting", "([ZZ)V"⟩, prog_10_method_7_code, 4, none, { frames := 2, cells := 0, slots := 0, locals := 43 })
def s_Atlas_mover : zS := (⟨R_Atlas, "mover", "(I)I"⟩, prog_2_method_11_code, 2, (some .int), { frames := 0, cells := 0, slots := 0, locals := 0 })
def s_Joined_isRing : zS := (⟨R_Joined, "isRing", "(ILProtocolAtlas$Table;)Z"⟩, prog_5_method_13_code, 12, (some .boolean), { frames := 2, cells := 0, slots := 0, locals := 45 })
def s_Study_markRings : zS := (⟨R_Study, "markRings", "()V"⟩, prog_10_method_6_code, 3, none, { frames := 4, cells := 0, slots := 0, locals := 94 })
def s_Study_begin : zS := (⟨R_Study, "begin", "(LProtocolAtlas$Table;)V"⟩, prog_10_method_2_code, 3, none, { frames := 5, cells := 0, slots := 0, locals := 116 })
def s_Sight_forget : zS := (⟨R_Sight, "forget", "()V"⟩, prog_9_method_3_code, 1, none, { frames := 0, cells := 0, slots := 0, locals := 0 })
def s_PA_table : zS := (⟨R_PA, "table", "()I"⟩, prog_1_method_4_code, 3, (some .int), { frames := 11, cells := 0, slots := 0, locals := 294 })
def s_PA_fault : zS := (⟨R_PA, "fault", "(I)I"⟩, prog_1_method_5_code, 2, (some .int), { frames := 0, cells := 0, slots := 0, locals := 0 })
def s_Atlas_allWorlds : zS := (⟨R_Atlas, "allWorlds", "()I"⟩, prog_2_method_17_code, 3, (some .int), { frames := 0, cells := 0, slots := 0, locals := 0 })
def s_Atlas_allMoves : zS := (⟨R_Atlas, "allMoves", "(I)I"⟩, prog_2_method_18_code, 5, (some .int), { frames := 1, cells := 0, slots := 0, locals := 21 })
def s_Atlas_allBad : zS := (⟨R_Atlas, "allBad", "()I"⟩, prog_2_method_19_code, 3, (some .int), { frames := 0, cells := 0, slots := 0, locals := 0 })
def s_Atlas_movesFrom : zS := (⟨R_Atlas, "movesFrom", "(I)I"⟩, prog_2_method_13_code, 2, (some .int), { frames := 0, cells := 0, slots := 0, locals := 0 })
def s_Atlas_allStuck : zS := (⟨R_Atlas, "allStuck", "()I"⟩, prog_2_method_20_code, 3, (some .int), { frames := 1, cells := 0, slots := 0, locals := 21 })
def s_PA_has : zS := (⟨R_PA, "has", "(I)I"⟩, prog_1_method_6_code, 2, (some .int), { frames := 2, cells := 0, slots := 0, locals := 45 })
def s_Table_name : zS := (⟨R_Table, "name", "(II)I"⟩, prog_11_method_3_code, 3, (some .int), { frames := 0, cells := 0, slots := 0, locals := 0 })
def s_PA_letterOf : zS := (⟨R_PA, "letterOf", "(II)I"⟩, prog_1_method_49_code, 2, (some .int), { frames := 0, cells := 0, slots := 0, locals := 0 })
def s_PA_letter : zS := (⟨R_PA, "letter", "(III)I"⟩, prog_1_method_7_code, 4, (some .int), { frames := 1, cells := 0, slots := 0, locals := 22 })
def s_PA_isRule : zS := (⟨R_PA, "isRule", "(I)Z"⟩, prog_1_method_37_code, 2, (some .boolean), { frames := 0, cells := 0, slots := 0, locals := 0 })
def s_PA_asNumber : zS := (⟨R_PA, "asNumber", "(Z)I"⟩, prog_1_method_44_code, 1, (some .int), { frames := 0, cells := 0, slots := 0, locals := 0 })
def s_Row_told : zS := (⟨R_Row, "told", "(I)I"⟩, prog_7_method_3_code, 2, (some .int), { frames := 1, cells := 0, slots := 0, locals := 20 })
def s_PA_rule : zS := (⟨R_PA, "rule", "(II)I"⟩, prog_1_method_8_code, 3, (some .int), { frames := 2, cells := 0, slots := 0, locals := 41 })
def s_PA_isWorld : zS := (⟨R_PA, "isWorld", "(I)Z"⟩, prog_1_method_39_code, 2, (some .boolean), { frames := 0, cells := 0, slots := 0, locals := 0 })
def s_Atlas_home : zS := (⟨R_Atlas, "home", "(I)I"⟩, prog_2_method_14_code, 2, (some .int), { frames := 1, cells := 0, slots := 0, locals := 26 })
def s_PA_world : zS := (⟨R_PA, "world", "(II)I"⟩, prog_1_method_9_code, 3, (some .int), { frames := 2, cells := 0, slots := 0, locals := 47 })
def s_PA_isAgent : zS := (⟨R_PA, "isAgent", "(I)Z"⟩, prog_1_method_38_code, 2, (some .boolean), { frames := 0, cells := 0, slots := 0, locals := 0 })
def s_PA_agent : zS := (⟨R_PA, "agent", "(III)I"⟩, prog_1_method_10_code, 5, (some .int), { frames := 1, cells := 0, slots := 0, locals := 21 })
def s_Atlas_leading : zS := (⟨R_Atlas, "leading", "(III)I"⟩, prog_2_method_15_code, 5, (some .int), { frames := 1, cells := 0, slots := 0, locals := 21 })
def s_PA_leads : zS := (⟨R_PA, "leads", "(III)I"⟩, prog_1_method_11_code, 4, (some .int), { frames := 2, cells := 0, slots := 0, locals := 45 })
def s_Atlas_stepTo : zS := (⟨R_Atlas, "stepTo", "(II)I"⟩, prog_2_method_16_code, 5, (some .int), { frames := 0, cells := 0, slots := 0, locals := 0 })
def s_PA_way : zS := (⟨R_PA, "way", "(III)I"⟩, prog_1_method_12_code, 6, (some .int), { frames := 1, cells := 0, slots := 0, locals := 24 })
def s_Atlas_firstBad : zS := (⟨R_Atlas, "firstBad", "()I"⟩, prog_2_method_21_code, 2, (some .int), { frames := 0, cells := 0, slots := 0, locals := 0 })
def s_Atlas_firstStuck : zS := (⟨R_Atlas, "firstStuck", "()I"⟩, prog_2_method_22_code, 2, (some .int), { frames := 1, cells := 0, slots := 0, locals := 21 })
def s_Study_firstWith : zS := (⟨R_Study, "firstWith", "([Z)I"⟩, prog_10_method_10_code, 3, (some .int), { frames := 0, cells := 0, slots := 0, locals := 0 })
def s_PA_first : zS := (⟨R_PA, "first", "(I)I"⟩, prog_1_method_13_code, 2, (some .int), { frames := 2, cells := 0, slots := 0, locals := 42 })
def s_PA_part : zS := (⟨R_PA, "part", "(II)I"⟩, prog_1_method_14_code, 3, (some .int), { frames := 1, cells := 0, slots := 0, locals := 20 })
def s_Study_worldsOfPart : zS := (⟨R_Study, "worldsOfPart", "(I)I"⟩, prog_10_method_12_code, 4, (some .int), { frames := 0, cells := 0, slots := 0, locals := 0 })
def s_PA_returns : zS := (⟨R_PA, "returns", "()I"⟩, prog_1_method_15_code, 1, (some .int), { frames := 1, cells := 0, slots := 0, locals := 23 })
def s_Study_agentsWith : zS := (⟨R_Study, "agentsWith", "([Z)I"⟩, prog_10_method_11_code, 4, (some .int), { frames := 0, cells := 0, slots := 0, locals := 0 })
def s_PA_starving : zS := (⟨R_PA, "starving", "(I)I"⟩, prog_1_method_16_code, 2, (some .int), { frames := 1, cells := 0, slots := 0, locals := 23 })
def s_PA_uses : zS := (⟨R_PA, "uses", "(I)I"⟩, prog_1_method_17_code, 2, (some .int), { frames := 2, cells := 0, slots := 0, locals := 45 })
def s_Study_reach : zS := (⟨R_Study, "reach", "(I)I"⟩, prog_10_method_15_code, 7, (some .int), { frames := 1, cells := 0, slots := 0, locals := 21 })
def s_Study_isStuckWithout : zS := (⟨R_Study, "isStuckWithout", "(II)Z"⟩, prog_10_method_16_code, 4, (some .boolean), { frames := 1, cells := 0, slots := 0, locals := 21 })
def s_Study_hopeless : zS := (⟨R_Study, "hopeless", "(I)I"⟩, prog_10_method_17_code, 5, (some .int), { frames := 2, cells := 0, slots := 0, locals := 43 })
def s_Study_figure : zS := (⟨R_Study, "figure", "(I)V"⟩, prog_10_method_14_code, 7, none, { frames := 5, cells := 0, slots := 0, locals := 116 })
def s_Study_lacking : zS := (⟨R_Study, "lacking", "(II)I"⟩, prog_10_method_13_code, 3, (some .int), { frames := 6, cells := 0, slots := 0, locals := 142 })
def s_PA_without : zS := (⟨R_PA, "without", "(II)I"⟩, prog_1_method_18_code, 3, (some .int), { frames := 7, cells := 0, slots := 0, locals := 164 })
def s_Study_isBetter : zS := (⟨R_Study, "isBetter", "(II)Z"⟩, prog_10_method_19_code, 6, (some .boolean), { frames := 0, cells := 0, slots := 0, locals := 0 })
def s_Study_bestLeftOut : zS := (⟨R_Study, "bestLeftOut", "()I"⟩, prog_10_method_18_code, 3, (some .int), { frames := 6, cells := 0, slots := 0, locals := 142 })
def s_PA_mend : zS := (⟨R_PA, "mend", "()I"⟩, prog_1_method_19_code, 1, (some .int), { frames := 7, cells := 0, slots := 0, locals := 164 })
def s_PA_now : zS := (⟨R_PA, "now", "(II)I"⟩, prog_1_method_20_code, 3, (some .int), { frames := 3, cells := 0, slots := 0, locals := 69 })
def s_PA_can : zS := (⟨R_PA, "can", "(II)I"⟩, prog_1_method_21_code, 3, (some .int), { frames := 5, cells := 0, slots := 0, locals := 120 })
def s_PA_remember : zS := (⟨R_PA, "remember", "()V"⟩, prog_1_method_40_code, 1, none, { frames := 2, cells := 0, slots := 0, locals := 60 })
def s_PA_move : zS := (⟨R_PA, "move", "(II)I"⟩, prog_1_method_22_code, 3, (some .int), { frames := 5, cells := 0, slots := 0, locals := 120 })
def s_PA_jump : zS := (⟨R_PA, "jump", "(I)Z"⟩, prog_1_method_23_code, 2, (some .boolean), { frames := 3, cells := 0, slots := 0, locals := 80 })
def s_Table_choices : zS := (⟨R_Table, "choices", "(LProtocolAtlas$World;LProtocolAtlas$World;)I"⟩, prog_11_method_12_code, 6, (some .int), { frames := 5, cells := 0, slots := 0, locals := 120 })
def s_PA_draw : zS := (⟨R_PA, "draw", "(I)I"⟩, prog_1_method_41_code, 2, (some .int), { frames := 0, cells := 0, slots := 0, locals := 0 })
def s_Table_choose : zS := (⟨R_Table, "choose", "(LProtocolAtlas$World;ILProtocolAtlas$World;)V"⟩, prog_11_method_13_code, 7, none, { frames := 5, cells := 0, slots := 0, locals := 120 })
def s_PA_chance : zS := (⟨R_PA, "chance", "(I)I"⟩, prog_1_method_24_code, 5, (some .int), { frames := 6, cells := 0, slots := 0, locals := 146 })
def s_PA_undo : zS := (⟨R_PA, "undo", "()Z"⟩, prog_1_method_25_code, 1, (some .boolean), { frames := 1, cells := 0, slots := 0, locals := 26 })
def s_PA_seed : zS := (⟨R_PA, "seed", "(I)Z"⟩, prog_1_method_26_code, 2, (some .boolean), { frames := 1, cells := 0, slots := 0, locals := 21 })
def s_Sight_isSight : zS := (⟨R_Sight, "isSight", "(LProtocolAtlas$Bytes;LProtocolAtlas$Table;)Z"⟩, prog_9_method_2_code, 4, (some .boolean), { frames := 1, cells := 0, slots := 0, locals := 21 })
def s_Sight_take : zS := (⟨R_Sight, "take", "(LProtocolAtlas$Bytes;I)V"⟩, prog_9_method_4_code, 4, none, { frames := 1, cells := 0, slots := 0, locals := 21 })
def s_PA_see : zS := (⟨R_PA, "see", "(I)I"⟩, prog_1_method_27_code, 3, (some .int), { frames := 2, cells := 0, slots := 0, locals := 44 })
def s_Sight_goOn : zS := (⟨R_Sight, "goOn", "(LProtocolAtlas$Atlas;)V"⟩, prog_9_method_6_code, 4, none, { frames := 1, cells := 0, slots := 0, locals := 21 })
def s_Atlas_inState : zS := (⟨R_Atlas, "inState", "(II)I"⟩, prog_2_method_23_code, 5, (some .int), { frames := 1, cells := 0, slots := 0, locals := 21 })
def s_Sight_isAsSeen : zS := (⟨R_Sight, "isAsSeen", "(LProtocolAtlas$Atlas;I)Z"⟩, prog_9_method_7_code, 4, (some .boolean), { frames := 2, cells := 0, slots := 0, locals := 45 })
def s_Sight_look : zS := (⟨R_Sight, "look", "(LProtocolAtlas$Atlas;I)V"⟩, prog_9_method_5_code, 4, none, { frames := 3, cells := 0, slots := 0, locals := 68 })
def s_PA_could : zS := (⟨R_PA, "could", "(I)I"⟩, prog_1_method_28_code, 2, (some .int), { frames := 4, cells := 0, slots := 0, locals := 91 })
def s_Math_max : zS := (⟨"java/lang/Math", "max", "(II)I"⟩, prog_15_method_65_code, 2, (some .int), { frames := 0, cells := 0, slots := 0, locals := 0 })
def s_Sight_mostLeft : zS := (⟨R_Sight, "mostLeft", "(LProtocolAtlas$Atlas;I)I"⟩, prog_9_method_8_code, 6, (some .int), { frames := 2, cells := 0, slots := 0, locals := 45 })
def s_Sight_tellingState : zS := (⟨R_Sight, "tellingState", "(LProtocolAtlas$Atlas;I)I"⟩, prog_9_method_9_code, 5, (some .int), { frames := 3, cells := 0, slots := 0, locals := 70 })
def s_PA_tells : zS := (⟨R_PA, "tells", "(I)I"⟩, prog_1_method_29_code, 3, (some .int), { frames := 4, cells := 0, slots := 0, locals := 94 })
def s_Bytes_addName : zS := (⟨R_Bytes, "addName", "(I)V"⟩, prog_3_method_7_code, 4, none, { frames := 1, cells := 0, slots := 0, locals := 21 })
def s_PA_writeAgent : zS := (⟨R_PA, "writeAgent", "(ILProtocolAtlas$Bytes;)V"⟩, prog_1_method_43_code, 3, none, { frames := 2, cells := 0, slots := 0, locals := 44 })
def s_PA_write : zS := (⟨R_PA, "write", "(ILProtocolAtlas$Bytes;)V"⟩, prog_1_method_42_code, 5, none, { frames := 3, cells := 0, slots := 0, locals := 66 })
def s_PA_spell : zS := (⟨R_PA, "spell", "(I)I"⟩, prog_1_method_30_code, 2, (some .int), { frames := 4, cells := 0, slots := 0, locals := 90 })
def s_Bytes_isLike : zS := (⟨R_Bytes, "isLike", "(LProtocolAtlas$Bytes;)Z"⟩, prog_3_method_8_code, 3, (some .boolean), { frames := 0, cells := 0, slots := 0, locals := 0 })
def s_PA_which : zS := (⟨R_PA, "which", "()I"⟩, prog_1_method_31_code, 3, (some .int), { frames := 4, cells := 0, slots := 0, locals := 90 })
def s_PA_asByte : zS := (⟨R_PA, "asByte", "(I)I"⟩, prog_1_method_45_code, 1, (some .int), { frames := 0, cells := 0, slots := 0, locals := 0 })
def s_Bytes_check : zS := (⟨R_Bytes, "check", "(I)I"⟩, prog_3_method_9_code, 4, (some .int), { frames := 0, cells := 0, slots := 0, locals := 0 })
def s_PA_image : zS := (⟨R_PA, "image", "()I"⟩, prog_1_method_32_code, 3, (some .int), { frames := 1, cells := 0, slots := 0, locals := 23 })
def s_PA_octet : zS := (⟨R_PA, "octet", "(I)I"⟩, prog_1_method_33_code, 2, (some .int), { frames := 1, cells := 0, slots := 0, locals := 21 })
def s_Table_isOneOf : zS := (⟨R_Table, "isOneOf", "(II)Z"⟩, prog_11_method_15_code, 3, (some .boolean), { frames := 0, cells := 0, slots := 0, locals := 0 })
def s_Table_isImage : zS := (⟨R_Table, "isImage", "(LProtocolAtlas$Bytes;)Z"⟩, prog_11_method_14_code, 5, (some .boolean), { frames := 1, cells := 0, slots := 0, locals := 23 })
def s_Table_heldBy : zS := (⟨R_Table, "heldBy", "(I)I"⟩, prog_11_method_17_code, 1, (some .int), { frames := 0, cells := 0, slots := 0, locals := 0 })
def s_Table_develop : zS := (⟨R_Table, "develop", "(LProtocolAtlas$Bytes;LProtocolAtlas$World;)V"⟩, prog_11_method_16_code, 5, none, { frames := 1, cells := 0, slots := 0, locals := 23 })
def s_PA_on : zS := (⟨R_PA, "on", "()Z"⟩, prog_1_method_34_code, 2, (some .boolean), { frames := 3, cells := 0, slots := 0, locals := 81 })
def s_PA_status : zS := (⟨R_PA, "status", "(I)I"⟩, prog_1_method_35_code, 2, (some .int), { frames := 0, cells := 0, slots := 0, locals := 0 })
def s_MO_refuses : zS := (⟨R_MO, "refuses", "(I)I"⟩, prog_14_method_3_code, 2, (some .int), { frames := 0, cells := 0, slots := 0, locals := 0 })
def s_MO_feed : zS := (⟨R_MO, "feed", "(IIIII)I"⟩, prog_14_method_5_code, 8, (some .int), { frames := 1, cells := 0, slots := 0, locals := 21 })
def s_MO_isRefused : zS := (⟨R_MO, "isRefused", "(I)Z"⟩, prog_14_method_4_code, 2, (some .boolean), { frames := 0, cells := 0, slots := 0, locals := 0 })
def s_MO_end : zS := (⟨R_MO, "end", "(I)Z"⟩, prog_14_method_6_code, 2, (some .boolean), { frames := 1, cells := 0, slots := 0, locals := 21 })
def s_MO_isIn : zS := (⟨R_MO, "isIn", "(JJJ)Z"⟩, prog_14_method_2_code, 6, (some .boolean), { frames := 0, cells := 0, slots := 0, locals := 0 })
def s_MO_status : zS := (⟨R_MO, "status", "(I)I"⟩, prog_14_method_7_code, 2, (some .int), { frames := 1, cells := 0, slots := 0, locals := 25 })
def s_MO_fault : zS := (⟨R_MO, "fault", "(I)I"⟩, prog_14_method_8_code, 2, (some .int), { frames := 0, cells := 0, slots := 0, locals := 0 })
def s_MO_look : zS := (⟨R_MO, "look", "()I"⟩, prog_14_method_12_code, 1, (some .int), { frames := 0, cells := 0, slots := 0, locals := 0 })
def s_MO_isLetter : zS := (⟨R_MO, "isLetter", "(I)Z"⟩, prog_14_method_10_code, 1, (some .boolean), { frames := 0, cells := 0, slots := 0, locals := 0 })
def s_MO_isHere : zS := (⟨R_MO, "isHere", "([C)Z"⟩, prog_14_method_13_code, 4, (some .boolean), { frames := 1, cells := 0, slots := 0, locals := 20 })
def s_MO_takes : zS := (⟨R_MO, "takes", "([C)Z"⟩, prog_14_method_14_code, 2, (some .boolean), { frames := 2, cells := 0, slots := 0, locals := 43 })
def s_MO_fail : zS := (⟨R_MO, "fail", "(II)V"⟩, prog_14_method_9_code, 3, none, { frames := 0, cells := 0, slots := 0, locals := 0 })
def s_MO_asks : zS := (⟨R_MO, "asks", "([C)V"⟩, prog_14_method_15_code, 2, none, { frames := 3, cells := 0, slots := 0, locals := 64 })
def s_MO_isDigit : zS := (⟨R_MO, "isDigit", "(I)Z"⟩, prog_14_method_11_code, 1, (some .boolean), { frames := 0, cells := 0, slots := 0, locals := 0 })
def s_MO_number : zS := (⟨R_MO, "number", "(II)I"⟩, prog_14_method_18_code, 5, (some .int), { frames := 1, cells := 0, slots := 0, locals := 25 })
def s_MO_isOwnHere : zS := (⟨R_MO, "isOwnHere", "()Z"⟩, prog_14_method_19_code, 2, (some .boolean), { frames := 2, cells := 0, slots := 0, locals := 43 })
def s_MO_name : zS := (⟨R_MO, "name", "()I"⟩, prog_14_method_20_code, 2, (some .int), { frames := 3, cells := 0, slots := 0, locals := 64 })
def s_MO_nameAt : zS := (⟨R_MO, "nameAt", "(II)I"⟩, prog_14_method_21_code, 2, (some .int), { frames := 0, cells := 0, slots := 0, locals := 0 })
def s_MO_known : zS := (⟨R_MO, "known", "(II)I"⟩, prog_14_method_22_code, 4, (some .int), { frames := 1, cells := 0, slots := 0, locals := 21 })
def s_MO_takesSign : zS := (⟨R_MO, "takesSign", "(I)Z"⟩, prog_14_method_16_code, 2, (some .boolean), { frames := 1, cells := 0, slots := 0, locals := 20 })
def s_MO_newNames : zS := (⟨R_MO, "newNames", "(I)V"⟩, prog_14_method_23_code, 4, none, { frames := 4, cells := 0, slots := 0, locals := 85 })
def s_MO_asksSign : zS := (⟨R_MO, "asksSign", "(I)V"⟩, prog_14_method_17_code, 2, none, { frames := 2, cells := 0, slots := 0, locals := 41 })
def s_MO_isOnce : zS := (⟨R_MO, "isOnce", "([CII)Z"⟩, prog_14_method_29_code, 4, (some .boolean), { frames := 3, cells := 0, slots := 0, locals := 64 })
def s_MO_named : zS := (⟨R_MO, "named", "(I)I"⟩, prog_14_method_24_code, 4, (some .int), { frames := 4, cells := 0, slots := 0, locals := 85 })
def s_MO_neverTold : zS := (⟨R_MO, "neverTold", "()V"⟩, prog_14_method_25_code, 5, none, { frames := 5, cells := 0, slots := 0, locals := 108 })
def s_MO_ruleField : zS := (⟨R_MO, "ruleField", "(II)V"⟩, prog_14_method_26_code, 3, none, { frames := 0, cells := 0, slots := 0, locals := 0 })
def s_MO_onTold : zS := (⟨R_MO, "onTold", "()V"⟩, prog_14_method_27_code, 2, none, { frames := 5, cells := 0, slots := 0, locals := 108 })
def s_MO_atTold : zS := (⟨R_MO, "atTold", "()V"⟩, prog_14_method_28_code, 2, none, { frames := 5, cells := 0, slots := 0, locals := 108 })
def s_MO_statementTold : zS := (⟨R_MO, "statementTold", "()V"⟩, prog_14_method_30_code, 2, none, { frames := 6, cells := 0, slots := 0, locals := 132 })
def s_MO_opensFirst : zS := (⟨R_MO, "opensFirst", "()V"⟩, prog_14_method_49_code, 2, none, { frames := 0, cells := 0, slots := 0, locals := 0 })
def s_MO_shut : zS := (⟨R_MO, "shut", "()J"⟩, prog_14_method_37_code, 4, (some .long), { frames := 0, cells := 0, slots := 0, locals := 0 })
def s_MO_spot : zS := (⟨R_MO, "spot", "(J)I"⟩, prog_14_method_50_code, 4, (some .int), { frames := 0, cells := 0, slots := 0, locals := 0 })
def s_MO_found : zS := (⟨R_MO, "found", "(J)I"⟩, prog_14_method_51_code, 4, (some .int), { frames := 1, cells := 0, slots := 0, locals := 23 })
def s_MO_enters : zS := (⟨R_MO, "enters", "(I)V"⟩, prog_14_method_52_code, 3, none, { frames := 1, cells := 0, slots := 0, locals := 23 })
def s_MO_comes : zS := (⟨R_MO, "comes", "(JI)V"⟩, prog_14_method_53_code, 4, none, { frames := 2, cells := 0, slots := 0, locals := 46 })
def s_MO_rules : zS := (⟨R_MO, "rules", "()I"⟩, prog_14_method_34_code, 1, (some .int), { frames := 0, cells := 0, slots := 0, locals := 0 })
def s_MO_opens : zS := (⟨R_MO, "opens", "(J)V"⟩, prog_14_method_36_code, 4, none, { frames := 0, cells := 0, slots := 0, locals := 0 })
def s_MO_agents : zS := (⟨R_MO, "agents", "()I"⟩, prog_14_method_33_code, 1, (some .int), { frames := 0, cells := 0, slots := 0, locals := 0 })
def s_MO_ruleOf : zS := (⟨R_MO, "ruleOf", "(II)I"⟩, prog_14_method_35_code, 3, (some .int), { frames := 0, cells := 0, slots := 0, locals := 0 })
def s_MO_stateOf : zS := (⟨R_MO, "stateOf", "(I)I"⟩, prog_14_method_38_code, 1, (some .int), { frames := 0, cells := 0, slots := 0, locals := 0 })
def s_MO_firstIn : zS := (⟨R_MO, "firstIn", "(I)I"⟩, prog_14_method_39_code, 1, (some .int), { frames := 0, cells := 0, slots := 0, locals := 0 })
def s_MO_secondIn : zS := (⟨R_MO, "secondIn", "(I)I"⟩, prog_14_method_40_code, 1, (some .int), { frames := 0, cells := 0, slots := 0, locals := 0 })
def s_MO_without0 : zS := (⟨R_MO, "without0", "(II)I"⟩, prog_14_method_42_code, 4, (some .int), { frames := 1, cells := 0, slots := 0, locals := 20 })
def s_MO_outOf : zS := (⟨R_MO, "outOf", "(I)I"⟩, prog_14_method_41_code, 1, (some .int), { frames := 0, cells := 0, slots := 0, locals := 0 })
def s_MO_isMovedOn : zS := (⟨R_MO, "isMovedOn", "(II)Z"⟩, prog_14_method_44_code, 4, (some .boolean), { frames := 2, cells := 0, slots := 0, locals := 43 })
def s_MO_isOther : zS := (⟨R_MO, "isOther", "(II)Z"⟩, prog_14_method_45_code, 4, (some .boolean), { frames := 1, cells := 0, slots := 0, locals := 20 })
def s_MO_with0 : zS := (⟨R_MO, "with0", "(II)I"⟩, prog_14_method_43_code, 4, (some .int), { frames := 1, cells := 0, slots := 0, locals := 20 })
def s_MO_isMovedAt : zS := (⟨R_MO, "isMovedAt", "(II)Z"⟩, prog_14_method_46_code, 5, (some .boolean), { frames := 2, cells := 0, slots := 0, locals := 43 })
def s_MO_isMoved : zS := (⟨R_MO, "isMoved", "(II)Z"⟩, prog_14_method_47_code, 4, (some .boolean), { frames := 3, cells := 0, slots := 0, locals := 67 })
def s_MO_folds : zS := (⟨R_MO, "folds", "()V"⟩, prog_14_method_48_code, 4, none, { frames := 1, cells := 0, slots := 0, locals := 20 })
def s_MO_comesBy : zS := (⟨R_MO, "comesBy", "(II)V"⟩, prog_14_method_55_code, 4, none, { frames := 4, cells := 0, slots := 0, locals := 90 })
def s_MO_sorts : zS := (⟨R_MO, "sorts", "()V"⟩, prog_14_method_56_code, 6, none, { frames := 2, cells := 0, slots := 0, locals := 45 })
def s_MO_leads0 : zS := (⟨R_MO, "leads0", "(I)V"⟩, prog_14_method_57_code, 4, none, { frames := 4, cells := 0, slots := 0, locals := 90 })
def s_MO_goesThrough : zS := (⟨R_MO, "goesThrough", "(I)Z"⟩, prog_14_method_54_code, 4, (some .boolean), { frames := 5, cells := 0, slots := 0, locals := 113 })
def s_MO_stands : zS := (⟨R_MO, "stands", "()V"⟩, prog_14_method_32_code, 2, none, { frames := 6, cells := 0, slots := 0, locals := 136 })
def s_MO_table : zS := (⟨R_MO, "table", "()I"⟩, prog_14_method_31_code, 2, (some .int), { frames := 7, cells := 0, slots := 0, locals := 157 })
def s_MO_atlas : zS := (⟨R_MO, "atlas", "(I)V"⟩, prog_14_method_58_code, 2, none, { frames := 6, cells := 0, slots := 0, locals := 136 })
def s_MO_isAsked : zS := (⟨R_MO, "isAsked", "()Z"⟩, prog_14_method_81_code, 1, (some .boolean), { frames := 7, cells := 0, slots := 0, locals := 157 })
def s_MO_copies : zS := (⟨R_MO, "copies", "(I)I"⟩, prog_14_method_59_code, 5, (some .int), { frames := 1, cells := 0, slots := 0, locals := 23 })
def s_MO_movesFrom : zS := (⟨R_MO, "movesFrom", "(I)I"⟩, prog_14_method_62_code, 4, (some .int), { frames := 0, cells := 0, slots := 0, locals := 0 })
def s_MO_isNever : zS := (⟨R_MO, "isNever", "(I)Z"⟩, prog_14_method_60_code, 6, (some .boolean), { frames := 1, cells := 0, slots := 0, locals := 20 })
def s_MO_isBad : zS := (⟨R_MO, "isBad", "(J)Z"⟩, prog_14_method_61_code, 4, (some .boolean), { frames := 2, cells := 0, slots := 0, locals := 45 })
def s_MO_sumOf : zS := (⟨R_MO, "sumOf", "(I)I"⟩, prog_14_method_63_code, 5, (some .int), { frames := 3, cells := 0, slots := 0, locals := 68 })
def s_MO_enters0 : zS := (⟨R_MO, "enters0", "(I)V"⟩, prog_14_method_71_code, 2, none, { frames := 0, cells := 0, slots := 0, locals := 0 })
def s_MO_leaves : zS := (⟨R_MO, "leaves", "(I)V"⟩, prog_14_method_73_code, 3, none, { frames := 0, cells := 0, slots := 0, locals := 0 })
def s_MO_goesDown : zS := (⟨R_MO, "goesDown", "([II)V"⟩, prog_14_method_72_code, 5, none, { frames := 1, cells := 0, slots := 0, locals := 22 })
def s_MO_joins : zS := (⟨R_MO, "joins", "([II)V"⟩, prog_14_method_70_code, 4, none, { frames := 2, cells := 0, slots := 0, locals := 46 })
def s_MO_partMany : zS := (⟨R_MO, "partMany", "()I"⟩, prog_14_method_87_code, 3, (some .int), { frames := 3, cells := 0, slots := 0, locals := 69 })
def s_MO_has : zS := (⟨R_MO, "has", "(I)I"⟩, prog_14_method_83_code, 2, (some .int), { frames := 8, cells := 0, slots := 0, locals := 177 })
def s_MO_lettersOf : zS := (⟨R_MO, "lettersOf", "(I)I"⟩, prog_14_method_85_code, 3, (some .int), { frames := 0, cells := 0, slots := 0, locals := 0 })
def s_MO_letter : zS := (⟨R_MO, "letter", "(III)I"⟩, prog_14_method_84_code, 7, (some .int), { frames := 1, cells := 0, slots := 0, locals := 25 })
def s_MO_rule : zS := (⟨R_MO, "rule", "(II)I"⟩, prog_14_method_86_code, 3, (some .int), { frames := 1, cells := 0, slots := 0, locals := 25 })
def s_MO_isEnd : zS := (⟨R_MO, "isEnd", "(I)Z"⟩, prog_14_method_88_code, 3, (some .boolean), { frames := 0, cells := 0, slots := 0, locals := 0 })
def s_MO_part : zS := (⟨R_MO, "part", "(II)I"⟩, prog_14_method_89_code, 5, (some .int), { frames := 8, cells := 0, slots := 0, locals := 177 })
def s_MO_isWorld : zS := (⟨R_MO, "isWorld", "(I)Z"⟩, prog_14_method_82_code, 2, (some .boolean), { frames := 8, cells := 0, slots := 0, locals := 177 })
def s_MO_world : zS := (⟨R_MO, "world", "(II)I"⟩, prog_14_method_90_code, 3, (some .int), { frames := 9, cells := 0, slots := 0, locals := 198 })
def s_MO_lookMany : zS := (⟨R_MO, "lookMany", "()I"⟩, prog_14_method_64_code, 1, (some .int), { frames := 0, cells := 0, slots := 0, locals := 0 })
def s_MO_firstLike : zS := (⟨R_MO, "firstLike", "([II)I"⟩, prog_14_method_65_code, 3, (some .int), { frames := 0, cells := 0, slots := 0, locals := 0 })
def s_MO_looksFrom : zS := (⟨R_MO, "looksFrom", "(II)V"⟩, prog_14_method_66_code, 6, none, { frames := 4, cells := 0, slots := 0, locals := 90 })
def s_MO_leadsInto : zS := (⟨R_MO, "leadsInto", "(I[Z)Z"⟩, prog_14_method_68_code, 4, (some .boolean), { frames := 0, cells := 0, slots := 0, locals := 0 })
def s_MO_spreads : zS := (⟨R_MO, "spreads", "([Z)V"⟩, prog_14_method_67_code, 4, none, { frames := 1, cells := 0, slots := 0, locals := 23 })
def s_MO_ringsBy : zS := (⟨R_MO, "ringsBy", "(II)V"⟩, prog_14_method_75_code, 6, none, { frames := 1, cells := 0, slots := 0, locals := 22 })
def s_MO_rings : zS := (⟨R_MO, "rings", "()V"⟩, prog_14_method_74_code, 3, none, { frames := 2, cells := 0, slots := 0, locals := 47 })
def s_MO_looks : zS := (⟨R_MO, "looks", "()V"⟩, prog_14_method_69_code, 3, none, { frames := 5, cells := 0, slots := 0, locals := 115 })
def s_MO_nodeOf : zS := (⟨R_MO, "nodeOf", "(II)I"⟩, prog_14_method_76_code, 3, (some .int), { frames := 1, cells := 0, slots := 0, locals := 23 })
def s_MO_isStarving : zS := (⟨R_MO, "isStarving", "(II)Z"⟩, prog_14_method_77_code, 4, (some .boolean), { frames := 2, cells := 0, slots := 0, locals := 45 })
def s_MO_isLeftOut : zS := (⟨R_MO, "isLeftOut", "(II)Z"⟩, prog_14_method_78_code, 4, (some .boolean), { frames := 2, cells := 0, slots := 0, locals := 45 })
def s_MO_agentHas : zS := (⟨R_MO, "agentHas", "(II)I"⟩, prog_14_method_91_code, 4, (some .int), { frames := 1, cells := 0, slots := 0, locals := 20 })
def s_MO_agent : zS := (⟨R_MO, "agent", "(III)I"⟩, prog_14_method_92_code, 4, (some .int), { frames := 9, cells := 0, slots := 0, locals := 198 })
def s_MO_isMove : zS := (⟨R_MO, "isMove", "(II)Z"⟩, prog_14_method_93_code, 3, (some .boolean), { frames := 1, cells := 0, slots := 0, locals := 25 })
def s_MO_leads : zS := (⟨R_MO, "leads", "(III)I"⟩, prog_14_method_94_code, 4, (some .int), { frames := 9, cells := 0, slots := 0, locals := 198 })
def s_MO_measures : zS := (⟨R_MO, "measures", "(I)V"⟩, prog_14_method_95_code, 5, none, { frames := 0, cells := 0, slots := 0, locals := 0 })
def s_MO_foldedOf : zS := (⟨R_MO, "foldedOf", "(J)I"⟩, prog_14_method_96_code, 4, (some .int), { frames := 2, cells := 0, slots := 0, locals := 46 })
def s_MO_nearer : zS := (⟨R_MO, "nearer", "(JI)I"⟩, prog_14_method_97_code, 6, (some .int), { frames := 4, cells := 0, slots := 0, locals := 90 })
def s_MO_way : zS := (⟨R_MO, "way", "(III)I"⟩, prog_14_method_98_code, 8, (some .int), { frames := 9, cells := 0, slots := 0, locals := 198 })
def s_MO_wantingIn : zS := (⟨R_MO, "wantingIn", "(II)I"⟩, prog_14_method_79_code, 5, (some .int), { frames := 3, cells := 0, slots := 0, locals := 68 })
def s_MO_isFirst : zS := (⟨R_MO, "isFirst", "(II)Z"⟩, prog_14_method_99_code, 3, (some .boolean), { frames := 4, cells := 0, slots := 0, locals := 92 })
def s_MO_first : zS := (⟨R_MO, "first", "(I)I"⟩, prog_14_method_100_code, 3, (some .int), { frames := 8, cells := 0, slots := 0, locals := 177 })
def s_MO_returns : zS := (⟨R_MO, "returns", "()I"⟩, prog_14_method_101_code, 3, (some .int), { frames := 8, cells := 0, slots := 0, locals := 177 })
def s_MO_wantingAll : zS := (⟨R_MO, "wantingAll", "(I)I"⟩, prog_14_method_80_code, 4, (some .int), { frames := 6, cells := 0, slots := 0, locals := 137 })
def s_MO_starving : zS := (⟨R_MO, "starving", "(I)I"⟩, prog_14_method_102_code, 2, (some .int), { frames := 8, cells := 0, slots := 0, locals := 177 })
def s_MO_uses : zS := (⟨R_MO, "uses", "(I)I"⟩, prog_14_method_103_code, 5, (some .int), { frames := 8, cells := 0, slots := 0, locals := 177 })
def s_MO_withoutOf : zS := (⟨R_MO, "withoutOf", "(I)I"⟩, prog_14_method_104_code, 2, (some .int), { frames := 7, cells := 0, slots := 0, locals := 160 })
def s_MO_without : zS := (⟨R_MO, "without", "(II)I"⟩, prog_14_method_105_code, 3, (some .int), { frames := 8, cells := 0, slots := 0, locals := 181 })
def s_MO_isBetter : zS := (⟨R_MO, "isBetter", "()Z"⟩, prog_14_method_106_code, 3, (some .boolean), { frames := 8, cells := 0, slots := 0, locals := 181 })
def s_MO_mend : zS := (⟨R_MO, "mend", "()I"⟩, prog_14_method_107_code, 4, (some .int), { frames := 9, cells := 0, slots := 0, locals := 203 })
def s_MO_undo : zS := (⟨R_MO, "undo", "()Z"⟩, prog_14_method_109_code, 1, (some .boolean), { frames := 1, cells := 0, slots := 0, locals := 21 })
def s_MO_now : zS := (⟨R_MO, "now", "(II)I"⟩, prog_14_method_110_code, 3, (some .int), { frames := 8, cells := 0, slots := 0, locals := 177 })
def s_MO_can : zS := (⟨R_MO, "can", "(II)I"⟩, prog_14_method_111_code, 3, (some .int), { frames := 8, cells := 0, slots := 0, locals := 177 })
def s_MO_keeps : zS := (⟨R_MO, "keeps", "()V"⟩, prog_14_method_108_code, 1, none, { frames := 0, cells := 0, slots := 0, locals := 0 })
def s_MO_move : zS := (⟨R_MO, "move", "(II)I"⟩, prog_14_method_112_code, 3, (some .int), { frames := 9, cells := 0, slots := 0, locals := 199 })
def s_MO_jump : zS := (⟨R_MO, "jump", "(I)Z"⟩, prog_14_method_113_code, 2, (some .boolean), { frames := 9, cells := 0, slots := 0, locals := 198 })
def s_MO_seed : zS := (⟨R_MO, "seed", "(I)Z"⟩, prog_14_method_114_code, 2, (some .boolean), { frames := 1, cells := 0, slots := 0, locals := 21 })
def s_MO_movesOfWalk : zS := (⟨R_MO, "movesOfWalk", "(I)I"⟩, prog_14_method_116_code, 4, (some .int), { frames := 4, cells := 0, slots := 0, locals := 90 })
def s_MO_drawOf : zS := (⟨R_MO, "drawOf", "(I)I"⟩, prog_14_method_115_code, 2, (some .int), { frames := 0, cells := 0, slots := 0, locals := 0 })
def s_MO_chance : zS := (⟨R_MO, "chance", "(I)I"⟩, prog_14_method_117_code, 4, (some .int), { frames := 8, cells := 0, slots := 0, locals := 177 })
def s_MO_see : zS := (⟨R_MO, "see", "(I)I"⟩, prog_14_method_118_code, 5, (some .int), { frames := 1, cells := 0, slots := 0, locals := 25 })
def s_MO_couldGoOn : zS := (⟨R_MO, "couldGoOn", "()V"⟩, prog_14_method_121_code, 2, none, { frames := 0, cells := 0, slots := 0, locals := 0 })
def s_MO_inState : zS := (⟨R_MO, "inState", "(II)I"⟩, prog_14_method_119_code, 5, (some .int), { frames := 1, cells := 0, slots := 0, locals := 23 })
def s_MO_isAsSeen : zS := (⟨R_MO, "isAsSeen", "(I)Z"⟩, prog_14_method_120_code, 3, (some .boolean), { frames := 2, cells := 0, slots := 0, locals := 47 })
def s_MO_laysCould : zS := (⟨R_MO, "laysCould", "()I"⟩, prog_14_method_122_code, 3, (some .int), { frames := 3, cells := 0, slots := 0, locals := 69 })
def s_MO_could : zS := (⟨R_MO, "could", "(I)I"⟩, prog_14_method_123_code, 5, (some .int), { frames := 8, cells := 0, slots := 0, locals := 177 })
def s_MO_mostBy : zS := (⟨R_MO, "mostBy", "(I)I"⟩, prog_14_method_124_code, 6, (some .int), { frames := 2, cells := 0, slots := 0, locals := 47 })
def s_MO_tells : zS := (⟨R_MO, "tells", "(I)I"⟩, prog_14_method_125_code, 4, (some .int), { frames := 8, cells := 0, slots := 0, locals := 177 })
def s_MO_writes : zS := (⟨R_MO, "writes", "(I)V"⟩, prog_14_method_126_code, 2, none, { frames := 0, cells := 0, slots := 0, locals := 0 })
def s_MO_writesName : zS := (⟨R_MO, "writesName", "(II)V"⟩, prog_14_method_127_code, 6, none, { frames := 1, cells := 0, slots := 0, locals := 22 })
def s_MO_writesAgent : zS := (⟨R_MO, "writesAgent", "(I)V"⟩, prog_14_method_128_code, 2, none, { frames := 2, cells := 0, slots := 0, locals := 47 })
def s_MO_writesWorld : zS := (⟨R_MO, "writesWorld", "(I)V"⟩, prog_14_method_129_code, 3, none, { frames := 3, cells := 0, slots := 0, locals := 68 })
def s_MO_spell : zS := (⟨R_MO, "spell", "(I)I"⟩, prog_14_method_130_code, 2, (some .int), { frames := 9, cells := 0, slots := 0, locals := 198 })
def s_MO_isSpelled : zS := (⟨R_MO, "isSpelled", "(I)Z"⟩, prog_14_method_131_code, 3, (some .boolean), { frames := 0, cells := 0, slots := 0, locals := 0 })
def s_MO_which : zS := (⟨R_MO, "which", "()I"⟩, prog_14_method_132_code, 5, (some .int), { frames := 9, cells := 0, slots := 0, locals := 198 })
def s_MO_checked : zS := (⟨R_MO, "checked", "([II)I"⟩, prog_14_method_133_code, 4, (some .int), { frames := 0, cells := 0, slots := 0, locals := 0 })
def s_MO_image : zS := (⟨R_MO, "image", "()I"⟩, prog_14_method_134_code, 4, (some .int), { frames := 2, cells := 0, slots := 0, locals := 43 })
def s_MO_octet : zS := (⟨R_MO, "octet", "(I)I"⟩, prog_14_method_135_code, 2, (some .int), { frames := 0, cells := 0, slots := 0, locals := 0 })
def s_MO_toldAt : zS := (⟨R_MO, "toldAt", "(I)I"⟩, prog_14_method_136_code, 2, (some .int), { frames := 0, cells := 0, slots := 0, locals := 0 })
def s_MO_imaged : zS := (⟨R_MO, "imaged", "(I)J"⟩, prog_14_method_137_code, 8, (some .long), { frames := 8, cells := 0, slots := 0, locals := 177 })
def s_MO_on : zS := (⟨R_MO, "on", "()Z"⟩, prog_14_method_138_code, 4, (some .boolean), { frames := 9, cells := 0, slots := 0, locals := 204 })
def s_String_charAt : zS := (⟨"java/lang/String", "charAt", "(I)C"⟩, prog_16_method_56_code, 2, (some .char), { frames := 4, cells := 0, slots := 0, locals := 140 })
def s_String_length : zS := (⟨"java/lang/String", "length", "()I"⟩, prog_16_method_54_code, 1, (some .int), { frames := 4, cells := 0, slots := 0, locals := 140 })
theorem mv_PA_96 : zLV R_PA 96 s_Bytes_size 0 := ⟨⟨by decide, by decide, by decide +kernel⟩, (ztb_3 (i := 96) rfl rfl), (ztb_3 (i := 94) rfl rfl), (ztb_3 (i := 95) rfl rfl), (ztb_1 (i := 2) rfl rfl), Or.inl (ztb_3 (i := 93) rfl rfl)⟩
theorem mv_PA_100 : zLV R_PA 100 s_PA_refuse 1 := ⟨⟨by decide, by decide, by decide +kernel⟩, (ztb_3 (i := 100) rfl rfl), (ztb_3 (i := 99) rfl rfl), (ztb_p (i := 0) 16 rfl), (ztb_1 (i := 1) rfl rfl), Or.inl (ztb_3 (i := 97) rfl rfl)⟩
theorem mv_PA_104 : zLV R_PA 104 s_Bytes_addNumber 1 := ⟨⟨by decide, by decide, by decide +kernel⟩, (ztb_3 (i := 104) rfl rfl), (ztb_3 (i := 102) rfl rfl), (ztb_3 (i := 103) rfl rfl), (ztb_1 (i := 2) rfl rfl), Or.inl (ztb_3 (i := 101) rfl rfl)⟩
theorem mv_PA_108 : zLV R_PA 108 s_Bytes_cut 1 := ⟨⟨by decide, by decide, by decide +kernel⟩, (ztb_3 (i := 116) rfl rfl), (ztb_3 (i := 114) rfl rfl), (ztb_3 (i := 115) rfl rfl), (ztb_1 (i := 2) rfl rfl), Or.inl (ztb_3 (i := 113) rfl rfl)⟩
theorem mv_PA_111 : zLV R_PA 111 s_Reader_read 1 := ⟨⟨by decide, by decide, by decide +kernel⟩, (ztb_3 (i := 124) rfl rfl), (ztb_3 (i := 122) rfl rfl), (ztb_3 (i := 123) rfl rfl), (ztb_1 (i := 8) rfl rfl), Or.inl (ztb_3 (i := 121) rfl rfl)⟩
theorem mv_PA_118 : zLV R_PA 118 s_Search_explore 1 := ⟨⟨by decide, by decide, by decide +kernel⟩, (ztb_4 (i := 109) rfl rfl), (ztb_4 (i := 107) rfl rfl), (ztb_4 (i := 108) rfl rfl), (ztb_1 (i := 3) rfl rfl), Or.inl (ztb_4 (i := 106) rfl rfl)⟩
theorem mv_PA_122 : zLV R_PA 122 s_Reader_refuse 2 := ⟨⟨by decide, by decide, by decide +kernel⟩, (ztb_3 (i := 217) rfl rfl), (ztb_3 (i := 215) rfl rfl), (ztb_3 (i := 216) rfl rfl), (ztb_1 (i := 8) rfl rfl), Or.inl (ztb_4 (i := 201) rfl rfl)⟩
theorem mv_PA_125 : zLV R_PA 125 s_Atlas_fill 2 := ⟨⟨by decide, by decide, by decide +kernel⟩, (ztb_4 (i := 205) rfl rfl), (ztb_4 (i := 203) rfl rfl), (ztb_4 (i := 204) rfl rfl), (ztb_1 (i := 6) rfl rfl), Or.inl (ztb_4 (i := 202) rfl rfl)⟩
theorem mv_PA_129 : zLV R_PA 129 s_Study_begin 1 := ⟨⟨by decide, by decide, by decide +kernel⟩, (ztb_5 (i := 6) rfl rfl), (ztb_5 (i := 4) rfl rfl), (ztb_5 (i := 5) rfl rfl), (ztb_1 (i := 11) rfl rfl), Or.inl (ztb_5 (i := 3) rfl rfl)⟩
theorem mv_PA_133 : zLV R_PA 133 s_Sight_forget 0 := ⟨⟨by decide, by decide, by decide +kernel⟩, (ztb_5 (i := 107) rfl rfl), (ztb_5 (i := 105) rfl rfl), (ztb_5 (i := 106) rfl rfl), (ztb_1 (i := 7) rfl rfl), Or.inl (ztb_5 (i := 104) rfl rfl)⟩
theorem mv_PA_136 : zLV R_PA 136 s_World_begin 1 := ⟨⟨by decide, by decide, by decide +kernel⟩, (ztb_4 (i := 118) rfl rfl), (ztb_4 (i := 116) rfl rfl), (ztb_4 (i := 117) rfl rfl), (ztb_1 (i := 5) rfl rfl), Or.inl (ztb_5 (i := 108) rfl rfl)⟩
theorem mv_PA_155 : zLV R_PA 155 s_Atlas_allWorlds 0 := ⟨⟨by decide, by decide, by decide +kernel⟩, (ztb_5 (i := 121) rfl rfl), (ztb_5 (i := 119) rfl rfl), (ztb_5 (i := 120) rfl rfl), (ztb_1 (i := 6) rfl rfl), Or.inl (ztb_5 (i := 118) rfl rfl)⟩
theorem mv_PA_161 : zLV R_PA 161 s_Atlas_allMoves 1 := ⟨⟨by decide, by decide, by decide +kernel⟩, (ztb_5 (i := 125) rfl rfl), (ztb_5 (i := 123) rfl rfl), (ztb_5 (i := 124) rfl rfl), (ztb_1 (i := 6) rfl rfl), Or.inl (ztb_5 (i := 122) rfl rfl)⟩
theorem mv_PA_164 : zLV R_PA 164 s_Atlas_allBad 0 := ⟨⟨by decide, by decide, by decide +kernel⟩, (ztb_5 (i := 130) rfl rfl), (ztb_5 (i := 128) rfl rfl), (ztb_5 (i := 129) rfl rfl), (ztb_1 (i := 6) rfl rfl), Or.inl (ztb_5 (i := 127) rfl rfl)⟩
theorem mv_PA_167 : zLV R_PA 167 s_Atlas_allStuck 0 := ⟨⟨by decide, by decide, by decide +kernel⟩, (ztb_5 (i := 134) rfl rfl), (ztb_5 (i := 132) rfl rfl), (ztb_5 (i := 133) rfl rfl), (ztb_1 (i := 6) rfl rfl), Or.inl (ztb_5 (i := 131) rfl rfl)⟩
theorem mv_PA_174 : zLV R_PA 174 s_Table_name 2 := ⟨⟨by decide, by decide, by decide +kernel⟩, (ztb_5 (i := 146) rfl rfl), (ztb_5 (i := 144) rfl rfl), (ztb_5 (i := 145) rfl rfl), (ztb_1 (i := 9) rfl rfl), Or.inl (ztb_5 (i := 143) rfl rfl)⟩
theorem mv_PA_178 : zLS R_PA 178 s_PA_letterOf 2 := ⟨⟨by decide, by decide, by decide +kernel⟩, (ztb_5 (i := 149) rfl rfl), (ztb_5 (i := 148) rfl rfl), (ztb_1 (i := 1) rfl rfl), Or.inl (ztb_5 (i := 147) rfl rfl)⟩
theorem mv_PA_181 : zLV R_PA 181 s_PA_isRule 1 := ⟨⟨by decide, by decide, by decide +kernel⟩, (ztb_5 (i := 157) rfl rfl), (ztb_5 (i := 156) rfl rfl), (ztb_p (i := 48) 16 rfl), (ztb_1 (i := 1) rfl rfl), Or.inl (ztb_5 (i := 154) rfl rfl)⟩
theorem mv_PA_189 : zLV R_PA 189 s_Row_told 1 := ⟨⟨by decide, by decide, by decide +kernel⟩, (ztb_5 (i := 161) rfl rfl), (ztb_5 (i := 159) rfl rfl), (ztb_5 (i := 160) rfl rfl), (ztb_1 (i := 10) rfl rfl), Or.inl (ztb_5 (i := 158) rfl rfl)⟩
theorem mv_PA_194 : zLV R_PA 194 s_PA_isWorld 1 := ⟨⟨by decide, by decide, by decide +kernel⟩, (ztb_5 (i := 172) rfl rfl), (ztb_5 (i := 171) rfl rfl), (ztb_p (i := 49) 16 rfl), (ztb_1 (i := 1) rfl rfl), Or.inl (ztb_5 (i := 169) rfl rfl)⟩
theorem mv_PA_200 : zLV R_PA 200 s_Atlas_home 1 := ⟨⟨by decide, by decide, by decide +kernel⟩, (ztb_5 (i := 176) rfl rfl), (ztb_5 (i := 174) rfl rfl), (ztb_5 (i := 175) rfl rfl), (ztb_1 (i := 6) rfl rfl), Or.inl (ztb_5 (i := 173) rfl rfl)⟩
theorem mv_PA_207 : zLS R_PA 207 s_PA_asNumber 1 := ⟨⟨by decide, by decide, by decide +kernel⟩, (ztb_5 (i := 164) rfl rfl), (ztb_5 (i := 163) rfl rfl), (ztb_1 (i := 1) rfl rfl), Or.inl (ztb_5 (i := 177) rfl rfl)⟩
theorem mv_PA_211 : zLV R_PA 211 s_Atlas_movesFrom 1 := ⟨⟨by decide, by decide, by decide +kernel⟩, (ztb_5 (i := 138) rfl rfl), (ztb_5 (i := 136) rfl rfl), (ztb_5 (i := 137) rfl rfl), (ztb_1 (i := 6) rfl rfl), Or.inl (ztb_5 (i := 178) rfl rfl)⟩
theorem mv_PA_217 : zLV R_PA 217 s_PA_isAgent 1 := ⟨⟨by decide, by decide, by decide +kernel⟩, (ztb_5 (i := 186) rfl rfl), (ztb_5 (i := 185) rfl rfl), (ztb_p (i := 50) 16 rfl), (ztb_1 (i := 1) rfl rfl), Or.inl (ztb_5 (i := 183) rfl rfl)⟩
theorem mv_PA_229 : zLS R_PA 229 s_PA_held 2 := ⟨⟨by decide, by decide, by decide +kernel⟩, (ztb_4 (i := 171) rfl rfl), (ztb_4 (i := 170) rfl rfl), (ztb_1 (i := 1) rfl rfl), Or.inl (ztb_5 (i := 187) rfl rfl)⟩
theorem mv_PA_232 : zLV R_PA 232 s_Atlas_leading 3 := ⟨⟨by decide, by decide, by decide +kernel⟩, (ztb_5 (i := 195) rfl rfl), (ztb_5 (i := 193) rfl rfl), (ztb_5 (i := 194) rfl rfl), (ztb_1 (i := 6) rfl rfl), Or.inl (ztb_5 (i := 192) rfl rfl)⟩
theorem mv_PA_236 : zLV R_PA 236 s_Atlas_stepTo 2 := ⟨⟨by decide, by decide, by decide +kernel⟩, (ztb_5 (i := 205) rfl rfl), (ztb_5 (i := 203) rfl rfl), (ztb_5 (i := 204) rfl rfl), (ztb_1 (i := 6) rfl rfl), Or.inl (ztb_5 (i := 202) rfl rfl)⟩
theorem mv_PA_239 : zLV R_PA 239 s_Atlas_firstBad 0 := ⟨⟨by decide, by decide, by decide +kernel⟩, (ztb_5 (i := 213) rfl rfl), (ztb_5 (i := 211) rfl rfl), (ztb_5 (i := 212) rfl rfl), (ztb_1 (i := 6) rfl rfl), Or.inl (ztb_5 (i := 210) rfl rfl)⟩
theorem mv_PA_242 : zLV R_PA 242 s_Atlas_firstStuck 0 := ⟨⟨by decide, by decide, by decide +kernel⟩, (ztb_5 (i := 217) rfl rfl), (ztb_5 (i := 215) rfl rfl), (ztb_5 (i := 216) rfl rfl), (ztb_1 (i := 6) rfl rfl), Or.inl (ztb_5 (i := 214) rfl rfl)⟩
theorem mv_PA_245 : zLV R_PA 245 s_Study_firstWith 1 := ⟨⟨by decide, by decide, by decide +kernel⟩, (ztb_5 (i := 221) rfl rfl), (ztb_5 (i := 219) rfl rfl), (ztb_5 (i := 220) rfl rfl), (ztb_1 (i := 11) rfl rfl), Or.inl (ztb_5 (i := 218) rfl rfl)⟩
theorem mv_PA_258 : zLV R_PA 258 s_Study_worldsOfPart 1 := ⟨⟨by decide, by decide, by decide +kernel⟩, (ztb_5 (i := 233) rfl rfl), (ztb_5 (i := 231) rfl rfl), (ztb_5 (i := 232) rfl rfl), (ztb_1 (i := 11) rfl rfl), Or.inl (ztb_5 (i := 230) rfl rfl)⟩
theorem mv_PA_261 : zLV R_PA 261 s_Study_agentsWith 1 := ⟨⟨by decide, by decide, by decide +kernel⟩, (ztb_6 (i := 1) rfl rfl), (ztb_5 (i := 239) rfl rfl), (ztb_6 (i := 0) rfl rfl), (ztb_1 (i := 11) rfl rfl), Or.inl (ztb_5 (i := 238) rfl rfl)⟩
theorem mv_PA_264 : zLV R_PA 264 s_Study_lacking 2 := ⟨⟨by decide, by decide, by decide +kernel⟩, (ztb_6 (i := 13) rfl rfl), (ztb_6 (i := 11) rfl rfl), (ztb_6 (i := 12) rfl rfl), (ztb_1 (i := 11) rfl rfl), Or.inl (ztb_6 (i := 10) rfl rfl)⟩
theorem mv_PA_267 : zLV R_PA 267 s_Study_bestLeftOut 0 := ⟨⟨by decide, by decide, by decide +kernel⟩, (ztb_6 (i := 38) rfl rfl), (ztb_6 (i := 36) rfl rfl), (ztb_6 (i := 37) rfl rfl), (ztb_1 (i := 11) rfl rfl), Or.inl (ztb_6 (i := 35) rfl rfl)⟩
theorem mv_PA_272 : zLV R_PA 272 s_Atlas_number 1 := ⟨⟨by decide, by decide, by decide +kernel⟩, (ztb_4 (i := 236) rfl rfl), (ztb_4 (i := 234) rfl rfl), (ztb_4 (i := 235) rfl rfl), (ztb_1 (i := 6) rfl rfl), Or.inl (ztb_6 (i := 47) rfl rfl)⟩
theorem mv_PA_276 : zLV R_PA 276 s_Table_isBad 1 := ⟨⟨by decide, by decide, by decide +kernel⟩, (ztb_4 (i := 223) rfl rfl), (ztb_4 (i := 221) rfl rfl), (ztb_4 (i := 222) rfl rfl), (ztb_1 (i := 9) rfl rfl), Or.inl (ztb_6 (i := 48) rfl rfl)⟩
theorem mv_PA_281 : zLV R_PA 281 s_Table_go 4 := ⟨⟨by decide, by decide, by decide +kernel⟩, (ztb_4 (i := 164) rfl rfl), (ztb_4 (i := 162) rfl rfl), (ztb_4 (i := 163) rfl rfl), (ztb_1 (i := 9) rfl rfl), Or.inl (ztb_6 (i := 53) rfl rfl)⟩
theorem mv_PA_285 : zLV R_PA 285 s_PA_remember 0 := ⟨⟨by decide, by decide, by decide +kernel⟩, (ztb_6 (i := 61) rfl rfl), (ztb_6 (i := 60) rfl rfl), (ztb_p (i := 56) 16 rfl), (ztb_1 (i := 1) rfl rfl), Or.inl (ztb_6 (i := 58) rfl rfl)⟩
theorem mv_PA_288 : zLV R_PA 288 s_World_copy 1 := ⟨⟨by decide, by decide, by decide +kernel⟩, (ztb_4 (i := 175) rfl rfl), (ztb_4 (i := 173) rfl rfl), (ztb_4 (i := 174) rfl rfl), (ztb_1 (i := 5) rfl rfl), Or.inl (ztb_6 (i := 64) rfl rfl)⟩
theorem mv_PA_295 : zLV R_PA 295 s_World_load 2 := ⟨⟨by decide, by decide, by decide +kernel⟩, (ztb_4 (i := 156) rfl rfl), (ztb_4 (i := 154) rfl rfl), (ztb_4 (i := 155) rfl rfl), (ztb_1 (i := 5) rfl rfl), Or.inl (ztb_6 (i := 69) rfl rfl)⟩
theorem mv_PA_299 : zLV R_PA 299 s_Table_choices 2 := ⟨⟨by decide, by decide, by decide +kernel⟩, (ztb_6 (i := 77) rfl rfl), (ztb_6 (i := 75) rfl rfl), (ztb_6 (i := 76) rfl rfl), (ztb_1 (i := 9) rfl rfl), Or.inl (ztb_6 (i := 74) rfl rfl)⟩
theorem mv_PA_303 : zLV R_PA 303 s_PA_draw 1 := ⟨⟨by decide, by decide, by decide +kernel⟩, (ztb_6 (i := 82) rfl rfl), (ztb_6 (i := 81) rfl rfl), (ztb_p (i := 57) 16 rfl), (ztb_1 (i := 1) rfl rfl), Or.inl (ztb_6 (i := 79) rfl rfl)⟩
theorem mv_PA_306 : zLV R_PA 306 s_Table_choose 3 := ⟨⟨by decide, by decide, by decide +kernel⟩, (ztb_6 (i := 90) rfl rfl), (ztb_6 (i := 88) rfl rfl), (ztb_6 (i := 89) rfl rfl), (ztb_1 (i := 9) rfl rfl), Or.inl (ztb_6 (i := 87) rfl rfl)⟩
theorem mv_PA_310 : zLS R_PA 310 s_Sight_isSight 2 := ⟨⟨by decide, by decide, by decide +kernel⟩, (ztb_6 (i := 105) rfl rfl), (ztb_6 (i := 104) rfl rfl), (ztb_1 (i := 7) rfl rfl), Or.inl (ztb_6 (i := 103) rfl rfl)⟩
theorem mv_PA_314 : zLV R_PA 314 s_Sight_take 2 := ⟨⟨by decide, by decide, by decide +kernel⟩, (ztb_6 (i := 111) rfl rfl), (ztb_6 (i := 109) rfl rfl), (ztb_6 (i := 110) rfl rfl), (ztb_1 (i := 7) rfl rfl), Or.inl (ztb_6 (i := 108) rfl rfl)⟩
theorem mv_PA_318 : zLV R_PA 318 s_Sight_look 2 := ⟨⟨by decide, by decide, by decide +kernel⟩, (ztb_6 (i := 120) rfl rfl), (ztb_6 (i := 118) rfl rfl), (ztb_6 (i := 119) rfl rfl), (ztb_1 (i := 7) rfl rfl), Or.inl (ztb_6 (i := 117) rfl rfl)⟩
theorem mv_PA_328 : zLV R_PA 328 s_Sight_tellingState 2 := ⟨⟨by decide, by decide, by decide +kernel⟩, (ztb_6 (i := 142) rfl rfl), (ztb_6 (i := 140) rfl rfl), (ztb_6 (i := 141) rfl rfl), (ztb_1 (i := 7) rfl rfl), Or.inl (ztb_6 (i := 139) rfl rfl)⟩
theorem mv_PA_332 : zLV R_PA 332 s_Sight_mostLeft 2 := ⟨⟨by decide, by decide, by decide +kernel⟩, (ztb_6 (i := 146) rfl rfl), (ztb_6 (i := 144) rfl rfl), (ztb_6 (i := 145) rfl rfl), (ztb_1 (i := 7) rfl rfl), Or.inl (ztb_6 (i := 151) rfl rfl)⟩
theorem mv_PA_335 : zLV R_PA 335 s_PA_write 2 := ⟨⟨by decide, by decide, by decide +kernel⟩, (ztb_6 (i := 159) rfl rfl), (ztb_6 (i := 158) rfl rfl), (ztb_p (i := 60) 16 rfl), (ztb_1 (i := 1) rfl rfl), Or.inl (ztb_6 (i := 156) rfl rfl)⟩
theorem mv_PA_339 : zLV R_PA 339 s_Bytes_isLike 1 := ⟨⟨by decide, by decide, by decide +kernel⟩, (ztb_6 (i := 177) rfl rfl), (ztb_6 (i := 175) rfl rfl), (ztb_6 (i := 176) rfl rfl), (ztb_1 (i := 2) rfl rfl), Or.inl (ztb_6 (i := 174) rfl rfl)⟩
theorem mv_PA_343 : zLS R_PA 343 s_PA_asByte 1 := ⟨⟨by decide, by decide, by decide +kernel⟩, (ztb_6 (i := 184) rfl rfl), (ztb_6 (i := 183) rfl rfl), (ztb_1 (i := 1) rfl rfl), Or.inl (ztb_6 (i := 182) rfl rfl)⟩
theorem mv_PA_346 : zLV R_PA 346 s_Bytes_add 1 := ⟨⟨by decide, by decide, by decide +kernel⟩, (ztb_3 (i := 108) rfl rfl), (ztb_3 (i := 106) rfl rfl), (ztb_3 (i := 107) rfl rfl), (ztb_1 (i := 2) rfl rfl), Or.inl (ztb_6 (i := 160) rfl rfl)⟩
theorem mv_PA_349 : zLV R_PA 349 s_Bytes_check 1 := ⟨⟨by decide, by decide, by decide +kernel⟩, (ztb_6 (i := 188) rfl rfl), (ztb_6 (i := 186) rfl rfl), (ztb_6 (i := 187) rfl rfl), (ztb_1 (i := 2) rfl rfl), Or.inl (ztb_6 (i := 185) rfl rfl)⟩
theorem mv_PA_352 : zLV R_PA 352 s_Bytes_get 1 := ⟨⟨by decide, by decide, by decide +kernel⟩, (ztb_3 (i := 140) rfl rfl), (ztb_3 (i := 138) rfl rfl), (ztb_3 (i := 139) rfl rfl), (ztb_1 (i := 2) rfl rfl), Or.inl (ztb_6 (i := 193) rfl rfl)⟩
theorem mv_PA_355 : zLV R_PA 355 s_Table_isImage 1 := ⟨⟨by decide, by decide, by decide +kernel⟩, (ztb_6 (i := 201) rfl rfl), (ztb_6 (i := 199) rfl rfl), (ztb_6 (i := 200) rfl rfl), (ztb_1 (i := 9) rfl rfl), Or.inl (ztb_6 (i := 198) rfl rfl)⟩
theorem mv_PA_358 : zLV R_PA 358 s_Table_develop 2 := ⟨⟨by decide, by decide, by decide +kernel⟩, (ztb_6 (i := 212) rfl rfl), (ztb_6 (i := 210) rfl rfl), (ztb_6 (i := 211) rfl rfl), (ztb_1 (i := 9) rfl rfl), Or.inl (ztb_6 (i := 209) rfl rfl)⟩
theorem mv_PA_368 : zLV R_PA 368 s_World_ownKey 0 := ⟨⟨by decide, by decide, by decide +kernel⟩, (ztb_4 (i := 152) rfl rfl), (ztb_4 (i := 150) rfl rfl), (ztb_4 (i := 151) rfl rfl), (ztb_1 (i := 5) rfl rfl), Or.inl (ztb_6 (i := 63) rfl rfl)⟩
theorem mv_PA_380 : zLV R_PA 380 s_Bytes_addName 1 := ⟨⟨by decide, by decide, by decide +kernel⟩, (ztb_6 (i := 164) rfl rfl), (ztb_6 (i := 162) rfl rfl), (ztb_6 (i := 163) rfl rfl), (ztb_1 (i := 2) rfl rfl), Or.inl (ztb_6 (i := 161) rfl rfl)⟩
theorem mv_PA_383 : zLV R_PA 383 s_PA_writeAgent 2 := ⟨⟨by decide, by decide, by decide +kernel⟩, (ztb_6 (i := 169) rfl rfl), (ztb_6 (i := 168) rfl rfl), (ztb_p (i := 61) 16 rfl), (ztb_1 (i := 1) rfl rfl), Or.inl (ztb_6 (i := 166) rfl rfl)⟩
theorem mv_Atlas_81 : zLV R_Atlas 81 s_Index_clear 0 := ⟨⟨by decide, by decide, by decide +kernel⟩, (ztb_4 (i := 113) rfl rfl), (ztb_4 (i := 111) rfl rfl), (ztb_4 (i := 112) rfl rfl), (ztb_1 (i := 4) rfl rfl), Or.inl (ztb_4 (i := 206) rfl rfl)⟩
theorem mv_Atlas_84 : zLV R_Atlas 84 s_Atlas_sort 1 := ⟨⟨by decide, by decide, by decide +kernel⟩, (ztb_4 (i := 210) rfl rfl), (ztb_4 (i := 209) rfl rfl), (ztb_p (i := 30) 17 rfl), (ztb_1 (i := 6) rfl rfl), Or.inl (ztb_4 (i := 207) rfl rfl)⟩
theorem mv_Atlas_94 : zLV R_Atlas 94 s_Index_put 2 := ⟨⟨by decide, by decide, by decide +kernel⟩, (ztb_4 (i := 148) rfl rfl), (ztb_4 (i := 146) rfl rfl), (ztb_4 (i := 147) rfl rfl), (ztb_1 (i := 4) rfl rfl), Or.inl (ztb_4 (i := 214) rfl rfl)⟩
theorem mv_Atlas_98 : zLV R_Atlas 98 s_World_load 2 := ⟨⟨by decide, by decide, by decide +kernel⟩, (ztb_4 (i := 156) rfl rfl), (ztb_4 (i := 154) rfl rfl), (ztb_4 (i := 155) rfl rfl), (ztb_1 (i := 5) rfl rfl), Or.inl (ztb_4 (i := 215) rfl rfl)⟩
theorem mv_Atlas_101 : zLV R_Atlas 101 s_Atlas_describe 2 := ⟨⟨by decide, by decide, by decide +kernel⟩, (ztb_4 (i := 219) rfl rfl), (ztb_4 (i := 218) rfl rfl), (ztb_p (i := 31) 17 rfl), (ztb_1 (i := 6) rfl rfl), Or.inl (ztb_4 (i := 216) rfl rfl)⟩
theorem mv_Atlas_105 : zLV R_Atlas 105 s_Atlas_addMoves 2 := ⟨⟨by decide, by decide, by decide +kernel⟩, (ztb_4 (i := 231) rfl rfl), (ztb_4 (i := 230) rfl rfl), (ztb_p (i := 32) 17 rfl), (ztb_1 (i := 6) rfl rfl), Or.inl (ztb_4 (i := 228) rfl rfl)⟩
theorem mv_Atlas_109 : zLS R_Atlas 109 s_Atlas_isAfter 3 := ⟨⟨by decide, by decide, by decide +kernel⟩, (ztb_4 (i := 213) rfl rfl), (ztb_4 (i := 212) rfl rfl), (ztb_1 (i := 6) rfl rfl), Or.inl (ztb_4 (i := 211) rfl rfl)⟩
theorem mv_Atlas_113 : zLV R_Atlas 113 s_Table_isBad 1 := ⟨⟨by decide, by decide, by decide +kernel⟩, (ztb_4 (i := 223) rfl rfl), (ztb_4 (i := 221) rfl rfl), (ztb_4 (i := 222) rfl rfl), (ztb_1 (i := 9) rfl rfl), Or.inl (ztb_4 (i := 220) rfl rfl)⟩
theorem mv_Atlas_121 : zLV R_Atlas 121 s_Table_go 4 := ⟨⟨by decide, by decide, by decide +kernel⟩, (ztb_4 (i := 164) rfl rfl), (ztb_4 (i := 162) rfl rfl), (ztb_4 (i := 163) rfl rfl), (ztb_1 (i := 9) rfl rfl), Or.inl (ztb_4 (i := 232) rfl rfl)⟩
theorem mv_Atlas_125 : zLV R_Atlas 125 s_Atlas_number 1 := ⟨⟨by decide, by decide, by decide +kernel⟩, (ztb_4 (i := 236) rfl rfl), (ztb_4 (i := 234) rfl rfl), (ztb_4 (i := 235) rfl rfl), (ztb_1 (i := 6) rfl rfl), Or.inl (ztb_4 (i := 233) rfl rfl)⟩
theorem mv_Atlas_129 : zLV R_Atlas 129 s_Atlas_pack 3 := ⟨⟨by decide, by decide, by decide +kernel⟩, (ztb_5 (i := 2) rfl rfl), (ztb_5 (i := 1) rfl rfl), (ztb_p (i := 33) 17 rfl), (ztb_1 (i := 6) rfl rfl), Or.inl (ztb_4 (i := 239) rfl rfl)⟩
theorem mv_Atlas_136 : zLV R_Atlas 136 s_World_foldedKey 0 := ⟨⟨by decide, by decide, by decide +kernel⟩, (ztb_4 (i := 130) rfl rfl), (ztb_4 (i := 128) rfl rfl), (ztb_4 (i := 129) rfl rfl), (ztb_1 (i := 5) rfl rfl), Or.inl (ztb_4 (i := 237) rfl rfl)⟩
theorem mv_Atlas_140 : zLV R_Atlas 140 s_Index_find 1 := ⟨⟨by decide, by decide, by decide +kernel⟩, (ztb_4 (i := 139) rfl rfl), (ztb_4 (i := 137) rfl rfl), (ztb_4 (i := 138) rfl rfl), (ztb_1 (i := 4) rfl rfl), Or.inl (ztb_4 (i := 238) rfl rfl)⟩
theorem mv_Atlas_147 : zLV R_Atlas 147 s_Atlas_by 1 := ⟨⟨by decide, by decide, by decide +kernel⟩, (ztb_5 (i := 40) rfl rfl), (ztb_5 (i := 38) rfl rfl), (ztb_5 (i := 39) rfl rfl), (ztb_1 (i := 6) rfl rfl), Or.inl (ztb_5 (i := 126) rfl rfl)⟩
theorem mv_Atlas_151 : zLV R_Atlas 151 s_Atlas_mover 1 := ⟨⟨by decide, by decide, by decide +kernel⟩, (ztb_5 (i := 103) rfl rfl), (ztb_5 (i := 101) rfl rfl), (ztb_5 (i := 102) rfl rfl), (ztb_1 (i := 6) rfl rfl), Or.inl (ztb_5 (i := 196) rfl rfl)⟩
theorem mv_Atlas_154 : zLV R_Atlas 154 s_Atlas_target 1 := ⟨⟨by decide, by decide, by decide +kernel⟩, (ztb_5 (i := 44) rfl rfl), (ztb_5 (i := 42) rfl rfl), (ztb_5 (i := 43) rfl rfl), (ztb_1 (i := 6) rfl rfl), Or.inl (ztb_5 (i := 197) rfl rfl)⟩
theorem mv_Atlas_157 : zLV R_Atlas 157 s_Atlas_movesFrom 1 := ⟨⟨by decide, by decide, by decide +kernel⟩, (ztb_5 (i := 138) rfl rfl), (ztb_5 (i := 136) rfl rfl), (ztb_5 (i := 137) rfl rfl), (ztb_1 (i := 6) rfl rfl), Or.inl (ztb_5 (i := 135) rfl rfl)⟩
theorem mv_Atlas_160 : zLS R_Atlas 160 s_PA_held 2 := ⟨⟨by decide, by decide, by decide +kernel⟩, (ztb_4 (i := 171) rfl rfl), (ztb_4 (i := 170) rfl rfl), (ztb_1 (i := 1) rfl rfl), Or.inr ⟨"ProtocolAtlas", znw_at (i := 103) rfl⟩⟩
theorem mv_Bytes_19 : zLV R_Bytes 19 s_Bytes_add 1 := ⟨⟨by decide, by decide, by decide +kernel⟩, (ztb_3 (i := 108) rfl rfl), (ztb_3 (i := 106) rfl rfl), (ztb_3 (i := 107) rfl rfl), (ztb_1 (i := 2) rfl rfl), Or.inl (ztb_3 (i := 105) rfl rfl)⟩
theorem mv_Bytes_23 : zLS R_Bytes 23 s_PA_letterOf 2 := ⟨⟨by decide, by decide, by decide +kernel⟩, (ztb_5 (i := 149) rfl rfl), (ztb_5 (i := 148) rfl rfl), (ztb_1 (i := 1) rfl rfl), Or.inr ⟨"ProtocolAtlas", znw_at (i := 104) rfl⟩⟩
theorem mv_Index_19 : zLS R_Index 19 s_Arrays_fill 2 := ⟨⟨by decide, by decide, by decide +kernel⟩, (ztb_3 (i := 131) rfl rfl), (ztb_3 (i := 130) rfl rfl), (ztb_1 (i := 14) rfl rfl), Or.inl (ztb_4 (i := 114) rfl rfl)⟩
theorem mv_Index_25 : zLV R_Index 25 s_Index_slotOf 1 := ⟨⟨by decide, by decide, by decide +kernel⟩, (ztb_4 (i := 143) rfl rfl), (ztb_4 (i := 142) rfl rfl), (ztb_p (i := 26) 2 rfl), (ztb_1 (i := 4) rfl rfl), Or.inl (ztb_4 (i := 140) rfl rfl)⟩
theorem mv_Joined_63 : zLS R_Joined 63 s_Arrays_fill 2 := ⟨⟨by decide, by decide, by decide +kernel⟩, (ztb_3 (i := 131) rfl rfl), (ztb_3 (i := 130) rfl rfl), (ztb_1 (i := 14) rfl rfl), Or.inl (ztb_5 (i := 15) rfl rfl)⟩
theorem mv_Joined_74 : zLV R_Joined 74 s_Joined_isNode 1 := ⟨⟨by decide, by decide, by decide +kernel⟩, (ztb_5 (i := 19) rfl rfl), (ztb_5 (i := 18) rfl rfl), (ztb_p (i := 35) 16 rfl), (ztb_1 (i := 12) rfl rfl), Or.inl (ztb_5 (i := 16) rfl rfl)⟩
theorem mv_Joined_78 : zLV R_Joined 78 s_Joined_goThrough 1 := ⟨⟨by decide, by decide, by decide +kernel⟩, (ztb_5 (i := 27) rfl rfl), (ztb_5 (i := 26) rfl rfl), (ztb_p (i := 37) 16 rfl), (ztb_1 (i := 12) rfl rfl), Or.inl (ztb_5 (i := 24) rfl rfl)⟩
theorem mv_Joined_88 : zLV R_Joined 88 s_Joined_isAvoided 1 := ⟨⟨by decide, by decide, by decide +kernel⟩, (ztb_5 (i := 23) rfl rfl), (ztb_5 (i := 22) rfl rfl), (ztb_p (i := 36) 16 rfl), (ztb_1 (i := 12) rfl rfl), Or.inl (ztb_5 (i := 20) rfl rfl)⟩
theorem mv_Joined_94 : zLV R_Joined 94 s_Atlas_by 1 := ⟨⟨by decide, by decide, by decide +kernel⟩, (ztb_5 (i := 40) rfl rfl), (ztb_5 (i := 38) rfl rfl), (ztb_5 (i := 39) rfl rfl), (ztb_1 (i := 6) rfl rfl), Or.inl (ztb_5 (i := 37) rfl rfl)⟩
theorem mv_Joined_98 : zLV R_Joined 98 s_Atlas_target 1 := ⟨⟨by decide, by decide, by decide +kernel⟩, (ztb_5 (i := 44) rfl rfl), (ztb_5 (i := 42) rfl rfl), (ztb_5 (i := 43) rfl rfl), (ztb_1 (i := 6) rfl rfl), Or.inl (ztb_5 (i := 41) rfl rfl)⟩
theorem mv_Joined_101 : zLV R_Joined 101 s_Atlas_put 2 := ⟨⟨by decide, by decide, by decide +kernel⟩, (ztb_5 (i := 48) rfl rfl), (ztb_5 (i := 46) rfl rfl), (ztb_5 (i := 47) rfl rfl), (ztb_1 (i := 6) rfl rfl), Or.inl (ztb_5 (i := 45) rfl rfl)⟩
theorem mv_Joined_105 : zLV R_Joined 105 s_Joined_enter 1 := ⟨⟨by decide, by decide, by decide +kernel⟩, (ztb_5 (i := 31) rfl rfl), (ztb_5 (i := 30) rfl rfl), (ztb_p (i := 38) 16 rfl), (ztb_1 (i := 12) rfl rfl), Or.inl (ztb_5 (i := 28) rfl rfl)⟩
theorem mv_Joined_112 : zLV R_Joined 112 s_Joined_next 2 := ⟨⟨by decide, by decide, by decide +kernel⟩, (ztb_5 (i := 36) rfl rfl), (ztb_5 (i := 34) rfl rfl), (ztb_5 (i := 35) rfl rfl), (ztb_1 (i := 12) rfl rfl), Or.inl (ztb_5 (i := 33) rfl rfl)⟩
theorem mv_Joined_115 : zLV R_Joined 115 s_Joined_follow 2 := ⟨⟨by decide, by decide, by decide +kernel⟩, (ztb_5 (i := 52) rfl rfl), (ztb_5 (i := 51) rfl rfl), (ztb_p (i := 39) 16 rfl), (ztb_1 (i := 12) rfl rfl), Or.inl (ztb_5 (i := 49) rfl rfl)⟩
theorem mv_Joined_119 : zLV R_Joined 119 s_Joined_leave 1 := ⟨⟨by decide, by decide, by decide +kernel⟩, (ztb_5 (i := 57) rfl rfl), (ztb_5 (i := 56) rfl rfl), (ztb_p (i := 40) 16 rfl), (ztb_1 (i := 12) rfl rfl), Or.inl (ztb_5 (i := 54) rfl rfl)⟩
theorem mv_Joined_122 : zLS R_Joined 122 s_Math_min 2 := ⟨⟨by decide, by decide, by decide +kernel⟩, (ztb_4 (i := 77) rfl rfl), (ztb_4 (i := 76) rfl rfl), (ztb_1 (i := 19) rfl rfl), Or.inl (ztb_5 (i := 53) rfl rfl)⟩
theorem mv_Joined_127 : zLV R_Joined 127 s_Joined_close 1 := ⟨⟨by decide, by decide, by decide +kernel⟩, (ztb_5 (i := 61) rfl rfl), (ztb_5 (i := 60) rfl rfl), (ztb_p (i := 41) 16 rfl), (ztb_1 (i := 12) rfl rfl), Or.inl (ztb_5 (i := 58) rfl rfl)⟩
theorem mv_Joined_130 : zLV R_Joined 130 s_Joined_leadsToMarked 2 := ⟨⟨by decide, by decide, by decide +kernel⟩, (ztb_5 (i := 83) rfl rfl), (ztb_5 (i := 82) rfl rfl), (ztb_p (i := 44) 16 rfl), (ztb_1 (i := 12) rfl rfl), Or.inl (ztb_5 (i := 80) rfl rfl)⟩
theorem mv_Joined_134 : zLV R_Joined 134 s_Atlas_mover 1 := ⟨⟨by decide, by decide, by decide +kernel⟩, (ztb_5 (i := 103) rfl rfl), (ztb_5 (i := 101) rfl rfl), (ztb_5 (i := 102) rfl rfl), (ztb_1 (i := 6) rfl rfl), Or.inl (ztb_5 (i := 100) rfl rfl)⟩
theorem mv_Reader_45 : zLV R_Reader 45 s_Table_clear 0 := ⟨⟨by decide, by decide, by decide +kernel⟩, (ztb_3 (i := 128) rfl rfl), (ztb_3 (i := 126) rfl rfl), (ztb_3 (i := 127) rfl rfl), (ztb_1 (i := 9) rfl rfl), Or.inl (ztb_3 (i := 125) rfl rfl)⟩
theorem mv_Reader_48 : zLV R_Reader 48 s_Reader_scan 1 := ⟨⟨by decide, by decide, by decide +kernel⟩, (ztb_3 (i := 135) rfl rfl), (ztb_3 (i := 134) rfl rfl), (ztb_p (i := 1) 9 rfl), (ztb_1 (i := 8) rfl rfl), Or.inl (ztb_3 (i := 132) rfl rfl)⟩
theorem mv_Reader_52 : zLV R_Reader 52 s_Reader_refuse 2 := ⟨⟨by decide, by decide, by decide +kernel⟩, (ztb_3 (i := 217) rfl rfl), (ztb_3 (i := 215) rfl rfl), (ztb_3 (i := 216) rfl rfl), (ztb_1 (i := 8) rfl rfl), Or.inl (ztb_3 (i := 214) rfl rfl)⟩
theorem mv_Reader_56 : zLV R_Reader 56 s_Reader_opening 0 := ⟨⟨by decide, by decide, by decide +kernel⟩, (ztb_3 (i := 221) rfl rfl), (ztb_3 (i := 220) rfl rfl), (ztb_p (i := 5) 9 rfl), (ztb_1 (i := 8) rfl rfl), Or.inl (ztb_3 (i := 218) rfl rfl)⟩
theorem mv_Reader_60 : zLV R_Reader 60 s_Reader_statement 0 := ⟨⟨by decide, by decide, by decide +kernel⟩, (ztb_4 (i := 36) rfl rfl), (ztb_4 (i := 35) rfl rfl), (ztb_p (i := 15) 9 rfl), (ztb_1 (i := 8) rfl rfl), Or.inl (ztb_4 (i := 33) rfl rfl)⟩
theorem mv_Reader_63 : zLV R_Reader 63 s_Reader_sign 1 := ⟨⟨by decide, by decide, by decide +kernel⟩, (ztb_4 (i := 105) rfl rfl), (ztb_4 (i := 104) rfl rfl), (ztb_p (i := 23) 9 rfl), (ztb_1 (i := 8) rfl rfl), Or.inl (ztb_4 (i := 102) rfl rfl)⟩
theorem mv_Reader_67 : zLV R_Reader 67 s_Reader_unexpected 0 := ⟨⟨by decide, by decide, by decide +kernel⟩, (ztb_3 (i := 238) rfl rfl), (ztb_3 (i := 237) rfl rfl), (ztb_p (i := 9) 9 rfl), (ztb_1 (i := 8) rfl rfl), Or.inl (ztb_3 (i := 235) rfl rfl)⟩
theorem mv_Reader_70 : zLV R_Reader 70 s_Bytes_size 0 := ⟨⟨by decide, by decide, by decide +kernel⟩, (ztb_3 (i := 96) rfl rfl), (ztb_3 (i := 94) rfl rfl), (ztb_3 (i := 95) rfl rfl), (ztb_1 (i := 2) rfl rfl), Or.inl (ztb_3 (i := 136) rfl rfl)⟩
theorem mv_Reader_75 : zLV R_Reader 75 s_Bytes_get 1 := ⟨⟨by decide, by decide, by decide +kernel⟩, (ztb_3 (i := 140) rfl rfl), (ztb_3 (i := 138) rfl rfl), (ztb_3 (i := 139) rfl rfl), (ztb_1 (i := 2) rfl rfl), Or.inl (ztb_3 (i := 137) rfl rfl)⟩
theorem mv_Reader_79 : zLS R_Reader 79 s_PA_isBlank 1 := ⟨⟨by decide, by decide, by decide +kernel⟩, (ztb_3 (i := 143) rfl rfl), (ztb_3 (i := 142) rfl rfl), (ztb_1 (i := 1) rfl rfl), Or.inr ⟨"ProtocolAtlas", znw_at (i := 94) rfl⟩⟩
theorem mv_Reader_83 : zLV R_Reader 83 s_Reader_take 3 := ⟨⟨by decide, by decide, by decide +kernel⟩, (ztb_3 (i := 147) rfl rfl), (ztb_3 (i := 146) rfl rfl), (ztb_p (i := 2) 9 rfl), (ztb_1 (i := 8) rfl rfl), Or.inl (ztb_3 (i := 144) rfl rfl)⟩
theorem mv_Reader_87 : zLS R_Reader 87 s_PA_isLetter 1 := ⟨⟨by decide, by decide, by decide +kernel⟩, (ztb_3 (i := 150) rfl rfl), (ztb_3 (i := 149) rfl rfl), (ztb_1 (i := 1) rfl rfl), Or.inr ⟨"ProtocolAtlas", znw_at (i := 95) rfl⟩⟩
theorem mv_Reader_90 : zLV R_Reader 90 s_Reader_takeWord 3 := ⟨⟨by decide, by decide, by decide +kernel⟩, (ztb_3 (i := 154) rfl rfl), (ztb_3 (i := 153) rfl rfl), (ztb_p (i := 3) 9 rfl), (ztb_1 (i := 8) rfl rfl), Or.inl (ztb_3 (i := 151) rfl rfl)⟩
theorem mv_Reader_94 : zLS R_Reader 94 s_PA_isDigit 1 := ⟨⟨by decide, by decide, by decide +kernel⟩, (ztb_3 (i := 209) rfl rfl), (ztb_3 (i := 208) rfl rfl), (ztb_1 (i := 1) rfl rfl), Or.inr ⟨"ProtocolAtlas", znw_at (i := 96) rfl⟩⟩
theorem mv_Reader_97 : zLV R_Reader 97 s_Reader_takeNumber 3 := ⟨⟨by decide, by decide, by decide +kernel⟩, (ztb_3 (i := 213) rfl rfl), (ztb_3 (i := 212) rfl rfl), (ztb_p (i := 4) 9 rfl), (ztb_1 (i := 8) rfl rfl), Or.inl (ztb_3 (i := 210) rfl rfl)⟩
theorem mv_Reader_100 : zLS R_Reader 100 s_Reader_isOwnWord 1 := ⟨⟨by decide, by decide, by decide +kernel⟩, (ztb_3 (i := 157) rfl rfl), (ztb_3 (i := 156) rfl rfl), (ztb_1 (i := 8) rfl rfl), Or.inl (ztb_3 (i := 155) rfl rfl)⟩
theorem mv_Reader_106 : zLV R_Reader 106 s_String_length 0 := ⟨⟨by decide, by decide, by decide +kernel⟩, (ztb_3 (i := 162) rfl rfl), (ztb_3 (i := 160) rfl rfl), (ztb_3 (i := 161) rfl rfl), (ztb_1 (i := 15) rfl rfl), Or.inl (ztb_3 (i := 159) rfl rfl)⟩
theorem mv_Reader_111 : zLV R_Reader 111 s_String_charAt 1 := ⟨⟨by decide, by decide, by decide +kernel⟩, (ztb_3 (i := 172) rfl rfl), (ztb_3 (i := 170) rfl rfl), (ztb_3 (i := 171) rfl rfl), (ztb_1 (i := 15) rfl rfl), Or.inl (ztb_3 (i := 169) rfl rfl)⟩
theorem mv_Reader_115 : zLV R_Reader 115 s_Reader_isNext 1 := ⟨⟨by decide, by decide, by decide +kernel⟩, (ztb_3 (i := 234) rfl rfl), (ztb_3 (i := 233) rfl rfl), (ztb_p (i := 8) 9 rfl), (ztb_1 (i := 8) rfl rfl), Or.inl (ztb_3 (i := 231) rfl rfl)⟩
theorem mv_Reader_119 : zLV R_Reader 119 s_Reader_word 1 := ⟨⟨by decide, by decide, by decide +kernel⟩, (ztb_3 (i := 230) rfl rfl), (ztb_3 (i := 229) rfl rfl), (ztb_p (i := 7) 9 rfl), (ztb_1 (i := 8) rfl rfl), Or.inl (ztb_3 (i := 227) rfl rfl)⟩
theorem mv_Reader_122 : zLV R_Reader 122 s_Reader_name 0 := ⟨⟨by decide, by decide, by decide +kernel⟩, (ztb_4 (i := 15) rfl rfl), (ztb_4 (i := 14) rfl rfl), (ztb_p (i := 13) 9 rfl), (ztb_1 (i := 8) rfl rfl), Or.inl (ztb_4 (i := 12) rfl rfl)⟩
theorem mv_Reader_125 : zLV R_Reader 125 s_Table_find 2 := ⟨⟨by decide, by decide, by decide +kernel⟩, (ztb_4 (i := 23) rfl rfl), (ztb_4 (i := 21) rfl rfl), (ztb_4 (i := 22) rfl rfl), (ztb_1 (i := 9) rfl rfl), Or.inl (ztb_4 (i := 59) rfl rfl)⟩
theorem mv_Reader_129 : zLV R_Reader 129 s_Table_isTaken 1 := ⟨⟨by decide, by decide, by decide +kernel⟩, (ztb_4 (i := 19) rfl rfl), (ztb_4 (i := 17) rfl rfl), (ztb_4 (i := 18) rfl rfl), (ztb_1 (i := 9) rfl rfl), Or.inl (ztb_4 (i := 16) rfl rfl)⟩
theorem mv_Reader_132 : zLV R_Reader 132 s_Table_give 2 := ⟨⟨by decide, by decide, by decide +kernel⟩, (ztb_4 (i := 27) rfl rfl), (ztb_4 (i := 25) rfl rfl), (ztb_4 (i := 26) rfl rfl), (ztb_1 (i := 9) rfl rfl), Or.inl (ztb_4 (i := 24) rfl rfl)⟩
theorem mv_Reader_136 : zLV R_Reader 136 s_Reader_known 1 := ⟨⟨by decide, by decide, by decide +kernel⟩, (ztb_4 (i := 58) rfl rfl), (ztb_4 (i := 57) rfl rfl), (ztb_p (i := 18) 9 rfl), (ztb_1 (i := 8) rfl rfl), Or.inl (ztb_4 (i := 55) rfl rfl)⟩
theorem mv_Reader_139 : zLV R_Reader 139 s_Reader_given 1 := ⟨⟨by decide, by decide, by decide +kernel⟩, (ztb_4 (i := 11) rfl rfl), (ztb_4 (i := 10) rfl rfl), (ztb_p (i := 12) 9 rfl), (ztb_1 (i := 8) rfl rfl), Or.inl (ztb_4 (i := 8) rfl rfl)⟩
theorem mv_Reader_144 : zLV R_Reader 144 s_Reader_oneTooMany 0 := ⟨⟨by decide, by decide, by decide +kernel⟩, (ztb_4 (i := 32) rfl rfl), (ztb_4 (i := 31) rfl rfl), (ztb_p (i := 14) 9 rfl), (ztb_1 (i := 8) rfl rfl), Or.inl (ztb_4 (i := 29) rfl rfl)⟩
theorem mv_Reader_149 : zLV R_Reader 149 s_Reader_ask 1 := ⟨⟨by decide, by decide, by decide +kernel⟩, (ztb_3 (i := 226) rfl rfl), (ztb_3 (i := 225) rfl rfl), (ztb_p (i := 6) 9 rfl), (ztb_1 (i := 8) rfl rfl), Or.inl (ztb_3 (i := 223) rfl rfl)⟩
theorem mv_Reader_152 : zLV R_Reader 152 s_Reader_number 2 := ⟨⟨by decide, by decide, by decide +kernel⟩, (ztb_4 (i := 2) rfl rfl), (ztb_4 (i := 1) rfl rfl), (ztb_p (i := 10) 9 rfl), (ztb_1 (i := 8) rfl rfl), Or.inl (ztb_3 (i := 239) rfl rfl)⟩
theorem mv_Reader_159 : zLV R_Reader 159 s_Reader_names 1 := ⟨⟨by decide, by decide, by decide +kernel⟩, (ztb_4 (i := 7) rfl rfl), (ztb_4 (i := 6) rfl rfl), (ztb_p (i := 11) 9 rfl), (ztb_1 (i := 8) rfl rfl), Or.inl (ztb_4 (i := 4) rfl rfl)⟩
theorem mv_Reader_167 : zLV R_Reader 167 s_Reader_isFree 2 := ⟨⟨by decide, by decide, by decide +kernel⟩, (ztb_4 (i := 41) rfl rfl), (ztb_4 (i := 40) rfl rfl), (ztb_p (i := 16) 9 rfl), (ztb_1 (i := 8) rfl rfl), Or.inl (ztb_4 (i := 38) rfl rfl)⟩
theorem mv_Reader_187 : zLV R_Reader 187 s_Reader_never 0 := ⟨⟨by decide, by decide, by decide +kernel⟩, (ztb_4 (i := 50) rfl rfl), (ztb_4 (i := 49) rfl rfl), (ztb_p (i := 17) 9 rfl), (ztb_1 (i := 8) rfl rfl), Or.inl (ztb_4 (i := 47) rfl rfl)⟩
theorem mv_Reader_194 : zLV R_Reader 194 s_Reader_wants 0 := ⟨⟨by decide, by decide, by decide +kernel⟩, (ztb_4 (i := 69) rfl rfl), (ztb_4 (i := 68) rfl rfl), (ztb_p (i := 19) 9 rfl), (ztb_1 (i := 8) rfl rfl), Or.inl (ztb_4 (i := 66) rfl rfl)⟩
theorem mv_Reader_201 : zLV R_Reader 201 s_Table_newRow 1 := ⟨⟨by decide, by decide, by decide +kernel⟩, (ztb_4 (i := 74) rfl rfl), (ztb_4 (i := 72) rfl rfl), (ztb_4 (i := 73) rfl rfl), (ztb_1 (i := 9) rfl rfl), Or.inl (ztb_4 (i := 71) rfl rfl)⟩
theorem mv_Reader_205 : zLV R_Reader 205 s_Reader_agentRow 1 := ⟨⟨by decide, by decide, by decide +kernel⟩, (ztb_4 (i := 85) rfl rfl), (ztb_4 (i := 84) rfl rfl), (ztb_p (i := 20) 9 rfl), (ztb_1 (i := 8) rfl rfl), Or.inl (ztb_4 (i := 82) rfl rfl)⟩
theorem mv_Reader_210 : zLV R_Reader 210 s_Reader_homeRow 1 := ⟨⟨by decide, by decide, by decide +kernel⟩, (ztb_4 (i := 97) rfl rfl), (ztb_4 (i := 96) rfl rfl), (ztb_p (i := 22) 9 rfl), (ztb_1 (i := 8) rfl rfl), Or.inl (ztb_4 (i := 94) rfl rfl)⟩
theorem mv_Reader_213 : zLV R_Reader 213 s_Table_openNever 0 := ⟨⟨by decide, by decide, by decide +kernel⟩, (ztb_4 (i := 54) rfl rfl), (ztb_4 (i := 52) rfl rfl), (ztb_4 (i := 53) rfl rfl), (ztb_1 (i := 9) rfl rfl), Or.inl (ztb_4 (i := 51) rfl rfl)⟩
theorem mv_Reader_216 : zLV R_Reader 216 s_Table_addCount 2 := ⟨⟨by decide, by decide, by decide +kernel⟩, (ztb_4 (i := 63) rfl rfl), (ztb_4 (i := 61) rfl rfl), (ztb_4 (i := 62) rfl rfl), (ztb_1 (i := 9) rfl rfl), Or.inl (ztb_4 (i := 60) rfl rfl)⟩
theorem mv_Reader_231 : zLV R_Reader 231 s_Reader_maybe 2 := ⟨⟨by decide, by decide, by decide +kernel⟩, (ztb_4 (i := 90) rfl rfl), (ztb_4 (i := 89) rfl rfl), (ztb_p (i := 21) 9 rfl), (ztb_1 (i := 8) rfl rfl), Or.inl (ztb_4 (i := 87) rfl rfl)⟩
theorem mv_Row_37 : zLS R_Row 37 s_PA_asNumber 1 := ⟨⟨by decide, by decide, by decide +kernel⟩, (ztb_5 (i := 164) rfl rfl), (ztb_5 (i := 163) rfl rfl), (ztb_1 (i := 1) rfl rfl), Or.inr ⟨"ProtocolAtlas", znw_at (i := 102) rfl⟩⟩
theorem mv_Row_50 : zLS R_Row 50 s_PA_held 2 := ⟨⟨by decide, by decide, by decide +kernel⟩, (ztb_4 (i := 171) rfl rfl), (ztb_4 (i := 170) rfl rfl), (ztb_1 (i := 1) rfl rfl), Or.inr ⟨"ProtocolAtlas", znw_at (i := 98) rfl⟩⟩
theorem mv_Row_54 : zLV R_Row 54 s_Row_serve 3 := ⟨⟨by decide, by decide, by decide +kernel⟩, (ztb_4 (i := 186) rfl rfl), (ztb_4 (i := 185) rfl rfl), (ztb_p (i := 28) 8 rfl), (ztb_1 (i := 10) rfl rfl), Or.inl (ztb_4 (i := 183) rfl rfl)⟩
theorem mv_Row_58 : zLV R_Row 58 s_Row_step 3 := ⟨⟨by decide, by decide, by decide +kernel⟩, (ztb_4 (i := 200) rfl rfl), (ztb_4 (i := 199) rfl rfl), (ztb_p (i := 29) 8 rfl), (ztb_1 (i := 10) rfl rfl), Or.inl (ztb_4 (i := 197) rfl rfl)⟩
theorem mv_Row_61 : zLS R_Row 61 s_PA_codeOf 4 := ⟨⟨by decide, by decide, by decide +kernel⟩, (ztb_4 (i := 121) rfl rfl), (ztb_4 (i := 120) rfl rfl), (ztb_1 (i := 1) rfl rfl), Or.inr ⟨"ProtocolAtlas", znw_at (i := 100) rfl⟩⟩
theorem mv_Row_65 : zLV R_Row 65 s_World_hasOther 2 := ⟨⟨by decide, by decide, by decide +kernel⟩, (ztb_4 (i := 190) rfl rfl), (ztb_4 (i := 188) rfl rfl), (ztb_4 (i := 189) rfl rfl), (ztb_1 (i := 5) rfl rfl), Or.inl (ztb_4 (i := 187) rfl rfl)⟩
theorem mv_Row_69 : zLV R_Row 69 s_World_receive 3 := ⟨⟨by decide, by decide, by decide +kernel⟩, (ztb_4 (i := 196) rfl rfl), (ztb_4 (i := 194) rfl rfl), (ztb_4 (i := 195) rfl rfl), (ztb_1 (i := 5) rfl rfl), Or.inl (ztb_4 (i := 193) rfl rfl)⟩
theorem mv_Search_49 : zLV R_Search 49 s_Index_clear 0 := ⟨⟨by decide, by decide, by decide +kernel⟩, (ztb_4 (i := 113) rfl rfl), (ztb_4 (i := 111) rfl rfl), (ztb_4 (i := 112) rfl rfl), (ztb_1 (i := 4) rfl rfl), Or.inl (ztb_4 (i := 110) rfl rfl)⟩
theorem mv_Search_52 : zLV R_Search 52 s_World_begin 1 := ⟨⟨by decide, by decide, by decide +kernel⟩, (ztb_4 (i := 118) rfl rfl), (ztb_4 (i := 116) rfl rfl), (ztb_4 (i := 117) rfl rfl), (ztb_1 (i := 5) rfl rfl), Or.inl (ztb_4 (i := 115) rfl rfl)⟩
theorem mv_Search_56 : zLV R_Search 56 s_Search_meet 2 := ⟨⟨by decide, by decide, by decide +kernel⟩, (ztb_4 (i := 126) rfl rfl), (ztb_4 (i := 125) rfl rfl), (ztb_p (i := 24) 9 rfl), (ztb_1 (i := 3) rfl rfl), Or.inl (ztb_4 (i := 123) rfl rfl)⟩
theorem mv_Search_65 : zLV R_Search 65 s_World_load 2 := ⟨⟨by decide, by decide, by decide +kernel⟩, (ztb_4 (i := 156) rfl rfl), (ztb_4 (i := 154) rfl rfl), (ztb_4 (i := 155) rfl rfl), (ztb_1 (i := 5) rfl rfl), Or.inl (ztb_4 (i := 153) rfl rfl)⟩
theorem mv_Search_69 : zLV R_Search 69 s_Search_expand 2 := ⟨⟨by decide, by decide, by decide +kernel⟩, (ztb_4 (i := 160) rfl rfl), (ztb_4 (i := 159) rfl rfl), (ztb_p (i := 27) 9 rfl), (ztb_1 (i := 3) rfl rfl), Or.inl (ztb_4 (i := 157) rfl rfl)⟩
theorem mv_Search_76 : zLV R_Search 76 s_Table_go 4 := ⟨⟨by decide, by decide, by decide +kernel⟩, (ztb_4 (i := 164) rfl rfl), (ztb_4 (i := 162) rfl rfl), (ztb_4 (i := 163) rfl rfl), (ztb_1 (i := 9) rfl rfl), Or.inl (ztb_4 (i := 161) rfl rfl)⟩
theorem mv_Search_80 : zLV R_Search 80 s_World_foldedKey 0 := ⟨⟨by decide, by decide, by decide +kernel⟩, (ztb_4 (i := 130) rfl rfl), (ztb_4 (i := 128) rfl rfl), (ztb_4 (i := 129) rfl rfl), (ztb_1 (i := 5) rfl rfl), Or.inl (ztb_4 (i := 127) rfl rfl)⟩
theorem mv_Search_84 : zLV R_Search 84 s_Index_find 1 := ⟨⟨by decide, by decide, by decide +kernel⟩, (ztb_4 (i := 139) rfl rfl), (ztb_4 (i := 137) rfl rfl), (ztb_4 (i := 138) rfl rfl), (ztb_1 (i := 4) rfl rfl), Or.inl (ztb_4 (i := 136) rfl rfl)⟩
theorem mv_Search_88 : zLV R_Search 88 s_Index_put 2 := ⟨⟨by decide, by decide, by decide +kernel⟩, (ztb_4 (i := 148) rfl rfl), (ztb_4 (i := 146) rfl rfl), (ztb_4 (i := 147) rfl rfl), (ztb_1 (i := 4) rfl rfl), Or.inl (ztb_4 (i := 145) rfl rfl)⟩
theorem mv_Search_91 : zLV R_Search 91 s_World_ownKey 0 := ⟨⟨by decide, by decide, by decide +kernel⟩, (ztb_4 (i := 152) rfl rfl), (ztb_4 (i := 150) rfl rfl), (ztb_4 (i := 151) rfl rfl), (ztb_1 (i := 5) rfl rfl), Or.inl (ztb_4 (i := 149) rfl rfl)⟩
theorem mv_Sight_44 : zLV R_Sight 44 s_Bytes_size 0 := ⟨⟨by decide, by decide, by decide +kernel⟩, (ztb_3 (i := 96) rfl rfl), (ztb_3 (i := 94) rfl rfl), (ztb_3 (i := 95) rfl rfl), (ztb_1 (i := 2) rfl rfl), Or.inl (ztb_6 (i := 106) rfl rfl)⟩
theorem mv_Sight_50 : zLV R_Sight 50 s_Bytes_get 1 := ⟨⟨by decide, by decide, by decide +kernel⟩, (ztb_3 (i := 140) rfl rfl), (ztb_3 (i := 138) rfl rfl), (ztb_3 (i := 139) rfl rfl), (ztb_1 (i := 2) rfl rfl), Or.inl (ztb_6 (i := 107) rfl rfl)⟩
theorem mv_Sight_59 : zLS R_Sight 59 s_Math_min 2 := ⟨⟨by decide, by decide, by decide +kernel⟩, (ztb_4 (i := 77) rfl rfl), (ztb_4 (i := 76) rfl rfl), (ztb_1 (i := 19) rfl rfl), Or.inl (ztb_6 (i := 112) rfl rfl)⟩
theorem mv_Sight_70 : zLV R_Sight 70 s_Sight_goOn 1 := ⟨⟨by decide, by decide, by decide +kernel⟩, (ztb_6 (i := 124) rfl rfl), (ztb_6 (i := 123) rfl rfl), (ztb_p (i := 58) 10 rfl), (ztb_1 (i := 7) rfl rfl), Or.inl (ztb_6 (i := 121) rfl rfl)⟩
theorem mv_Sight_74 : zLV R_Sight 74 s_Sight_isAsSeen 2 := ⟨⟨by decide, by decide, by decide +kernel⟩, (ztb_6 (i := 129) rfl rfl), (ztb_6 (i := 128) rfl rfl), (ztb_p (i := 59) 10 rfl), (ztb_1 (i := 7) rfl rfl), Or.inl (ztb_6 (i := 126) rfl rfl)⟩
theorem mv_Sight_81 : zLV R_Sight 81 s_Atlas_target 1 := ⟨⟨by decide, by decide, by decide +kernel⟩, (ztb_5 (i := 44) rfl rfl), (ztb_5 (i := 42) rfl rfl), (ztb_5 (i := 43) rfl rfl), (ztb_1 (i := 6) rfl rfl), Or.inl (ztb_6 (i := 125) rfl rfl)⟩
theorem mv_Sight_84 : zLV R_Sight 84 s_Atlas_inState 2 := ⟨⟨by decide, by decide, by decide +kernel⟩, (ztb_6 (i := 133) rfl rfl), (ztb_6 (i := 131) rfl rfl), (ztb_6 (i := 132) rfl rfl), (ztb_1 (i := 6) rfl rfl), Or.inl (ztb_6 (i := 130) rfl rfl)⟩
theorem mv_Sight_87 : zLS R_Sight 87 s_Arrays_fill 2 := ⟨⟨by decide, by decide, by decide +kernel⟩, (ztb_3 (i := 131) rfl rfl), (ztb_3 (i := 130) rfl rfl), (ztb_1 (i := 14) rfl rfl), Or.inl (ztb_6 (i := 147) rfl rfl)⟩
theorem mv_Sight_93 : zLS R_Sight 93 s_Math_max 2 := ⟨⟨by decide, by decide, by decide +kernel⟩, (ztb_6 (i := 150) rfl rfl), (ztb_6 (i := 149) rfl rfl), (ztb_1 (i := 19) rfl rfl), Or.inl (ztb_6 (i := 148) rfl rfl)⟩
theorem mv_Sight_96 : zLV R_Sight 96 s_Sight_mostLeft 2 := ⟨⟨by decide, by decide, by decide +kernel⟩, (ztb_6 (i := 146) rfl rfl), (ztb_6 (i := 144) rfl rfl), (ztb_6 (i := 145) rfl rfl), (ztb_1 (i := 7) rfl rfl), Or.inl (ztb_6 (i := 143) rfl rfl)⟩
theorem mv_Study_70 : zLV R_Study 70 s_Study_findParts 0 := ⟨⟨by decide, by decide, by decide +kernel⟩, (ztb_5 (i := 10) rfl rfl), (ztb_5 (i := 9) rfl rfl), (ztb_p (i := 34) 16 rfl), (ztb_1 (i := 11) rfl rfl), Or.inl (ztb_5 (i := 7) rfl rfl)⟩
theorem mv_Study_73 : zLS R_Study 73 s_Study_clear 1 := ⟨⟨by decide, by decide, by decide +kernel⟩, (ztb_5 (i := 66) rfl rfl), (ztb_5 (i := 65) rfl rfl), (ztb_1 (i := 11) rfl rfl), Or.inl (ztb_5 (i := 64) rfl rfl)⟩
theorem mv_Study_82 : zLV R_Study 82 s_Study_markHoping 1 := ⟨⟨by decide, by decide, by decide +kernel⟩, (ztb_5 (i := 70) rfl rfl), (ztb_5 (i := 69) rfl rfl), (ztb_p (i := 42) 16 rfl), (ztb_1 (i := 11) rfl rfl), Or.inl (ztb_5 (i := 67) rfl rfl)⟩
theorem mv_Study_86 : zLV R_Study 86 s_Study_tellWanting 2 := ⟨⟨by decide, by decide, by decide +kernel⟩, (ztb_5 (i := 87) rfl rfl), (ztb_5 (i := 86) rfl rfl), (ztb_p (i := 45) 16 rfl), (ztb_1 (i := 11) rfl rfl), Or.inl (ztb_5 (i := 84) rfl rfl)⟩
theorem mv_Study_90 : zLV R_Study 90 s_Study_markRings 0 := ⟨⟨by decide, by decide, by decide +kernel⟩, (ztb_5 (i := 95) rfl rfl), (ztb_5 (i := 94) rfl rfl), (ztb_p (i := 47) 16 rfl), (ztb_1 (i := 11) rfl rfl), Or.inl (ztb_5 (i := 92) rfl rfl)⟩
theorem mv_Study_93 : zLV R_Study 93 s_Joined_join 3 := ⟨⟨by decide, by decide, by decide +kernel⟩, (ztb_5 (i := 14) rfl rfl), (ztb_5 (i := 12) rfl rfl), (ztb_5 (i := 13) rfl rfl), (ztb_1 (i := 12) rfl rfl), Or.inl (ztb_5 (i := 11) rfl rfl)⟩
theorem mv_Study_97 : zLS R_Study 97 s_Arrays_fill 2 := ⟨⟨by decide, by decide, by decide +kernel⟩, (ztb_3 (i := 131) rfl rfl), (ztb_3 (i := 130) rfl rfl), (ztb_1 (i := 14) rfl rfl), Or.inl (ztb_5 (i := 62) rfl rfl)⟩
theorem mv_Study_114 : zLV R_Study 114 s_Atlas_target 1 := ⟨⟨by decide, by decide, by decide +kernel⟩, (ztb_5 (i := 44) rfl rfl), (ztb_5 (i := 42) rfl rfl), (ztb_5 (i := 43) rfl rfl), (ztb_1 (i := 6) rfl rfl), Or.inl (ztb_5 (i := 63) rfl rfl)⟩
theorem mv_Study_121 : zLV R_Study 121 s_Study_isAgentIn 2 := ⟨⟨by decide, by decide, by decide +kernel⟩, (ztb_5 (i := 74) rfl rfl), (ztb_5 (i := 73) rfl rfl), (ztb_p (i := 43) 16 rfl), (ztb_1 (i := 11) rfl rfl), Or.inl (ztb_5 (i := 71) rfl rfl)⟩
theorem mv_Study_125 : zLV R_Study 125 s_Joined_spread 1 := ⟨⟨by decide, by decide, by decide +kernel⟩, (ztb_5 (i := 79) rfl rfl), (ztb_5 (i := 77) rfl rfl), (ztb_5 (i := 78) rfl rfl), (ztb_1 (i := 12) rfl rfl), Or.inl (ztb_5 (i := 76) rfl rfl)⟩
theorem mv_Study_131 : zLV R_Study 131 s_Joined_isRing 2 := ⟨⟨by decide, by decide, by decide +kernel⟩, (ztb_5 (i := 99) rfl rfl), (ztb_5 (i := 97) rfl rfl), (ztb_5 (i := 98) rfl rfl), (ztb_1 (i := 12) rfl rfl), Or.inl (ztb_5 (i := 96) rfl rfl)⟩
theorem mv_Study_141 : zLV R_Study 141 s_Study_firstLike 1 := ⟨⟨by decide, by decide, by decide +kernel⟩, (ztb_5 (i := 91) rfl rfl), (ztb_5 (i := 90) rfl rfl), (ztb_p (i := 46) 16 rfl), (ztb_1 (i := 11) rfl rfl), Or.inl (ztb_5 (i := 88) rfl rfl)⟩
theorem mv_Study_150 : zLS R_Study 150 s_PA_held 2 := ⟨⟨by decide, by decide, by decide +kernel⟩, (ztb_4 (i := 171) rfl rfl), (ztb_4 (i := 170) rfl rfl), (ztb_1 (i := 1) rfl rfl), Or.inr ⟨"ProtocolAtlas", znw_at (i := 101) rfl⟩⟩
theorem mv_Study_160 : zLV R_Study 160 s_Study_figure 1 := ⟨⟨by decide, by decide, by decide +kernel⟩, (ztb_6 (i := 17) rfl rfl), (ztb_6 (i := 16) rfl rfl), (ztb_p (i := 51) 16 rfl), (ztb_1 (i := 11) rfl rfl), Or.inl (ztb_6 (i := 14) rfl rfl)⟩
theorem mv_Study_163 : zLV R_Study 163 s_Study_reach 1 := ⟨⟨by decide, by decide, by decide +kernel⟩, (ztb_6 (i := 21) rfl rfl), (ztb_6 (i := 20) rfl rfl), (ztb_p (i := 52) 16 rfl), (ztb_1 (i := 11) rfl rfl), Or.inl (ztb_6 (i := 18) rfl rfl)⟩
theorem mv_Study_169 : zLV R_Study 169 s_Study_isStuckWithout 2 := ⟨⟨by decide, by decide, by decide +kernel⟩, (ztb_6 (i := 26) rfl rfl), (ztb_6 (i := 25) rfl rfl), (ztb_p (i := 53) 16 rfl), (ztb_1 (i := 11) rfl rfl), Or.inl (ztb_6 (i := 23) rfl rfl)⟩
theorem mv_Study_172 : zLV R_Study 172 s_Study_hopeless 1 := ⟨⟨by decide, by decide, by decide +kernel⟩, (ztb_6 (i := 30) rfl rfl), (ztb_6 (i := 29) rfl rfl), (ztb_p (i := 54) 16 rfl), (ztb_1 (i := 11) rfl rfl), Or.inl (ztb_6 (i := 27) rfl rfl)⟩
theorem mv_Study_175 : zLV R_Study 175 s_Atlas_by 1 := ⟨⟨by decide, by decide, by decide +kernel⟩, (ztb_5 (i := 40) rfl rfl), (ztb_5 (i := 38) rfl rfl), (ztb_5 (i := 39) rfl rfl), (ztb_1 (i := 6) rfl rfl), Or.inl (ztb_6 (i := 22) rfl rfl)⟩
theorem mv_Study_181 : zLV R_Study 181 s_Study_isBetter 2 := ⟨⟨by decide, by decide, by decide +kernel⟩, (ztb_6 (i := 42) rfl rfl), (ztb_6 (i := 41) rfl rfl), (ztb_p (i := 55) 16 rfl), (ztb_1 (i := 11) rfl rfl), Or.inl (ztb_6 (i := 39) rfl rfl)⟩
theorem mv_Table_54 : zLS R_Table 54 s_Arrays_fill 2 := ⟨⟨by decide, by decide, by decide +kernel⟩, (ztb_3 (i := 131) rfl rfl), (ztb_3 (i := 130) rfl rfl), (ztb_1 (i := 14) rfl rfl), Or.inl (ztb_3 (i := 129) rfl rfl)⟩
theorem mv_Table_60 : zLV R_Table 60 s_Table_find 2 := ⟨⟨by decide, by decide, by decide +kernel⟩, (ztb_4 (i := 23) rfl rfl), (ztb_4 (i := 21) rfl rfl), (ztb_4 (i := 22) rfl rfl), (ztb_1 (i := 9) rfl rfl), Or.inl (ztb_4 (i := 20) rfl rfl)⟩
theorem mv_Table_64 : zLS R_Table 64 s_Math_min 2 := ⟨⟨by decide, by decide, by decide +kernel⟩, (ztb_4 (i := 77) rfl rfl), (ztb_4 (i := 76) rfl rfl), (ztb_1 (i := 19) rfl rfl), Or.inl (ztb_4 (i := 75) rfl rfl)⟩
theorem mv_Table_69 : zLV R_Table 69 s_Row_clear 1 := ⟨⟨by decide, by decide, by decide +kernel⟩, (ztb_4 (i := 81) rfl rfl), (ztb_4 (i := 79) rfl rfl), (ztb_4 (i := 80) rfl rfl), (ztb_1 (i := 10) rfl rfl), Or.inl (ztb_4 (i := 78) rfl rfl)⟩
theorem mv_Table_73 : zLV R_Table 73 s_World_inState 1 := ⟨⟨by decide, by decide, by decide +kernel⟩, (ztb_4 (i := 227) rfl rfl), (ztb_4 (i := 225) rfl rfl), (ztb_4 (i := 226) rfl rfl), (ztb_1 (i := 5) rfl rfl), Or.inl (ztb_4 (i := 224) rfl rfl)⟩
theorem mv_Table_79 : zLV R_Table 79 s_Row_isFor 2 := ⟨⟨by decide, by decide, by decide +kernel⟩, (ztb_4 (i := 168) rfl rfl), (ztb_4 (i := 166) rfl rfl), (ztb_4 (i := 167) rfl rfl), (ztb_1 (i := 10) rfl rfl), Or.inl (ztb_4 (i := 165) rfl rfl)⟩
theorem mv_Table_83 : zLV R_Table 83 s_World_copy 1 := ⟨⟨by decide, by decide, by decide +kernel⟩, (ztb_4 (i := 175) rfl rfl), (ztb_4 (i := 173) rfl rfl), (ztb_4 (i := 174) rfl rfl), (ztb_1 (i := 5) rfl rfl), Or.inl (ztb_4 (i := 172) rfl rfl)⟩
theorem mv_Table_87 : zLV R_Table 87 s_Row_go 3 := ⟨⟨by decide, by decide, by decide +kernel⟩, (ztb_4 (i := 182) rfl rfl), (ztb_4 (i := 180) rfl rfl), (ztb_4 (i := 181) rfl rfl), (ztb_1 (i := 10) rfl rfl), Or.inl (ztb_4 (i := 179) rfl rfl)⟩
theorem mv_Table_91 : zLV R_Table 91 s_Table_go 4 := ⟨⟨by decide, by decide, by decide +kernel⟩, (ztb_4 (i := 164) rfl rfl), (ztb_4 (i := 162) rfl rfl), (ztb_4 (i := 163) rfl rfl), (ztb_1 (i := 9) rfl rfl), Or.inl (ztb_6 (i := 78) rfl rfl)⟩
theorem mv_Table_94 : zLV R_Table 94 s_Bytes_size 0 := ⟨⟨by decide, by decide, by decide +kernel⟩, (ztb_3 (i := 96) rfl rfl), (ztb_3 (i := 94) rfl rfl), (ztb_3 (i := 95) rfl rfl), (ztb_1 (i := 2) rfl rfl), Or.inl (ztb_6 (i := 202) rfl rfl)⟩
theorem mv_Table_100 : zLV R_Table 100 s_Bytes_get 1 := ⟨⟨by decide, by decide, by decide +kernel⟩, (ztb_3 (i := 140) rfl rfl), (ztb_3 (i := 138) rfl rfl), (ztb_3 (i := 139) rfl rfl), (ztb_1 (i := 2) rfl rfl), Or.inl (ztb_6 (i := 203) rfl rfl)⟩
theorem mv_Table_103 : zLV R_Table 103 s_Bytes_check 1 := ⟨⟨by decide, by decide, by decide +kernel⟩, (ztb_6 (i := 188) rfl rfl), (ztb_6 (i := 186) rfl rfl), (ztb_6 (i := 187) rfl rfl), (ztb_1 (i := 2) rfl rfl), Or.inl (ztb_6 (i := 204) rfl rfl)⟩
theorem mv_Table_106 : zLV R_Table 106 s_Table_isOneOf 2 := ⟨⟨by decide, by decide, by decide +kernel⟩, (ztb_6 (i := 208) rfl rfl), (ztb_6 (i := 207) rfl rfl), (ztb_p (i := 62) 12 rfl), (ztb_1 (i := 9) rfl rfl), Or.inl (ztb_6 (i := 205) rfl rfl)⟩
theorem mv_Table_111 : zLS R_Table 111 s_Table_heldBy 1 := ⟨⟨by decide, by decide, by decide +kernel⟩, (ztb_6 (i := 215) rfl rfl), (ztb_6 (i := 214) rfl rfl), (ztb_1 (i := 9) rfl rfl), Or.inl (ztb_6 (i := 213) rfl rfl)⟩
theorem mv_Table_120 : zLS R_Table 120 s_PA_codeOf 4 := ⟨⟨by decide, by decide, by decide +kernel⟩, (ztb_4 (i := 121) rfl rfl), (ztb_4 (i := 120) rfl rfl), (ztb_1 (i := 1) rfl rfl), Or.inr ⟨"ProtocolAtlas", znw_at (i := 105) rfl⟩⟩
theorem mv_World_34 : zLS R_World 34 s_PA_codeOf 4 := ⟨⟨by decide, by decide, by decide +kernel⟩, (ztb_4 (i := 121) rfl rfl), (ztb_4 (i := 120) rfl rfl), (ztb_1 (i := 1) rfl rfl), Or.inr ⟨"ProtocolAtlas", znw_at (i := 97) rfl⟩⟩
theorem mv_World_38 : zLS R_World 38 s_Arrays_fill 2 := ⟨⟨by decide, by decide, by decide +kernel⟩, (ztb_3 (i := 131) rfl rfl), (ztb_3 (i := 130) rfl rfl), (ztb_1 (i := 14) rfl rfl), Or.inl (ztb_4 (i := 122) rfl rfl)⟩
theorem mv_World_52 : zLV R_World 52 s_World_keyOf 1 := ⟨⟨by decide, by decide, by decide +kernel⟩, (ztb_4 (i := 134) rfl rfl), (ztb_4 (i := 133) rfl rfl), (ztb_p (i := 25) 5 rfl), (ztb_1 (i := 5) rfl rfl), Or.inl (ztb_4 (i := 131) rfl rfl)⟩
theorem mv_World_56 : zLS R_World 56 s_PA_held 2 := ⟨⟨by decide, by decide, by decide +kernel⟩, (ztb_4 (i := 171) rfl rfl), (ztb_4 (i := 170) rfl rfl), (ztb_1 (i := 1) rfl rfl), Or.inr ⟨"ProtocolAtlas", znw_at (i := 99) rfl⟩⟩
theorem mv_MO_200 : zLV R_MO 200 s_MO_refuses 1 := ⟨⟨by decide, by decide, by decide +kernel⟩, (ztb_8 (i := 13) rfl rfl), (ztb_8 (i := 12) rfl rfl), (ztb_p (i := 63) 85 rfl), (ztb_1 (i := 13) rfl rfl), Or.inl (ztb_8 (i := 10) rfl rfl)⟩
theorem mv_MO_204 : zLV R_MO 204 s_MO_isRefused 1 := ⟨⟨by decide, by decide, by decide +kernel⟩, (ztb_8 (i := 21) rfl rfl), (ztb_8 (i := 20) rfl rfl), (ztb_p (i := 64) 85 rfl), (ztb_1 (i := 13) rfl rfl), Or.inl (ztb_8 (i := 18) rfl rfl)⟩
theorem mv_MO_210 : zLS R_MO 210 s_MO_isIn 3 := ⟨⟨by decide, by decide, by decide +kernel⟩, (ztb_8 (i := 29) rfl rfl), (ztb_8 (i := 28) rfl rfl), (ztb_1 (i := 13) rfl rfl), Or.inl (ztb_8 (i := 27) rfl rfl)⟩
theorem mv_MO_229 : zLV R_MO 229 s_MO_look 0 := ⟨⟨by decide, by decide, by decide +kernel⟩, (ztb_8 (i := 53) rfl rfl), (ztb_8 (i := 52) rfl rfl), (ztb_p (i := 68) 85 rfl), (ztb_1 (i := 13) rfl rfl), Or.inl (ztb_8 (i := 50) rfl rfl)⟩
theorem mv_MO_233 : zLS R_MO 233 s_MO_isLetter 1 := ⟨⟨by decide, by decide, by decide +kernel⟩, (ztb_8 (i := 56) rfl rfl), (ztb_8 (i := 55) rfl rfl), (ztb_1 (i := 13) rfl rfl), Or.inl (ztb_8 (i := 54) rfl rfl)⟩
theorem mv_MO_239 : zLV R_MO 239 s_MO_isHere 1 := ⟨⟨by decide, by decide, by decide +kernel⟩, (ztb_8 (i := 49) rfl rfl), (ztb_8 (i := 48) rfl rfl), (ztb_p (i := 67) 85 rfl), (ztb_1 (i := 13) rfl rfl), Or.inl (ztb_8 (i := 46) rfl rfl)⟩
theorem mv_MO_243 : zLV R_MO 243 s_MO_takes 1 := ⟨⟨by decide, by decide, by decide +kernel⟩, (ztb_8 (i := 45) rfl rfl), (ztb_8 (i := 44) rfl rfl), (ztb_p (i := 66) 85 rfl), (ztb_1 (i := 13) rfl rfl), Or.inl (ztb_8 (i := 42) rfl rfl)⟩
theorem mv_MO_246 : zLV R_MO 246 s_MO_fail 2 := ⟨⟨by decide, by decide, by decide +kernel⟩, (ztb_8 (i := 60) rfl rfl), (ztb_8 (i := 59) rfl rfl), (ztb_p (i := 69) 85 rfl), (ztb_1 (i := 13) rfl rfl), Or.inl (ztb_8 (i := 57) rfl rfl)⟩
theorem mv_MO_250 : zLV R_MO 250 s_MO_takesSign 1 := ⟨⟨by decide, by decide, by decide +kernel⟩, (ztb_8 (i := 90) rfl rfl), (ztb_8 (i := 89) rfl rfl), (ztb_p (i := 75) 85 rfl), (ztb_1 (i := 13) rfl rfl), Or.inl (ztb_8 (i := 87) rfl rfl)⟩
theorem mv_MO_253 : zLS R_MO 253 s_MO_isDigit 1 := ⟨⟨by decide, by decide, by decide +kernel⟩, (ztb_8 (i := 67) rfl rfl), (ztb_8 (i := 66) rfl rfl), (ztb_1 (i := 13) rfl rfl), Or.inl (ztb_8 (i := 65) rfl rfl)⟩
theorem mv_MO_256 : zLV R_MO 256 s_MO_isOwnHere 0 := ⟨⟨by decide, by decide, by decide +kernel⟩, (ztb_8 (i := 79) rfl rfl), (ztb_8 (i := 78) rfl rfl), (ztb_p (i := 73) 85 rfl), (ztb_1 (i := 13) rfl rfl), Or.inl (ztb_8 (i := 76) rfl rfl)⟩
theorem mv_MO_263 : zLS R_MO 263 s_MO_nameAt 2 := ⟨⟨by decide, by decide, by decide +kernel⟩, (ztb_8 (i := 86) rfl rfl), (ztb_8 (i := 85) rfl rfl), (ztb_1 (i := 13) rfl rfl), Or.inl (ztb_8 (i := 84) rfl rfl)⟩
theorem mv_MO_267 : zLV R_MO 267 s_MO_name 0 := ⟨⟨by decide, by decide, by decide +kernel⟩, (ztb_8 (i := 75) rfl rfl), (ztb_8 (i := 74) rfl rfl), (ztb_p (i := 72) 85 rfl), (ztb_1 (i := 13) rfl rfl), Or.inl (ztb_8 (i := 72) rfl rfl)⟩
theorem mv_MO_270 : zLV R_MO 270 s_MO_known 2 := ⟨⟨by decide, by decide, by decide +kernel⟩, (ztb_8 (i := 83) rfl rfl), (ztb_8 (i := 82) rfl rfl), (ztb_p (i := 74) 85 rfl), (ztb_1 (i := 13) rfl rfl), Or.inl (ztb_8 (i := 80) rfl rfl)⟩
theorem mv_MO_273 : zLV R_MO 273 s_MO_number 2 := ⟨⟨by decide, by decide, by decide +kernel⟩, (ztb_8 (i := 64) rfl rfl), (ztb_8 (i := 63) rfl rfl), (ztb_p (i := 70) 85 rfl), (ztb_1 (i := 13) rfl rfl), Or.inl (ztb_8 (i := 61) rfl rfl)⟩
theorem mv_MO_276 : zLV R_MO 276 s_MO_named 1 := ⟨⟨by decide, by decide, by decide +kernel⟩, (ztb_8 (i := 106) rfl rfl), (ztb_8 (i := 105) rfl rfl), (ztb_p (i := 79) 85 rfl), (ztb_1 (i := 13) rfl rfl), Or.inl (ztb_8 (i := 103) rfl rfl)⟩
theorem mv_MO_279 : zLV R_MO 279 s_MO_ruleField 2 := ⟨⟨by decide, by decide, by decide +kernel⟩, (ztb_8 (i := 118) rfl rfl), (ztb_8 (i := 117) rfl rfl), (ztb_p (i := 82) 85 rfl), (ztb_1 (i := 13) rfl rfl), Or.inl (ztb_8 (i := 115) rfl rfl)⟩
theorem mv_MO_282 : zLV R_MO 282 s_MO_asks 1 := ⟨⟨by decide, by decide, by decide +kernel⟩, (ztb_8 (i := 41) rfl rfl), (ztb_8 (i := 40) rfl rfl), (ztb_p (i := 65) 85 rfl), (ztb_1 (i := 13) rfl rfl), Or.inl (ztb_8 (i := 38) rfl rfl)⟩
theorem mv_MO_292 : zLV R_MO 292 s_MO_isOnce 3 := ⟨⟨by decide, by decide, by decide +kernel⟩, (ztb_8 (i := 102) rfl rfl), (ztb_8 (i := 101) rfl rfl), (ztb_p (i := 78) 85 rfl), (ztb_1 (i := 13) rfl rfl), Or.inl (ztb_8 (i := 99) rfl rfl)⟩
theorem mv_MO_296 : zLV R_MO 296 s_MO_newNames 1 := ⟨⟨by decide, by decide, by decide +kernel⟩, (ztb_8 (i := 71) rfl rfl), (ztb_8 (i := 70) rfl rfl), (ztb_p (i := 71) 85 rfl), (ztb_1 (i := 13) rfl rfl), Or.inl (ztb_8 (i := 68) rfl rfl)⟩
theorem mv_MO_300 : zLV R_MO 300 s_MO_neverTold 0 := ⟨⟨by decide, by decide, by decide +kernel⟩, (ztb_8 (i := 110) rfl rfl), (ztb_8 (i := 109) rfl rfl), (ztb_p (i := 80) 85 rfl), (ztb_1 (i := 13) rfl rfl), Or.inl (ztb_8 (i := 107) rfl rfl)⟩
theorem mv_MO_303 : zLV R_MO 303 s_MO_onTold 0 := ⟨⟨by decide, by decide, by decide +kernel⟩, (ztb_8 (i := 114) rfl rfl), (ztb_8 (i := 113) rfl rfl), (ztb_p (i := 81) 85 rfl), (ztb_1 (i := 13) rfl rfl), Or.inl (ztb_8 (i := 111) rfl rfl)⟩
theorem mv_MO_306 : zLV R_MO 306 s_MO_atTold 0 := ⟨⟨by decide, by decide, by decide +kernel⟩, (ztb_8 (i := 122) rfl rfl), (ztb_8 (i := 121) rfl rfl), (ztb_p (i := 83) 85 rfl), (ztb_1 (i := 13) rfl rfl), Or.inl (ztb_8 (i := 119) rfl rfl)⟩
theorem mv_MO_309 : zLV R_MO 309 s_MO_asksSign 1 := ⟨⟨by decide, by decide, by decide +kernel⟩, (ztb_8 (i := 94) rfl rfl), (ztb_8 (i := 93) rfl rfl), (ztb_p (i := 76) 85 rfl), (ztb_1 (i := 13) rfl rfl), Or.inl (ztb_8 (i := 91) rfl rfl)⟩
theorem mv_MO_312 : zLV R_MO 312 s_MO_statementTold 0 := ⟨⟨by decide, by decide, by decide +kernel⟩, (ztb_8 (i := 98) rfl rfl), (ztb_8 (i := 97) rfl rfl), (ztb_p (i := 77) 85 rfl), (ztb_1 (i := 13) rfl rfl), Or.inl (ztb_8 (i := 95) rfl rfl)⟩
theorem mv_MO_315 : zLV R_MO 315 s_MO_stands 0 := ⟨⟨by decide, by decide, by decide +kernel⟩, (ztb_8 (i := 126) rfl rfl), (ztb_8 (i := 125) rfl rfl), (ztb_p (i := 84) 85 rfl), (ztb_1 (i := 13) rfl rfl), Or.inl (ztb_8 (i := 123) rfl rfl)⟩
theorem mv_MO_318 : zLV R_MO 318 s_MO_goesThrough 1 := ⟨⟨by decide, by decide, by decide +kernel⟩, (ztb_8 (i := 130) rfl rfl), (ztb_8 (i := 129) rfl rfl), (ztb_p (i := 85) 85 rfl), (ztb_1 (i := 13) rfl rfl), Or.inl (ztb_8 (i := 127) rfl rfl)⟩
theorem mv_MO_340 : zLS R_MO 340 s_MO_firstIn 1 := ⟨⟨by decide, by decide, by decide +kernel⟩, (ztb_8 (i := 192) rfl rfl), (ztb_8 (i := 191) rfl rfl), (ztb_1 (i := 13) rfl rfl), Or.inl (ztb_8 (i := 190) rfl rfl)⟩
theorem mv_MO_343 : zLS R_MO 343 s_MO_secondIn 1 := ⟨⟨by decide, by decide, by decide +kernel⟩, (ztb_8 (i := 195) rfl rfl), (ztb_8 (i := 194) rfl rfl), (ztb_1 (i := 13) rfl rfl), Or.inl (ztb_8 (i := 193) rfl rfl)⟩
theorem mv_MO_346 : zLS R_MO 346 s_MO_stateOf 1 := ⟨⟨by decide, by decide, by decide +kernel⟩, (ztb_8 (i := 185) rfl rfl), (ztb_8 (i := 184) rfl rfl), (ztb_1 (i := 13) rfl rfl), Or.inl (ztb_8 (i := 183) rfl rfl)⟩
theorem mv_MO_349 : zLV R_MO 349 s_MO_ruleOf 2 := ⟨⟨by decide, by decide, by decide +kernel⟩, (ztb_8 (i := 178) rfl rfl), (ztb_8 (i := 177) rfl rfl), (ztb_p (i := 96) 85 rfl), (ztb_1 (i := 13) rfl rfl), Or.inl (ztb_8 (i := 175) rfl rfl)⟩
theorem mv_MO_352 : zLV R_MO 352 s_MO_without0 2 := ⟨⟨by decide, by decide, by decide +kernel⟩, (ztb_8 (i := 189) rfl rfl), (ztb_8 (i := 188) rfl rfl), (ztb_p (i := 98) 85 rfl), (ztb_1 (i := 13) rfl rfl), Or.inl (ztb_8 (i := 186) rfl rfl)⟩
theorem mv_MO_355 : zLS R_MO 355 s_MO_outOf 1 := ⟨⟨by decide, by decide, by decide +kernel⟩, (ztb_8 (i := 198) rfl rfl), (ztb_8 (i := 197) rfl rfl), (ztb_1 (i := 13) rfl rfl), Or.inl (ztb_8 (i := 196) rfl rfl)⟩
theorem mv_MO_358 : zLV R_MO 358 s_MO_agents 0 := ⟨⟨by decide, by decide, by decide +kernel⟩, (ztb_8 (i := 170) rfl rfl), (ztb_8 (i := 169) rfl rfl), (ztb_p (i := 94) 85 rfl), (ztb_1 (i := 13) rfl rfl), Or.inl (ztb_8 (i := 167) rfl rfl)⟩
theorem mv_MO_361 : zLV R_MO 361 s_MO_isOther 2 := ⟨⟨by decide, by decide, by decide +kernel⟩, (ztb_8 (i := 206) rfl rfl), (ztb_8 (i := 205) rfl rfl), (ztb_p (i := 100) 85 rfl), (ztb_1 (i := 13) rfl rfl), Or.inl (ztb_8 (i := 203) rfl rfl)⟩
theorem mv_MO_365 : zLV R_MO 365 s_MO_with0 2 := ⟨⟨by decide, by decide, by decide +kernel⟩, (ztb_8 (i := 210) rfl rfl), (ztb_8 (i := 209) rfl rfl), (ztb_p (i := 101) 85 rfl), (ztb_1 (i := 13) rfl rfl), Or.inl (ztb_8 (i := 207) rfl rfl)⟩
theorem mv_MO_368 : zLV R_MO 368 s_MO_isMovedOn 2 := ⟨⟨by decide, by decide, by decide +kernel⟩, (ztb_8 (i := 182) rfl rfl), (ztb_8 (i := 181) rfl rfl), (ztb_p (i := 97) 85 rfl), (ztb_1 (i := 13) rfl rfl), Or.inl (ztb_8 (i := 179) rfl rfl)⟩
theorem mv_MO_371 : zLV R_MO 371 s_MO_isMovedAt 2 := ⟨⟨by decide, by decide, by decide +kernel⟩, (ztb_8 (i := 202) rfl rfl), (ztb_8 (i := 201) rfl rfl), (ztb_p (i := 99) 85 rfl), (ztb_1 (i := 13) rfl rfl), Or.inl (ztb_8 (i := 199) rfl rfl)⟩
theorem mv_MO_376 : zLS R_MO 376 s_MO_spot 1 := ⟨⟨by decide, by decide, by decide +kernel⟩, (ztb_8 (i := 149) rfl rfl), (ztb_8 (i := 148) rfl rfl), (ztb_1 (i := 13) rfl rfl), Or.inl (ztb_8 (i := 147) rfl rfl)⟩
theorem mv_MO_383 : zLV R_MO 383 s_MO_found 1 := ⟨⟨by decide, by decide, by decide +kernel⟩, (ztb_8 (i := 146) rfl rfl), (ztb_8 (i := 145) rfl rfl), (ztb_p (i := 89) 85 rfl), (ztb_1 (i := 13) rfl rfl), Or.inl (ztb_8 (i := 143) rfl rfl)⟩
theorem mv_MO_386 : zLV R_MO 386 s_MO_enters 1 := ⟨⟨by decide, by decide, by decide +kernel⟩, (ztb_8 (i := 154) rfl rfl), (ztb_8 (i := 153) rfl rfl), (ztb_p (i := 90) 85 rfl), (ztb_1 (i := 13) rfl rfl), Or.inl (ztb_8 (i := 151) rfl rfl)⟩
theorem mv_MO_389 : zLV R_MO 389 s_MO_opensFirst 0 := ⟨⟨by decide, by decide, by decide +kernel⟩, (ztb_8 (i := 134) rfl rfl), (ztb_8 (i := 133) rfl rfl), (ztb_p (i := 86) 85 rfl), (ztb_1 (i := 13) rfl rfl), Or.inl (ztb_8 (i := 131) rfl rfl)⟩
theorem mv_MO_392 : zLV R_MO 392 s_MO_shut 0 := ⟨⟨by decide, by decide, by decide +kernel⟩, (ztb_8 (i := 138) rfl rfl), (ztb_8 (i := 137) rfl rfl), (ztb_p (i := 87) 85 rfl), (ztb_1 (i := 13) rfl rfl), Or.inl (ztb_8 (i := 135) rfl rfl)⟩
theorem mv_MO_396 : zLV R_MO 396 s_MO_comes 2 := ⟨⟨by decide, by decide, by decide +kernel⟩, (ztb_8 (i := 142) rfl rfl), (ztb_8 (i := 141) rfl rfl), (ztb_p (i := 88) 85 rfl), (ztb_1 (i := 13) rfl rfl), Or.inl (ztb_8 (i := 139) rfl rfl)⟩
theorem mv_MO_400 : zLV R_MO 400 s_MO_rules 0 := ⟨⟨by decide, by decide, by decide +kernel⟩, (ztb_8 (i := 158) rfl rfl), (ztb_8 (i := 157) rfl rfl), (ztb_p (i := 91) 85 rfl), (ztb_1 (i := 13) rfl rfl), Or.inl (ztb_8 (i := 155) rfl rfl)⟩
theorem mv_MO_403 : zLV R_MO 403 s_MO_comesBy 2 := ⟨⟨by decide, by decide, by decide +kernel⟩, (ztb_8 (i := 162) rfl rfl), (ztb_8 (i := 161) rfl rfl), (ztb_p (i := 92) 85 rfl), (ztb_1 (i := 13) rfl rfl), Or.inl (ztb_8 (i := 159) rfl rfl)⟩
theorem mv_MO_406 : zLV R_MO 406 s_MO_sorts 0 := ⟨⟨by decide, by decide, by decide +kernel⟩, (ztb_8 (i := 218) rfl rfl), (ztb_8 (i := 217) rfl rfl), (ztb_p (i := 103) 85 rfl), (ztb_1 (i := 13) rfl rfl), Or.inl (ztb_8 (i := 215) rfl rfl)⟩
theorem mv_MO_409 : zLV R_MO 409 s_MO_leads0 1 := ⟨⟨by decide, by decide, by decide +kernel⟩, (ztb_8 (i := 222) rfl rfl), (ztb_8 (i := 221) rfl rfl), (ztb_p (i := 104) 85 rfl), (ztb_1 (i := 13) rfl rfl), Or.inl (ztb_8 (i := 219) rfl rfl)⟩
theorem mv_MO_415 : zLV R_MO 415 s_MO_opens 1 := ⟨⟨by decide, by decide, by decide +kernel⟩, (ztb_8 (i := 166) rfl rfl), (ztb_8 (i := 165) rfl rfl), (ztb_p (i := 93) 85 rfl), (ztb_1 (i := 13) rfl rfl), Or.inl (ztb_8 (i := 163) rfl rfl)⟩
theorem mv_MO_419 : zLV R_MO 419 s_MO_isMoved 2 := ⟨⟨by decide, by decide, by decide +kernel⟩, (ztb_8 (i := 174) rfl rfl), (ztb_8 (i := 173) rfl rfl), (ztb_p (i := 95) 85 rfl), (ztb_1 (i := 13) rfl rfl), Or.inl (ztb_8 (i := 171) rfl rfl)⟩
theorem mv_MO_422 : zLV R_MO 422 s_MO_folds 0 := ⟨⟨by decide, by decide, by decide +kernel⟩, (ztb_8 (i := 214) rfl rfl), (ztb_8 (i := 213) rfl rfl), (ztb_p (i := 102) 85 rfl), (ztb_1 (i := 13) rfl rfl), Or.inl (ztb_8 (i := 211) rfl rfl)⟩
theorem mv_MO_425 : zLV R_MO 425 s_MO_isNever 1 := ⟨⟨by decide, by decide, by decide +kernel⟩, (ztb_9 (i := 15) rfl rfl), (ztb_9 (i := 14) rfl rfl), (ztb_p (i := 111) 85 rfl), (ztb_1 (i := 13) rfl rfl), Or.inl (ztb_9 (i := 12) rfl rfl)⟩
theorem mv_MO_428 : zLV R_MO 428 s_MO_copies 1 := ⟨⟨by decide, by decide, by decide +kernel⟩, (ztb_9 (i := 3) rfl rfl), (ztb_9 (i := 2) rfl rfl), (ztb_p (i := 108) 85 rfl), (ztb_1 (i := 13) rfl rfl), Or.inl (ztb_9 (i := 0) rfl rfl)⟩
theorem mv_MO_431 : zLV R_MO 431 s_MO_movesFrom 1 := ⟨⟨by decide, by decide, by decide +kernel⟩, (ztb_9 (i := 7) rfl rfl), (ztb_9 (i := 6) rfl rfl), (ztb_p (i := 109) 85 rfl), (ztb_1 (i := 13) rfl rfl), Or.inl (ztb_9 (i := 4) rfl rfl)⟩
theorem mv_MO_434 : zLV R_MO 434 s_MO_isBad 1 := ⟨⟨by decide, by decide, by decide +kernel⟩, (ztb_9 (i := 11) rfl rfl), (ztb_9 (i := 10) rfl rfl), (ztb_p (i := 110) 85 rfl), (ztb_1 (i := 13) rfl rfl), Or.inl (ztb_9 (i := 8) rfl rfl)⟩
theorem mv_MO_438 : zLS R_MO 438 s_MO_firstLike 2 := ⟨⟨by decide, by decide, by decide +kernel⟩, (ztb_9 (i := 83) rfl rfl), (ztb_9 (i := 82) rfl rfl), (ztb_1 (i := 13) rfl rfl), Or.inl (ztb_9 (i := 81) rfl rfl)⟩
theorem mv_MO_442 : zLV R_MO 442 s_MO_lookMany 0 := ⟨⟨by decide, by decide, by decide +kernel⟩, (ztb_9 (i := 76) rfl rfl), (ztb_9 (i := 75) rfl rfl), (ztb_p (i := 120) 85 rfl), (ztb_1 (i := 13) rfl rfl), Or.inl (ztb_9 (i := 73) rfl rfl)⟩
theorem mv_MO_445 : zLV R_MO 445 s_MO_leadsInto 2 := ⟨⟨by decide, by decide, by decide +kernel⟩, (ztb_9 (i := 91) rfl rfl), (ztb_9 (i := 90) rfl rfl), (ztb_p (i := 123) 85 rfl), (ztb_1 (i := 13) rfl rfl), Or.inl (ztb_9 (i := 88) rfl rfl)⟩
theorem mv_MO_449 : zLV R_MO 449 s_MO_looksFrom 2 := ⟨⟨by decide, by decide, by decide +kernel⟩, (ztb_9 (i := 80) rfl rfl), (ztb_9 (i := 79) rfl rfl), (ztb_p (i := 121) 85 rfl), (ztb_1 (i := 13) rfl rfl), Or.inl (ztb_9 (i := 77) rfl rfl)⟩
theorem mv_MO_452 : zLV R_MO 452 s_MO_spreads 1 := ⟨⟨by decide, by decide, by decide +kernel⟩, (ztb_9 (i := 87) rfl rfl), (ztb_9 (i := 86) rfl rfl), (ztb_p (i := 122) 85 rfl), (ztb_1 (i := 13) rfl rfl), Or.inl (ztb_9 (i := 84) rfl rfl)⟩
theorem mv_MO_456 : zLV R_MO 456 s_MO_joins 2 := ⟨⟨by decide, by decide, by decide +kernel⟩, (ztb_9 (i := 23) rfl rfl), (ztb_9 (i := 22) rfl rfl), (ztb_p (i := 113) 85 rfl), (ztb_1 (i := 13) rfl rfl), Or.inl (ztb_9 (i := 20) rfl rfl)⟩
theorem mv_MO_460 : zLV R_MO 460 s_MO_rings 0 := ⟨⟨by decide, by decide, by decide +kernel⟩, (ztb_9 (i := 95) rfl rfl), (ztb_9 (i := 94) rfl rfl), (ztb_p (i := 124) 85 rfl), (ztb_1 (i := 13) rfl rfl), Or.inl (ztb_9 (i := 92) rfl rfl)⟩
theorem mv_MO_472 : zLV R_MO 472 s_MO_goesDown 2 := ⟨⟨by decide, by decide, by decide +kernel⟩, (ztb_9 (i := 27) rfl rfl), (ztb_9 (i := 26) rfl rfl), (ztb_p (i := 114) 85 rfl), (ztb_1 (i := 13) rfl rfl), Or.inl (ztb_9 (i := 24) rfl rfl)⟩
theorem mv_MO_478 : zLV R_MO 478 s_MO_enters0 1 := ⟨⟨by decide, by decide, by decide +kernel⟩, (ztb_9 (i := 31) rfl rfl), (ztb_9 (i := 30) rfl rfl), (ztb_p (i := 115) 85 rfl), (ztb_1 (i := 13) rfl rfl), Or.inl (ztb_9 (i := 28) rfl rfl)⟩
theorem mv_MO_481 : zLV R_MO 481 s_MO_leaves 1 := ⟨⟨by decide, by decide, by decide +kernel⟩, (ztb_9 (i := 35) rfl rfl), (ztb_9 (i := 34) rfl rfl), (ztb_p (i := 116) 85 rfl), (ztb_1 (i := 13) rfl rfl), Or.inl (ztb_9 (i := 32) rfl rfl)⟩
theorem mv_MO_484 : zLV R_MO 484 s_MO_ringsBy 2 := ⟨⟨by decide, by decide, by decide +kernel⟩, (ztb_9 (i := 99) rfl rfl), (ztb_9 (i := 98) rfl rfl), (ztb_p (i := 125) 85 rfl), (ztb_1 (i := 13) rfl rfl), Or.inl (ztb_9 (i := 96) rfl rfl)⟩
theorem mv_MO_487 : zLV R_MO 487 s_MO_nodeOf 2 := ⟨⟨by decide, by decide, by decide +kernel⟩, (ztb_9 (i := 107) rfl rfl), (ztb_9 (i := 106) rfl rfl), (ztb_p (i := 127) 85 rfl), (ztb_1 (i := 13) rfl rfl), Or.inl (ztb_9 (i := 104) rfl rfl)⟩
theorem mv_MO_490 : zLV R_MO 490 s_MO_isStarving 2 := ⟨⟨by decide, by decide, by decide +kernel⟩, (ztb_9 (i := 103) rfl rfl), (ztb_9 (i := 102) rfl rfl), (ztb_p (i := 126) 85 rfl), (ztb_1 (i := 13) rfl rfl), Or.inl (ztb_9 (i := 100) rfl rfl)⟩
theorem mv_MO_493 : zLV R_MO 493 s_MO_isLeftOut 2 := ⟨⟨by decide, by decide, by decide +kernel⟩, (ztb_9 (i := 111) rfl rfl), (ztb_9 (i := 110) rfl rfl), (ztb_p (i := 128) 85 rfl), (ztb_1 (i := 13) rfl rfl), Or.inl (ztb_9 (i := 108) rfl rfl)⟩
theorem mv_MO_496 : zLV R_MO 496 s_MO_looks 0 := ⟨⟨by decide, by decide, by decide +kernel⟩, (ztb_9 (i := 72) rfl rfl), (ztb_9 (i := 71) rfl rfl), (ztb_p (i := 119) 85 rfl), (ztb_1 (i := 13) rfl rfl), Or.inl (ztb_9 (i := 69) rfl rfl)⟩
theorem mv_MO_499 : zLV R_MO 499 s_MO_wantingIn 2 := ⟨⟨by decide, by decide, by decide +kernel⟩, (ztb_9 (i := 153) rfl rfl), (ztb_9 (i := 152) rfl rfl), (ztb_p (i := 135) 85 rfl), (ztb_1 (i := 13) rfl rfl), Or.inl (ztb_9 (i := 150) rfl rfl)⟩
theorem mv_MO_502 : zLV R_MO 502 s_MO_atlas 1 := ⟨⟨by decide, by decide, by decide +kernel⟩, (ztb_8 (i := 235) rfl rfl), (ztb_8 (i := 234) rfl rfl), (ztb_p (i := 106) 85 rfl), (ztb_1 (i := 13) rfl rfl), Or.inl (ztb_8 (i := 232) rfl rfl)⟩
theorem mv_MO_505 : zLV R_MO 505 s_MO_isAsked 0 := ⟨⟨by decide, by decide, by decide +kernel⟩, (ztb_8 (i := 231) rfl rfl), (ztb_8 (i := 230) rfl rfl), (ztb_p (i := 105) 85 rfl), (ztb_1 (i := 13) rfl rfl), Or.inl (ztb_8 (i := 228) rfl rfl)⟩
theorem mv_MO_510 : zLV R_MO 510 s_MO_sumOf 1 := ⟨⟨by decide, by decide, by decide +kernel⟩, (ztb_8 (i := 239) rfl rfl), (ztb_8 (i := 238) rfl rfl), (ztb_p (i := 107) 85 rfl), (ztb_1 (i := 13) rfl rfl), Or.inl (ztb_8 (i := 236) rfl rfl)⟩
theorem mv_MO_513 : zLV R_MO 513 s_MO_partMany 0 := ⟨⟨by decide, by decide, by decide +kernel⟩, (ztb_9 (i := 19) rfl rfl), (ztb_9 (i := 18) rfl rfl), (ztb_p (i := 112) 85 rfl), (ztb_1 (i := 13) rfl rfl), Or.inl (ztb_9 (i := 16) rfl rfl)⟩
theorem mv_MO_518 : zLS R_MO 518 s_MO_lettersOf 1 := ⟨⟨by decide, by decide, by decide +kernel⟩, (ztb_9 (i := 43) rfl rfl), (ztb_9 (i := 42) rfl rfl), (ztb_1 (i := 13) rfl rfl), Or.inl (ztb_9 (i := 41) rfl rfl)⟩
theorem mv_MO_523 : zLV R_MO 523 s_MO_isEnd 1 := ⟨⟨by decide, by decide, by decide +kernel⟩, (ztb_9 (i := 56) rfl rfl), (ztb_9 (i := 55) rfl rfl), (ztb_p (i := 117) 85 rfl), (ztb_1 (i := 13) rfl rfl), Or.inl (ztb_9 (i := 53) rfl rfl)⟩
theorem mv_MO_526 : zLV R_MO 526 s_MO_isWorld 1 := ⟨⟨by decide, by decide, by decide +kernel⟩, (ztb_9 (i := 64) rfl rfl), (ztb_9 (i := 63) rfl rfl), (ztb_p (i := 118) 85 rfl), (ztb_1 (i := 13) rfl rfl), Or.inl (ztb_9 (i := 61) rfl rfl)⟩
theorem mv_MO_529 : zLV R_MO 529 s_MO_agentHas 2 := ⟨⟨by decide, by decide, by decide +kernel⟩, (ztb_9 (i := 115) rfl rfl), (ztb_9 (i := 114) rfl rfl), (ztb_p (i := 129) 85 rfl), (ztb_1 (i := 13) rfl rfl), Or.inl (ztb_9 (i := 112) rfl rfl)⟩
theorem mv_MO_532 : zLV R_MO 532 s_MO_isMove 2 := ⟨⟨by decide, by decide, by decide +kernel⟩, (ztb_9 (i := 123) rfl rfl), (ztb_9 (i := 122) rfl rfl), (ztb_p (i := 130) 85 rfl), (ztb_1 (i := 13) rfl rfl), Or.inl (ztb_9 (i := 120) rfl rfl)⟩
theorem mv_MO_536 : zLV R_MO 536 s_MO_foldedOf 1 := ⟨⟨by decide, by decide, by decide +kernel⟩, (ztb_9 (i := 140) rfl rfl), (ztb_9 (i := 139) rfl rfl), (ztb_p (i := 133) 85 rfl), (ztb_1 (i := 13) rfl rfl), Or.inl (ztb_9 (i := 137) rfl rfl)⟩
theorem mv_MO_539 : zLV R_MO 539 s_MO_measures 1 := ⟨⟨by decide, by decide, by decide +kernel⟩, (ztb_9 (i := 131) rfl rfl), (ztb_9 (i := 130) rfl rfl), (ztb_p (i := 131) 85 rfl), (ztb_1 (i := 13) rfl rfl), Or.inl (ztb_9 (i := 128) rfl rfl)⟩
theorem mv_MO_542 : zLV R_MO 542 s_MO_nearer 2 := ⟨⟨by decide, by decide, by decide +kernel⟩, (ztb_9 (i := 136) rfl rfl), (ztb_9 (i := 135) rfl rfl), (ztb_p (i := 132) 85 rfl), (ztb_1 (i := 13) rfl rfl), Or.inl (ztb_9 (i := 133) rfl rfl)⟩
theorem mv_MO_548 : zLV R_MO 548 s_MO_isFirst 2 := ⟨⟨by decide, by decide, by decide +kernel⟩, (ztb_9 (i := 149) rfl rfl), (ztb_9 (i := 148) rfl rfl), (ztb_p (i := 134) 85 rfl), (ztb_1 (i := 13) rfl rfl), Or.inl (ztb_9 (i := 146) rfl rfl)⟩
theorem mv_MO_551 : zLV R_MO 551 s_MO_wantingAll 1 := ⟨⟨by decide, by decide, by decide +kernel⟩, (ztb_9 (i := 165) rfl rfl), (ztb_9 (i := 164) rfl rfl), (ztb_p (i := 136) 85 rfl), (ztb_1 (i := 13) rfl rfl), Or.inl (ztb_9 (i := 162) rfl rfl)⟩
theorem mv_MO_556 : zLV R_MO 556 s_MO_withoutOf 1 := ⟨⟨by decide, by decide, by decide +kernel⟩, (ztb_9 (i := 178) rfl rfl), (ztb_9 (i := 177) rfl rfl), (ztb_p (i := 137) 85 rfl), (ztb_1 (i := 13) rfl rfl), Or.inl (ztb_9 (i := 175) rfl rfl)⟩
theorem mv_MO_559 : zLV R_MO 559 s_MO_isBetter 0 := ⟨⟨by decide, by decide, by decide +kernel⟩, (ztb_9 (i := 186) rfl rfl), (ztb_9 (i := 185) rfl rfl), (ztb_p (i := 138) 85 rfl), (ztb_1 (i := 13) rfl rfl), Or.inl (ztb_9 (i := 183) rfl rfl)⟩
theorem mv_MO_567 : zLV R_MO 567 s_MO_can 2 := ⟨⟨by decide, by decide, by decide +kernel⟩, (ztb_9 (i := 199) rfl rfl), (ztb_9 (i := 197) rfl rfl), (ztb_9 (i := 198) rfl rfl), (ztb_1 (i := 13) rfl rfl), Or.inl (ztb_9 (i := 204) rfl rfl)⟩
theorem mv_MO_570 : zLV R_MO 570 s_MO_keeps 0 := ⟨⟨by decide, by decide, by decide +kernel⟩, (ztb_9 (i := 208) rfl rfl), (ztb_9 (i := 207) rfl rfl), (ztb_p (i := 139) 85 rfl), (ztb_1 (i := 13) rfl rfl), Or.inl (ztb_9 (i := 205) rfl rfl)⟩
theorem mv_MO_583 : zLV R_MO 583 s_MO_movesOfWalk 1 := ⟨⟨by decide, by decide, by decide +kernel⟩, (ztb_9 (i := 225) rfl rfl), (ztb_9 (i := 224) rfl rfl), (ztb_p (i := 140) 85 rfl), (ztb_1 (i := 13) rfl rfl), Or.inl (ztb_9 (i := 222) rfl rfl)⟩
theorem mv_MO_586 : zLV R_MO 586 s_MO_drawOf 1 := ⟨⟨by decide, by decide, by decide +kernel⟩, (ztb_9 (i := 229) rfl rfl), (ztb_9 (i := 228) rfl rfl), (ztb_p (i := 141) 85 rfl), (ztb_1 (i := 13) rfl rfl), Or.inl (ztb_9 (i := 226) rfl rfl)⟩
theorem mv_MO_594 : zLV R_MO 594 s_MO_inState 2 := ⟨⟨by decide, by decide, by decide +kernel⟩, (ztb_10 (i := 18) rfl rfl), (ztb_10 (i := 17) rfl rfl), (ztb_p (i := 145) 85 rfl), (ztb_1 (i := 13) rfl rfl), Or.inl (ztb_10 (i := 15) rfl rfl)⟩
theorem mv_MO_597 : zLV R_MO 597 s_MO_couldGoOn 0 := ⟨⟨by decide, by decide, by decide +kernel⟩, (ztb_10 (i := 10) rfl rfl), (ztb_10 (i := 9) rfl rfl), (ztb_p (i := 143) 85 rfl), (ztb_1 (i := 13) rfl rfl), Or.inl (ztb_10 (i := 7) rfl rfl)⟩
theorem mv_MO_600 : zLV R_MO 600 s_MO_isAsSeen 1 := ⟨⟨by decide, by decide, by decide +kernel⟩, (ztb_10 (i := 14) rfl rfl), (ztb_10 (i := 13) rfl rfl), (ztb_p (i := 144) 85 rfl), (ztb_1 (i := 13) rfl rfl), Or.inl (ztb_10 (i := 11) rfl rfl)⟩
theorem mv_MO_603 : zLV R_MO 603 s_MO_laysCould 0 := ⟨⟨by decide, by decide, by decide +kernel⟩, (ztb_10 (i := 6) rfl rfl), (ztb_10 (i := 5) rfl rfl), (ztb_p (i := 142) 85 rfl), (ztb_1 (i := 13) rfl rfl), Or.inl (ztb_10 (i := 3) rfl rfl)⟩
theorem mv_MO_606 : zLV R_MO 606 s_MO_mostBy 1 := ⟨⟨by decide, by decide, by decide +kernel⟩, (ztb_10 (i := 26) rfl rfl), (ztb_10 (i := 25) rfl rfl), (ztb_p (i := 146) 85 rfl), (ztb_1 (i := 13) rfl rfl), Or.inl (ztb_10 (i := 23) rfl rfl)⟩
theorem mv_MO_612 : zLV R_MO 612 s_MO_writes 1 := ⟨⟨by decide, by decide, by decide +kernel⟩, (ztb_10 (i := 38) rfl rfl), (ztb_10 (i := 37) rfl rfl), (ztb_p (i := 148) 85 rfl), (ztb_1 (i := 13) rfl rfl), Or.inl (ztb_10 (i := 35) rfl rfl)⟩
theorem mv_MO_615 : zLV R_MO 615 s_MO_writesName 2 := ⟨⟨by decide, by decide, by decide +kernel⟩, (ztb_10 (i := 42) rfl rfl), (ztb_10 (i := 41) rfl rfl), (ztb_p (i := 149) 85 rfl), (ztb_1 (i := 13) rfl rfl), Or.inl (ztb_10 (i := 39) rfl rfl)⟩
theorem mv_MO_618 : zLV R_MO 618 s_MO_writesAgent 1 := ⟨⟨by decide, by decide, by decide +kernel⟩, (ztb_10 (i := 46) rfl rfl), (ztb_10 (i := 45) rfl rfl), (ztb_p (i := 150) 85 rfl), (ztb_1 (i := 13) rfl rfl), Or.inl (ztb_10 (i := 43) rfl rfl)⟩
theorem mv_MO_621 : zLV R_MO 621 s_MO_writesWorld 1 := ⟨⟨by decide, by decide, by decide +kernel⟩, (ztb_10 (i := 34) rfl rfl), (ztb_10 (i := 33) rfl rfl), (ztb_p (i := 147) 85 rfl), (ztb_1 (i := 13) rfl rfl), Or.inl (ztb_10 (i := 31) rfl rfl)⟩
theorem mv_MO_624 : zLV R_MO 624 s_MO_isSpelled 1 := ⟨⟨by decide, by decide, by decide +kernel⟩, (ztb_10 (i := 54) rfl rfl), (ztb_10 (i := 53) rfl rfl), (ztb_p (i := 151) 85 rfl), (ztb_1 (i := 13) rfl rfl), Or.inl (ztb_10 (i := 51) rfl rfl)⟩
theorem mv_MO_627 : zLS R_MO 627 s_MO_checked 2 := ⟨⟨by decide, by decide, by decide +kernel⟩, (ztb_10 (i := 61) rfl rfl), (ztb_10 (i := 60) rfl rfl), (ztb_1 (i := 13) rfl rfl), Or.inl (ztb_10 (i := 59) rfl rfl)⟩
theorem mv_MO_630 : zLV R_MO 630 s_MO_toldAt 1 := ⟨⟨by decide, by decide, by decide +kernel⟩, (ztb_10 (i := 77) rfl rfl), (ztb_10 (i := 76) rfl rfl), (ztb_p (i := 153) 85 rfl), (ztb_1 (i := 13) rfl rfl), Or.inl (ztb_10 (i := 74) rfl rfl)⟩
theorem mv_MO_633 : zLV R_MO 633 s_MO_imaged 1 := ⟨⟨by decide, by decide, by decide +kernel⟩, (ztb_10 (i := 73) rfl rfl), (ztb_10 (i := 72) rfl rfl), (ztb_p (i := 152) 85 rfl), (ztb_1 (i := 13) rfl rfl), Or.inl (ztb_10 (i := 70) rfl rfl)⟩
