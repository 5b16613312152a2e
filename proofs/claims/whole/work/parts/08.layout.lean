def SHX : List (Nat ⊕ (Nat × Nat)) := [.inl 11, .inl 1, .inr (0, 1600), .inl 1, .inr (0, 1600), .inl 1, .inr (0, 1600), .inl 6, .inl 2, .inr (3, 2048), .inr (0, 2048), .inr (3, 600), .inr (3, 600), .inr (0, 600), .inr (0, 600), .inr (0, 600), .inl 10, .inr (0, 4), .inr (0, 4), .inr (0, 4), .inl 10, .inr (0, 4), .inr (0, 4), .inr (0, 4), .inl 0, .inl 2, .inr (3, 2048), .inr (0, 2048), .inr (3, 600), .inr (0, 600), .inr (0, 600), .inr (0, 600), .inr (0, 600), .inr (1, 600), .inr (0, 2400), .inr (0, 2400), .inr (0, 601), .inr (0, 38400), .inr (0, 600), .inr (0, 600), .inl 10, .inr (0, 4), .inr (0, 4), .inr (0, 4), .inl 10, .inr (0, 4), .inr (0, 4), .inr (0, 4), .inl 7, .inr (0, 6), .inr (0, 6), .inr (1, 600), .inr (1, 600), .inr (0, 600), .inr (0, 5), .inl 10, .inr (0, 4), .inr (0, 4), .inr (0, 4), .inl 10, .inr (0, 4), .inr (0, 4), .inr (0, 4), .inr (3, 20), .inr (0, 6), .inl 4, .inl 9, .inr (0, 3), .inr (0, 18), .inr (4, 16), .inr (0, 4), .inr (0, 12), .inr (0, 12), .inl 5, .inl 5, .inl 5, .inl 5, .inl 5, .inl 5, .inl 5, .inl 5, .inl 5, .inl 5, .inl 5, .inl 5, .inl 5, .inl 5, .inl 5, .inl 5, .inr (0, 1601), .inr (0, 1601), .inr (0, 1601), .inr (3, 1601), .inl 9, .inr (0, 3), .inr (0, 18), .inr (4, 16), .inr (0, 4), .inr (0, 12), .inr (0, 12), .inl 5, .inl 5, .inl 5, .inl 5, .inl 5, .inl 5, .inl 5, .inl 5, .inl 5, .inl 5, .inl 5, .inl 5, .inl 5, .inl 5, .inl 5, .inl 5, .inl 8, .inr (0, 600), .inr (0, 600), .inr (0, 600), .inr (1, 600), .inr (0, 600), .inr (1, 2400), .inr (1, 2400), .inr (1, 2400), .inr (1, 600), .inr (0, 600), .inr (1, 16), .inr (0, 80), .inl 3, .inr (0, 2400), .inr (0, 2401), .inr (0, 2400), .inr (0, 2400), .inr (0, 2400), .inr (0, 2400), .inr (0, 2400), .inr (0, 2400)]
def SHM : List (Nat ⊕ (Nat × Nat)) := [.inl 12, .inr (0, 1600), .inr (0, 6), .inr (2, 6), .inr (2, 6), .inr (2, 4), .inr (2, 8), .inr (2, 5), .inr (2, 4), .inr (2, 5), .inr (2, 5), .inr (2, 3), .inr (2, 5), .inr (2, 2), .inr (2, 4), .inr (2, 2), .inr (2, 5), .inr (2, 2), .inr (2, 7), .inr (2, 5), .inr (2, 4), .inr (2, 4), .inr (0, 184), .inr (0, 184), .inr (0, 184), .inr (0, 4), .inr (0, 4), .inr (3, 608), .inr (0, 608), .inr (0, 2048), .inr (0, 38912), .inr (0, 155648), .inr (0, 2432), .inr (0, 2432), .inr (1, 2432), .inr (1, 2432), .inr (1, 2432), .inr (0, 2432), .inr (0, 2432), .inr (0, 2432), .inr (0, 2432), .inr (0, 2432), .inr (0, 2432), .inr (1, 2432), .inr (1, 2432), .inr (0, 2432), .inr (0, 2432), .inr (0, 608), .inr (0, 608), .inr (0, 2432), .inr (0, 608), .inr (0, 5), .inr (3, 20), .inr (0, 12), .inr (1, 608), .inr (1, 608), .inr (0, 130), .inr (0, 130)]
def RLX : List (List (Option Nat)) := [[some 1, some 3, some 5, some 7, some 24, some 48, some 55, some 59, some 63, some 64, some 65, some 93, some 116, none, none, none], [some 2, none], [], [some 4, none], [], [some 6, none], [], [some 8, some 11, some 12, some 13, some 14, some 15, some 16, some 20, none], [some 9, some 10], [], [], [], [], [], [], [], [none, none, some 17, some 18, some 19], [], [], [], [none, none, some 21, some 22, some 23], [], [], [], [none, none, some 25, some 28, some 29, some 30, some 31, some 32, some 33, some 34, some 35, some 36, some 37, some 38, some 39, some 40, some 44], [some 26, some 27], [], [], [], [], [], [], [], [], [], [], [], [], [], [], [none, none, some 41, some 42, some 43], [], [], [], [none, none, some 45, some 46, some 47], [], [], [], [some 49, some 50, none, none, some 51, some 52, some 53, none, none, some 54], [], [], [], [], [], [], [none, none, some 56, some 57, some 58], [], [], [], [none, none, some 60, some 61, some 62], [], [], [], [], [], [some 66, some 89, some 90, some 91, some 92, none, none, none, none], [none, some 67, some 68, none, none, some 69, none, some 70, some 71, some 72, none, none], [], [], [some 73, some 74, some 75, some 76, some 77, some 78, some 79, some 80, some 81, some 82, some 83, some 84, some 85, some 86, some 87, some 88], [], [], [], [], [], [], [], [], [], [], [], [], [], [], [], [], [], [], [], [], [], [], [], [none, some 94, some 95, none, none, some 96, none, some 97, some 98, some 99, none, none], [], [], [some 100, some 101, some 102, some 103, some 104, some 105, some 106, some 107, some 108, some 109, some 110, some 111, some 112, some 113, some 114, some 115], [], [], [], [], [], [], [], [], [], [], [], [], [], [], [], [], [], [], [], [some 24, some 129, some 93, none, some 117, some 118, some 119, some 120, some 121, some 122, some 123, some 124, some 125, some 126, some 127, some 128], [], [], [], [], [], [], [], [], [], [], [], [], [some 24, none, none, none, none, some 130, some 131, some 132, some 133, some 134, some 135, some 136, some 137, none, none, none], [], [], [], [], [], [], [], []]
def RLM : List (List (Option Nat)) := [[some 1, none, none, none, none, none, none, none, none, some 2, some 3, some 4, some 5, some 6, some 7, some 8, some 9, some 10, some 11, some 12, some 13, some 14, some 15, some 16, some 17, some 18, some 19, some 20, some 21, none, some 22, some 23, some 24, none, none, none, none, some 25, none, some 26, none, none, some 27, some 28, some 29, some 30, none, some 31, some 32, some 33, some 34, some 35, some 36, some 37, some 38, some 39, some 40, some 41, some 42, some 43, none, none, none, none, some 44, some 45, some 46, some 47, some 48, some 49, some 50, some 51, none, some 52, none, none, none, none, none, some 53, some 54, some 55, some 56, none, some 57], [], [], [], [], [], [], [], [], [], [], [], [], [], [], [], [], [], [], [], [], [], [], [], [], [], [], [], [], [], [], [], [], [], [], [], [], [], [], [], [], [], [], [], [], [], [], [], [], [], [], [], [], [], [], [], [], []]
def RX (T : Nat → Nat) : Nat → Nat → Option Nat := fun k j => if k = 0 ∧ j = 11 then some (T 0) else if k = 65 ∧ j = 0 then some (T 1) else if k = 116 ∧ j = 2 then some (T 2) else (RLX.getD k []).getD j none
def RM (_ : Nat → Nat) : Nat → Nat → Option Nat := fun k j => (RLM.getD k []).getD j none
def gX : zG := (SHX, RX)
def gM : zG := (SHM, RM)
theorem x_0 : gX.1[0]? = some (.inl 11) := rfl
theorem rc_x_0 (m : zM) : zrc (zh gX m) 0 "ProtocolAtlas" := Or.inl ⟨11, _, rfl, rfl, rfl⟩
theorem rx_0_0 (T : Nat → Nat) : gX.2 T 0 0 = some 1 := rfl
theorem rx_0_1 (T : Nat → Nat) : gX.2 T 0 1 = some 3 := rfl
theorem rx_0_2 (T : Nat → Nat) : gX.2 T 0 2 = some 5 := rfl
theorem rx_0_3 (T : Nat → Nat) : gX.2 T 0 3 = some 7 := rfl
theorem rx_0_4 (T : Nat → Nat) : gX.2 T 0 4 = some 24 := rfl
theorem rx_0_5 (T : Nat → Nat) : gX.2 T 0 5 = some 48 := rfl
theorem rx_0_6 (T : Nat → Nat) : gX.2 T 0 6 = some 55 := rfl
theorem rx_0_7 (T : Nat → Nat) : gX.2 T 0 7 = some 59 := rfl
theorem rx_0_8 (T : Nat → Nat) : gX.2 T 0 8 = some 63 := rfl
theorem rx_0_9 (T : Nat → Nat) : gX.2 T 0 9 = some 64 := rfl
theorem rx_0_10 (T : Nat → Nat) : gX.2 T 0 10 = some 65 := rfl
theorem rx_0_12 (T : Nat → Nat) : gX.2 T 0 12 = some 116 := rfl
theorem x_1 : gX.1[1]? = some (.inl 1) := rfl
theorem x_2 : gX.1[2]? = some (.inr (0, 1600)) := rfl
theorem x_2z : gX.1[2]? = some (.inr (0, zlen gX 2)) := rfl
theorem x_3 : gX.1[3]? = some (.inl 1) := rfl
theorem x_4 : gX.1[4]? = some (.inr (0, 1600)) := rfl
theorem x_4z : gX.1[4]? = some (.inr (0, zlen gX 4)) := rfl
theorem x_5 : gX.1[5]? = some (.inl 1) := rfl
theorem x_6 : gX.1[6]? = some (.inr (0, 1600)) := rfl
theorem x_6z : gX.1[6]? = some (.inr (0, zlen gX 6)) := rfl
theorem x_7 : gX.1[7]? = some (.inl 6) := rfl
theorem rc_x_7 (m : zM) : zrc (zh gX m) 7 "ProtocolAtlas$Search" := Or.inl ⟨6, _, rfl, rfl, rfl⟩
theorem rx_7_0 (T : Nat → Nat) : gX.2 T 7 0 = some 8 := rfl
theorem rx_7_1 (T : Nat → Nat) : gX.2 T 7 1 = some 11 := rfl
theorem rx_7_2 (T : Nat → Nat) : gX.2 T 7 2 = some 12 := rfl
theorem rx_7_3 (T : Nat → Nat) : gX.2 T 7 3 = some 13 := rfl
theorem rx_7_4 (T : Nat → Nat) : gX.2 T 7 4 = some 14 := rfl
theorem rx_7_5 (T : Nat → Nat) : gX.2 T 7 5 = some 15 := rfl
theorem rx_7_6 (T : Nat → Nat) : gX.2 T 7 6 = some 16 := rfl
theorem rx_7_7 (T : Nat → Nat) : gX.2 T 7 7 = some 20 := rfl
theorem x_8 : gX.1[8]? = some (.inl 2) := rfl
theorem x_9 : gX.1[9]? = some (.inr (3, 2048)) := rfl
theorem x_9z : gX.1[9]? = some (.inr (3, zlen gX 9)) := rfl
theorem x_10 : gX.1[10]? = some (.inr (0, 2048)) := rfl
theorem x_10z : gX.1[10]? = some (.inr (0, zlen gX 10)) := rfl
theorem x_11 : gX.1[11]? = some (.inr (3, 600)) := rfl
theorem x_11z : gX.1[11]? = some (.inr (3, zlen gX 11)) := rfl
theorem x_12 : gX.1[12]? = some (.inr (3, 600)) := rfl
theorem x_12z : gX.1[12]? = some (.inr (3, zlen gX 12)) := rfl
theorem x_13 : gX.1[13]? = some (.inr (0, 600)) := rfl
theorem x_13z : gX.1[13]? = some (.inr (0, zlen gX 13)) := rfl
theorem x_14 : gX.1[14]? = some (.inr (0, 600)) := rfl
theorem x_14z : gX.1[14]? = some (.inr (0, zlen gX 14)) := rfl
theorem x_15 : gX.1[15]? = some (.inr (0, 600)) := rfl
theorem x_15z : gX.1[15]? = some (.inr (0, zlen gX 15)) := rfl
theorem x_16 : gX.1[16]? = some (.inl 10) := rfl
theorem x_17 : gX.1[17]? = some (.inr (0, 4)) := rfl
theorem x_17z : gX.1[17]? = some (.inr (0, zlen gX 17)) := rfl
theorem x_18 : gX.1[18]? = some (.inr (0, 4)) := rfl
theorem x_18z : gX.1[18]? = some (.inr (0, zlen gX 18)) := rfl
theorem x_19 : gX.1[19]? = some (.inr (0, 4)) := rfl
theorem x_19z : gX.1[19]? = some (.inr (0, zlen gX 19)) := rfl
theorem x_20 : gX.1[20]? = some (.inl 10) := rfl
theorem x_21 : gX.1[21]? = some (.inr (0, 4)) := rfl
theorem x_21z : gX.1[21]? = some (.inr (0, zlen gX 21)) := rfl
theorem x_22 : gX.1[22]? = some (.inr (0, 4)) := rfl
theorem x_22z : gX.1[22]? = some (.inr (0, zlen gX 22)) := rfl
theorem x_23 : gX.1[23]? = some (.inr (0, 4)) := rfl
theorem x_23z : gX.1[23]? = some (.inr (0, zlen gX 23)) := rfl
theorem x_24 : gX.1[24]? = some (.inl 0) := rfl
theorem rc_x_24 (m : zM) : zrc (zh gX m) 24 "ProtocolAtlas$Atlas" := Or.inl ⟨0, _, rfl, rfl, rfl⟩
theorem rx_24_2 (T : Nat → Nat) : gX.2 T 24 2 = some 25 := rfl
theorem rx_24_3 (T : Nat → Nat) : gX.2 T 24 3 = some 28 := rfl
theorem rx_24_4 (T : Nat → Nat) : gX.2 T 24 4 = some 29 := rfl
theorem rx_24_5 (T : Nat → Nat) : gX.2 T 24 5 = some 30 := rfl
theorem rx_24_6 (T : Nat → Nat) : gX.2 T 24 6 = some 31 := rfl
theorem rx_24_7 (T : Nat → Nat) : gX.2 T 24 7 = some 32 := rfl
theorem rx_24_8 (T : Nat → Nat) : gX.2 T 24 8 = some 33 := rfl
theorem rx_24_9 (T : Nat → Nat) : gX.2 T 24 9 = some 34 := rfl
theorem rx_24_10 (T : Nat → Nat) : gX.2 T 24 10 = some 35 := rfl
theorem rx_24_11 (T : Nat → Nat) : gX.2 T 24 11 = some 36 := rfl
theorem rx_24_12 (T : Nat → Nat) : gX.2 T 24 12 = some 37 := rfl
theorem rx_24_13 (T : Nat → Nat) : gX.2 T 24 13 = some 38 := rfl
theorem rx_24_14 (T : Nat → Nat) : gX.2 T 24 14 = some 39 := rfl
theorem rx_24_15 (T : Nat → Nat) : gX.2 T 24 15 = some 40 := rfl
theorem rx_24_16 (T : Nat → Nat) : gX.2 T 24 16 = some 44 := rfl
theorem x_25 : gX.1[25]? = some (.inl 2) := rfl
theorem x_26 : gX.1[26]? = some (.inr (3, 2048)) := rfl
theorem x_26z : gX.1[26]? = some (.inr (3, zlen gX 26)) := rfl
theorem x_27 : gX.1[27]? = some (.inr (0, 2048)) := rfl
theorem x_27z : gX.1[27]? = some (.inr (0, zlen gX 27)) := rfl
theorem x_28 : gX.1[28]? = some (.inr (3, 600)) := rfl
theorem x_28z : gX.1[28]? = some (.inr (3, zlen gX 28)) := rfl
theorem x_29 : gX.1[29]? = some (.inr (0, 600)) := rfl
theorem x_29z : gX.1[29]? = some (.inr (0, zlen gX 29)) := rfl
theorem x_30 : gX.1[30]? = some (.inr (0, 600)) := rfl
theorem x_30z : gX.1[30]? = some (.inr (0, zlen gX 30)) := rfl
theorem x_31 : gX.1[31]? = some (.inr (0, 600)) := rfl
theorem x_31z : gX.1[31]? = some (.inr (0, zlen gX 31)) := rfl
theorem x_32 : gX.1[32]? = some (.inr (0, 600)) := rfl
theorem x_32z : gX.1[32]? = some (.inr (0, zlen gX 32)) := rfl
theorem x_33 : gX.1[33]? = some (.inr (1, 600)) := rfl
theorem x_33z : gX.1[33]? = some (.inr (1, zlen gX 33)) := rfl
theorem x_34 : gX.1[34]? = some (.inr (0, 2400)) := rfl
theorem x_34z : gX.1[34]? = some (.inr (0, zlen gX 34)) := rfl
theorem x_35 : gX.1[35]? = some (.inr (0, 2400)) := rfl
theorem x_35z : gX.1[35]? = some (.inr (0, zlen gX 35)) := rfl
theorem x_36 : gX.1[36]? = some (.inr (0, 601)) := rfl
theorem x_36z : gX.1[36]? = some (.inr (0, zlen gX 36)) := rfl
theorem x_37 : gX.1[37]? = some (.inr (0, 38400)) := rfl
theorem x_37z : gX.1[37]? = some (.inr (0, zlen gX 37)) := rfl
theorem x_38 : gX.1[38]? = some (.inr (0, 600)) := rfl
theorem x_38z : gX.1[38]? = some (.inr (0, zlen gX 38)) := rfl
theorem x_39 : gX.1[39]? = some (.inr (0, 600)) := rfl
theorem x_39z : gX.1[39]? = some (.inr (0, zlen gX 39)) := rfl
theorem x_40 : gX.1[40]? = some (.inl 10) := rfl
theorem x_41 : gX.1[41]? = some (.inr (0, 4)) := rfl
theorem x_41z : gX.1[41]? = some (.inr (0, zlen gX 41)) := rfl
theorem x_42 : gX.1[42]? = some (.inr (0, 4)) := rfl
theorem x_42z : gX.1[42]? = some (.inr (0, zlen gX 42)) := rfl
theorem x_43 : gX.1[43]? = some (.inr (0, 4)) := rfl
theorem x_43z : gX.1[43]? = some (.inr (0, zlen gX 43)) := rfl
theorem x_44 : gX.1[44]? = some (.inl 10) := rfl
theorem x_45 : gX.1[45]? = some (.inr (0, 4)) := rfl
theorem x_45z : gX.1[45]? = some (.inr (0, zlen gX 45)) := rfl
theorem x_46 : gX.1[46]? = some (.inr (0, 4)) := rfl
theorem x_46z : gX.1[46]? = some (.inr (0, zlen gX 46)) := rfl
theorem x_47 : gX.1[47]? = some (.inr (0, 4)) := rfl
theorem x_47z : gX.1[47]? = some (.inr (0, zlen gX 47)) := rfl
theorem x_48 : gX.1[48]? = some (.inl 7) := rfl
theorem rc_x_48 (m : zM) : zrc (zh gX m) 48 "ProtocolAtlas$Sight" := Or.inl ⟨7, _, rfl, rfl, rfl⟩
theorem rx_48_0 (T : Nat → Nat) : gX.2 T 48 0 = some 49 := rfl
theorem rx_48_1 (T : Nat → Nat) : gX.2 T 48 1 = some 50 := rfl
theorem rx_48_4 (T : Nat → Nat) : gX.2 T 48 4 = some 51 := rfl
theorem rx_48_5 (T : Nat → Nat) : gX.2 T 48 5 = some 52 := rfl
theorem rx_48_6 (T : Nat → Nat) : gX.2 T 48 6 = some 53 := rfl
theorem rx_48_9 (T : Nat → Nat) : gX.2 T 48 9 = some 54 := rfl
theorem x_49 : gX.1[49]? = some (.inr (0, 6)) := rfl
theorem x_49z : gX.1[49]? = some (.inr (0, zlen gX 49)) := rfl
theorem x_50 : gX.1[50]? = some (.inr (0, 6)) := rfl
theorem x_50z : gX.1[50]? = some (.inr (0, zlen gX 50)) := rfl
theorem x_51 : gX.1[51]? = some (.inr (1, 600)) := rfl
theorem x_51z : gX.1[51]? = some (.inr (1, zlen gX 51)) := rfl
theorem x_52 : gX.1[52]? = some (.inr (1, 600)) := rfl
theorem x_52z : gX.1[52]? = some (.inr (1, zlen gX 52)) := rfl
theorem x_53 : gX.1[53]? = some (.inr (0, 600)) := rfl
theorem x_53z : gX.1[53]? = some (.inr (0, zlen gX 53)) := rfl
theorem x_54 : gX.1[54]? = some (.inr (0, 5)) := rfl
theorem x_54z : gX.1[54]? = some (.inr (0, zlen gX 54)) := rfl
theorem x_55 : gX.1[55]? = some (.inl 10) := rfl
theorem x_56 : gX.1[56]? = some (.inr (0, 4)) := rfl
theorem x_56z : gX.1[56]? = some (.inr (0, zlen gX 56)) := rfl
theorem x_57 : gX.1[57]? = some (.inr (0, 4)) := rfl
theorem x_57z : gX.1[57]? = some (.inr (0, zlen gX 57)) := rfl
theorem x_58 : gX.1[58]? = some (.inr (0, 4)) := rfl
theorem x_58z : gX.1[58]? = some (.inr (0, zlen gX 58)) := rfl
theorem x_59 : gX.1[59]? = some (.inl 10) := rfl
theorem x_60 : gX.1[60]? = some (.inr (0, 4)) := rfl
theorem x_60z : gX.1[60]? = some (.inr (0, zlen gX 60)) := rfl
theorem x_61 : gX.1[61]? = some (.inr (0, 4)) := rfl
theorem x_61z : gX.1[61]? = some (.inr (0, zlen gX 61)) := rfl
theorem x_62 : gX.1[62]? = some (.inr (0, 4)) := rfl
theorem x_62z : gX.1[62]? = some (.inr (0, zlen gX 62)) := rfl
theorem x_63 : gX.1[63]? = some (.inr (3, 20)) := rfl
theorem x_63z : gX.1[63]? = some (.inr (3, zlen gX 63)) := rfl
theorem x_64 : gX.1[64]? = some (.inr (0, 6)) := rfl
theorem x_64z : gX.1[64]? = some (.inr (0, zlen gX 64)) := rfl
theorem x_65 : gX.1[65]? = some (.inl 4) := rfl
theorem rc_x_65 (m : zM) : zrc (zh gX m) 65 "ProtocolAtlas$Reader" := Or.inl ⟨4, _, rfl, rfl, rfl⟩
theorem rx_65_1 (T : Nat → Nat) : gX.2 T 65 1 = some 89 := rfl
theorem rx_65_2 (T : Nat → Nat) : gX.2 T 65 2 = some 90 := rfl
theorem rx_65_3 (T : Nat → Nat) : gX.2 T 65 3 = some 91 := rfl
theorem rx_65_4 (T : Nat → Nat) : gX.2 T 65 4 = some 92 := rfl
theorem x_66 : gX.1[66]? = some (.inl 9) := rfl
theorem x_67 : gX.1[67]? = some (.inr (0, 3)) := rfl
theorem x_67z : gX.1[67]? = some (.inr (0, zlen gX 67)) := rfl
theorem x_68 : gX.1[68]? = some (.inr (0, 18)) := rfl
theorem x_68z : gX.1[68]? = some (.inr (0, zlen gX 68)) := rfl
theorem x_69 : gX.1[69]? = some (.inr (4, 16)) := rfl
theorem x_70 : gX.1[70]? = some (.inr (0, 4)) := rfl
theorem x_70z : gX.1[70]? = some (.inr (0, zlen gX 70)) := rfl
theorem x_71 : gX.1[71]? = some (.inr (0, 12)) := rfl
theorem x_71z : gX.1[71]? = some (.inr (0, zlen gX 71)) := rfl
theorem x_72 : gX.1[72]? = some (.inr (0, 12)) := rfl
theorem x_72z : gX.1[72]? = some (.inr (0, zlen gX 72)) := rfl
theorem x_73 : gX.1[73]? = some (.inl 5) := rfl
theorem x_74 : gX.1[74]? = some (.inl 5) := rfl
theorem x_75 : gX.1[75]? = some (.inl 5) := rfl
theorem x_76 : gX.1[76]? = some (.inl 5) := rfl
theorem x_77 : gX.1[77]? = some (.inl 5) := rfl
theorem x_78 : gX.1[78]? = some (.inl 5) := rfl
theorem x_79 : gX.1[79]? = some (.inl 5) := rfl
theorem x_80 : gX.1[80]? = some (.inl 5) := rfl
theorem x_81 : gX.1[81]? = some (.inl 5) := rfl
theorem x_82 : gX.1[82]? = some (.inl 5) := rfl
theorem x_83 : gX.1[83]? = some (.inl 5) := rfl
theorem x_84 : gX.1[84]? = some (.inl 5) := rfl
theorem x_85 : gX.1[85]? = some (.inl 5) := rfl
theorem x_86 : gX.1[86]? = some (.inl 5) := rfl
theorem x_87 : gX.1[87]? = some (.inl 5) := rfl
theorem x_88 : gX.1[88]? = some (.inl 5) := rfl
theorem x_89 : gX.1[89]? = some (.inr (0, 1601)) := rfl
theorem x_89z : gX.1[89]? = some (.inr (0, zlen gX 89)) := rfl
theorem x_90 : gX.1[90]? = some (.inr (0, 1601)) := rfl
theorem x_90z : gX.1[90]? = some (.inr (0, zlen gX 90)) := rfl
theorem x_91 : gX.1[91]? = some (.inr (0, 1601)) := rfl
theorem x_91z : gX.1[91]? = some (.inr (0, zlen gX 91)) := rfl
theorem x_92 : gX.1[92]? = some (.inr (3, 1601)) := rfl
theorem x_92z : gX.1[92]? = some (.inr (3, zlen gX 92)) := rfl
theorem x_93 : gX.1[93]? = some (.inl 9) := rfl
theorem x_94 : gX.1[94]? = some (.inr (0, 3)) := rfl
theorem x_94z : gX.1[94]? = some (.inr (0, zlen gX 94)) := rfl
theorem x_95 : gX.1[95]? = some (.inr (0, 18)) := rfl
theorem x_95z : gX.1[95]? = some (.inr (0, zlen gX 95)) := rfl
theorem x_96 : gX.1[96]? = some (.inr (4, 16)) := rfl
theorem x_97 : gX.1[97]? = some (.inr (0, 4)) := rfl
theorem x_97z : gX.1[97]? = some (.inr (0, zlen gX 97)) := rfl
theorem x_98 : gX.1[98]? = some (.inr (0, 12)) := rfl
theorem x_98z : gX.1[98]? = some (.inr (0, zlen gX 98)) := rfl
theorem x_99 : gX.1[99]? = some (.inr (0, 12)) := rfl
theorem x_99z : gX.1[99]? = some (.inr (0, zlen gX 99)) := rfl
theorem x_100 : gX.1[100]? = some (.inl 5) := rfl
theorem x_101 : gX.1[101]? = some (.inl 5) := rfl
theorem x_102 : gX.1[102]? = some (.inl 5) := rfl
theorem x_103 : gX.1[103]? = some (.inl 5) := rfl
theorem x_104 : gX.1[104]? = some (.inl 5) := rfl
theorem x_105 : gX.1[105]? = some (.inl 5) := rfl
theorem x_106 : gX.1[106]? = some (.inl 5) := rfl
theorem x_107 : gX.1[107]? = some (.inl 5) := rfl
theorem x_108 : gX.1[108]? = some (.inl 5) := rfl
theorem x_109 : gX.1[109]? = some (.inl 5) := rfl
theorem x_110 : gX.1[110]? = some (.inl 5) := rfl
theorem x_111 : gX.1[111]? = some (.inl 5) := rfl
theorem x_112 : gX.1[112]? = some (.inl 5) := rfl
theorem x_113 : gX.1[113]? = some (.inl 5) := rfl
theorem x_114 : gX.1[114]? = some (.inl 5) := rfl
theorem x_115 : gX.1[115]? = some (.inl 5) := rfl
theorem x_116 : gX.1[116]? = some (.inl 8) := rfl
theorem rc_x_116 (m : zM) : zrc (zh gX m) 116 "ProtocolAtlas$Study" := Or.inl ⟨8, _, rfl, rfl, rfl⟩
theorem rx_116_0 (T : Nat → Nat) : gX.2 T 116 0 = some 24 := rfl
theorem rx_116_1 (T : Nat → Nat) : gX.2 T 116 1 = some 129 := rfl
theorem rx_116_4 (T : Nat → Nat) : gX.2 T 116 4 = some 117 := rfl
theorem rx_116_5 (T : Nat → Nat) : gX.2 T 116 5 = some 118 := rfl
theorem rx_116_6 (T : Nat → Nat) : gX.2 T 116 6 = some 119 := rfl
theorem rx_116_7 (T : Nat → Nat) : gX.2 T 116 7 = some 120 := rfl
theorem rx_116_8 (T : Nat → Nat) : gX.2 T 116 8 = some 121 := rfl
theorem rx_116_9 (T : Nat → Nat) : gX.2 T 116 9 = some 122 := rfl
theorem rx_116_10 (T : Nat → Nat) : gX.2 T 116 10 = some 123 := rfl
theorem rx_116_11 (T : Nat → Nat) : gX.2 T 116 11 = some 124 := rfl
theorem rx_116_12 (T : Nat → Nat) : gX.2 T 116 12 = some 125 := rfl
theorem rx_116_13 (T : Nat → Nat) : gX.2 T 116 13 = some 126 := rfl
theorem rx_116_14 (T : Nat → Nat) : gX.2 T 116 14 = some 127 := rfl
theorem rx_116_15 (T : Nat → Nat) : gX.2 T 116 15 = some 128 := rfl
theorem x_117 : gX.1[117]? = some (.inr (0, 600)) := rfl
theorem x_117z : gX.1[117]? = some (.inr (0, zlen gX 117)) := rfl
theorem x_118 : gX.1[118]? = some (.inr (0, 600)) := rfl
theorem x_118z : gX.1[118]? = some (.inr (0, zlen gX 118)) := rfl
theorem x_119 : gX.1[119]? = some (.inr (0, 600)) := rfl
theorem x_119z : gX.1[119]? = some (.inr (0, zlen gX 119)) := rfl
theorem x_120 : gX.1[120]? = some (.inr (1, 600)) := rfl
theorem x_120z : gX.1[120]? = some (.inr (1, zlen gX 120)) := rfl
theorem x_121 : gX.1[121]? = some (.inr (0, 600)) := rfl
theorem x_121z : gX.1[121]? = some (.inr (0, zlen gX 121)) := rfl
theorem x_122 : gX.1[122]? = some (.inr (1, 2400)) := rfl
theorem x_122z : gX.1[122]? = some (.inr (1, zlen gX 122)) := rfl
theorem x_123 : gX.1[123]? = some (.inr (1, 2400)) := rfl
theorem x_123z : gX.1[123]? = some (.inr (1, zlen gX 123)) := rfl
theorem x_124 : gX.1[124]? = some (.inr (1, 2400)) := rfl
theorem x_124z : gX.1[124]? = some (.inr (1, zlen gX 124)) := rfl
theorem x_125 : gX.1[125]? = some (.inr (1, 600)) := rfl
theorem x_125z : gX.1[125]? = some (.inr (1, zlen gX 125)) := rfl
theorem x_126 : gX.1[126]? = some (.inr (0, 600)) := rfl
theorem x_126z : gX.1[126]? = some (.inr (0, zlen gX 126)) := rfl
theorem x_127 : gX.1[127]? = some (.inr (1, 16)) := rfl
theorem x_127z : gX.1[127]? = some (.inr (1, zlen gX 127)) := rfl
theorem x_128 : gX.1[128]? = some (.inr (0, 80)) := rfl
theorem x_128z : gX.1[128]? = some (.inr (0, zlen gX 128)) := rfl
theorem x_129 : gX.1[129]? = some (.inl 3) := rfl
theorem rc_x_129 (m : zM) : zrc (zh gX m) 129 "ProtocolAtlas$Joined" := Or.inl ⟨3, _, rfl, rfl, rfl⟩
theorem rx_129_0 (T : Nat → Nat) : gX.2 T 129 0 = some 24 := rfl
theorem rx_129_5 (T : Nat → Nat) : gX.2 T 129 5 = some 130 := rfl
theorem rx_129_6 (T : Nat → Nat) : gX.2 T 129 6 = some 131 := rfl
theorem rx_129_7 (T : Nat → Nat) : gX.2 T 129 7 = some 132 := rfl
theorem rx_129_8 (T : Nat → Nat) : gX.2 T 129 8 = some 133 := rfl
theorem rx_129_9 (T : Nat → Nat) : gX.2 T 129 9 = some 134 := rfl
theorem rx_129_10 (T : Nat → Nat) : gX.2 T 129 10 = some 135 := rfl
theorem rx_129_11 (T : Nat → Nat) : gX.2 T 129 11 = some 136 := rfl
theorem rx_129_12 (T : Nat → Nat) : gX.2 T 129 12 = some 137 := rfl
theorem x_130 : gX.1[130]? = some (.inr (0, 2400)) := rfl
theorem x_130z : gX.1[130]? = some (.inr (0, zlen gX 130)) := rfl
theorem x_131 : gX.1[131]? = some (.inr (0, 2401)) := rfl
theorem x_131z : gX.1[131]? = some (.inr (0, zlen gX 131)) := rfl
theorem x_132 : gX.1[132]? = some (.inr (0, 2400)) := rfl
theorem x_132z : gX.1[132]? = some (.inr (0, zlen gX 132)) := rfl
theorem x_133 : gX.1[133]? = some (.inr (0, 2400)) := rfl
theorem x_133z : gX.1[133]? = some (.inr (0, zlen gX 133)) := rfl
theorem x_134 : gX.1[134]? = some (.inr (0, 2400)) := rfl
theorem x_134z : gX.1[134]? = some (.inr (0, zlen gX 134)) := rfl
theorem x_135 : gX.1[135]? = some (.inr (0, 2400)) := rfl
theorem x_135z : gX.1[135]? = some (.inr (0, zlen gX 135)) := rfl
theorem x_136 : gX.1[136]? = some (.inr (0, 2400)) := rfl
theorem x_136z : gX.1[136]? = some (.inr (0, zlen gX 136)) := rfl
theorem x_137 : gX.1[137]? = some (.inr (0, 2400)) := rfl
theorem x_137z : gX.1[137]? = some (.inr (0, zlen gX 137)) := rfl
theorem m_0 : gM.1[0]? = some (.inl 12) := rfl
theorem rc_m_0 (m : zM) : zrc (zh gM m) 0 "ProtocolAtlasModel" := Or.inl ⟨12, _, rfl, rfl, rfl⟩
theorem rm_0_0 (T : Nat → Nat) : gM.2 T 0 0 = some 1 := rfl
theorem rm_0_9 (T : Nat → Nat) : gM.2 T 0 9 = some 2 := rfl
theorem rm_0_10 (T : Nat → Nat) : gM.2 T 0 10 = some 3 := rfl
theorem rm_0_11 (T : Nat → Nat) : gM.2 T 0 11 = some 4 := rfl
theorem rm_0_12 (T : Nat → Nat) : gM.2 T 0 12 = some 5 := rfl
theorem rm_0_13 (T : Nat → Nat) : gM.2 T 0 13 = some 6 := rfl
theorem rm_0_14 (T : Nat → Nat) : gM.2 T 0 14 = some 7 := rfl
theorem rm_0_15 (T : Nat → Nat) : gM.2 T 0 15 = some 8 := rfl
theorem rm_0_16 (T : Nat → Nat) : gM.2 T 0 16 = some 9 := rfl
theorem rm_0_17 (T : Nat → Nat) : gM.2 T 0 17 = some 10 := rfl
theorem rm_0_18 (T : Nat → Nat) : gM.2 T 0 18 = some 11 := rfl
theorem rm_0_19 (T : Nat → Nat) : gM.2 T 0 19 = some 12 := rfl
theorem rm_0_20 (T : Nat → Nat) : gM.2 T 0 20 = some 13 := rfl
theorem rm_0_21 (T : Nat → Nat) : gM.2 T 0 21 = some 14 := rfl
theorem rm_0_22 (T : Nat → Nat) : gM.2 T 0 22 = some 15 := rfl
theorem rm_0_23 (T : Nat → Nat) : gM.2 T 0 23 = some 16 := rfl
theorem rm_0_24 (T : Nat → Nat) : gM.2 T 0 24 = some 17 := rfl
theorem rm_0_25 (T : Nat → Nat) : gM.2 T 0 25 = some 18 := rfl
theorem rm_0_26 (T : Nat → Nat) : gM.2 T 0 26 = some 19 := rfl
theorem rm_0_27 (T : Nat → Nat) : gM.2 T 0 27 = some 20 := rfl
theorem rm_0_28 (T : Nat → Nat) : gM.2 T 0 28 = some 21 := rfl
theorem rm_0_30 (T : Nat → Nat) : gM.2 T 0 30 = some 22 := rfl
theorem rm_0_31 (T : Nat → Nat) : gM.2 T 0 31 = some 23 := rfl
theorem rm_0_32 (T : Nat → Nat) : gM.2 T 0 32 = some 24 := rfl
theorem rm_0_37 (T : Nat → Nat) : gM.2 T 0 37 = some 25 := rfl
theorem rm_0_39 (T : Nat → Nat) : gM.2 T 0 39 = some 26 := rfl
theorem rm_0_42 (T : Nat → Nat) : gM.2 T 0 42 = some 27 := rfl
theorem rm_0_43 (T : Nat → Nat) : gM.2 T 0 43 = some 28 := rfl
theorem rm_0_44 (T : Nat → Nat) : gM.2 T 0 44 = some 29 := rfl
theorem rm_0_45 (T : Nat → Nat) : gM.2 T 0 45 = some 30 := rfl
theorem rm_0_47 (T : Nat → Nat) : gM.2 T 0 47 = some 31 := rfl
theorem rm_0_48 (T : Nat → Nat) : gM.2 T 0 48 = some 32 := rfl
theorem rm_0_49 (T : Nat → Nat) : gM.2 T 0 49 = some 33 := rfl
theorem rm_0_50 (T : Nat → Nat) : gM.2 T 0 50 = some 34 := rfl
theorem rm_0_51 (T : Nat → Nat) : gM.2 T 0 51 = some 35 := rfl
theorem rm_0_52 (T : Nat → Nat) : gM.2 T 0 52 = some 36 := rfl
theorem rm_0_53 (T : Nat → Nat) : gM.2 T 0 53 = some 37 := rfl
theorem rm_0_54 (T : Nat → Nat) : gM.2 T 0 54 = some 38 := rfl
theorem rm_0_55 (T : Nat → Nat) : gM.2 T 0 55 = some 39 := rfl
theorem rm_0_56 (T : Nat → Nat) : gM.2 T 0 56 = some 40 := rfl
theorem rm_0_57 (T : Nat → Nat) : gM.2 T 0 57 = some 41 := rfl
theorem rm_0_58 (T : Nat → Nat) : gM.2 T 0 58 = some 42 := rfl
theorem rm_0_59 (T : Nat → Nat) : gM.2 T 0 59 = some 43 := rfl
theorem rm_0_64 (T : Nat → Nat) : gM.2 T 0 64 = some 44 := rfl
theorem rm_0_65 (T : Nat → Nat) : gM.2 T 0 65 = some 45 := rfl
theorem rm_0_66 (T : Nat → Nat) : gM.2 T 0 66 = some 46 := rfl
theorem rm_0_67 (T : Nat → Nat) : gM.2 T 0 67 = some 47 := rfl
theorem rm_0_68 (T : Nat → Nat) : gM.2 T 0 68 = some 48 := rfl
theorem rm_0_69 (T : Nat → Nat) : gM.2 T 0 69 = some 49 := rfl
theorem rm_0_70 (T : Nat → Nat) : gM.2 T 0 70 = some 50 := rfl
theorem rm_0_71 (T : Nat → Nat) : gM.2 T 0 71 = some 51 := rfl
theorem rm_0_73 (T : Nat → Nat) : gM.2 T 0 73 = some 52 := rfl
theorem rm_0_79 (T : Nat → Nat) : gM.2 T 0 79 = some 53 := rfl
theorem rm_0_80 (T : Nat → Nat) : gM.2 T 0 80 = some 54 := rfl
theorem rm_0_81 (T : Nat → Nat) : gM.2 T 0 81 = some 55 := rfl
theorem rm_0_82 (T : Nat → Nat) : gM.2 T 0 82 = some 56 := rfl
theorem rm_0_84 (T : Nat → Nat) : gM.2 T 0 84 = some 57 := rfl
theorem m_1 : gM.1[1]? = some (.inr (0, 1600)) := rfl
theorem m_1z : gM.1[1]? = some (.inr (0, zlen gM 1)) := rfl
theorem m_2 : gM.1[2]? = some (.inr (0, 6)) := rfl
theorem m_2z : gM.1[2]? = some (.inr (0, zlen gM 2)) := rfl
theorem m_3 : gM.1[3]? = some (.inr (2, 6)) := rfl
theorem m_3z : gM.1[3]? = some (.inr (2, zlen gM 3)) := rfl
theorem m_4 : gM.1[4]? = some (.inr (2, 6)) := rfl
theorem m_4z : gM.1[4]? = some (.inr (2, zlen gM 4)) := rfl
theorem m_5 : gM.1[5]? = some (.inr (2, 4)) := rfl
theorem m_5z : gM.1[5]? = some (.inr (2, zlen gM 5)) := rfl
theorem m_6 : gM.1[6]? = some (.inr (2, 8)) := rfl
theorem m_6z : gM.1[6]? = some (.inr (2, zlen gM 6)) := rfl
theorem m_7 : gM.1[7]? = some (.inr (2, 5)) := rfl
theorem m_7z : gM.1[7]? = some (.inr (2, zlen gM 7)) := rfl
theorem m_8 : gM.1[8]? = some (.inr (2, 4)) := rfl
theorem m_8z : gM.1[8]? = some (.inr (2, zlen gM 8)) := rfl
theorem m_9 : gM.1[9]? = some (.inr (2, 5)) := rfl
theorem m_9z : gM.1[9]? = some (.inr (2, zlen gM 9)) := rfl
theorem m_10 : gM.1[10]? = some (.inr (2, 5)) := rfl
theorem m_10z : gM.1[10]? = some (.inr (2, zlen gM 10)) := rfl
theorem m_11 : gM.1[11]? = some (.inr (2, 3)) := rfl
theorem m_11z : gM.1[11]? = some (.inr (2, zlen gM 11)) := rfl
theorem m_12 : gM.1[12]? = some (.inr (2, 5)) := rfl
theorem m_12z : gM.1[12]? = some (.inr (2, zlen gM 12)) := rfl
theorem m_13 : gM.1[13]? = some (.inr (2, 2)) := rfl
theorem m_13z : gM.1[13]? = some (.inr (2, zlen gM 13)) := rfl
theorem m_14 : gM.1[14]? = some (.inr (2, 4)) := rfl
theorem m_14z : gM.1[14]? = some (.inr (2, zlen gM 14)) := rfl
theorem m_15 : gM.1[15]? = some (.inr (2, 2)) := rfl
theorem m_15z : gM.1[15]? = some (.inr (2, zlen gM 15)) := rfl
theorem m_16 : gM.1[16]? = some (.inr (2, 5)) := rfl
theorem m_16z : gM.1[16]? = some (.inr (2, zlen gM 16)) := rfl
theorem m_17 : gM.1[17]? = some (.inr (2, 2)) := rfl
theorem m_17z : gM.1[17]? = some (.inr (2, zlen gM 17)) := rfl
theorem m_18 : gM.1[18]? = some (.inr (2, 7)) := rfl
theorem m_18z : gM.1[18]? = some (.inr (2, zlen gM 18)) := rfl
theorem m_19 : gM.1[19]? = some (.inr (2, 5)) := rfl
theorem m_19z : gM.1[19]? = some (.inr (2, zlen gM 19)) := rfl
theorem m_20 : gM.1[20]? = some (.inr (2, 4)) := rfl
theorem m_20z : gM.1[20]? = some (.inr (2, zlen gM 20)) := rfl
theorem m_21 : gM.1[21]? = some (.inr (2, 4)) := rfl
theorem m_21z : gM.1[21]? = some (.inr (2, zlen gM 21)) := rfl
theorem m_22 : gM.1[22]? = some (.inr (0, 184)) := rfl
theorem m_22z : gM.1[22]? = some (.inr (0, zlen gM 22)) := rfl
theorem m_23 : gM.1[23]? = some (.inr (0, 184)) := rfl
theorem m_23z : gM.1[23]? = some (.inr (0, zlen gM 23)) := rfl
theorem m_24 : gM.1[24]? = some (.inr (0, 184)) := rfl
theorem m_24z : gM.1[24]? = some (.inr (0, zlen gM 24)) := rfl
theorem m_25 : gM.1[25]? = some (.inr (0, 4)) := rfl
theorem m_25z : gM.1[25]? = some (.inr (0, zlen gM 25)) := rfl
theorem m_26 : gM.1[26]? = some (.inr (0, 4)) := rfl
theorem m_26z : gM.1[26]? = some (.inr (0, zlen gM 26)) := rfl
theorem m_27 : gM.1[27]? = some (.inr (3, 608)) := rfl
theorem m_27z : gM.1[27]? = some (.inr (3, zlen gM 27)) := rfl
theorem m_28 : gM.1[28]? = some (.inr (0, 608)) := rfl
theorem m_28z : gM.1[28]? = some (.inr (0, zlen gM 28)) := rfl
theorem m_29 : gM.1[29]? = some (.inr (0, 2048)) := rfl
theorem m_29z : gM.1[29]? = some (.inr (0, zlen gM 29)) := rfl
theorem m_30 : gM.1[30]? = some (.inr (0, 38912)) := rfl
theorem m_30z : gM.1[30]? = some (.inr (0, zlen gM 30)) := rfl
theorem m_31 : gM.1[31]? = some (.inr (0, 155648)) := rfl
theorem m_31z : gM.1[31]? = some (.inr (0, zlen gM 31)) := rfl
theorem m_32 : gM.1[32]? = some (.inr (0, 2432)) := rfl
theorem m_32z : gM.1[32]? = some (.inr (0, zlen gM 32)) := rfl
theorem m_33 : gM.1[33]? = some (.inr (0, 2432)) := rfl
theorem m_33z : gM.1[33]? = some (.inr (0, zlen gM 33)) := rfl
theorem m_34 : gM.1[34]? = some (.inr (1, 2432)) := rfl
theorem m_34z : gM.1[34]? = some (.inr (1, zlen gM 34)) := rfl
theorem m_35 : gM.1[35]? = some (.inr (1, 2432)) := rfl
theorem m_35z : gM.1[35]? = some (.inr (1, zlen gM 35)) := rfl
theorem m_36 : gM.1[36]? = some (.inr (1, 2432)) := rfl
theorem m_36z : gM.1[36]? = some (.inr (1, zlen gM 36)) := rfl
theorem m_37 : gM.1[37]? = some (.inr (0, 2432)) := rfl
theorem m_37z : gM.1[37]? = some (.inr (0, zlen gM 37)) := rfl
theorem m_38 : gM.1[38]? = some (.inr (0, 2432)) := rfl
theorem m_38z : gM.1[38]? = some (.inr (0, zlen gM 38)) := rfl
theorem m_39 : gM.1[39]? = some (.inr (0, 2432)) := rfl
theorem m_39z : gM.1[39]? = some (.inr (0, zlen gM 39)) := rfl
theorem m_40 : gM.1[40]? = some (.inr (0, 2432)) := rfl
theorem m_40z : gM.1[40]? = some (.inr (0, zlen gM 40)) := rfl
theorem m_41 : gM.1[41]? = some (.inr (0, 2432)) := rfl
theorem m_41z : gM.1[41]? = some (.inr (0, zlen gM 41)) := rfl
theorem m_42 : gM.1[42]? = some (.inr (0, 2432)) := rfl
theorem m_42z : gM.1[42]? = some (.inr (0, zlen gM 42)) := rfl
theorem m_43 : gM.1[43]? = some (.inr (1, 2432)) := rfl
theorem m_43z : gM.1[43]? = some (.inr (1, zlen gM 43)) := rfl
theorem m_44 : gM.1[44]? = some (.inr (1, 2432)) := rfl
theorem m_44z : gM.1[44]? = some (.inr (1, zlen gM 44)) := rfl
theorem m_45 : gM.1[45]? = some (.inr (0, 2432)) := rfl
theorem m_45z : gM.1[45]? = some (.inr (0, zlen gM 45)) := rfl
theorem m_46 : gM.1[46]? = some (.inr (0, 2432)) := rfl
theorem m_46z : gM.1[46]? = some (.inr (0, zlen gM 46)) := rfl
theorem m_47 : gM.1[47]? = some (.inr (0, 608)) := rfl
theorem m_47z : gM.1[47]? = some (.inr (0, zlen gM 47)) := rfl
theorem m_48 : gM.1[48]? = some (.inr (0, 608)) := rfl
theorem m_48z : gM.1[48]? = some (.inr (0, zlen gM 48)) := rfl
theorem m_49 : gM.1[49]? = some (.inr (0, 2432)) := rfl
theorem m_49z : gM.1[49]? = some (.inr (0, zlen gM 49)) := rfl
theorem m_50 : gM.1[50]? = some (.inr (0, 608)) := rfl
theorem m_50z : gM.1[50]? = some (.inr (0, zlen gM 50)) := rfl
theorem m_51 : gM.1[51]? = some (.inr (0, 5)) := rfl
theorem m_51z : gM.1[51]? = some (.inr (0, zlen gM 51)) := rfl
theorem m_52 : gM.1[52]? = some (.inr (3, 20)) := rfl
theorem m_52z : gM.1[52]? = some (.inr (3, zlen gM 52)) := rfl
theorem m_53 : gM.1[53]? = some (.inr (0, 12)) := rfl
theorem m_53z : gM.1[53]? = some (.inr (0, zlen gM 53)) := rfl
theorem m_54 : gM.1[54]? = some (.inr (1, 608)) := rfl
theorem m_54z : gM.1[54]? = some (.inr (1, zlen gM 54)) := rfl
theorem m_55 : gM.1[55]? = some (.inr (1, 608)) := rfl
theorem m_55z : gM.1[55]? = some (.inr (1, zlen gM 55)) := rfl
theorem m_56 : gM.1[56]? = some (.inr (0, 130)) := rfl
theorem m_56z : gM.1[56]? = some (.inr (0, zlen gM 56)) := rfl
theorem m_57 : gM.1[57]? = some (.inr (0, 130)) := rfl
theorem m_57z : gM.1[57]? = some (.inr (0, zlen gM 57)) := rfl
theorem ry_0 {m : zM} {t : Nat} (e : m.2.2 0 = t) : gX.2 m.2.2 0 11 = some t := by rw [← e]; rfl
theorem up_0 {x : Nat} (t : Nat → Nat) : (fun k j => if k = 0 ∧ j = 11 then some x else gX.2 t k j) = gX.2 (fun j => if j = 0 then x else t j) := by
  funext k j
  simp only [gX, RX]
  by_cases h1 : k = 0 ∧ j = 11
  · obtain ⟨rfl, rfl⟩ := h1
    simp
  · rw [if_neg h1]
    simp only [h1, if_false]
    first | rfl | simp
theorem ry_1 {m : zM} {t : Nat} (e : m.2.2 1 = t) : gX.2 m.2.2 65 0 = some t := by rw [← e]; rfl
theorem up_1 {x : Nat} (t : Nat → Nat) : (fun k j => if k = 65 ∧ j = 0 then some x else gX.2 t k j) = gX.2 (fun j => if j = 1 then x else t j) := by
  funext k j
  simp only [gX, RX]
  by_cases h1 : k = 65 ∧ j = 0
  · obtain ⟨rfl, rfl⟩ := h1
    simp
  · rw [if_neg h1]
    simp only [h1, if_false]
    first | rfl | simp
theorem ry_2 {m : zM} {t : Nat} (e : m.2.2 2 = t) : gX.2 m.2.2 116 2 = some t := by rw [← e]; rfl
theorem up_2 {x : Nat} (t : Nat → Nat) : (fun k j => if k = 116 ∧ j = 2 then some x else gX.2 t k j) = gX.2 (fun j => if j = 2 then x else t j) := by
  funext k j
  simp only [gX, RX]
  by_cases h1 : k = 116 ∧ j = 2
  · obtain ⟨rfl, rfl⟩ := h1
    simp
  · rw [if_neg h1]
    simp only [h1, if_false]
    first | rfl | simp
def li_Bytes : List Nat := [1, 3, 5]
theorem in_1 : 1 ∈ li_Bytes := by decide
theorem in_3 : 3 ∈ li_Bytes := by decide
theorem in_5 : 5 ∈ li_Bytes := by decide
theorem sx_Bytes : ∀ {w : Nat}, w ∈ li_Bytes → gX.1[w]? = some (.inl 1) := by
  intro w
  revert w
  exact (by decide +kernel : ∀ w ∈ li_Bytes, gX.1[w]? = some (.inl 1))
theorem rc_Bytes {w : Nat} (h : w ∈ li_Bytes) (m : zM) : zrc (zh gX m) w "ProtocolAtlas$Bytes" := Or.inl ⟨1, _, rfl, rfl, sx_Bytes h⟩
theorem sa_Bytes_0 : ∀ {w : Nat}, w ∈ li_Bytes → gX.1[w + 1]? = some (.inr (0, 1600)) := by
  intro w
  revert w
  exact (by decide +kernel : ∀ w ∈ li_Bytes, gX.1[w + 1]? = some (.inr (0, 1600)))
theorem sa_Bytes_0z : ∀ {w : Nat}, w ∈ li_Bytes → gX.1[w + 1]? = some (.inr (0, zlen gX (w + 1))) := by
  intro w
  revert w
  exact (by decide +kernel : ∀ w ∈ li_Bytes, gX.1[w + 1]? = some (.inr (0, zlen gX (w + 1))))
theorem ro_Bytes_0 {w : Nat} (h : w ∈ li_Bytes) (T : Nat → Nat) : gX.2 T w 0 = some (w + 1) := by
  have h1 : ∀ w ∈ li_Bytes, (¬ (w = 0 ∧ 0 = 11) ∧ ¬ (w = 65 ∧ 0 = 0) ∧ ¬ (w = 116 ∧ 0 = 2)) ∧ (RLX.getD w []).getD 0 none = some (w + 1) := by decide +kernel
  obtain ⟨⟨a, b, c⟩, d⟩ := h1 w h
  show RX T _ _ = _
  unfold RX
  rw [if_neg a, if_neg b, if_neg c]
  exact d
def li_Index : List Nat := [8, 25]
theorem in_8 : 8 ∈ li_Index := by decide
theorem in_25 : 25 ∈ li_Index := by decide
theorem sx_Index : ∀ {w : Nat}, w ∈ li_Index → gX.1[w]? = some (.inl 2) := by
  intro w
  revert w
  exact (by decide +kernel : ∀ w ∈ li_Index, gX.1[w]? = some (.inl 2))
theorem rc_Index {w : Nat} (h : w ∈ li_Index) (m : zM) : zrc (zh gX m) w "ProtocolAtlas$Index" := Or.inl ⟨2, _, rfl, rfl, sx_Index h⟩
theorem sa_Index_0 : ∀ {w : Nat}, w ∈ li_Index → gX.1[w + 1]? = some (.inr (3, 2048)) := by
  intro w
  revert w
  exact (by decide +kernel : ∀ w ∈ li_Index, gX.1[w + 1]? = some (.inr (3, 2048)))
theorem sa_Index_0z : ∀ {w : Nat}, w ∈ li_Index → gX.1[w + 1]? = some (.inr (3, zlen gX (w + 1))) := by
  intro w
  revert w
  exact (by decide +kernel : ∀ w ∈ li_Index, gX.1[w + 1]? = some (.inr (3, zlen gX (w + 1))))
theorem ro_Index_0 {w : Nat} (h : w ∈ li_Index) (T : Nat → Nat) : gX.2 T w 0 = some (w + 1) := by
  have h1 : ∀ w ∈ li_Index, (¬ (w = 0 ∧ 0 = 11) ∧ ¬ (w = 65 ∧ 0 = 0) ∧ ¬ (w = 116 ∧ 0 = 2)) ∧ (RLX.getD w []).getD 0 none = some (w + 1) := by decide +kernel
  obtain ⟨⟨a, b, c⟩, d⟩ := h1 w h
  show RX T _ _ = _
  unfold RX
  rw [if_neg a, if_neg b, if_neg c]
  exact d
theorem sa_Index_1 : ∀ {w : Nat}, w ∈ li_Index → gX.1[w + 2]? = some (.inr (0, 2048)) := by
  intro w
  revert w
  exact (by decide +kernel : ∀ w ∈ li_Index, gX.1[w + 2]? = some (.inr (0, 2048)))
theorem sa_Index_1z : ∀ {w : Nat}, w ∈ li_Index → gX.1[w + 2]? = some (.inr (0, zlen gX (w + 2))) := by
  intro w
  revert w
  exact (by decide +kernel : ∀ w ∈ li_Index, gX.1[w + 2]? = some (.inr (0, zlen gX (w + 2))))
theorem ro_Index_1 {w : Nat} (h : w ∈ li_Index) (T : Nat → Nat) : gX.2 T w 1 = some (w + 2) := by
  have h1 : ∀ w ∈ li_Index, (¬ (w = 0 ∧ 1 = 11) ∧ ¬ (w = 65 ∧ 1 = 0) ∧ ¬ (w = 116 ∧ 1 = 2)) ∧ (RLX.getD w []).getD 1 none = some (w + 2) := by decide +kernel
  obtain ⟨⟨a, b, c⟩, d⟩ := h1 w h
  show RX T _ _ = _
  unfold RX
  rw [if_neg a, if_neg b, if_neg c]
  exact d
def li_World : List Nat := [16, 20, 40, 44, 55, 59]
theorem in_16 : 16 ∈ li_World := by decide
theorem in_20 : 20 ∈ li_World := by decide
theorem in_40 : 40 ∈ li_World := by decide
theorem in_44 : 44 ∈ li_World := by decide
theorem in_55 : 55 ∈ li_World := by decide
theorem in_59 : 59 ∈ li_World := by decide
theorem sx_World : ∀ {w : Nat}, w ∈ li_World → gX.1[w]? = some (.inl 10) := by
  intro w
  revert w
  exact (by decide +kernel : ∀ w ∈ li_World, gX.1[w]? = some (.inl 10))
theorem rc_World {w : Nat} (h : w ∈ li_World) (m : zM) : zrc (zh gX m) w "ProtocolAtlas$World" := Or.inl ⟨10, _, rfl, rfl, sx_World h⟩
theorem sa_World_2 : ∀ {w : Nat}, w ∈ li_World → gX.1[w + 1]? = some (.inr (0, 4)) := by
  intro w
  revert w
  exact (by decide +kernel : ∀ w ∈ li_World, gX.1[w + 1]? = some (.inr (0, 4)))
theorem sa_World_2z : ∀ {w : Nat}, w ∈ li_World → gX.1[w + 1]? = some (.inr (0, zlen gX (w + 1))) := by
  intro w
  revert w
  exact (by decide +kernel : ∀ w ∈ li_World, gX.1[w + 1]? = some (.inr (0, zlen gX (w + 1))))
theorem ro_World_2 {w : Nat} (h : w ∈ li_World) (T : Nat → Nat) : gX.2 T w 2 = some (w + 1) := by
  have h1 : ∀ w ∈ li_World, (¬ (w = 0 ∧ 2 = 11) ∧ ¬ (w = 65 ∧ 2 = 0) ∧ ¬ (w = 116 ∧ 2 = 2)) ∧ (RLX.getD w []).getD 2 none = some (w + 1) := by decide +kernel
  obtain ⟨⟨a, b, c⟩, d⟩ := h1 w h
  show RX T _ _ = _
  unfold RX
  rw [if_neg a, if_neg b, if_neg c]
  exact d
theorem sa_World_3 : ∀ {w : Nat}, w ∈ li_World → gX.1[w + 2]? = some (.inr (0, 4)) := by
  intro w
  revert w
  exact (by decide +kernel : ∀ w ∈ li_World, gX.1[w + 2]? = some (.inr (0, 4)))
theorem sa_World_3z : ∀ {w : Nat}, w ∈ li_World → gX.1[w + 2]? = some (.inr (0, zlen gX (w + 2))) := by
  intro w
  revert w
  exact (by decide +kernel : ∀ w ∈ li_World, gX.1[w + 2]? = some (.inr (0, zlen gX (w + 2))))
theorem ro_World_3 {w : Nat} (h : w ∈ li_World) (T : Nat → Nat) : gX.2 T w 3 = some (w + 2) := by
  have h1 : ∀ w ∈ li_World, (¬ (w = 0 ∧ 3 = 11) ∧ ¬ (w = 65 ∧ 3 = 0) ∧ ¬ (w = 116 ∧ 3 = 2)) ∧ (RLX.getD w []).getD 3 none = some (w + 2) := by decide +kernel
  obtain ⟨⟨a, b, c⟩, d⟩ := h1 w h
  show RX T _ _ = _
  unfold RX
  rw [if_neg a, if_neg b, if_neg c]
  exact d
theorem sa_World_4 : ∀ {w : Nat}, w ∈ li_World → gX.1[w + 3]? = some (.inr (0, 4)) := by
  intro w
  revert w
  exact (by decide +kernel : ∀ w ∈ li_World, gX.1[w + 3]? = some (.inr (0, 4)))
theorem sa_World_4z : ∀ {w : Nat}, w ∈ li_World → gX.1[w + 3]? = some (.inr (0, zlen gX (w + 3))) := by
  intro w
  revert w
  exact (by decide +kernel : ∀ w ∈ li_World, gX.1[w + 3]? = some (.inr (0, zlen gX (w + 3))))
theorem ro_World_4 {w : Nat} (h : w ∈ li_World) (T : Nat → Nat) : gX.2 T w 4 = some (w + 3) := by
  have h1 : ∀ w ∈ li_World, (¬ (w = 0 ∧ 4 = 11) ∧ ¬ (w = 65 ∧ 4 = 0) ∧ ¬ (w = 116 ∧ 4 = 2)) ∧ (RLX.getD w []).getD 4 none = some (w + 3) := by decide +kernel
  obtain ⟨⟨a, b, c⟩, d⟩ := h1 w h
  show RX T _ _ = _
  unfold RX
  rw [if_neg a, if_neg b, if_neg c]
  exact d
def li_Table : List Nat := [66, 93]
theorem in_66 : 66 ∈ li_Table := by decide
theorem in_93 : 93 ∈ li_Table := by decide
theorem sx_Table : ∀ {w : Nat}, w ∈ li_Table → gX.1[w]? = some (.inl 9) := by
  intro w
  revert w
  exact (by decide +kernel : ∀ w ∈ li_Table, gX.1[w]? = some (.inl 9))
theorem rc_Table {w : Nat} (h : w ∈ li_Table) (m : zM) : zrc (zh gX m) w "ProtocolAtlas$Table" := Or.inl ⟨9, _, rfl, rfl, sx_Table h⟩
theorem sa_Table_1 : ∀ {w : Nat}, w ∈ li_Table → gX.1[w + 1]? = some (.inr (0, 3)) := by
  intro w
  revert w
  exact (by decide +kernel : ∀ w ∈ li_Table, gX.1[w + 1]? = some (.inr (0, 3)))
theorem sa_Table_1z : ∀ {w : Nat}, w ∈ li_Table → gX.1[w + 1]? = some (.inr (0, zlen gX (w + 1))) := by
  intro w
  revert w
  exact (by decide +kernel : ∀ w ∈ li_Table, gX.1[w + 1]? = some (.inr (0, zlen gX (w + 1))))
theorem ro_Table_1 {w : Nat} (h : w ∈ li_Table) (T : Nat → Nat) : gX.2 T w 1 = some (w + 1) := by
  have h1 : ∀ w ∈ li_Table, (¬ (w = 0 ∧ 1 = 11) ∧ ¬ (w = 65 ∧ 1 = 0) ∧ ¬ (w = 116 ∧ 1 = 2)) ∧ (RLX.getD w []).getD 1 none = some (w + 1) := by decide +kernel
  obtain ⟨⟨a, b, c⟩, d⟩ := h1 w h
  show RX T _ _ = _
  unfold RX
  rw [if_neg a, if_neg b, if_neg c]
  exact d
theorem sa_Table_2 : ∀ {w : Nat}, w ∈ li_Table → gX.1[w + 2]? = some (.inr (0, 18)) := by
  intro w
  revert w
  exact (by decide +kernel : ∀ w ∈ li_Table, gX.1[w + 2]? = some (.inr (0, 18)))
theorem sa_Table_2z : ∀ {w : Nat}, w ∈ li_Table → gX.1[w + 2]? = some (.inr (0, zlen gX (w + 2))) := by
  intro w
  revert w
  exact (by decide +kernel : ∀ w ∈ li_Table, gX.1[w + 2]? = some (.inr (0, zlen gX (w + 2))))
theorem ro_Table_2 {w : Nat} (h : w ∈ li_Table) (T : Nat → Nat) : gX.2 T w 2 = some (w + 2) := by
  have h1 : ∀ w ∈ li_Table, (¬ (w = 0 ∧ 2 = 11) ∧ ¬ (w = 65 ∧ 2 = 0) ∧ ¬ (w = 116 ∧ 2 = 2)) ∧ (RLX.getD w []).getD 2 none = some (w + 2) := by decide +kernel
  obtain ⟨⟨a, b, c⟩, d⟩ := h1 w h
  show RX T _ _ = _
  unfold RX
  rw [if_neg a, if_neg b, if_neg c]
  exact d
theorem sa_Table_5 : ∀ {w : Nat}, w ∈ li_Table → gX.1[w + 3]? = some (.inr (4, 16)) := by
  intro w
  revert w
  exact (by decide +kernel : ∀ w ∈ li_Table, gX.1[w + 3]? = some (.inr (4, 16)))
theorem ro_Table_5 {w : Nat} (h : w ∈ li_Table) (T : Nat → Nat) : gX.2 T w 5 = some (w + 3) := by
  have h1 : ∀ w ∈ li_Table, (¬ (w = 0 ∧ 5 = 11) ∧ ¬ (w = 65 ∧ 5 = 0) ∧ ¬ (w = 116 ∧ 5 = 2)) ∧ (RLX.getD w []).getD 5 none = some (w + 3) := by decide +kernel
  obtain ⟨⟨a, b, c⟩, d⟩ := h1 w h
  show RX T _ _ = _
  unfold RX
  rw [if_neg a, if_neg b, if_neg c]
  exact d
theorem sa_Table_7 : ∀ {w : Nat}, w ∈ li_Table → gX.1[w + 4]? = some (.inr (0, 4)) := by
  intro w
  revert w
  exact (by decide +kernel : ∀ w ∈ li_Table, gX.1[w + 4]? = some (.inr (0, 4)))
theorem sa_Table_7z : ∀ {w : Nat}, w ∈ li_Table → gX.1[w + 4]? = some (.inr (0, zlen gX (w + 4))) := by
  intro w
  revert w
  exact (by decide +kernel : ∀ w ∈ li_Table, gX.1[w + 4]? = some (.inr (0, zlen gX (w + 4))))
theorem ro_Table_7 {w : Nat} (h : w ∈ li_Table) (T : Nat → Nat) : gX.2 T w 7 = some (w + 4) := by
  have h1 : ∀ w ∈ li_Table, (¬ (w = 0 ∧ 7 = 11) ∧ ¬ (w = 65 ∧ 7 = 0) ∧ ¬ (w = 116 ∧ 7 = 2)) ∧ (RLX.getD w []).getD 7 none = some (w + 4) := by decide +kernel
  obtain ⟨⟨a, b, c⟩, d⟩ := h1 w h
  show RX T _ _ = _
  unfold RX
  rw [if_neg a, if_neg b, if_neg c]
  exact d
theorem sa_Table_8 : ∀ {w : Nat}, w ∈ li_Table → gX.1[w + 5]? = some (.inr (0, 12)) := by
  intro w
  revert w
  exact (by decide +kernel : ∀ w ∈ li_Table, gX.1[w + 5]? = some (.inr (0, 12)))
theorem sa_Table_8z : ∀ {w : Nat}, w ∈ li_Table → gX.1[w + 5]? = some (.inr (0, zlen gX (w + 5))) := by
  intro w
  revert w
  exact (by decide +kernel : ∀ w ∈ li_Table, gX.1[w + 5]? = some (.inr (0, zlen gX (w + 5))))
theorem ro_Table_8 {w : Nat} (h : w ∈ li_Table) (T : Nat → Nat) : gX.2 T w 8 = some (w + 5) := by
  have h1 : ∀ w ∈ li_Table, (¬ (w = 0 ∧ 8 = 11) ∧ ¬ (w = 65 ∧ 8 = 0) ∧ ¬ (w = 116 ∧ 8 = 2)) ∧ (RLX.getD w []).getD 8 none = some (w + 5) := by decide +kernel
  obtain ⟨⟨a, b, c⟩, d⟩ := h1 w h
  show RX T _ _ = _
  unfold RX
  rw [if_neg a, if_neg b, if_neg c]
  exact d
theorem sa_Table_9 : ∀ {w : Nat}, w ∈ li_Table → gX.1[w + 6]? = some (.inr (0, 12)) := by
  intro w
  revert w
  exact (by decide +kernel : ∀ w ∈ li_Table, gX.1[w + 6]? = some (.inr (0, 12)))
theorem sa_Table_9z : ∀ {w : Nat}, w ∈ li_Table → gX.1[w + 6]? = some (.inr (0, zlen gX (w + 6))) := by
  intro w
  revert w
  exact (by decide +kernel : ∀ w ∈ li_Table, gX.1[w + 6]? = some (.inr (0, zlen gX (w + 6))))
theorem ro_Table_9 {w : Nat} (h : w ∈ li_Table) (T : Nat → Nat) : gX.2 T w 9 = some (w + 6) := by
  have h1 : ∀ w ∈ li_Table, (¬ (w = 0 ∧ 9 = 11) ∧ ¬ (w = 65 ∧ 9 = 0) ∧ ¬ (w = 116 ∧ 9 = 2)) ∧ (RLX.getD w []).getD 9 none = some (w + 6) := by decide +kernel
  obtain ⟨⟨a, b, c⟩, d⟩ := h1 w h
  show RX T _ _ = _
  unfold RX
  rw [if_neg a, if_neg b, if_neg c]
  exact d
def li_Row : List Nat := [73, 74, 75, 76, 77, 78, 79, 80, 81, 82, 83, 84, 85, 86, 87, 88, 100, 101, 102, 103, 104, 105, 106, 107, 108, 109, 110, 111, 112, 113, 114, 115]
theorem in_73 : 73 ∈ li_Row := by decide
theorem in_74 : 74 ∈ li_Row := by decide
theorem in_75 : 75 ∈ li_Row := by decide
theorem in_76 : 76 ∈ li_Row := by decide
theorem in_77 : 77 ∈ li_Row := by decide
theorem in_78 : 78 ∈ li_Row := by decide
theorem in_79 : 79 ∈ li_Row := by decide
theorem in_80 : 80 ∈ li_Row := by decide
theorem in_81 : 81 ∈ li_Row := by decide
theorem in_82 : 82 ∈ li_Row := by decide
theorem in_83 : 83 ∈ li_Row := by decide
theorem in_84 : 84 ∈ li_Row := by decide
theorem in_85 : 85 ∈ li_Row := by decide
theorem in_86 : 86 ∈ li_Row := by decide
theorem in_87 : 87 ∈ li_Row := by decide
theorem in_88 : 88 ∈ li_Row := by decide
theorem in_100 : 100 ∈ li_Row := by decide
theorem in_101 : 101 ∈ li_Row := by decide
theorem in_102 : 102 ∈ li_Row := by decide
theorem in_103 : 103 ∈ li_Row := by decide
theorem in_104 : 104 ∈ li_Row := by decide
theorem in_105 : 105 ∈ li_Row := by decide
theorem in_106 : 106 ∈ li_Row := by decide
theorem in_107 : 107 ∈ li_Row := by decide
theorem in_108 : 108 ∈ li_Row := by decide
theorem in_109 : 109 ∈ li_Row := by decide
theorem in_110 : 110 ∈ li_Row := by decide
theorem in_111 : 111 ∈ li_Row := by decide
theorem in_112 : 112 ∈ li_Row := by decide
theorem in_113 : 113 ∈ li_Row := by decide
theorem in_114 : 114 ∈ li_Row := by decide
theorem in_115 : 115 ∈ li_Row := by decide
theorem sx_Row : ∀ {w : Nat}, w ∈ li_Row → gX.1[w]? = some (.inl 5) := by
  intro w
  revert w
  exact (by decide +kernel : ∀ w ∈ li_Row, gX.1[w]? = some (.inl 5))
theorem rc_Row {w : Nat} (h : w ∈ li_Row) (m : zM) : zrc (zh gX m) w "ProtocolAtlas$Row" := Or.inl ⟨5, _, rfl, rfl, sx_Row h⟩
theorem in_row {t i : Nat} (h : t ∈ li_Table) (hi : i < 16) : t + 7 + i ∈ li_Row := by
  have h1 : ∀ t ∈ li_Table, ∀ i, i < 16 → t + 7 + i ∈ li_Row := by decide +kernel
  exact h1 t h i hi
theorem ra_row {t : Nat} (h : t ∈ li_Table) (T : Nat → Nat) : ∀ i : Nat, i < 16 → gX.2 T (t + 3) i = some (t + 7 + i) := by
  have h1 : ∀ t ∈ li_Table, ∀ i, i < 16 → (¬ (t + 3 = 0 ∧ i = 11) ∧ ¬ (t + 3 = 65 ∧ i = 0) ∧ ¬ (t + 3 = 116 ∧ i = 2)) ∧ (RLX.getD (t + 3) []).getD i none = some (t + 7 + i) := by decide +kernel
  intro i hi
  obtain ⟨⟨a, b, c⟩, d⟩ := h1 t h i hi
  show RX T (t + 3) i = _
  unfold RX
  rw [if_neg a, if_neg b, if_neg c]
  exact d
theorem bp_m8 : (Int8.ofInt (-8)).toInt32 = (-8) := by decide
theorem bp_m2 : (Int8.ofInt (-2)).toInt32 = (-2) := by decide
theorem bp_6 : (Int8.ofInt 6).toInt32 = 6 := by decide
theorem bp_7 : (Int8.ofInt 7).toInt32 = 7 := by decide
theorem bp_8 : (Int8.ofInt 8).toInt32 = 8 := by decide
theorem bp_9 : (Int8.ofInt 9).toInt32 = 9 := by decide
theorem bp_10 : (Int8.ofInt 10).toInt32 = 10 := by decide
theorem bp_12 : (Int8.ofInt 12).toInt32 = 12 := by decide
theorem bp_13 : (Int8.ofInt 13).toInt32 = 13 := by decide
theorem bp_14 : (Int8.ofInt 14).toInt32 = 14 := by decide
theorem bp_15 : (Int8.ofInt 15).toInt32 = 15 := by decide
theorem bp_16 : (Int8.ofInt 16).toInt32 = 16 := by decide
theorem bp_19 : (Int8.ofInt 19).toInt32 = 19 := by decide
theorem bp_20 : (Int8.ofInt 20).toInt32 = 20 := by decide
theorem bp_24 : (Int8.ofInt 24).toInt32 = 24 := by decide
theorem bp_27 : (Int8.ofInt 27).toInt32 = 27 := by decide
theorem bp_28 : (Int8.ofInt 28).toInt32 = 28 := by decide
theorem bp_31 : (Int8.ofInt 31).toInt32 = 31 := by decide
theorem bp_32 : (Int8.ofInt 32).toInt32 = 32 := by decide
theorem bp_33 : (Int8.ofInt 33).toInt32 = 33 := by decide
theorem bp_36 : (Int8.ofInt 36).toInt32 = 36 := by decide
theorem bp_44 : (Int8.ofInt 44).toInt32 = 44 := by decide
theorem bp_45 : (Int8.ofInt 45).toInt32 = 45 := by decide
theorem bp_48 : (Int8.ofInt 48).toInt32 = 48 := by decide
theorem bp_49 : (Int8.ofInt 49).toInt32 = 49 := by decide
theorem bp_53 : (Int8.ofInt 53).toInt32 = 53 := by decide
theorem bp_56 : (Int8.ofInt 56).toInt32 = 56 := by decide
theorem bp_57 : (Int8.ofInt 57).toInt32 = 57 := by decide
theorem bp_59 : (Int8.ofInt 59).toInt32 = 59 := by decide
theorem bp_60 : (Int8.ofInt 60).toInt32 = 60 := by decide
theorem bp_62 : (Int8.ofInt 62).toInt32 = 62 := by decide
theorem bp_64 : (Int8.ofInt 64).toInt32 = 64 := by decide
theorem bp_96 : (Int8.ofInt 96).toInt32 = 96 := by decide
theorem bp_97 : (Int8.ofInt 97).toInt32 = 97 := by decide
theorem bp_100 : (Int8.ofInt 100).toInt32 = 100 := by decide
theorem bp_122 : (Int8.ofInt 122).toInt32 = 122 := by decide
theorem ic_m1 : Int32.ofInt (-1) = (-1) := by decide
theorem ic_0 : Int32.ofInt 0 = 0 := by decide
theorem ic_1 : Int32.ofInt 1 = 1 := by decide
theorem ic_2 : Int32.ofInt 2 = 2 := by decide
theorem ic_3 : Int32.ofInt 3 = 3 := by decide
theorem ic_4 : Int32.ofInt 4 = 4 := by decide
theorem ic_5 : Int32.ofInt 5 = 5 := by decide
theorem sp_m505 : (Int16.ofInt (-505)).toInt32 = (-505) := by decide
theorem sp_184 : (Int16.ofInt 184).toInt32 = 184 := by decide
theorem sp_193 : (Int16.ofInt 193).toInt32 = 193 := by decide
theorem sp_251 : (Int16.ofInt 251).toInt32 = 251 := by decide
theorem sp_255 : (Int16.ofInt 255).toInt32 = 255 := by decide
theorem sp_343 : (Int16.ofInt 343).toInt32 = 343 := by decide
theorem sp_511 : (Int16.ofInt 511).toInt32 = 511 := by decide
theorem sp_600 : (Int16.ofInt 600).toInt32 = 600 := by decide
theorem sp_1600 : (Int16.ofInt 1600).toInt32 = 1600 := by decide
theorem sp_2047 : (Int16.ofInt 2047).toInt32 = 2047 := by decide
theorem sp_2048 : (Int16.ofInt 2048).toInt32 = 2048 := by decide
theorem sp_4095 : (Int16.ofInt 4095).toInt32 = 4095 := by decide
theorem ic_m8 : Int32.ofInt (-8) = (-8) := by decide
theorem lc_0 : Int64.ofNat ((0 : Fin 2) : Nat) = 0 := by decide
theorem lc_1 : Int64.ofNat ((1 : Fin 2) : Nat) = 1 := by decide
