def f_Bytes_size (v0 : Nat) (m : zM) : Int32 :=
  (m.1 v0 1)
def f_PA_refuse (v1 : Int32) (m : zM) : Option (Int32 × zM) :=
  (ix 6 v1).bind fun i1 =>
  (ix 6 v1).bind fun i2 => lt (sI m 64 i2 ((m.1 64 i1) + 1)) fun m3 =>
  some (((-1), m3))
def f_Bytes_add (v0 : Nat) (v1 : Int32) (m : zM) : Option (zM) :=
  if 1600 ≤ (m.1 v0 1) then
    some (m)
  else
    (ix 1600 (m.1 v0 1)).bind fun i1 => lt (sI m (v0 + 1) i1 (v1 &&& 255)) fun m2 =>
    lt (sI m2 v0 1 ((m2.1 v0 1) + 1)) fun m3 =>
    some (m3)
def f_Bytes_addNumber_B3 (v0 : Nat) (v1 : Int32) (v2 : Int32) (m : zM) : Option ((zM) ⊕ (Int32 × zM)) :=
  if v2 < 0 then
    some (.inl m)
  else
    (f_Bytes_add v0 (shr v1 v2) m).bind fun p1 => 
    some (.inr ((v2 + (-8)), p1))
def f_Bytes_addNumber_L3 (v0 : Nat) (v1 : Int32) (v2 : Int32) (m : zM) : Option (zM) :=
  zloop (fun s : Int32 × zM => f_Bytes_addNumber_B3 v0 v1 s.1 s.2) FU (v2, m)
def f_Bytes_addNumber (v0 : Nat) (v1 : Int32) (m : zM) : Option (zM) :=
  f_Bytes_addNumber_L3 v0 v1 24 m
def f_PA_feed (v1 : Int32) (v2 : Int32) (v3 : Int32) (v4 : Int32) (v5 : Int32) (m : zM) : Option (Int32 × zM) :=
  if ((f_Bytes_size 1 m) + 20) ≤ 1600 then
    (f_Bytes_addNumber 1 v1 m).bind fun p1 => 
    (f_Bytes_addNumber 1 v2 p1).bind fun p2 => 
    (f_Bytes_addNumber 1 v3 p2).bind fun p3 => 
    (f_Bytes_addNumber 1 v4 p3).bind fun p4 => 
    (f_Bytes_addNumber 1 v5 p4).bind fun p5 => 
    some (((f_Bytes_size 1 p5), p5))
  else
    (f_PA_refuse 0 m).bind fun p6 => 
    some ((p6.1, p6.2))
def f_Bytes_cut (v0 : Nat) (v1 : Int32) (m : zM) : zM :=
  if v1 < 0 then
    m
  else
    if (m.1 v0 1) ≤ v1 then
      m
    else
      lt (sI m v0 1 v1) fun m1 =>
      m1
def f_PA_end_J15  (m : zM) : Option (Bool × zM) :=
  (f_PA_refuse 0 m).bind fun p2 => 
  some ((false, p2.2))
def f_PA_end (v1 : Int32) (m : zM) : Option (Bool × zM) :=
  if v1 < 0 then
    f_PA_end_J15 m
  else
    if v1 ≤ (f_Bytes_size 1 m) then
      lt (f_Bytes_cut 1 v1 m) fun p1 =>
      some ((true, p1))
    else
      f_PA_end_J15 m
def f_Arrays_fill_B5 (v0 : Nat) (v1 : Int32) (v2 : Int32) (v3 : Int32) (m : zM) : Option ((zM) ⊕ (Int32 × zM)) :=
  if v3 ≤ v2 then
    some (.inl m)
  else
    (ix (zlen gX v0) v2).bind fun i1 => lt (sI m v0 i1 v1) fun m2 =>
    some (.inr ((v2 + 1), m2))
def f_Arrays_fill_L5 (v0 : Nat) (v1 : Int32) (v2 : Int32) (v3 : Int32) (m : zM) : Option (zM) :=
  zloop (fun s : Int32 × zM => f_Arrays_fill_B5 v0 v1 s.1 v3 s.2) FU (v2, m)
def f_Arrays_fill (v0 : Nat) (v1 : Int32) (m : zM) : Option (zM) :=
  f_Arrays_fill_L5 v0 v1 0 (Int32.ofNat (zlen gX v0)) m
def f_Table_clear (v0 : Nat) (m : zM) : Option (zM) :=
  lt (sI m v0 0 0) fun m1 =>
  (f_Arrays_fill (v0 + 1) 0 m1).bind fun p2 => 
  lt (sI p2 v0 3 0) fun m3 =>
  lt (sI m3 v0 4 0) fun m4 =>
  lt (sI m4 v0 6 0) fun m5 =>
  lt (sI m5 v0 10 (-1)) fun m6 =>
  lt (sI m6 v0 11 (-1)) fun m7 =>
  some (m7)
def f_Bytes_get (v0 : Nat) (v1 : Int32) (m : zM) : Option (Int32) :=
  if v1 < 0 then
    some ((-1))
  else
    if (m.1 v0 1) ≤ v1 then
      some ((-1))
    else
      (ix 1600 v1).bind fun i1 =>
      some ((m.1 (v0 + 1) i1))
def f_PA_isBlank_J12  : Bool :=
  true
def f_PA_isBlank (v0 : Int32) : Bool :=
  if v0 = 32 then
    f_PA_isBlank_J12
  else
    if v0 = 10 then
      f_PA_isBlank_J12
    else
      false
def f_PA_isLetter (v0 : Int32) : Bool :=
  if v0 < 97 then
    false
  else
    if 122 < v0 then
      false
    else
      true
def f_Reader_isOwnWord_J57 (v0 : Int64) (v2 : Int64) (v4 : Int32) : Option ((Bool) ⊕ (Int64 × Int32)) :=
  some (.inr (v2, (v4 + 1)))
def f_Reader_isOwnWord_B5 (v0 : Int64) (v2 : Int64) (v4 : Int32) : Option ((Bool) ⊕ (Int64 × Int32)) :=
  if (f_String_length 0) ≤ v4 then
    some (.inl false)
  else
    (f_String_charAt 0 v4).bind fun r1 =>
    if r1 = 32 then
      if (lg_cmp v2 v0) = 0 then
        some (.inl true)
      else
        f_Reader_isOwnWord_J57 v0 0 v4
    else
      f_Reader_isOwnWord_J57 v0 ((lsl v2 5) ||| (((r1 - 97) + 1).toInt64)) v4
def f_Reader_isOwnWord_L5 (v0 : Int64) (v2 : Int64) (v4 : Int32) : Option (Bool) :=
  zloop (fun s : Int64 × Int32 => f_Reader_isOwnWord_B5 v0 s.1 s.2) FU (v2, v4)
def f_Reader_isOwnWord (v0 : Int64) : Option (Bool) :=
  f_Reader_isOwnWord_L5 v0 0 0
def f_Reader_takeWord_J101 (t0 : Nat) (t1 : Int32) (t2 : Int32) (m : zM) : Option (zM) :=
  (ix (zlen gX t0) t1).bind fun i8 => lt (sI m t0 i8 t2) fun m9 =>
  some (m9)
def f_Reader_takeWord_J67 (v3 : Int32) (v4 : Int64) (v6 : Int32) (m : zM) : Option (zM) :=
  (ix 1601 v3).bind fun i3 => lt (sI m 91 i3 v6) fun m4 =>
  (ix 1601 v3).bind fun i5 => lt (sJ m4 92 i5 v4) fun m6 =>
  (f_Reader_isOwnWord v4).bind fun r7 =>
  if r7 = true then
    f_Reader_takeWord_J101 89 v3 2 m6
  else
    f_Reader_takeWord_J101 89 v3 1 m6
def f_Reader_takeWord_J59 (v1 : Nat) (v2 : Int32) (v3 : Int32) (v6 : Int32) (t0 : Int64) (m : zM) : Option ((zM) ⊕ (Int64 × Int32)) :=
  some (.inr (t0, (v6 + 1)))
def f_Reader_takeWord_B6 (v1 : Nat) (v2 : Int32) (v3 : Int32) (v4 : Int64) (v6 : Int32) (m : zM) : Option ((zM) ⊕ (Int64 × Int32)) :=
  if 1600 ≤ v6 then
    zl (f_Reader_takeWord_J67 v3 v4 v6 m)
  else
    (f_Bytes_get v1 (v2 + v6) m).bind fun r1 =>
    if (f_PA_isLetter r1) = true then
      if 12 ≤ v6 then
        f_Reader_takeWord_J59 v1 v2 v3 v6 v4 m
      else
        (f_Bytes_get v1 (v2 + v6) m).bind fun r2 =>
        f_Reader_takeWord_J59 v1 v2 v3 v6 ((lsl v4 5) ||| (((r2 - 97) + 1).toInt64)) m
    else
      zl (f_Reader_takeWord_J67 v3 v4 v6 m)
def f_Reader_takeWord_L6 (v1 : Nat) (v2 : Int32) (v3 : Int32) (v4 : Int64) (v6 : Int32) (m : zM) : Option (zM) :=
  zloop (fun s : Int64 × Int32 => f_Reader_takeWord_B6 v1 v2 v3 s.1 s.2 m) FU (v4, v6)
def f_Reader_takeWord (v1 : Nat) (v2 : Int32) (v3 : Int32) (m : zM) : Option (zM) :=
  f_Reader_takeWord_L6 v1 v2 v3 0 0 m
def f_PA_isDigit (v0 : Int32) : Bool :=
  if v0 < 48 then
    false
  else
    if 57 < v0 then
      false
    else
      true
def f_Reader_takeNumber_J31 (v1 : Nat) (v2 : Int32) (v3 : Int32) (v4 : Int32) (m : zM) : Option (zM) :=
  (ix 1601 v3).bind fun i2 => lt (sI m 91 i2 v4) fun m3 =>
  (f_Bytes_get v1 v2 m3).bind fun r4 =>
  (ix 1601 v3).bind fun i5 => lt (sJ m3 92 i5 ((r4 - 48).toInt64)) fun m6 =>
  (ix 1601 v3).bind fun i7 => lt (sI m6 89 i7 3) fun m8 =>
  some (m8)
def f_Reader_takeNumber_B3 (v1 : Nat) (v2 : Int32) (v3 : Int32) (v4 : Int32) (m : zM) : Option ((zM) ⊕ (Int32)) :=
  if 1600 ≤ v4 then
    zl (f_Reader_takeNumber_J31 v1 v2 v3 v4 m)
  else
    (f_Bytes_get v1 (v2 + v4) m).bind fun r1 =>
    if (f_PA_isDigit r1) = true then
      some (.inr (v4 + 1))
    else
      zl (f_Reader_takeNumber_J31 v1 v2 v3 v4 m)
def f_Reader_takeNumber_L3 (v1 : Nat) (v2 : Int32) (v3 : Int32) (v4 : Int32) (m : zM) : Option (zM) :=
  zloop (fun s : Int32 => f_Reader_takeNumber_B3 v1 v2 v3 s m) FU v4
def f_Reader_takeNumber (v1 : Nat) (v2 : Int32) (v3 : Int32) (m : zM) : Option (zM) :=
  f_Reader_takeNumber_L3 v1 v2 v3 0 m
def f_Reader_take_J70 (v3 : Int32) (m : zM) : Option (Bool × zM) :=
  (ix 1601 v3).bind fun i12 =>
  if (m.1 89 i12) = 4 then
    some ((true, m))
  else
    some ((false, m))
def f_Reader_take (v1 : Nat) (v2 : Int32) (v3 : Int32) (m : zM) : Option (Bool × zM) :=
  (f_Bytes_get v1 v2 m).bind fun r1 =>
  (ix 1601 v3).bind fun i2 => lt (sI m 90 i2 v2) fun m3 =>
  (ix 1601 v3).bind fun i4 => lt (sI m3 91 i4 1) fun m5 =>
  (ix 1601 v3).bind fun i6 => lt (sJ m5 92 i6 r1.toInt64) fun m7 =>
  (ix 1601 v3).bind fun i8 => lt (sI m7 89 i8 4) fun m9 =>
  if (f_PA_isLetter r1) = true then
    (f_Reader_takeWord v1 v2 v3 m9).bind fun p11 => 
    f_Reader_take_J70 v3 p11
  else
    if (f_PA_isDigit r1) = true then
      (f_Reader_takeNumber v1 v2 v3 m9).bind fun p10 => 
      f_Reader_take_J70 v3 p10
    else
      f_Reader_take_J70 v3 m9
def f_Reader_scan_J109 (v1 : Nat) (v2 : Int32) (m : zM) : Option (zM) :=
  (ix 1601 v2).bind fun i5 => lt (sI m 89 i5 0) fun m6 =>
  (ix 1601 v2).bind fun i7 => lt (sI m6 90 i7 (f_Bytes_size v1 m6)) fun m8 =>
  some (m8)
def f_Reader_scan_J96 (v1 : Nat) (v2 : Int32) (v3 : Int32) (v4 : Int32) (v5 : Int32) (v6 : Int32) (m : zM) : Option ((zM) ⊕ (Int32 × Int32 × Int32 × Int32 × zM)) :=
  some (.inr (v2, v3, (v4 + v6), (v5 + 1), m))
def f_Reader_scan_J93 (v1 : Nat) (v2 : Int32) (v3 : Int32) (v4 : Int32) (v5 : Int32) (v6 : Int32) (m : zM) : Option ((zM) ⊕ (Int32 × Int32 × Int32 × Int32 × zM)) :=
  f_Reader_scan_J96 v1 (v2 + 1) v3 v4 v5 v6 m
def f_Reader_scan_J86 (v1 : Nat) (v2 : Int32) (v4 : Int32) (v5 : Int32) (v6 : Int32) (t0 : Nat) (t1 : Int32) (t2 : Int32) (m : zM) : Option ((zM) ⊕ (Int32 × Int32 × Int32 × Int32 × zM)) :=
  (ix (zlen gX t0) t1).bind fun i9 => lt (sI m t0 i9 t2) fun m10 =>
  f_Reader_scan_J93 v1 v2 (v4 + v6) v4 v5 v6 m10
def f_Reader_scan_B10 (v1 : Nat) (v2 : Int32) (v3 : Int32) (v4 : Int32) (v5 : Int32) (m : zM) : Option ((zM) ⊕ (Int32 × Int32 × Int32 × Int32 × zM)) :=
  if 1600 ≤ v5 then
    zl (f_Reader_scan_J109 v1 v2 m)
  else
    if (f_Bytes_size v1 m) ≤ v4 then
      zl (f_Reader_scan_J109 v1 v2 m)
    else
      (f_Bytes_get v1 v4 m).bind fun r1 =>
      if (f_PA_isBlank r1) = true then
        f_Reader_scan_J96 v1 v2 v3 v4 v5 1 m
      else
        (f_Reader_take v1 v4 v2 m).bind fun p2 => 
        (ix 1601 v2).bind fun i3 =>
        if p2.1 = true then
          f_Reader_scan_J93 v1 v2 v3 v4 v5 (p2.2.1 91 i3) p2.2
        else
          if v3 = v4 then
            f_Reader_scan_J86 v1 v2 v4 v5 (p2.2.1 91 i3) 89 v2 5 p2.2
          else
            (ix 1601 v2).bind fun i4 =>
            f_Reader_scan_J86 v1 v2 v4 v5 (p2.2.1 91 i3) 89 v2 (p2.2.1 89 i4) p2.2
def f_Reader_scan_L10 (v1 : Nat) (v2 : Int32) (v3 : Int32) (v4 : Int32) (v5 : Int32) (m : zM) : Option (zM) :=
  zloop (fun s : Int32 × Int32 × Int32 × Int32 × zM => f_Reader_scan_B10 v1 s.1 s.2.1 s.2.2.1 s.2.2.2.1 s.2.2.2.2) FU (v2, v3, v4, v5, m)
def f_Reader_scan (v1 : Nat) (m : zM) : Option (zM) :=
  f_Reader_scan_L10 v1 0 (-1) 0 0 m
def f_Reader_refuse (v1 : Int32) (v2 : Int32) (m : zM) : Bool × zM :=
  lt (sI m 65 7 v1) fun m1 =>
  lt (sI m1 65 8 v2) fun m2 =>
  (false, m2)
def f_Reader_isNext_J37 (v2 : Int64) (m : zM) : Option (Bool) :=
  (ix 1601 (m.1 65 5)).bind fun i2 =>
  if (m.1 89 i2) = 2 then
    (ix 1601 (m.1 65 5)).bind fun i3 =>
    if (lg_cmp (m.2.1 92 i3) v2) = 0 then
      some (true)
    else
      some (false)
  else
    some (false)
def f_Reader_isNext_B5 (v1 : Nat) (v2 : Int64) (v4 : Int32) (m : zM) : Option ((Bool) ⊕ (Int64 × Int32)) :=
  if (f_String_length v1) ≤ v4 then
    zl (f_Reader_isNext_J37 v2 m)
  else
    (f_String_charAt v1 v4).bind fun r1 =>
    some (.inr (((lsl v2 5) ||| (((r1 - 97) + 1).toInt64)), (v4 + 1)))
def f_Reader_isNext_L5 (v1 : Nat) (v2 : Int64) (v4 : Int32) (m : zM) : Option (Bool) :=
  zloop (fun s : Int64 × Int32 => f_Reader_isNext_B5 v1 s.1 s.2 m) FU (v2, v4)
def f_Reader_isNext (v1 : Nat) (m : zM) : Option (Bool) :=
  f_Reader_isNext_L5 v1 0 0 m
def f_Reader_word_J20 (v2 : Bool) (t1 : Int32) (t2 : Bool) (m : zM) : Option (Bool × zM) :=
  lt (sI m 65 5 (t1 + (b2i t2))) fun m2 =>
  some ((v2, m2))
def f_Reader_word (v1 : Nat) (m : zM) : Option (Bool × zM) :=
  (f_Reader_isNext v1 m).bind fun r1 =>
  if r1 = true then
    f_Reader_word_J20 r1 (m.1 65 5) true m
  else
    f_Reader_word_J20 r1 (m.1 65 5) false m
def f_Reader_unexpected  (m : zM) : Option (Bool × zM) :=
  lt (sI m 65 7 1) fun m1 =>
  (ix 1601 (m1.1 65 5)).bind fun i2 =>
  lt (sI m1 65 8 (m1.1 90 i2)) fun m3 =>
  some ((false, m3))
def f_Reader_ask_J15  (m : zM) : Option (Bool × zM) :=
  some ((true, m))
def f_Reader_ask (v1 : Nat) (m : zM) : Option (Bool × zM) :=
  (f_Reader_word v1 m).bind fun p1 => 
  if p1.1 = true then
    f_Reader_ask_J15 p1.2
  else
    (f_Reader_unexpected p1.2).bind fun p2 => 
    if p2.1 = true then
      f_Reader_ask_J15 p2.2
    else
      some ((false, p2.2))
def f_Reader_number_J78  (m : zM) : Option (Bool × zM) :=
  (ix 1601 (m.1 65 5)).bind fun i9 =>
  lt (f_Reader_refuse 2 (m.1 90 i9) m) fun p10 =>
  some ((p10.1, p10.2))
def f_Reader_number (v1 : Int32) (v2 : Int32) (m : zM) : Option (Bool × zM) :=
  (ix 1601 (m.1 65 5)).bind fun i1 =>
  if (m.1 89 i1) = 3 then
    (ix 1601 (m.1 65 5)).bind fun i2 =>
    if (m.1 91 i2) ≤ 1 then
      (ix 1601 (m.1 65 5)).bind fun i3 =>
      lt (sI m 65 6 ((m.2.1 92 i3).toInt32)) fun m4 =>
      if (m4.1 65 6) < v1 then
        f_Reader_number_J78 m4
      else
        if (m4.1 65 6) ≤ v2 then
          lt (sI m4 65 5 ((m4.1 65 5) + 1)) fun m5 =>
          some ((true, m5))
        else
          f_Reader_number_J78 m4
    else
      (ix 1601 (m.1 65 5)).bind fun i6 =>
      lt (f_Reader_refuse 1 ((m.1 90 i6) + 1) m) fun p7 =>
      some ((p7.1, p7.2))
  else
    (f_Reader_unexpected m).bind fun p8 => 
    some ((p8.1, p8.2))
def f_Reader_name  (m : zM) : Option (Bool × zM) :=
  (ix 1601 (m.1 65 5)).bind fun i1 =>
  if (m.1 89 i1) = 1 then
    (ix 1601 (m.1 65 5)).bind fun i2 =>
    if (m.1 91 i2) ≤ 6 then
      (ix 1601 (m.1 65 5)).bind fun i3 =>
      (ix 1601 (m.1 65 5)).bind fun i4 =>
      lt (sI m 65 6 ((lsl (m.2.1 92 i3) (5 * (6 - (m.1 91 i4)))).toInt32)) fun m5 =>
      some ((true, m5))
    else
      (ix 1601 (m.1 65 5)).bind fun i6 =>
      lt (f_Reader_refuse 1 ((m.1 90 i6) + 6) m) fun p7 =>
      some ((p7.1, p7.2))
  else
    (f_Reader_unexpected m).bind fun p8 => 
    some ((p8.1, p8.2))
def f_Table_find_B2 (v0 : Nat) (v1 : Int32) (v2 : Int32) (v3 : Int32) (m : zM) : Option ((Int32) ⊕ (Int32)) :=
  (ix 3 v1).bind fun i1 =>
  if (m.1 (v0 + 1) i1) ≤ v3 then
    some (.inl (-1))
  else
    (ix 18 ((v1 * 6) + v3)).bind fun i2 =>
    if (m.1 (v0 + 2) i2) = v2 then
      some (.inl v3)
    else
      some (.inr (v3 + 1))
def f_Table_find_L2 (v0 : Nat) (v1 : Int32) (v2 : Int32) (v3 : Int32) (m : zM) : Option (Int32) :=
  zloop (fun s : Int32 => f_Table_find_B2 v0 v1 v2 s m) FU v3
def f_Table_find (v0 : Nat) (v1 : Int32) (v2 : Int32) (m : zM) : Option (Int32) :=
  f_Table_find_L2 v0 v1 v2 0 m
def f_Table_isTaken_B2 (v0 : Nat) (v1 : Int32) (v2 : Int32) (m : zM) : Option ((Bool) ⊕ (Int32)) :=
  if 3 ≤ v2 then
    some (.inl false)
  else
    (f_Table_find v0 v2 v1 m).bind fun r1 =>
    if r1 = (-1) then
      some (.inr (v2 + 1))
    else
      some (.inl true)
def f_Table_isTaken_L2 (v0 : Nat) (v1 : Int32) (v2 : Int32) (m : zM) : Option (Bool) :=
  zloop (fun s : Int32 => f_Table_isTaken_B2 v0 v1 s m) FU v2
def f_Table_isTaken (v0 : Nat) (v1 : Int32) (m : zM) : Option (Bool) :=
  f_Table_isTaken_L2 v0 v1 0 m
def f_Table_give (v0 : Nat) (v1 : Int32) (v2 : Int32) (m : zM) : Option (zM) :=
  (ix 3 v1).bind fun i1 =>
  if 6 ≤ (m.1 (v0 + 1) i1) then
    some (m)
  else
    (ix 3 v1).bind fun i2 =>
    (ix 18 ((v1 * 6) + (m.1 (v0 + 1) i2))).bind fun i3 => lt (sI m (v0 + 2) i3 v2) fun m4 =>
    (ix 3 v1).bind fun i5 =>
    (ix 3 v1).bind fun i6 => lt (sI m4 (v0 + 1) i6 ((m4.1 (v0 + 1) i5) + 1)) fun m7 =>
    some (m7)
def f_Reader_given (v1 : Int32) (m : zM) : Option (Bool × zM) :=
  (f_Reader_name m).bind fun p1 => 
  if p1.1 = true then
    (tb li_Table p1.2 1).bind fun t2 =>
    (f_Table_isTaken t2 (p1.2.1 65 6) p1.2).bind fun r3 =>
    if r3 = true then
      (ix 1601 (p1.2.1 65 5)).bind fun i7 =>
      lt (f_Reader_refuse 3 (p1.2.1 90 i7) p1.2) fun p8 =>
      some ((p8.1, p8.2))
    else
      (tb li_Table p1.2 1).bind fun t4 =>
      (f_Table_give t4 v1 (p1.2.1 65 6) p1.2).bind fun p5 => 
      lt (sI p5 65 5 ((p5.1 65 5) + 1)) fun m6 =>
      some ((true, m6))
  else
    some ((false, p1.2))
def f_Reader_oneTooMany  (m : zM) : Option (Bool × zM) :=
  (ix 1601 (m.1 65 5)).bind fun i1 =>
  if (m.1 89 i1) = 0 then
    (f_Reader_unexpected m).bind fun p4 => 
    some ((p4.1, p4.2))
  else
    (ix 1601 (m.1 65 5)).bind fun i2 =>
    lt (f_Reader_refuse 5 (m.1 90 i2) m) fun p3 =>
    some ((p3.1, p3.2))
def f_Reader_names_J65  (m : zM) : Option (Bool × zM) :=
  (f_Reader_oneTooMany m).bind fun p5 => 
  some ((p5.1, p5.2))
def f_Reader_names_B2 (v1 : Int32) (v2 : Int32) (m : zM) : Option ((Bool × zM) ⊕ (Int32 × zM)) :=
  if 6 ≤ v2 then
    zl (f_Reader_names_J65 m)
  else
    (f_Reader_given v1 m).bind fun p1 => 
    if p1.1 = true then
      (ix 1601 (p1.2.1 65 5)).bind fun i2 =>
      if (p1.2.1 89 i2) = 4 then
        (ix 1601 (p1.2.1 65 5)).bind fun i3 =>
        if (lg_cmp (p1.2.2.1 92 i3) 44) = 0 then
          lt (sI p1.2 65 5 ((p1.2.1 65 5) + 1)) fun m4 =>
          some (.inr ((v2 + 1), m4))
        else
          some (.inl (true, p1.2))
      else
        some (.inl (true, p1.2))
    else
      some (.inl (false, p1.2))
def f_Reader_names_L2 (v1 : Int32) (v2 : Int32) (m : zM) : Option (Bool × zM) :=
  zloop (fun s : Int32 × zM => f_Reader_names_B2 v1 s.1 s.2) FU (v2, m)
def f_Reader_names (v1 : Int32) (m : zM) : Option (Bool × zM) :=
  f_Reader_names_L2 v1 0 m
def f_Reader_opening  (m : zM) : Option (Bool × zM) :=
  (f_Reader_ask 1 m).bind fun p1 => 
  if p1.1 = true then
    (f_Reader_number 2 4 p1.2).bind fun p2 => 
    if p2.1 = true then
      (tb li_Table p2.2 1).bind fun t3 =>
      lt (sI p2.2 t3 0 (p2.2.1 65 6)) fun m4 =>
      (f_Reader_ask 2 m4).bind fun p5 => 
      if p5.1 = true then
        (f_Reader_names 0 p5.2).bind fun p6 => 
        if p6.1 = true then
          some ((true, p6.2))
        else
          some ((false, p6.2))
      else
        some ((false, p5.2))
    else
      some ((false, p2.2))
  else
    some ((false, p1.2))
def f_Reader_isFree_J13  (m : zM) : Bool × zM :=
  (true, m)
def f_Reader_isFree (v1 : Int32) (v2 : Int32) (m : zM) : Bool × zM :=
  if v1 = 0 then
    lt (f_Reader_refuse 5 v2 m) fun p1 =>
    if p1.1 = true then
      f_Reader_isFree_J13 p1.2
    else
      (false, p1.2)
  else
    f_Reader_isFree_J13 m
def f_Table_openNever (v0 : Nat) (m : zM) : Option (zM) :=
  if 4 ≤ (m.1 v0 6) then
    some (m)
  else
    (ix 4 (m.1 v0 6)).bind fun i1 => lt (sI m (v0 + 4) i1 0) fun m2 =>
    lt (sI m2 v0 6 ((m2.1 v0 6) + 1)) fun m3 =>
    some (m3)
def f_Reader_known (v1 : Int32) (m : zM) : Option (Bool × zM) :=
  (f_Reader_name m).bind fun p1 => 
  if p1.1 = true then
    (tb li_Table p1.2 1).bind fun t2 =>
    (f_Table_find t2 v1 (p1.2.1 65 6) p1.2).bind fun r3 =>
    lt (sI p1.2 65 6 r3) fun m4 =>
    if (m4.1 65 6) = (-1) then
      (ix 1601 (m4.1 65 5)).bind fun i6 =>
      lt (f_Reader_refuse 3 (m4.1 90 i6) m4) fun p7 =>
      some ((p7.1, p7.2))
    else
      lt (sI m4 65 5 ((m4.1 65 5) + 1)) fun m5 =>
      some ((true, m5))
  else
    some ((false, p1.2))
def f_Table_addCount (v0 : Nat) (v1 : Int32) (v2 : Int32) (m : zM) : Option (zM) :=
  if ((m.1 v0 6) - 1) < 0 then
    some (m)
  else
    (ix 4 ((m.1 v0 6) - 1)).bind fun i1 =>
    if 3 ≤ (m.1 (v0 + 4) i1) then
      some (m)
    else
      (ix 4 ((m.1 v0 6) - 1)).bind fun i2 =>
      (ix 12 ((((m.1 v0 6) - 1) * 3) + (m.1 (v0 + 4) i2))).bind fun i3 => lt (sI m (v0 + 5) i3 v1) fun m4 =>
      (ix 12 ((((m.1 v0 6) - 1) * 3) + (m.1 (v0 + 4) i2))).bind fun i5 => lt (sI m4 (v0 + 6) i5 v2) fun m6 =>
      (ix 4 ((m.1 v0 6) - 1)).bind fun i7 =>
      (ix 4 ((m.1 v0 6) - 1)).bind fun i8 => lt (sI m6 (v0 + 4) i8 ((m6.1 (v0 + 4) i7) + 1)) fun m9 =>
      some (m9)
def f_Reader_never_J69  (m : zM) : Option (Bool × zM) :=
  (f_Reader_oneTooMany m).bind fun p8 => 
  some ((p8.1, p8.2))
def f_Reader_never_B9 (v1 : Int32) (m : zM) : Option ((Bool × zM) ⊕ (Int32 × zM)) :=
  if 3 ≤ v1 then
    zl (f_Reader_never_J69 m)
  else
    (f_Reader_number 1 4 m).bind fun p3 => 
    if p3.1 = true then
      (f_Reader_known 0 p3.2).bind fun p4 => 
      if p4.1 = true then
        (tb li_Table p4.2 1).bind fun t5 =>
        (f_Table_addCount t5 (p3.2.1 65 6) (p4.2.1 65 6) p4.2).bind fun p6 => 
        (f_Reader_word 9 p6).bind fun p7 => 
        if p7.1 = true then
          some (.inr ((v1 + 1), p7.2))
        else
          some (.inl (true, p7.2))
      else
        some (.inl (false, p4.2))
    else
      some (.inl (false, p3.2))
def f_Reader_never_L9 (v1 : Int32) (m : zM) : Option (Bool × zM) :=
  zloop (fun s : Int32 × zM => f_Reader_never_B9 s.1 s.2) FU (v1, m)
def f_Reader_never  (m : zM) : Option (Bool × zM) :=
  (tb li_Table m 1).bind fun t1 =>
  (f_Table_openNever t1 m).bind fun p2 => 
  f_Reader_never_L9 0 p2
def f_Reader_wants  (m : zM) : Option (Bool × zM) :=
  (f_Reader_known 0 m).bind fun p1 => 
  if p1.1 = true then
    (tb li_Table p1.2 1).bind fun t2 =>
    lt (sI p1.2 t2 10 (p1.2.1 65 6)) fun m3 =>
    (f_Reader_known 0 m3).bind fun p4 => 
    if p4.1 = true then
      (tb li_Table p4.2 1).bind fun t5 =>
      lt (sI p4.2 t5 11 (p4.2.1 65 6)) fun m6 =>
      some ((true, m6))
    else
      some ((false, p4.2))
  else
    some ((false, p1.2))
def f_Math_min (v0 : Int32) (v1 : Int32) : Int32 :=
  if v1 < v0 then
    v1
  else
    v0
def f_Row_clear (v0 : Nat) (v1 : Int32) (m : zM) : Option (zM) :=
  (bt v1).bind fun _ =>
  lt (sI m v0 0 v1) fun m1 =>
  lt (sI m1 v0 1 (-1)) fun m2 =>
  lt (sI m2 v0 2 (-1)) fun m3 =>
  lt (sI m3 v0 3 (-1)) fun m4 =>
  lt (sI m4 v0 4 (-1)) fun m5 =>
  lt (sI m5 v0 5 (-1)) fun m6 =>
  lt (sI m6 v0 6 (-1)) fun m7 =>
  lt (sI m7 v0 7 0) fun m8 =>
  some (m8)
def f_Table_newRow (v0 : Nat) (v1 : Int32) (m : zM) : Option (Nat × zM) :=
  (ix 16 (f_Math_min (m.1 v0 4) 15)).bind fun i1 =>
  (f_Row_clear (v0 + 7 + i1) v1 m).bind fun p2 => 
  lt (sI p2 v0 4 ((f_Math_min (m.1 v0 4) 15) + 1)) fun m3 =>
  (ix 16 (f_Math_min (m.1 v0 4) 15)).bind fun i4 =>
  some (((v0 + 7 + i4), m3))
def f_Reader_maybe_J21  (m : zM) : Option (Bool × zM) :=
  some ((true, m))
def f_Reader_maybe (v1 : Nat) (v2 : Int32) (m : zM) : Option (Bool × zM) :=
  lt (sI m 65 6 (-1)) fun m1 =>
  (f_Reader_word v1 m1).bind fun p2 => 
  if p2.1 = true then
    (f_Reader_known v2 p2.2).bind fun p3 => 
    if p3.1 = true then
      f_Reader_maybe_J21 p3.2
    else
      some ((false, p3.2))
  else
    f_Reader_maybe_J21 p2.2
def f_Reader_agentRow (v1 : Nat) (m : zM) : Option (Bool × zM) :=
  (f_Reader_known 0 m).bind fun p1 => 
  if p1.1 = true then
    lt (sI p1.2 v1 1 (p1.2.1 65 6)) fun m2 =>
    (f_Reader_maybe 12 2 m2).bind fun p3 => 
    if p3.1 = true then
      lt (sI p3.2 v1 2 (p3.2.1 65 6)) fun m4 =>
      (f_Reader_ask 13 m4).bind fun p5 => 
      if p5.1 = true then
        (f_Reader_known 0 p5.2).bind fun p6 => 
        if p6.1 = true then
          lt (sI p6.2 v1 3 (p6.2.1 65 6)) fun m7 =>
          (f_Reader_maybe 14 2 m7).bind fun p8 => 
          if p8.1 = true then
            lt (sI p8.2 v1 4 (p8.2.1 65 6)) fun m9 =>
            some ((true, m9))
          else
            some ((false, p8.2))
        else
          some ((false, p6.2))
      else
        some ((false, p5.2))
    else
      some ((false, p3.2))
  else
    some ((false, p1.2))
def f_Reader_homeRow_J138 (v1 : Nat) (t1 : Nat) (m : zM) : Option (Bool × zM) :=
  (f_Reader_maybe t1 0 m).bind fun p15 => 
  if p15.1 = true then
    lt (sI p15.2 v1 6 (p15.2.1 65 6)) fun m16 =>
    some ((true, m16))
  else
    some ((false, p15.2))
def f_Reader_homeRow (v1 : Nat) (m : zM) : Option (Bool × zM) :=
  (f_Reader_known 1 m).bind fun p1 => 
  if p1.1 = true then
    lt (sI p1.2 v1 1 (p1.2.1 65 6)) fun m2 =>
    (f_Reader_ask 12 m2).bind fun p3 => 
    if p3.1 = true then
      (f_Reader_known 2 p3.2).bind fun p4 => 
      if p4.1 = true then
        lt (sI p4.2 v1 2 (p4.2.1 65 6)) fun m5 =>
        (f_Reader_ask 13 m5).bind fun p6 => 
        if p6.1 = true then
          (f_Reader_known 1 p6.2).bind fun p7 => 
          if p7.1 = true then
            lt (sI p7.2 v1 3 (p7.2.1 65 6)) fun m8 =>
            (f_Reader_maybe 16 2 m8).bind fun p9 => 
            if p9.1 = true then
              lt (sI p9.2 v1 4 (p9.2.1 65 6)) fun m10 =>
              (f_Reader_maybe 17 2 m10).bind fun p11 => 
              if p11.1 = true then
                lt (sI p11.2 v1 5 (p11.2.1 65 6)) fun m12 =>
                (f_Reader_isNext 18 m12).bind fun r13 =>
                lt (sI m12 v1 7 (b2i r13)) fun m14 =>
                if (m14.1 v1 7) = 0 then
                  f_Reader_homeRow_J138 v1 19 m14
                else
                  f_Reader_homeRow_J138 v1 18 m14
              else
                some ((false, p11.2))
            else
              some ((false, p9.2))
          else
            some ((false, p7.2))
        else
          some ((false, p6.2))
      else
        some ((false, p4.2))
    else
      some ((false, p3.2))
  else
    some ((false, p1.2))
def f_Reader_statement_J37 (v1 : Int32) (t1 : Bool) (m : zM) : Option (Bool × zM) :=
  lt (f_Reader_isFree (b2i t1) v1 m) fun p23 =>
  if p23.1 = true then
    (f_Reader_names 1 p23.2).bind fun p24 => 
    if p24.1 = true then
      some ((true, p24.2))
    else
      some ((false, p24.2))
  else
    some ((false, p23.2))
def f_Reader_statement_J85 (v1 : Int32) (t1 : Bool) (m : zM) : Option (Bool × zM) :=
  lt (f_Reader_isFree (b2i t1) v1 m) fun p25 =>
  if p25.1 = true then
    (f_Reader_names 2 p25.2).bind fun p26 => 
    if p26.1 = true then
      some ((true, p26.2))
    else
      some ((false, p26.2))
  else
    some ((false, p25.2))
def f_Reader_statement_J146  (m : zM) : Option (Bool × zM) :=
  some ((true, m))
def f_Reader_statement_J178 (v1 : Int32) (t1 : Bool) (m : zM) : Option (Bool × zM) :=
  lt (f_Reader_isFree (b2i t1) v1 m) fun p27 =>
  if p27.1 = true then
    (f_Reader_never p27.2).bind fun p28 => 
    if p28.1 = true then
      some ((true, p28.2))
    else
      some ((false, p28.2))
  else
    some ((false, p27.2))
def f_Reader_statement_J224 (v1 : Int32) (t1 : Bool) (m : zM) : Option (Bool × zM) :=
  lt (f_Reader_isFree (b2i t1) v1 m) fun p29 =>
  if p29.1 = true then
    (f_Reader_wants p29.2).bind fun p30 => 
    if p30.1 = true then
      some ((true, p30.2))
    else
      some ((false, p30.2))
  else
    some ((false, p29.2))
def f_Reader_statement_J271 (v1 : Int32) (t1 : Bool) (m : zM) : Option (Bool × zM) :=
  lt (f_Reader_isFree (b2i t1) v1 m) fun p31 =>
  if p31.1 = true then
    (tb li_Table p31.2 1).bind fun t32 =>
    (f_Table_newRow t32 0 p31.2).bind fun p33 => (mb li_Row p33.1).bind fun _ => 
    (f_Reader_agentRow p33.1 p33.2).bind fun p34 => 
    if p34.1 = true then
      some ((true, p34.2))
    else
      some ((false, p34.2))
  else
    some ((false, p31.2))
def f_Reader_statement_J326 (v1 : Int32) (t1 : Bool) (m : zM) : Option (Bool × zM) :=
  lt (f_Reader_isFree (b2i t1) v1 m) fun p35 =>
  if p35.1 = true then
    (tb li_Table p35.2 1).bind fun t36 =>
    (f_Table_newRow t36 1 p35.2).bind fun p37 => (mb li_Row p37.1).bind fun _ => 
    (f_Reader_homeRow p37.1 p37.2).bind fun p38 => 
    if p38.1 = true then
      some ((true, p38.2))
    else
      some ((false, p38.2))
  else
    some ((false, p35.2))
def f_Reader_statement  (m : zM) : Option (Bool × zM) :=
  (ix 1601 (m.1 65 5)).bind fun i1 =>
  (f_Reader_word 3 m).bind fun p2 => 
  if p2.1 = true then
    (tb li_Table p2.2 1).bind fun t21 =>
    (ix 3 1).bind fun i22 =>
    if (p2.2.1 (t21 + 1) i22) = 0 then
      f_Reader_statement_J37 (m.1 90 i1) true p2.2
    else
      f_Reader_statement_J37 (m.1 90 i1) false p2.2
  else
    (f_Reader_word 4 p2.2).bind fun p3 => 
    if p3.1 = true then
      (tb li_Table p3.2 1).bind fun t19 =>
      (ix 3 2).bind fun i20 =>
      if (p3.2.1 (t19 + 1) i20) = 0 then
        f_Reader_statement_J85 (m.1 90 i1) true p3.2
      else
        f_Reader_statement_J85 (m.1 90 i1) false p3.2
    else
      (f_Reader_word 5 p3.2).bind fun p4 => 
      if p4.1 = true then
        (tb li_Table p4.2 1).bind fun t14 =>
        (f_Reader_isNext 6 p4.2).bind fun r15 =>
        lt (sI p4.2 t14 3 (b2i r15)) fun m16 =>
        (f_Reader_word 6 m16).bind fun p17 => 
        if p17.1 = true then
          f_Reader_statement_J146 p17.2
        else
          (f_Reader_ask 7 p17.2).bind fun p18 => 
          if p18.1 = true then
            f_Reader_statement_J146 p18.2
          else
            some ((false, p18.2))
      else
        (f_Reader_word 8 p4.2).bind fun p5 => 
        if p5.1 = true then
          (tb li_Table p5.2 1).bind fun t13 =>
          if 4 ≤ (p5.2.1 t13 6) then
            f_Reader_statement_J178 (m.1 90 i1) false p5.2
          else
            f_Reader_statement_J178 (m.1 90 i1) true p5.2
        else
          (f_Reader_word 10 p5.2).bind fun p6 => 
          if p6.1 = true then
            (tb li_Table p6.2 1).bind fun t12 =>
            if (p6.2.1 t12 10) = (-1) then
              f_Reader_statement_J224 (m.1 90 i1) true p6.2
            else
              f_Reader_statement_J224 (m.1 90 i1) false p6.2
          else
            (f_Reader_word 11 p6.2).bind fun p7 => 
            if p7.1 = true then
              (tb li_Table p7.2 1).bind fun t11 =>
              if 16 ≤ (p7.2.1 t11 4) then
                f_Reader_statement_J271 (m.1 90 i1) false p7.2
              else
                f_Reader_statement_J271 (m.1 90 i1) true p7.2
            else
              (f_Reader_word 15 p7.2).bind fun p8 => 
              if p8.1 = true then
                (tb li_Table p8.2 1).bind fun t10 =>
                if 16 ≤ (p8.2.1 t10 4) then
                  f_Reader_statement_J326 (m.1 90 i1) false p8.2
                else
                  f_Reader_statement_J326 (m.1 90 i1) true p8.2
              else
                (f_Reader_unexpected p8.2).bind fun p9 => 
                some ((p9.1, p9.2))
def f_Reader_sign_J28  (m : zM) : Option (Bool × zM) :=
  (f_Reader_unexpected m).bind fun p4 => 
  some ((p4.1, p4.2))
def f_Reader_sign (v1 : Int32) (m : zM) : Option (Bool × zM) :=
  (ix 1601 (m.1 65 5)).bind fun i1 =>
  if (m.1 89 i1) = 4 then
    (ix 1601 (m.1 65 5)).bind fun i2 =>
    if (lg_cmp (m.2.1 92 i2) v1.toInt64) = 0 then
      lt (sI m 65 5 ((m.1 65 5) + 1)) fun m3 =>
      some ((true, m3))
    else
      f_Reader_sign_J28 m
  else
    f_Reader_sign_J28 m
def f_Reader_read_J113 (v2 : Int32) (m : zM) : Option (Int32 × zM) :=
  if v2 = 0 then
    (f_Reader_unexpected m).bind fun p10 => 
    some (((-1), p10.2))
  else
    some ((v2, m))
def f_Reader_read_J55  (m : zM) : Option (Int32 × zM) :=
  (ix 1601 (m.1 65 5)).bind fun i11 =>
  lt (f_Reader_refuse 5 (m.1 90 i11) m) fun p12 =>
  some (((-1), p12.2))
def f_Reader_read_J93 (v2 : Int32) (v3 : Int32) (m : zM) : Option ((Int32 × zM) ⊕ (Int32 × Int32 × zM)) :=
  (f_Reader_sign 59 m).bind fun p13 => 
  if p13.1 = true then
    some (.inr ((v2 + 1), (v3 + 1), p13.2))
  else
    some (.inl ((-1), p13.2))
def f_Reader_read_B31 (v2 : Int32) (v3 : Int32) (m : zM) : Option ((Int32 × zM) ⊕ (Int32 × Int32 × zM)) :=
  if 60 < v3 then
    zl (f_Reader_read_J113 v2 m)
  else
    (ix 1601 (m.1 65 5)).bind fun i7 =>
    if (m.1 89 i7) = 0 then
      zl (f_Reader_read_J113 v2 m)
    else
      if v3 = 60 then
        zl (f_Reader_read_J55 m)
      else
        if v3 = 0 then
          (f_Reader_opening m).bind fun p9 => 
          if p9.1 = true then
            f_Reader_read_J93 v2 v3 p9.2
          else
            some (.inl ((-1), p9.2))
        else
          (f_Reader_statement m).bind fun p8 => 
          if p8.1 = true then
            f_Reader_read_J93 v2 v3 p8.2
          else
            some (.inl ((-1), p8.2))
def f_Reader_read_L31 (v2 : Int32) (v3 : Int32) (m : zM) : Option (Int32 × zM) :=
  zloop (fun s : Int32 × Int32 × zM => f_Reader_read_B31 s.1 s.2.1 s.2.2) FU (v2, v3, m)
def f_Reader_read (v1 : Nat) (m : zM) : Option (Int32 × zM) :=
  (tb li_Table m 1).bind fun t1 =>
  (f_Table_clear t1 m).bind fun p2 => 
  lt (sI p2 65 7 0) fun m3 =>
  lt (sI m3 65 8 (-1)) fun m4 =>
  lt (sI m4 65 5 0) fun m5 =>
  (f_Reader_scan v1 m5).bind fun p6 => 
  f_Reader_read_L31 0 0 p6
def f_Index_clear (v0 : Nat) (m : zM) : Option (zM) :=
  (f_Arrays_fill (v0 + 2) (-1) m).bind fun p1 => 
  some (p1)
def f_PA_codeOf (v0 : Int32) (v1 : Int32) (v2 : Int32) (v3 : Int32) : Int32 :=
  (((((((((v0 * 7) + v1) + 1) * 7) + v2) + 1) * 7) + v3) + 1)
def f_World_begin_J15 (v0 : Nat) (v1 : Nat) (t0 : Nat) (t1 : Int32) (m : zM) : Option (zM) :=
  lt (sI m t0 0 t1) fun m2 =>
  lt (sI m2 v0 1 (m2.1 v1 0)) fun m3 =>
  (f_Arrays_fill (v0 + 1) (f_PA_codeOf 0 (-1) (-1) (-1)) m3).bind fun p4 => 
  some (p4)
def f_World_begin (v0 : Nat) (v1 : Nat) (m : zM) : Option (zM) :=
  (ix 3 1).bind fun i1 =>
  if (m.1 (v1 + 1) i1) ≤ 0 then
    f_World_begin_J15 v0 v1 v0 (-1) m
  else
    f_World_begin_J15 v0 v1 v0 0 m
def f_World_keyOf_B11 (v0 : Nat) (v1 : Nat) (v2 : Int64) (v4 : Int32) (m : zM) : Option ((Int64) ⊕ (Int64 × Int32)) :=
  if (m.1 v0 1) ≤ v4 then
    some (.inl v2)
  else
    (ix (zlen gX v1) v4).bind fun i1 =>
    some (.inr (((v2 * 2058) + ((m.1 v1 i1).toInt64)), (v4 + 1)))
def f_World_keyOf_L11 (v0 : Nat) (v1 : Nat) (v2 : Int64) (v4 : Int32) (m : zM) : Option (Int64) :=
  zloop (fun s : Int64 × Int32 => f_World_keyOf_B11 v0 v1 s.1 s.2 m) FU (v2, v4)
def f_World_keyOf (v0 : Nat) (v1 : Nat) (m : zM) : Option (Int64) :=
  f_World_keyOf_L11 v0 v1 (((m.1 v0 0) + 1).toInt64) 0 m
def f_World_foldedKey_J91 (v0 : Nat) (m : zM) : Option (Int64 × zM) :=
  (f_World_keyOf v0 (v0 + 3) m).bind fun r1 =>
  some ((r1, m))
def f_World_foldedKey_J66 (v0 : Nat) (v1 : Int32) (v2 : Int32) (m : zM) : Option ((Int64 × zM) ⊕ (Int32 × zM)) :=
  (ix 4 v1).bind fun i6 => lt (sI m (v0 + 2) i6 v2) fun m7 =>
  (ix 4 v1).bind fun i8 =>
  (ix 4 v2).bind fun i9 => lt (sI m7 (v0 + 3) i9 (m7.1 (v0 + 1) i8)) fun m10 =>
  some (.inr ((v1 + 1), m10))
def f_World_foldedKey_J60 (v0 : Nat) (v1 : Int32) (v2 : Int32) (v3 : Int32) (m : zM) : Option (((Int64 × zM) ⊕ (Int32 × zM)) ⊕ (Int32 × Int32)) :=
  some (.inr (v2, (v3 + 1)))
def f_World_foldedKey_J57 (v0 : Nat) (v1 : Int32) (v2 : Int32) (v3 : Int32) (m : zM) : Option (((Int64 × zM) ⊕ (Int32 × zM)) ⊕ (Int32 × Int32)) :=
  f_World_foldedKey_J60 v0 v1 (v2 + 1) v3 m
def f_World_foldedKey_B14 (v0 : Nat) (v1 : Int32) (v2 : Int32) (v3 : Int32) (m : zM) : Option (((Int64 × zM) ⊕ (Int32 × zM)) ⊕ (Int32 × Int32)) :=
  if (m.1 v0 1) ≤ v3 then
    zl (f_World_foldedKey_J66 v0 v1 v2 m)
  else
    (ix 4 v3).bind fun i2 =>
    (ix 4 v1).bind fun i3 =>
    if (m.1 (v0 + 1) i2) < (m.1 (v0 + 1) i3) then
      f_World_foldedKey_J57 v0 v1 v2 v3 m
    else
      (ix 4 v3).bind fun i4 =>
      (ix 4 v1).bind fun i5 =>
      if (m.1 (v0 + 1) i4) = (m.1 (v0 + 1) i5) then
        if v1 ≤ v3 then
          f_World_foldedKey_J60 v0 v1 v2 v3 m
        else
          f_World_foldedKey_J57 v0 v1 v2 v3 m
      else
        f_World_foldedKey_J60 v0 v1 v2 v3 m
def f_World_foldedKey_L14 (v0 : Nat) (v1 : Int32) (v2 : Int32) (v3 : Int32) (m : zM) : Option ((Int64 × zM) ⊕ (Int32 × zM)) :=
  zloop (fun s : Int32 × Int32 => f_World_foldedKey_B14 v0 v1 s.1 s.2 m) FU (v2, v3)
def f_World_foldedKey_B2 (v0 : Nat) (v1 : Int32) (m : zM) : Option ((Int64 × zM) ⊕ (Int32 × zM)) :=
  if (m.1 v0 1) ≤ v1 then
    zl (f_World_foldedKey_J91 v0 m)
  else
    f_World_foldedKey_L14 v0 v1 0 0 m
def f_World_foldedKey_L2 (v0 : Nat) (v1 : Int32) (m : zM) : Option (Int64 × zM) :=
  zloop (fun s : Int32 × zM => f_World_foldedKey_B2 v0 s.1 s.2) FU (v1, m)
def f_World_foldedKey (v0 : Nat) (m : zM) : Option (Int64 × zM) :=
  f_World_foldedKey_L2 v0 0 m
def f_Index_slotOf_B13 (v0 : Nat) (v1 : Int64) (v3 : Int32) (v4 : Int32) (m : zM) : Option ((Int32) ⊕ (Int32)) :=
  if 2048 ≤ v4 then
    some (.inl (-1))
  else
    (ix 2048 ((v3 + v4) &&& 2047)).bind fun i1 =>
    if (m.1 (v0 + 2) i1) = (-1) then
      some (.inl ((v3 + v4) &&& 2047))
    else
      (ix 2048 ((v3 + v4) &&& 2047)).bind fun i2 =>
      if (lg_cmp (m.2.1 (v0 + 1) i2) v1) = 0 then
        some (.inl ((v3 + v4) &&& 2047))
      else
        some (.inr (v4 + 1))
def f_Index_slotOf_L13 (v0 : Nat) (v1 : Int64) (v3 : Int32) (v4 : Int32) (m : zM) : Option (Int32) :=
  zloop (fun s : Int32 => f_Index_slotOf_B13 v0 v1 v3 s m) FU v4
def f_Index_slotOf (v0 : Nat) (v1 : Int64) (m : zM) : Option (Int32) :=
  f_Index_slotOf_L13 v0 v1 ((lus (v1 * (-7046029254386353131)) 53).toInt32) 0 m
def f_Index_find (v0 : Nat) (v1 : Int64) (m : zM) : Option (Int32) :=
  (f_Index_slotOf v0 v1 m).bind fun r1 =>
  if r1 = (-1) then
    some ((-1))
  else
    (ix 2048 r1).bind fun i2 =>
    some ((m.1 (v0 + 2) i2))
def f_Index_put (v0 : Nat) (v1 : Int64) (v3 : Int32) (m : zM) : Option (zM) :=
  (f_Index_slotOf v0 v1 m).bind fun r1 =>
  if r1 = (-1) then
    some (m)
  else
    (ix 2048 r1).bind fun i2 => lt (sJ m (v0 + 1) i2 v1) fun m3 =>
    (ix 2048 r1).bind fun i4 => lt (sI m3 (v0 + 2) i4 v3) fun m5 =>
    some (m5)
def f_World_ownKey (v0 : Nat) (m : zM) : Option (Int64) :=
  (f_World_keyOf v0 (v0 + 1) m).bind fun r1 =>
  some (r1)
def f_Search_meet_J97 (v1 : Int32) (v2 : Int32) (t0 : Nat) (t1 : Int32) (t2 : Int32) (m : zM) : Option (Bool × zM) :=
  (ix (zlen gX t0) t1).bind fun i10 => lt (sI m t0 i10 t2) fun m11 =>
  (ix 600 (m11.1 7 8)).bind fun i12 => lt (sI m11 14 i12 v1) fun m13 =>
  (ix 600 (m13.1 7 8)).bind fun i14 => lt (sI m13 15 i14 v2) fun m15 =>
  lt (sI m15 7 8 ((m15.1 7 8) + 1)) fun m16 =>
  some ((true, m16))
def f_Search_meet (v1 : Int32) (v2 : Int32) (m : zM) : Option (Bool × zM) :=
  (f_World_foldedKey 20 m).bind fun p1 => 
  (f_Index_find 8 p1.1 p1.2).bind fun r2 =>
  if r2 = (-1) then
    if (p1.2.1 7 8) = 600 then
      some ((false, p1.2))
    else
      (f_Index_put 8 p1.1 (p1.2.1 7 8) p1.2).bind fun p3 => 
      (ix 600 (p3.1 7 8)).bind fun i4 => lt (sJ p3 12 i4 p1.1) fun m5 =>
      (f_World_ownKey 20 m5).bind fun r6 =>
      (ix 600 (m5.1 7 8)).bind fun i7 => lt (sJ m5 11 i7 r6) fun m8 =>
      if v1 = (-1) then
        f_Search_meet_J97 v1 v2 13 (m8.1 7 8) 0 m8
      else
        (ix 600 v1).bind fun i9 =>
        f_Search_meet_J97 v1 v2 13 (m8.1 7 8) ((m8.1 13 i9) + 1) m8
  else
    some ((true, p1.2))
def f_World_load_J46 (v0 : Nat) (v4 : Int64) (m : zM) : Option (zM) :=
  lt (sI m v0 0 (v4.toInt32 - 1)) fun m4 =>
  some (m4)
def f_World_load_B13 (v0 : Nat) (v4 : Int64) (v6 : Int32) (m : zM) : Option ((zM) ⊕ (Int64 × Int32 × zM)) :=
  if v6 < 0 then
    zl (f_World_load_J46 v0 v4 m)
  else
    (ix 4 v6).bind fun i2 => lt (sI m (v0 + 1) i2 ((irl v4 2058).toInt32)) fun m3 =>
    some (.inr ((v4 / 2058), (v6 + (-1)), m3))
def f_World_load_L13 (v0 : Nat) (v4 : Int64) (v6 : Int32) (m : zM) : Option (zM) :=
  zloop (fun s : Int64 × Int32 × zM => f_World_load_B13 v0 s.1 s.2.1 s.2.2) FU (v4, v6, m)
def f_World_load (v0 : Nat) (v1 : Int64) (v3 : Int32) (m : zM) : Option (zM) :=
  lt (sI m v0 1 v3) fun m1 =>
  f_World_load_L13 v0 v1 (v3 - 1) m1
def f_PA_held (v0 : Int32) (v1 : Int32) : Int32 :=
  if v1 = 0 then
    (v0 / 343)
  else
  if v1 = 1 then
    ((ir (v0 / 49) 7) - 1)
  else
  if v1 = 2 then
    ((ir (v0 / 7) 7) - 1)
  else
  if v1 = 3 then
    ((ir v0 7) - 1)
  else
  (-1)
def f_Row_isFor_J41  (m : zM) : Option (Bool) :=
  some (false)
def f_Row_isFor (v0 : Nat) (v1 : Nat) (v2 : Int32) (m : zM) : Option (Bool) :=
  (ix 4 v2).bind fun i1 =>
  if (m.1 v0 0) = 0 then
    if (f_PA_held (m.1 (v1 + 1) i1) 0) = (m.1 v0 1) then
      some (true)
    else
      some (false)
  else
    if (m.1 v1 0) = (m.1 v0 1) then
      if (f_PA_held (m.1 (v1 + 1) i1) 3) = (m.1 v0 2) then
        some (true)
      else
        f_Row_isFor_J41 m
    else
      f_Row_isFor_J41 m
def f_World_copy (v0 : Nat) (v1 : Nat) (m : zM) : Option (zM) :=
  lt (sI m v0 0 (m.1 v1 0)) fun m1 =>
  lt (sI m1 v0 1 (m1.1 v1 1)) fun m2 =>
  (zcpy 4 4 0 0 4).bind fun r3 => lt (cI m2 (v1 + 1) (v0 + 1) r3.1 r3.2.1 r3.2.2) fun m4 =>
  some (m4)
def f_World_hasOther_J31 (v0 : Nat) (v1 : Int32) (v2 : Int32) (v3 : Int32) (m : zM) : Option ((Bool) ⊕ (Int32)) :=
  some (.inr (v3 + 1))
def f_World_hasOther_B2 (v0 : Nat) (v1 : Int32) (v2 : Int32) (v3 : Int32) (m : zM) : Option ((Bool) ⊕ (Int32)) :=
  if (m.1 v0 1) ≤ v3 then
    some (.inl false)
  else
    if v3 = v1 then
      f_World_hasOther_J31 v0 v1 v2 v3 m
    else
      (ix 4 v3).bind fun i1 =>
      if (f_PA_held (m.1 (v0 + 1) i1) 0) = v2 then
        some (.inl true)
      else
        f_World_hasOther_J31 v0 v1 v2 v3 m
def f_World_hasOther_L2 (v0 : Nat) (v1 : Int32) (v2 : Int32) (v3 : Int32) (m : zM) : Option (Bool) :=
  zloop (fun s : Int32 => f_World_hasOther_B2 v0 v1 v2 s m) FU v3
def f_World_hasOther (v0 : Nat) (v1 : Int32) (v2 : Int32) (m : zM) : Option (Bool) :=
  f_World_hasOther_L2 v0 v1 v2 0 m
def f_World_receive_J67 (v0 : Nat) (v1 : Int32) (v4 : Int32) (v5 : Int32) (m : zM) : Option (Bool × zM) :=
  (ix 4 v1).bind fun i3 =>
  (ix 4 v1).bind fun i4 =>
  (ix 4 v1).bind fun i5 => lt (sI m (v0 + 1) i5 (f_PA_codeOf (f_PA_held (m.1 (v0 + 1) i3) 0) v4 v5 (f_PA_held (m.1 (v0 + 1) i4) 3))) fun m6 =>
  some ((true, m6))
def f_World_receive_J64 (v0 : Nat) (v1 : Int32) (v2 : Int32) (v4 : Int32) (m : zM) : Option (Bool × zM) :=
  f_World_receive_J67 v0 v1 v4 v2 m
def f_World_receive (v0 : Nat) (v1 : Int32) (v2 : Int32) (v3 : Int32) (m : zM) : Option (Bool × zM) :=
  (ix 4 v1).bind fun i1 =>
  (ix 4 v1).bind fun i2 =>
  if (f_PA_held (m.1 (v0 + 1) i2) 2) = (-1) then
    if (f_PA_held (m.1 (v0 + 1) i1) 1) = (-1) then
      f_World_receive_J67 v0 v1 v2 (f_PA_held (m.1 (v0 + 1) i2) 2) m
    else
      if v3 = 0 then
        f_World_receive_J64 v0 v1 v2 (f_PA_held (m.1 (v0 + 1) i1) 1) m
      else
        if (f_PA_held (m.1 (v0 + 1) i1) 1) ≤ v2 then
          f_World_receive_J64 v0 v1 v2 (f_PA_held (m.1 (v0 + 1) i1) 1) m
        else
          f_World_receive_J67 v0 v1 v2 (f_PA_held (m.1 (v0 + 1) i1) 1) m
  else
    some ((false, m))
def f_Row_serve_J135 (v0 : Nat) (v1 : Nat) (v2 : Int32) (v3 : Int32) (v5 : Int32) (m : zM) : Option ((Bool × zM) ⊕ (Int32 × zM)) :=
  some (.inr ((v5 + 1), m))
def f_Row_serve_B96 (v0 : Nat) (v1 : Nat) (v2 : Int32) (v3 : Int32) (v5 : Int32) (m : zM) : Option ((Bool × zM) ⊕ (Int32 × zM)) :=
  if (m.1 v0 5) = (-1) then
    some (.inl (true, m))
  else
    if (m.1 v1 1) ≤ v5 then
      some (.inl (true, m))
    else
      if v5 = v2 then
        f_Row_serve_J135 v0 v1 v2 v3 v5 m
      else
        (f_World_receive v1 v5 (m.1 v0 5) v3 m).bind fun p7 => 
        if p7.1 = true then
          f_Row_serve_J135 v0 v1 v2 v3 v5 p7.2
        else
          some (.inl (false, p7.2))
def f_Row_serve_L96 (v0 : Nat) (v1 : Nat) (v2 : Int32) (v3 : Int32) (v5 : Int32) (m : zM) : Option (Bool × zM) :=
  zloop (fun s : Int32 × zM => f_Row_serve_B96 v0 v1 v2 v3 s.1 s.2) FU (v5, m)
def f_Row_serve_J93 (v0 : Nat) (v1 : Nat) (v2 : Int32) (v3 : Int32) (m : zM) : Option (Bool × zM) :=
  f_Row_serve_L96 v0 v1 v2 v3 0 m
def f_Row_serve_J34 (v0 : Nat) (v1 : Nat) (v2 : Int32) (v3 : Int32) (v4 : Int32) (m : zM) : Option (Bool × zM) :=
  lt (sI m v1 0 (m.1 v0 3)) fun m3 =>
  (ix 4 v2).bind fun i4 => lt (sI m3 (v1 + 1) i4 (f_PA_codeOf (f_PA_held v4 0) (f_PA_held v4 1) (f_PA_held v4 2) (-1))) fun m5 =>
  if (m5.1 v0 4) = (-1) then
    f_Row_serve_J93 v0 v1 v2 v3 m5
  else
    (f_World_receive v1 v2 (m5.1 v0 4) v3 m5).bind fun p6 => 
    if p6.1 = true then
      f_Row_serve_J93 v0 v1 v2 v3 p6.2
    else
      some ((false, p6.2))
def f_Row_serve (v0 : Nat) (v1 : Nat) (v2 : Int32) (v3 : Int32) (m : zM) : Option (Bool × zM) :=
  (ix 4 v2).bind fun i1 =>
  if (m.1 v0 6) = (-1) then
    f_Row_serve_J34 v0 v1 v2 v3 (m.1 (v1 + 1) i1) m
  else
    (f_World_hasOther v1 v2 (m.1 v0 6) m).bind fun r2 =>
    if (b2i r2) = (m.1 v0 7) then
      f_Row_serve_J34 v0 v1 v2 v3 (m.1 (v1 + 1) i1) m
    else
      some ((false, m))
def f_Row_step_J115 (v0 : Nat) (v1 : Nat) (v2 : Int32) (v5 : Int32) (v6 : Int32) (v7 : Int32) (m : zM) : Option (Bool × zM) :=
  (ix 4 v2).bind fun i2 => lt (sI m (v1 + 1) i2 (f_PA_codeOf (m.1 v0 3) v5 v6 v7)) fun m3 =>
  some ((true, m3))
def f_Row_step_J93 (v0 : Nat) (v1 : Nat) (v2 : Int32) (v5 : Int32) (v6 : Int32) (v7 : Int32) (m : zM) : Option (Bool × zM) :=
  if (m.1 v0 4) = (-1) then
    f_Row_step_J115 v0 v1 v2 v5 v6 v7 m
  else
    if v7 = (-1) then
      f_Row_step_J115 v0 v1 v2 v5 v6 (m.1 v0 4) m
    else
      some ((false, m))
def f_Row_step_J88 (v0 : Nat) (v1 : Nat) (v2 : Int32) (v7 : Int32) (t0 : Int32) (m : zM) : Option (Bool × zM) :=
  f_Row_step_J93 v0 v1 v2 t0 (-1) v7 m
def f_Row_step_J76 (v0 : Nat) (v1 : Nat) (v2 : Int32) (v5 : Int32) (v6 : Int32) (v7 : Int32) (v8 : Bool) (m : zM) : Option (Bool × zM) :=
  if v8 = true then
    f_Row_step_J88 v0 v1 v2 v7 v6 m
  else
    f_Row_step_J88 v0 v1 v2 v7 v5 m
def f_Row_step_J54 (v0 : Nat) (v1 : Nat) (v2 : Int32) (v3 : Int32) (v5 : Int32) (v6 : Int32) (v7 : Int32) (t0 : Bool) (m : zM) : Option (Bool × zM) :=
  if t0 = true then
    f_Row_step_J76 v0 v1 v2 v5 v6 v7 t0 m
  else
    if v3 = 0 then
      some ((false, m))
    else
      if v6 = (m.1 v0 2) then
        f_Row_step_J76 v0 v1 v2 v5 v6 v7 t0 m
      else
        some ((false, m))
def f_Row_step (v0 : Nat) (v1 : Nat) (v2 : Int32) (v3 : Int32) (m : zM) : Option (Bool × zM) :=
  (ix 4 v2).bind fun i1 =>
  if (m.1 v0 2) = (-1) then
    f_Row_step_J93 v0 v1 v2 (f_PA_held (m.1 (v1 + 1) i1) 1) (f_PA_held (m.1 (v1 + 1) i1) 2) (f_PA_held (m.1 (v1 + 1) i1) 3) m
  else
    if (f_PA_held (m.1 (v1 + 1) i1) 1) = (m.1 v0 2) then
      f_Row_step_J54 v0 v1 v2 v3 (f_PA_held (m.1 (v1 + 1) i1) 1) (f_PA_held (m.1 (v1 + 1) i1) 2) (f_PA_held (m.1 (v1 + 1) i1) 3) true m
    else
      f_Row_step_J54 v0 v1 v2 v3 (f_PA_held (m.1 (v1 + 1) i1) 1) (f_PA_held (m.1 (v1 + 1) i1) 2) (f_PA_held (m.1 (v1 + 1) i1) 3) false m
def f_Row_go (v0 : Nat) (v1 : Nat) (v2 : Int32) (v3 : Int32) (m : zM) : Option (Bool × zM) :=
  if (m.1 v0 0) = 0 then
    (f_Row_step v0 v1 v2 v3 m).bind fun p1 => 
    some ((p1.1, p1.2))
  else
    (f_Row_serve v0 v1 v2 v3 m).bind fun p2 => 
    some ((p2.1, p2.2))
def f_Table_go (v0 : Nat) (v1 : Nat) (v2 : Int32) (v3 : Int32) (v4 : Nat) (m : zM) : Option (Bool × zM) :=
  (ix 16 v2).bind fun i1 =>
  (f_Row_isFor (v0 + 7 + i1) v1 v3 m).bind fun r2 =>
  if r2 = true then
    (f_World_copy v4 v1 m).bind fun p3 => 
    (ix 16 v2).bind fun i4 =>
    (f_Row_go (v0 + 7 + i4) v4 v3 (p3.1 v0 3) p3).bind fun p5 => 
    some ((p5.1, p5.2))
  else
    some ((false, m))
def f_Search_expand_J62 (v1 : Int32) (v2 : Nat) (v3 : Int32) (m : zM) : Option ((Bool × zM) ⊕ (Int32 × zM)) :=
  some (.inr ((v3 + 1), m))
def f_Search_expand_J56 (v1 : Int32) (v2 : Nat) (v3 : Int32) (v4 : Int32) (m : zM) : Option (((Bool × zM) ⊕ (Int32 × zM)) ⊕ (Int32 × zM)) :=
  some (.inr ((v4 + 1), m))
def f_Search_expand_B13 (v1 : Int32) (v2 : Nat) (v3 : Int32) (v4 : Int32) (m : zM) : Option (((Bool × zM) ⊕ (Int32 × zM)) ⊕ (Int32 × zM)) :=
  if (m.1 v2 0) ≤ v4 then
    zl (f_Search_expand_J62 v1 v2 v3 m)
  else
    (f_Table_go v2 16 v3 v4 20 m).bind fun p1 => 
    if p1.1 = true then
      (f_Search_meet v1 ((v3 * 4) + v4) p1.2).bind fun p2 => 
      if p2.1 = true then
        f_Search_expand_J56 v1 v2 v3 v4 p2.2
      else
        some (.inl (.inl (false, p2.2)))
    else
      f_Search_expand_J56 v1 v2 v3 v4 p1.2
def f_Search_expand_L13 (v1 : Int32) (v2 : Nat) (v3 : Int32) (v4 : Int32) (m : zM) : Option ((Bool × zM) ⊕ (Int32 × zM)) :=
  zloop (fun s : Int32 × zM => f_Search_expand_B13 v1 v2 v3 s.1 s.2) FU (v4, m)
def f_Search_expand_B2 (v1 : Int32) (v2 : Nat) (v3 : Int32) (m : zM) : Option ((Bool × zM) ⊕ (Int32 × zM)) :=
  if (m.1 v2 4) ≤ v3 then
    some (.inl (true, m))
  else
    f_Search_expand_L13 v1 v2 v3 0 m
def f_Search_expand_L2 (v1 : Int32) (v2 : Nat) (v3 : Int32) (m : zM) : Option (Bool × zM) :=
  zloop (fun s : Int32 × zM => f_Search_expand_B2 v1 v2 s.1 s.2) FU (v3, m)
def f_Search_expand (v1 : Int32) (v2 : Nat) (m : zM) : Option (Bool × zM) :=
  f_Search_expand_L2 v1 v2 0 m
def f_Search_explore_B29 (v1 : Nat) (v2 : Int32) (m : zM) : Option ((Bool × zM) ⊕ (Int32 × zM)) :=
  if 600 ≤ v2 then
    some (.inl (true, m))
  else
    if (m.1 7 8) ≤ v2 then
      some (.inl (true, m))
    else
      (ix 600 v2).bind fun i5 =>
      (f_World_load 16 (m.2.1 11 i5) (m.1 v1 0) m).bind fun p6 => 
      (f_Search_expand v2 v1 p6).bind fun p7 => 
      if p7.1 = true then
        some (.inr ((v2 + 1), p7.2))
      else
        some (.inl (false, p7.2))
def f_Search_explore_L29 (v1 : Nat) (v2 : Int32) (m : zM) : Option (Bool × zM) :=
  zloop (fun s : Int32 × zM => f_Search_explore_B29 v1 s.1 s.2) FU (v2, m)
def f_Search_explore (v1 : Nat) (m : zM) : Option (Bool × zM) :=
  (f_Index_clear 8 m).bind fun p1 => 
  lt (sI p1 7 8 0) fun m2 =>
  (f_World_begin 20 v1 m2).bind fun p3 => 
  (f_Search_meet (-1) 0 p3).bind fun p4 => 
  f_Search_explore_L29 v1 0 p4.2
def f_Atlas_isAfter (v1 : Int32) (v2 : Int32) (m : zM) : Option (Bool) :=
  (ix 600 v1).bind fun i1 =>
  (ix 600 v2).bind fun i2 =>
  if (m.1 13 i1) = (m.1 13 i2) then
    (ix 600 v1).bind fun i3 =>
    (ix 600 v2).bind fun i4 =>
    if (lg_cmp (m.2.1 12 i3) (m.2.1 12 i4)) ≤ 0 then
      some (false)
    else
      some (true)
  else
    (ix 600 v1).bind fun i5 =>
    (ix 600 v2).bind fun i6 =>
    if (m.1 13 i5) ≤ (m.1 13 i6) then
      some (false)
    else
      some (true)
def f_Atlas_sort_B67 (v2 : Int32) (m : zM) : Option ((zM) ⊕ (Int32 × zM)) :=
  if (m.1 24 0) ≤ v2 then
    some (.inl m)
  else
    (ix 600 v2).bind fun i1 =>
    (ix 600 (m.1 38 i1)).bind fun i2 => lt (sI m 39 i2 v2) fun m3 =>
    some (.inr ((v2 + 1), m3))
def f_Atlas_sort_L67 (v2 : Int32) (m : zM) : Option (zM) :=
  zloop (fun s : Int32 × zM => f_Atlas_sort_B67 s.1 s.2) FU (v2, m)
def f_Atlas_sort_J65  (m : zM) : Option (zM) :=
  f_Atlas_sort_L67 0 m
def f_Atlas_sort_J52 (v2 : Int32) (v3 : Int32) (m : zM) : Option ((zM) ⊕ (Int32 × zM)) :=
  (ix 600 v3).bind fun i9 => lt (sI m 38 i9 v2) fun m10 =>
  some (.inr ((v2 + 1), m10))
def f_Atlas_sort_B12 (v2 : Int32) (v3 : Int32) (m : zM) : Option (((zM) ⊕ (Int32 × zM)) ⊕ (Int32 × zM)) :=
  if v3 ≤ 0 then
    zl (f_Atlas_sort_J52 v2 v3 m)
  else
    (ix 600 (v3 - 1)).bind fun i4 =>
    (f_Atlas_isAfter (m.1 38 i4) v2 m).bind fun r5 =>
    if r5 = true then
      (ix 600 (v3 - 1)).bind fun i6 =>
      (ix 600 v3).bind fun i7 => lt (sI m 38 i7 (m.1 38 i6)) fun m8 =>
      some (.inr ((v3 + (-1)), m8))
    else
      zl (f_Atlas_sort_J52 v2 v3 m)
def f_Atlas_sort_L12 (v2 : Int32) (v3 : Int32) (m : zM) : Option ((zM) ⊕ (Int32 × zM)) :=
  zloop (fun s : Int32 × zM => f_Atlas_sort_B12 v2 s.1 s.2) FU (v3, m)
def f_Atlas_sort_B2 (v2 : Int32) (m : zM) : Option ((zM) ⊕ (Int32 × zM)) :=
  if (m.1 24 0) ≤ v2 then
    zl (f_Atlas_sort_J65 m)
  else
    f_Atlas_sort_L12 v2 v2 m
def f_Atlas_sort_L2 (v2 : Int32) (m : zM) : Option (zM) :=
  zloop (fun s : Int32 × zM => f_Atlas_sort_B2 s.1 s.2) FU (v2, m)
def f_Atlas_sort  (m : zM) : Option (zM) :=
  f_Atlas_sort_L2 0 m
def f_World_inState_J32 (v0 : Nat) (v1 : Int32) (v3 : Int32) (t0 : Int32) (t1 : Bool) (m : zM) : Option ((Int32) ⊕ (Int32 × Int32)) :=
  some (.inr ((t0 + (b2i t1)), (v3 + 1)))
def f_World_inState_B4 (v0 : Nat) (v1 : Int32) (v2 : Int32) (v3 : Int32) (m : zM) : Option ((Int32) ⊕ (Int32 × Int32)) :=
  if (m.1 v0 1) ≤ v3 then
    some (.inl v2)
  else
    (ix 4 v3).bind fun i1 =>
    if (f_PA_held (m.1 (v0 + 1) i1) 0) = v1 then
      f_World_inState_J32 v0 v1 v3 v2 true m
    else
      f_World_inState_J32 v0 v1 v3 v2 false m
def f_World_inState_L4 (v0 : Nat) (v1 : Int32) (v2 : Int32) (v3 : Int32) (m : zM) : Option (Int32) :=
  zloop (fun s : Int32 × Int32 => f_World_inState_B4 v0 v1 s.1 s.2 m) FU (v2, v3)
def f_World_inState (v0 : Nat) (v1 : Int32) (m : zM) : Option (Int32) :=
  f_World_inState_L4 v0 v1 0 0 m
def f_Table_isBad_J69 (v0 : Nat) (v1 : Nat) (v2 : Int32) (v3 : Int32) (m : zM) : Option ((Bool) ⊕ (Int32)) :=
  if v3 = 0 then
    some (.inr (v2 + 1))
  else
    some (.inl true)
def f_Table_isBad_J61 (v0 : Nat) (v1 : Nat) (v2 : Int32) (v4 : Int32) (t0 : Int32) (t1 : Bool) (m : zM) : Option (((Bool) ⊕ (Int32)) ⊕ (Int32 × Int32)) :=
  some (.inr ((t0 &&& (b2i t1)), (v4 + 1)))
def f_Table_isBad_B15 (v0 : Nat) (v1 : Nat) (v2 : Int32) (v3 : Int32) (v4 : Int32) (m : zM) : Option (((Bool) ⊕ (Int32)) ⊕ (Int32 × Int32)) :=
  (ix 4 v2).bind fun i1 =>
  if (m.1 (v0 + 4) i1) ≤ v4 then
    zl (f_Table_isBad_J69 v0 v1 v2 v3 m)
  else
    (ix 12 ((v2 * 3) + v4)).bind fun i2 =>
    (f_World_inState v1 (m.1 (v0 + 6) i2) m).bind fun r3 =>
    (ix 12 ((v2 * 3) + v4)).bind fun i4 =>
    if r3 < (m.1 (v0 + 5) i4) then
      f_Table_isBad_J61 v0 v1 v2 v4 v3 false m
    else
      f_Table_isBad_J61 v0 v1 v2 v4 v3 true m
def f_Table_isBad_L15 (v0 : Nat) (v1 : Nat) (v2 : Int32) (v3 : Int32) (v4 : Int32) (m : zM) : Option ((Bool) ⊕ (Int32)) :=
  zloop (fun s : Int32 × Int32 => f_Table_isBad_B15 v0 v1 v2 s.1 s.2 m) FU (v3, v4)
def f_Table_isBad_B2 (v0 : Nat) (v1 : Nat) (v2 : Int32) (m : zM) : Option ((Bool) ⊕ (Int32)) :=
  if (m.1 v0 6) ≤ v2 then
    some (.inl false)
  else
    f_Table_isBad_L15 v0 v1 v2 1 0 m
def f_Table_isBad_L2 (v0 : Nat) (v1 : Nat) (v2 : Int32) (m : zM) : Option (Bool) :=
  zloop (fun s : Int32 => f_Table_isBad_B2 v0 v1 s m) FU v2
def f_Table_isBad (v0 : Nat) (v1 : Nat) (m : zM) : Option (Bool) :=
  f_Table_isBad_L2 v0 v1 0 m
def f_Atlas_describe_J150 (v1 : Int32) (v3 : Int32) (m : zM) : Option (zM) :=
  (ix 600 v1).bind fun i9 => lt (sI m 32 i9 v3) fun m10 =>
  some (m10)
def f_Atlas_describe_J132 (v1 : Int32) (v3 : Int32) (v5 : Int32) (t0 : Int32) (m : zM) : Option ((zM) ⊕ (Int32 × Int32 × Int32 × zM)) :=
  (nz t0).bind fun _ =>
  some (.inr (((v3 * (v5 + 1)) / t0), t0, (v5 + 1), m))
def f_Atlas_describe_J118 (v1 : Int32) (v3 : Int32) (v4 : Int32) (v5 : Int32) (v7 : Bool) (t0 : Nat) (t1 : Int32) (t2 : Int32) (m : zM) : Option ((zM) ⊕ (Int32 × Int32 × Int32 × zM)) :=
  (ix (zlen gX t0) t1).bind fun i12 => lt (sI m t0 i12 t2) fun m13 =>
  if v7 = true then
    f_Atlas_describe_J132 v1 v3 v5 (v4 + 1) m13
  else
    f_Atlas_describe_J132 v1 v3 v5 1 m13
def f_Atlas_describe_J91 (v1 : Int32) (v3 : Int32) (v4 : Int32) (v5 : Int32) (v6 : Int32) (t0 : Bool) (m : zM) : Option ((zM) ⊕ (Int32 × Int32 × Int32 × zM)) :=
  if t0 = true then
    (ix 2400 (v6 - 1)).bind fun i11 =>
    f_Atlas_describe_J118 v1 v3 v4 v5 t0 35 v6 (m.1 35 i11) m
  else
    f_Atlas_describe_J118 v1 v3 v4 v5 t0 35 v6 v5 m
def f_Atlas_describe_J90 (v1 : Int32) (v3 : Int32) (v4 : Int32) (v5 : Int32) (v6 : Int32) (m : zM) : Option ((zM) ⊕ (Int32 × Int32 × Int32 × zM)) :=
  f_Atlas_describe_J91 v1 v3 v4 v5 v6 false m
def f_Atlas_describe_B22 (v1 : Int32) (v3 : Int32) (v4 : Int32) (v5 : Int32) (m : zM) : Option ((zM) ⊕ (Int32 × Int32 × Int32 × zM)) :=
  if (m.1 24 1) ≤ v5 then
    zl (f_Atlas_describe_J150 v1 v3 m)
  else
    (ix 4 v5).bind fun i4 =>
    (ix 2400 ((v1 * 4) + v5)).bind fun i5 => lt (sI m 34 i5 (m.1 (40 + 1) i4)) fun m6 =>
    if v5 ≤ 0 then
      f_Atlas_describe_J90 v1 v3 v4 v5 ((v1 * 4) + v5) m6
    else
      (ix 4 v5).bind fun i7 =>
      (ix 4 (v5 - 1)).bind fun i8 =>
      if (m6.1 (40 + 1) i7) = (m6.1 (40 + 1) i8) then
        f_Atlas_describe_J91 v1 v3 v4 v5 ((v1 * 4) + v5) true m6
      else
        f_Atlas_describe_J90 v1 v3 v4 v5 ((v1 * 4) + v5) m6
def f_Atlas_describe_L22 (v1 : Int32) (v3 : Int32) (v4 : Int32) (v5 : Int32) (m : zM) : Option (zM) :=
  zloop (fun s : Int32 × Int32 × Int32 × zM => f_Atlas_describe_B22 v1 s.1 s.2.1 s.2.2.1 s.2.2.2) FU (v3, v4, v5, m)
def f_Atlas_describe (v1 : Int32) (v2 : Nat) (m : zM) : Option (zM) :=
  (f_Table_isBad v2 40 m).bind fun r1 =>
  (ix 600 v1).bind fun i2 => lt (sI m 33 i2 (b2i r1)) fun m3 =>
  f_Atlas_describe_L22 v1 1 0 0 m3
def f_Atlas_number (v1 : Nat) (m : zM) : Option (Int32 × zM) :=
  (f_World_foldedKey v1 m).bind fun p1 => 
  (f_Index_find 25 p1.1 p1.2).bind fun r2 =>
  some ((r2, p1.2))
def f_Atlas_pack_J41 (v1 : Int32) (v2 : Int32) (v3 : Int32) (v4 : Int32) (m : zM) : Option (Int32) :=
  some (((shl ((((v1 * 16) + v2) * 4) + v3) 8) ||| v4))
def f_Atlas_pack_B6 (v1 : Int32) (v2 : Int32) (v3 : Int32) (v4 : Int32) (v5 : Int32) (m : zM) : Option ((Int32) ⊕ (Int32 × Int32)) :=
  if (m.1 24 1) ≤ v5 then
    zl (f_Atlas_pack_J41 v1 v2 v3 v4 m)
  else
    (ix 4 v5).bind fun i1 =>
    some (.inr ((v4 ||| (shl (m.1 (44 + 2) i1) (2 * v5))), (v5 + 1)))
def f_Atlas_pack_L6 (v1 : Int32) (v2 : Int32) (v3 : Int32) (v4 : Int32) (v5 : Int32) (m : zM) : Option (Int32) :=
  zloop (fun s : Int32 × Int32 => f_Atlas_pack_B6 v1 v2 v3 s.1 s.2 m) FU (v4, v5)
def f_Atlas_pack (v1 : Int32) (v2 : Int32) (v3 : Int32) (m : zM) : Option (Int32) :=
  f_Atlas_pack_L6 v1 v2 v3 0 0 m
def f_Atlas_addMoves_J82 (v2 : Nat) (v3 : Int32) (v4 : Int32) (m : zM) : Option ((Int32 × zM) ⊕ (Int32 × Int32 × zM)) :=
  some (.inr (v3, (v4 + 1), m))
def f_Atlas_addMoves_J76 (v2 : Nat) (v3 : Int32) (v4 : Int32) (v5 : Int32) (m : zM) : Option (((Int32 × zM) ⊕ (Int32 × Int32 × zM)) ⊕ (Int32 × Int32 × zM)) :=
  some (.inr (v3, (v5 + 1), m))
def f_Atlas_addMoves_B17 (v2 : Nat) (v3 : Int32) (v4 : Int32) (v5 : Int32) (m : zM) : Option (((Int32 × zM) ⊕ (Int32 × Int32 × zM)) ⊕ (Int32 × Int32 × zM)) :=
  if (m.1 24 1) ≤ v5 then
    zl (f_Atlas_addMoves_J82 v2 v3 v4 m)
  else
    if 38400 ≤ v3 then
      f_Atlas_addMoves_J76 v2 v3 v4 v5 m
    else
      (f_Table_go v2 40 v4 v5 44 m).bind fun p1 => 
      if p1.1 = true then
        (f_Atlas_number 44 p1.2).bind fun p2 => 
        (f_Atlas_pack p2.1 v4 v5 p2.2).bind fun r3 =>
        (ix 38400 v3).bind fun i4 => lt (sI p2.2 37 i4 r3) fun m5 =>
        f_Atlas_addMoves_J76 v2 (v3 + 1) v4 v5 m5
      else
        f_Atlas_addMoves_J76 v2 v3 v4 v5 p1.2
def f_Atlas_addMoves_L17 (v2 : Nat) (v3 : Int32) (v4 : Int32) (v5 : Int32) (m : zM) : Option ((Int32 × zM) ⊕ (Int32 × Int32 × zM)) :=
  zloop (fun s : Int32 × Int32 × zM => f_Atlas_addMoves_B17 v2 s.1 v4 s.2.1 s.2.2) FU (v3, v5, m)
def f_Atlas_addMoves_B5 (v2 : Nat) (v3 : Int32) (v4 : Int32) (m : zM) : Option ((Int32 × zM) ⊕ (Int32 × Int32 × zM)) :=
  if (m.1 v2 4) ≤ v4 then
    some (.inl (v3, m))
  else
    f_Atlas_addMoves_L17 v2 v3 v4 0 m
def f_Atlas_addMoves_L5 (v2 : Nat) (v3 : Int32) (v4 : Int32) (m : zM) : Option (Int32 × zM) :=
  zloop (fun s : Int32 × Int32 × zM => f_Atlas_addMoves_B5 v2 s.1 s.2.1 s.2.2) FU (v3, v4, m)
def f_Atlas_addMoves (v1 : Int32) (v2 : Nat) (m : zM) : Option (Int32 × zM) :=
  f_Atlas_addMoves_L5 v2 v1 0 m
def f_Atlas_fill_J198 (v3 : Int32) (m : zM) : Option (zM) :=
  (ix 601 (m.1 24 0)).bind fun i21 => lt (sI m 36 i21 v3) fun m22 =>
  some (m22)
def f_Atlas_fill_B143 (v2 : Nat) (v3 : Int32) (v4 : Int32) (m : zM) : Option ((zM) ⊕ (Int32 × Int32 × zM)) :=
  if (m.1 24 0) ≤ v4 then
    zl (f_Atlas_fill_J198 v3 m)
  else
    (ix 601 v4).bind fun i15 => lt (sI m 36 i15 v3) fun m16 =>
    (ix 600 v4).bind fun i17 =>
    (f_World_load 40 (m16.2.1 28 i17) (m16.1 24 1) m16).bind fun p18 => 
    (f_Atlas_describe v4 v2 p18).bind fun p19 => 
    (f_Atlas_addMoves v3 v2 p19).bind fun p20 => 
    some (.inr (p20.1, (v4 + 1), p20.2))
def f_Atlas_fill_L143 (v2 : Nat) (v3 : Int32) (v4 : Int32) (m : zM) : Option (zM) :=
  zloop (fun s : Int32 × Int32 × zM => f_Atlas_fill_B143 v2 s.1 s.2.1 s.2.2) FU (v3, v4, m)
def f_Atlas_fill_J138 (v2 : Nat) (m : zM) : Option (zM) :=
  f_Atlas_fill_L143 v2 0 0 m
def f_Atlas_fill_J104 (v2 : Nat) (v3 : Int32) (v4 : Int32) (t0 : Nat) (t1 : Int32) (t2 : Int32) (m : zM) : Option ((zM) ⊕ (Int32 × zM)) :=
  (ix (zlen gX t0) t1).bind fun i23 => lt (sI m t0 i23 t2) fun m24 =>
  (ix 600 v4).bind fun i25 =>
  (ix 600 v3).bind fun i26 => lt (sI m24 31 i26 (m24.1 15 i25)) fun m27 =>
  (ix 600 v3).bind fun i28 =>
  (f_Index_put 25 (m27.2.1 28 i28) v3 m27).bind fun p29 => 
  some (.inr ((v3 + 1), p29))
def f_Atlas_fill_B30 (v2 : Nat) (v3 : Int32) (m : zM) : Option ((zM) ⊕ (Int32 × zM)) :=
  if (m.1 24 0) ≤ v3 then
    zl (f_Atlas_fill_J138 v2 m)
  else
    (ix 600 v3).bind fun i5 =>
    (ix 600 (m.1 38 i5)).bind fun i6 =>
    (ix 600 v3).bind fun i7 => lt (sJ m 28 i7 (m.2.1 12 i6)) fun m8 =>
    (ix 600 (m.1 38 i5)).bind fun i9 =>
    (ix 600 v3).bind fun i10 => lt (sI m8 29 i10 (m8.1 13 i9)) fun m11 =>
    (ix 600 (m.1 38 i5)).bind fun i12 =>
    if (m11.1 14 i12) = (-1) then
      f_Atlas_fill_J104 v2 v3 (m.1 38 i5) 30 v3 (-1) m11
    else
      (ix 600 (m.1 38 i5)).bind fun i13 =>
      (ix 600 (m11.1 14 i13)).bind fun i14 =>
      f_Atlas_fill_J104 v2 v3 (m.1 38 i5) 30 v3 (m11.1 39 i14) m11
def f_Atlas_fill_L30 (v2 : Nat) (v3 : Int32) (m : zM) : Option (zM) :=
  zloop (fun s : Int32 × zM => f_Atlas_fill_B30 v2 s.1 s.2) FU (v3, m)
def f_Atlas_fill (v2 : Nat) (m : zM) : Option (zM) :=
  lt (sI m 24 0 (m.1 7 8)) fun m1 =>
  lt (sI m1 24 1 (m1.1 v2 0)) fun m2 =>
  (f_Index_clear 25 m2).bind fun p3 => 
  (f_Atlas_sort p3).bind fun p4 => 
  f_Atlas_fill_L30 v2 0 p4
def f_Joined_isAvoided (v1 : Int32) (m : zM) : Option (Bool) :=
  if (m.1 129 3) = (-1) then
    some (false)
  else
    (ix 2400 v1).bind fun i1 =>
    if ((m.1 34 i1) / 343) = (m.1 129 3) then
      some (true)
    else
      some (false)
def f_Joined_isNode (v1 : Int32) (m : zM) : Option (Bool) :=
  if (m.1 129 1) = 0 then
    if (ir v1 4) = 0 then
      some (true)
    else
      some (false)
  else
    if (m.1 24 1) ≤ (ir v1 4) then
      some (false)
    else
      (ix 2400 v1).bind fun i1 =>
      if (m.1 35 i1) = (ir v1 4) then
        (f_Joined_isAvoided v1 m).bind fun r2 =>
        if r2 = true then
          some (false)
        else
          some (true)
      else
        some (false)
def f_Joined_enter (v1 : Int32) (m : zM) : Option (zM) :=
  (ix 2400 v1).bind fun i1 => lt (sI m 133 i1 (m.1 129 13)) fun m2 =>
  (ix 2400 v1).bind fun i3 => lt (sI m2 134 i3 (m2.1 129 13)) fun m4 =>
  lt (sI m4 129 13 ((m4.1 129 13) + 1)) fun m5 =>
  (ix 601 (v1 / 4)).bind fun i6 =>
  (ix 2400 v1).bind fun i7 => lt (sI m5 135 i7 (m5.1 36 i6)) fun m8 =>
  (ix 2400 (m8.1 129 14)).bind fun i9 => lt (sI m8 136 i9 v1) fun m10 =>
  lt (sI m10 129 14 ((m10.1 129 14) + 1)) fun m11 =>
  (ix 2400 (m11.1 129 15)).bind fun i12 => lt (sI m11 137 i12 v1) fun m13 =>
  lt (sI m13 129 15 ((m13.1 129 15) + 1)) fun m14 =>
  some (m14)
def f_Atlas_by (v1 : Int32) (m : zM) : Option (Int32) :=
  (ix 38400 v1).bind fun i1 =>
  some (((shr (m.1 37 i1) 10) &&& 15))
def f_Atlas_target (v1 : Int32) (m : zM) : Option (Int32) :=
  (ix 38400 v1).bind fun i1 =>
  some ((shr (m.1 37 i1) 14))
def f_Atlas_put (v1 : Int32) (v2 : Int32) (m : zM) : Option (Int32) :=
  (ix 38400 v1).bind fun i1 =>
  some (((shr (m.1 37 i1) (2 * v2)) &&& 3))
def f_Joined_next (v1 : Int32) (v2 : Int32) (m : zM) : Option (Int32) :=
  (f_Atlas_by v2 m).bind fun r1 =>
  if r1 = (m.1 129 2) then
    some ((-1))
  else
    (f_Atlas_target v2 m).bind fun r2 =>
    if (m.1 129 1) = 0 then
      some ((r2 * 4))
    else
      (f_Atlas_put v2 (ir v1 4) m).bind fun r3 =>
      (ix 2400 ((r2 * 4) + r3)).bind fun i4 =>
      (f_Joined_isAvoided ((r2 * 4) + (m.1 35 i4)) m).bind fun r5 =>
      if r5 = true then
        some ((-1))
      else
        some (((r2 * 4) + (m.1 35 i4)))
def f_Joined_follow (v1 : Int32) (v2 : Int32) (m : zM) : Option (zM) :=
  if v2 = (-1) then
    some (m)
  else
    (ix 2400 v2).bind fun i1 =>
    if (m.1 133 i1) = (-1) then
      (f_Joined_enter v2 m).bind fun p7 => 
      some (p7)
    else
      (ix 2400 v2).bind fun i2 =>
      if (m.1 130 i2) = (-1) then
        (ix 2400 v1).bind fun i3 =>
        (ix 2400 v2).bind fun i4 =>
        (ix 2400 v1).bind fun i5 => lt (sI m 134 i5 (f_Math_min (m.1 134 i3) (m.1 133 i4))) fun m6 =>
        some (m6)
      else
        some (m)
def f_Joined_close_J67 (v2 : Int32) (m : zM) : Option (zM) :=
  lt (sI m 129 4 ((m.1 129 4) + 1)) fun m8 =>
  (ix 2401 (m8.1 129 4)).bind fun i9 => lt (sI m8 131 i9 v2) fun m10 =>
  some (m10)
def f_Joined_close_B12 (v1 : Int32) (v2 : Int32) (v3 : Int32) (m : zM) : Option ((zM) ⊕ (Int32 × Int32 × zM)) :=
  if (m.1 129 14) ≤ 0 then
    zl (f_Joined_close_J67 v2 m)
  else
    if v3 = v1 then
      zl (f_Joined_close_J67 v2 m)
    else
      lt (sI m 129 14 ((m.1 129 14) - 1)) fun m2 =>
      (ix 2400 (m2.1 129 14)).bind fun i3 =>
      (ix 2400 (m2.1 136 i3)).bind fun i4 => lt (sI m2 130 i4 (m2.1 129 4)) fun m5 =>
      (ix 2400 v2).bind fun i6 => lt (sI m5 132 i6 (m2.1 136 i3)) fun m7 =>
      some (.inr ((v2 + 1), (m2.1 136 i3), m7))
def f_Joined_close_L12 (v1 : Int32) (v2 : Int32) (v3 : Int32) (m : zM) : Option (zM) :=
  zloop (fun s : Int32 × Int32 × zM => f_Joined_close_B12 v1 s.1 s.2.1 s.2.2) FU (v2, v3, m)
def f_Joined_close (v1 : Int32) (m : zM) : Option (zM) :=
  (ix 2401 (m.1 129 4)).bind fun i1 =>
  f_Joined_close_L12 v1 (m.1 131 i1) (-1) m
def f_Joined_leave_J50 (v1 : Int32) (m : zM) : Option (zM) :=
  (ix 2400 v1).bind fun i7 =>
  (ix 2400 v1).bind fun i8 =>
  if (m.1 134 i7) = (m.1 133 i8) then
    (f_Joined_close v1 m).bind fun p9 => 
    some (p9)
  else
    some (m)
def f_Joined_leave (v1 : Int32) (m : zM) : Option (zM) :=
  lt (sI m 129 15 ((m.1 129 15) - 1)) fun m1 =>
  if (m1.1 129 15) ≤ 0 then
    f_Joined_leave_J50 v1 m1
  else
    (ix 2400 ((m1.1 129 15) - 1)).bind fun i2 =>
    (ix 2400 (m1.1 137 i2)).bind fun i3 =>
    (ix 2400 v1).bind fun i4 =>
    (ix 2400 (m1.1 137 i2)).bind fun i5 => lt (sI m1 134 i5 (f_Math_min (m1.1 134 i3) (m1.1 134 i4))) fun m6 =>
    f_Joined_leave_J50 v1 m6
def f_Joined_goThrough_J88 (v2 : Int32) (m : zM) : Option ((zM) ⊕ (Int32 × zM)) :=
  some (.inr ((v2 + 1), m))
def f_Joined_goThrough_B7 (v2 : Int32) (m : zM) : Option ((zM) ⊕ (Int32 × zM)) :=
  if 1000000 ≤ v2 then
    some (.inl m)
  else
    if (m.1 129 15) ≤ 0 then
      some (.inl m)
    else
      (ix 2400 ((m.1 129 15) - 1)).bind fun i2 =>
      (ix 2400 (m.1 137 i2)).bind fun i3 =>
      (ix 601 (((m.1 137 i2) / 4) + 1)).bind fun i4 =>
      if (m.1 36 i4) ≤ (m.1 135 i3) then
        (f_Joined_leave (m.1 137 i2) m).bind fun p5 => 
        f_Joined_goThrough_J88 v2 p5
      else
        (ix 2400 (m.1 137 i2)).bind fun i6 => lt (sI m 135 i6 ((m.1 135 i3) + 1)) fun m7 =>
        (f_Joined_next (m.1 137 i2) (m.1 135 i3) m7).bind fun r8 =>
        (f_Joined_follow (m.1 137 i2) r8 m7).bind fun p9 => 
        f_Joined_goThrough_J88 v2 p9
def f_Joined_goThrough_L7 (v2 : Int32) (m : zM) : Option (zM) :=
  zloop (fun s : Int32 × zM => f_Joined_goThrough_B7 s.1 s.2) FU (v2, m)
def f_Joined_goThrough (v1 : Int32) (m : zM) : Option (zM) :=
  (f_Joined_enter v1 m).bind fun p1 => 
  f_Joined_goThrough_L7 0 p1
def f_Joined_join_J101 (v4 : Int32) (m : zM) : Option ((zM) ⊕ (Int32 × zM)) :=
  some (.inr ((v4 + 1), m))
def f_Joined_join_B61 (v4 : Int32) (m : zM) : Option ((zM) ⊕ (Int32 × zM)) :=
  if ((m.1 24 0) * 4) ≤ v4 then
    some (.inl m)
  else
    (ix 2400 v4).bind fun i12 =>
    if (m.1 133 i12) = (-1) then
      (f_Joined_isNode v4 m).bind fun r13 =>
      if r13 = true then
        (f_Joined_goThrough v4 m).bind fun p14 => 
        f_Joined_join_J101 v4 p14
      else
        f_Joined_join_J101 v4 m
    else
      f_Joined_join_J101 v4 m
def f_Joined_join_L61 (v4 : Int32) (m : zM) : Option (zM) :=
  zloop (fun s : Int32 × zM => f_Joined_join_B61 s.1 s.2) FU (v4, m)
def f_Joined_join (v1 : Int32) (v2 : Int32) (v3 : Int32) (m : zM) : Option (zM) :=
  (bt v1).bind fun _ =>
  lt (sI m 129 1 v1) fun m1 =>
  lt (sI m1 129 2 v2) fun m2 =>
  lt (sI m2 129 3 v3) fun m3 =>
  lt (sI m3 129 4 0) fun m4 =>
  lt (sI m4 129 13 0) fun m5 =>
  lt (sI m5 129 14 0) fun m6 =>
  lt (sI m6 129 15 0) fun m7 =>
  (ix 2401 0).bind fun i8 => lt (sI m7 131 i8 0) fun m9 =>
  (f_Arrays_fill 130 (-1) m9).bind fun p10 => 
  (f_Arrays_fill 133 (-1) p10).bind fun p11 => 
  f_Joined_join_L61 0 p11
def f_Study_findParts_J219 (v1 : Int32) (m : zM) : Option ((zM) ⊕ (Int32 × zM)) :=
  some (.inr ((v1 + 1), m))
def f_Study_findParts_J213 (v1 : Int32) (v2 : Int32) (m : zM) : Option (((zM) ⊕ (Int32 × zM)) ⊕ (Int32 × zM)) :=
  some (.inr ((v2 + 1), m))
def f_Study_findParts_B164 (v1 : Int32) (v2 : Int32) (m : zM) : Option (((zM) ⊕ (Int32 × zM)) ⊕ (Int32 × zM)) :=
  (ix 601 (v1 + 1)).bind fun i16 =>
  if (m.1 36 i16) ≤ v2 then
    zl (f_Study_findParts_J219 v1 m)
  else
    (f_Atlas_target v2 m).bind fun r17 =>
    (ix 600 r17).bind fun i18 =>
    (ix 600 v1).bind fun i19 =>
    if (m.1 117 i18) = (m.1 117 i19) then
      f_Study_findParts_J213 v1 v2 m
    else
      (ix 600 v1).bind fun i20 =>
      (ix 600 (m.1 117 i20)).bind fun i21 => lt (sI m 120 i21 (b2i false)) fun m22 =>
      f_Study_findParts_J213 v1 v2 m22
def f_Study_findParts_L164 (v1 : Int32) (v2 : Int32) (m : zM) : Option ((zM) ⊕ (Int32 × zM)) :=
  zloop (fun s : Int32 × zM => f_Study_findParts_B164 v1 s.1 s.2) FU (v2, m)
def f_Study_findParts_B143 (v1 : Int32) (m : zM) : Option ((zM) ⊕ (Int32 × zM)) :=
  if (m.1 24 0) ≤ v1 then
    some (.inl m)
  else
    (ix 601 v1).bind fun i15 =>
    f_Study_findParts_L164 v1 (m.1 36 i15) m
def f_Study_findParts_L143 (v1 : Int32) (m : zM) : Option (zM) :=
  zloop (fun s : Int32 × zM => f_Study_findParts_B143 s.1 s.2) FU (v1, m)
def f_Study_findParts_J141  (m : zM) : Option (zM) :=
  f_Study_findParts_L143 0 m
def f_Study_findParts_J108 (v1 : Int32) (v2 : Int32) (m : zM) : Option ((zM) ⊕ (Int32 × zM)) :=
  (ix 600 v2).bind fun i23 =>
  (ix 600 v1).bind fun i24 => lt (sI m 117 i24 (m.1 121 i23)) fun m25 =>
  (ix 600 v1).bind fun i26 =>
  (ix 600 (m25.1 117 i26)).bind fun i27 =>
  (ix 600 (m25.1 117 i26)).bind fun i28 => lt (sI m25 118 i28 ((m25.1 118 i27) + 1)) fun m29 =>
  some (.inr ((v1 + 1), m29))
def f_Study_findParts_B25 (v1 : Int32) (m : zM) : Option ((zM) ⊕ (Int32 × zM)) :=
  if (m.1 24 0) ≤ v1 then
    zl (f_Study_findParts_J141 m)
  else
    (ix 2400 (v1 * 4)).bind fun i4 =>
    (ix 600 (m.1 130 i4)).bind fun i5 =>
    if (m.1 121 i5) = (-1) then
      (ix 600 (m.1 130 i4)).bind fun i6 => lt (sI m 121 i6 (m.1 116 3)) fun m7 =>
      (ix 600 (m7.1 116 3)).bind fun i8 => lt (sI m7 119 i8 v1) fun m9 =>
      (ix 600 (m9.1 116 3)).bind fun i10 => lt (sI m9 118 i10 0) fun m11 =>
      (ix 600 (m11.1 116 3)).bind fun i12 => lt (sI m11 120 i12 (b2i true)) fun m13 =>
      lt (sI m13 116 3 ((m13.1 116 3) + 1)) fun m14 =>
      f_Study_findParts_J108 v1 (m.1 130 i4) m14
    else
      f_Study_findParts_J108 v1 (m.1 130 i4) m
def f_Study_findParts_L25 (v1 : Int32) (m : zM) : Option (zM) :=
  zloop (fun s : Int32 × zM => f_Study_findParts_B25 s.1 s.2) FU (v1, m)
def f_Study_findParts  (m : zM) : Option (zM) :=
  (f_Joined_join 0 (-1) (-1) m).bind fun p1 => 
  (f_Arrays_fill 121 (-1) p1).bind fun p2 => 
  lt (sI p2 116 3 0) fun m3 =>
  f_Study_findParts_L25 0 m3
def f_Study_clear_B2 (v0 : Nat) (v1 : Int32) (m : zM) : Option ((zM) ⊕ (Int32 × zM)) :=
  if (Int32.ofNat (zlen gX v0)) ≤ v1 then
    some (.inl m)
  else
    (ix (zlen gX v0) v1).bind fun i1 => lt (sI m v0 i1 (b2i false)) fun m2 =>
    some (.inr ((v1 + 1), m2))
def f_Study_clear_L2 (v0 : Nat) (v1 : Int32) (m : zM) : Option (zM) :=
  zloop (fun s : Int32 × zM => f_Study_clear_B2 v0 s.1 s.2) FU (v1, m)
def f_Study_clear (v0 : Nat) (m : zM) : Option (zM) :=
  f_Study_clear_L2 v0 0 m
def f_Study_isAgentIn (v1 : Int32) (v2 : Int32) (m : zM) : Option (Bool) :=
  if (m.1 24 1) ≤ (ir v1 4) then
    some (false)
  else
    (ix 2400 v1).bind fun i1 =>
    if (f_PA_held (m.1 34 i1) 0) = v2 then
      some (true)
    else
      some (false)
def f_Joined_leadsToMarked_J55 (v1 : Int32) (v2 : Nat) (v3 : Int32) (v4 : Int32) (m : zM) : Option ((Bool) ⊕ (Int32)) :=
  some (.inr (v4 + 1))
def f_Joined_leadsToMarked_B15 (v1 : Int32) (v2 : Nat) (v3 : Int32) (v4 : Int32) (m : zM) : Option ((Bool) ⊕ (Int32)) :=
  (ix 601 (v3 + 1)).bind fun i2 =>
  if (m.1 36 i2) ≤ v4 then
    some (.inl false)
  else
    (f_Joined_next v1 v4 m).bind fun r3 =>
    if r3 = (-1) then
      f_Joined_leadsToMarked_J55 v1 v2 v3 v4 m
    else
      (ix (zlen gX v2) r3).bind fun i4 =>
      if (m.1 v2 i4) = 0 then
        f_Joined_leadsToMarked_J55 v1 v2 v3 v4 m
      else
        some (.inl true)
def f_Joined_leadsToMarked_L15 (v1 : Int32) (v2 : Nat) (v3 : Int32) (v4 : Int32) (m : zM) : Option (Bool) :=
  zloop (fun s : Int32 => f_Joined_leadsToMarked_B15 v1 v2 v3 s m) FU v4
def f_Joined_leadsToMarked (v1 : Int32) (v2 : Nat) (m : zM) : Option (Bool) :=
  (ix 601 (v1 / 4)).bind fun i1 =>
  f_Joined_leadsToMarked_L15 v1 v2 (v1 / 4) (m.1 36 i1) m
def f_Joined_spread_J116 (v1 : Nat) (v2 : Int32) (m : zM) : Option ((zM) ⊕ (Int32 × zM)) :=
  some (.inr ((v2 + 1), m))
def f_Joined_spread_B84 (v1 : Nat) (v2 : Int32) (v3 : Bool) (v4 : Int32) (m : zM) : Option (((zM) ⊕ (Int32 × zM)) ⊕ (Int32 × zM)) :=
  (ix 2401 (v2 + 1)).bind fun i8 =>
  if (m.1 131 i8) ≤ v4 then
    zl (f_Joined_spread_J116 v1 v2 m)
  else
    (ix 2400 v4).bind fun i9 =>
    (ix (zlen gX v1) (m.1 132 i9)).bind fun i10 =>
    (ix (zlen gX v1) (m.1 132 i9)).bind fun i11 => lt (sI m v1 i11 (vp_nar .boolean ((m.1 v1 i10) ||| (b2i v3)))) fun m12 =>
    some (.inr ((v4 + 1), m12))
def f_Joined_spread_L84 (v1 : Nat) (v2 : Int32) (v3 : Bool) (v4 : Int32) (m : zM) : Option ((zM) ⊕ (Int32 × zM)) :=
  zloop (fun s : Int32 × zM => f_Joined_spread_B84 v1 v2 v3 s.1 s.2) FU (v4, m)
def f_Joined_spread_J76 (v1 : Nat) (v2 : Int32) (v3 : Bool) (m : zM) : Option ((zM) ⊕ (Int32 × zM)) :=
  (ix 2401 v2).bind fun i7 =>
  f_Joined_spread_L84 v1 v2 v3 (m.1 131 i7) m
def f_Joined_spread_J69 (v1 : Nat) (v2 : Int32) (v4 : Int32) (t0 : Bool) (m : zM) : Option (((zM) ⊕ (Int32 × zM)) ⊕ (Bool × Int32)) :=
  some (.inr (t0, (v4 + 1)))
def f_Joined_spread_J64 (v1 : Nat) (v2 : Int32) (v4 : Int32) (m : zM) : Option (((zM) ⊕ (Int32 × zM)) ⊕ (Bool × Int32)) :=
  f_Joined_spread_J69 v1 v2 v4 true m
def f_Joined_spread_B20 (v1 : Nat) (v2 : Int32) (v3 : Bool) (v4 : Int32) (m : zM) : Option (((zM) ⊕ (Int32 × zM)) ⊕ (Bool × Int32)) :=
  (ix 2401 (v2 + 1)).bind fun i2 =>
  if (m.1 131 i2) ≤ v4 then
    zl (f_Joined_spread_J76 v1 v2 v3 m)
  else
    if v3 = true then
      zl (f_Joined_spread_J76 v1 v2 v3 m)
    else
      (ix 2400 v4).bind fun i3 =>
      (ix (zlen gX v1) (m.1 132 i3)).bind fun i4 =>
      if (m.1 v1 i4) = 0 then
        (ix 2400 v4).bind fun i5 =>
        (f_Joined_leadsToMarked (m.1 132 i5) v1 m).bind fun r6 =>
        if r6 = true then
          f_Joined_spread_J64 v1 v2 v4 m
        else
          f_Joined_spread_J69 v1 v2 v4 false m
      else
        f_Joined_spread_J64 v1 v2 v4 m
def f_Joined_spread_L20 (v1 : Nat) (v2 : Int32) (v3 : Bool) (v4 : Int32) (m : zM) : Option ((zM) ⊕ (Int32 × zM)) :=
  zloop (fun s : Bool × Int32 => f_Joined_spread_B20 v1 v2 s.1 s.2 m) FU (v3, v4)
def f_Joined_spread_B2 (v1 : Nat) (v2 : Int32) (m : zM) : Option ((zM) ⊕ (Int32 × zM)) :=
  if (m.1 129 4) ≤ v2 then
    some (.inl m)
  else
    (ix 2401 v2).bind fun i1 =>
    f_Joined_spread_L20 v1 v2 false (m.1 131 i1) m
def f_Joined_spread_L2 (v1 : Nat) (v2 : Int32) (m : zM) : Option (zM) :=
  zloop (fun s : Int32 × zM => f_Joined_spread_B2 v1 s.1 s.2) FU (v2, m)
def f_Joined_spread (v1 : Nat) (m : zM) : Option (zM) :=
  f_Joined_spread_L2 v1 0 m
def f_Study_markHoping_J46 (v1 : Int32) (m : zM) : Option (zM) :=
  (f_Joined_join 1 v1 (-1) m).bind fun p6 => 
  (f_Joined_spread 124 p6).bind fun p7 => 
  some (p7)
def f_Study_markHoping_B9 (v1 : Int32) (v2 : Int32) (m : zM) : Option ((zM) ⊕ (Int32 × zM)) :=
  if ((m.1 24 0) * 4) ≤ v2 then
    zl (f_Study_markHoping_J46 v1 m)
  else
    (tb li_Table m 2).bind fun t2 =>
    (f_Study_isAgentIn v2 (m.1 t2 11) m).bind fun r3 =>
    (ix 2400 v2).bind fun i4 => lt (sI m 124 i4 (b2i r3)) fun m5 =>
    some (.inr ((v2 + 1), m5))
def f_Study_markHoping_L9 (v1 : Int32) (v2 : Int32) (m : zM) : Option (zM) :=
  zloop (fun s : Int32 × zM => f_Study_markHoping_B9 v1 s.1 s.2) FU (v2, m)
def f_Study_markHoping (v1 : Int32) (m : zM) : Option (zM) :=
  (f_Study_clear 124 m).bind fun p1 => 
  f_Study_markHoping_L9 v1 0 p1
def f_Study_firstLike (v1 : Int32) (m : zM) : Option (Int32) :=
  (ix 2400 v1).bind fun i1 =>
  some (((v1 - (ir v1 4)) + (m.1 35 i1)))
def f_Study_tellWanting_J52 (v1 : Nat) (v2 : Int32) (v3 : Int32) (m : zM) : Option ((zM) ⊕ (Int32 × zM)) :=
  some (.inr ((v3 + 1), m))
def f_Study_tellWanting_J51 (v1 : Nat) (v2 : Int32) (v3 : Int32) (t0 : Nat) (t1 : Int32) (t2 : Bool) (m : zM) : Option ((zM) ⊕ (Int32 × zM)) :=
  (ix (zlen gX t0) t1).bind fun i5 => lt (sI m t0 i5 (b2i t2)) fun m6 =>
  f_Study_tellWanting_J52 v1 v2 v3 m6
def f_Study_tellWanting_B2 (v1 : Nat) (v2 : Int32) (v3 : Int32) (m : zM) : Option ((zM) ⊕ (Int32 × zM)) :=
  if ((m.1 24 0) * 4) ≤ v3 then
    some (.inl m)
  else
    (tb li_Table m 2).bind fun t1 =>
    (f_Study_isAgentIn v3 (m.1 t1 10) m).bind fun r2 =>
    if r2 = true then
      (f_Study_firstLike v3 m).bind fun r3 =>
      (ix 2400 r3).bind fun i4 =>
      if (m.1 124 i4) = v2 then
        f_Study_tellWanting_J51 v1 v2 v3 v1 v3 true m
      else
        f_Study_tellWanting_J51 v1 v2 v3 v1 v3 false m
    else
      f_Study_tellWanting_J52 v1 v2 v3 m
def f_Study_tellWanting_L2 (v1 : Nat) (v2 : Int32) (v3 : Int32) (m : zM) : Option (zM) :=
  zloop (fun s : Int32 × zM => f_Study_tellWanting_B2 v1 v2 s.1 s.2) FU (v3, m)
def f_Study_tellWanting (v1 : Nat) (v2 : Int32) (m : zM) : Option (zM) :=
  f_Study_tellWanting_L2 v1 v2 0 m
def f_Atlas_mover (v1 : Int32) (m : zM) : Option (Int32) :=
  (ix 38400 v1).bind fun i1 =>
  some (((shr (m.1 37 i1) 8) &&& 3))
def f_Joined_isRing_J201 (v3 : Int32) (v4 : Int32) (v5 : Int32) (m : zM) : Option (Bool) :=
  if v3 = 0 then
    some (false)
  else
    if v4 = v5 then
      some (true)
    else
      some (false)
def f_Joined_isRing_J195 (v1 : Int32) (v2 : Nat) (v3 : Int32) (v4 : Int32) (v5 : Int32) (v6 : Int32) (m : zM) : Option ((Bool) ⊕ (Int32 × Int32 × Int32 × Int32)) :=
  some (.inr (v3, v4, v5, (v6 + 1)))
def f_Joined_isRing_J189 (v1 : Int32) (v2 : Nat) (v3 : Int32) (v4 : Int32) (v5 : Int32) (v6 : Int32) (v7 : Int32) (v8 : Int32) (v9 : Int32) (m : zM) : Option (((Bool) ⊕ (Int32 × Int32 × Int32 × Int32)) ⊕ (Int32 × Int32 × Int32 × Int32)) :=
  some (.inr (v3, v4, v5, (v9 + 1)))
def f_Joined_isRing_J186 (v1 : Int32) (v2 : Nat) (v3 : Int32) (v4 : Int32) (v6 : Int32) (v7 : Int32) (v8 : Int32) (v9 : Int32) (t0 : Int32) (t1 : Int32) (m : zM) : Option (((Bool) ⊕ (Int32 × Int32 × Int32 × Int32)) ⊕ (Int32 × Int32 × Int32 × Int32)) :=
  f_Joined_isRing_J189 v1 v2 v3 v4 (t0 ||| t1) v6 v7 v8 v9 m
def f_Joined_isRing_J105 (v1 : Int32) (v2 : Nat) (v3 : Int32) (v4 : Int32) (v5 : Int32) (v6 : Int32) (v7 : Int32) (v8 : Int32) (v9 : Int32) (t0 : Bool) (m : zM) : Option (((Bool) ⊕ (Int32 × Int32 × Int32 × Int32)) ⊕ (Int32 × Int32 × Int32 × Int32)) :=
  (f_Atlas_mover v9 m).bind fun r8 =>
  if r8 = (ir v7 4) then
    (f_Atlas_by v9 m).bind fun r9 =>
    (ix 16 r9).bind fun i10 =>
    if (m.1 (v2 + 7 + i10) 0) = 0 then
      (f_Atlas_by v9 m).bind fun r11 =>
      if t0 = true then
        (f_Atlas_by v9 m).bind fun r12 =>
        f_Joined_isRing_J186 v1 v2 (v3 ||| (b2i t0)) (v4 ||| (shl 1 r11)) v6 v7 v8 v9 v5 (shl 1 r12) m
      else
        f_Joined_isRing_J186 v1 v2 (v3 ||| (b2i t0)) (v4 ||| (shl 1 r11)) v6 v7 v8 v9 v5 0 m
    else
      f_Joined_isRing_J189 v1 v2 (v3 ||| (b2i t0)) v4 v5 v6 v7 v8 v9 m
  else
    f_Joined_isRing_J189 v1 v2 (v3 ||| (b2i t0)) v4 v5 v6 v7 v8 v9 m
def f_Joined_isRing_J104 (v1 : Int32) (v2 : Nat) (v3 : Int32) (v4 : Int32) (v5 : Int32) (v6 : Int32) (v7 : Int32) (v8 : Int32) (v9 : Int32) (m : zM) : Option (((Bool) ⊕ (Int32 × Int32 × Int32 × Int32)) ⊕ (Int32 × Int32 × Int32 × Int32)) :=
  f_Joined_isRing_J105 v1 v2 v3 v4 v5 v6 v7 v8 v9 false m
def f_Joined_isRing_B56 (v1 : Int32) (v2 : Nat) (v3 : Int32) (v4 : Int32) (v5 : Int32) (v6 : Int32) (v7 : Int32) (v8 : Int32) (v9 : Int32) (m : zM) : Option (((Bool) ⊕ (Int32 × Int32 × Int32 × Int32)) ⊕ (Int32 × Int32 × Int32 × Int32)) :=
  (ix 601 (v8 + 1)).bind fun i5 =>
  if (m.1 36 i5) ≤ v9 then
    zl (f_Joined_isRing_J195 v1 v2 v3 v4 v5 v6 m)
  else
    (f_Joined_next v7 v9 m).bind fun r6 =>
    if r6 = (-1) then
      f_Joined_isRing_J104 v1 v2 v3 v4 v5 v6 v7 v8 v9 m
    else
      (ix 2400 r6).bind fun i7 =>
      if (m.1 130 i7) = v1 then
        f_Joined_isRing_J105 v1 v2 v3 v4 v5 v6 v7 v8 v9 true m
      else
        f_Joined_isRing_J104 v1 v2 v3 v4 v5 v6 v7 v8 v9 m
def f_Joined_isRing_L56 (v1 : Int32) (v2 : Nat) (v3 : Int32) (v4 : Int32) (v5 : Int32) (v6 : Int32) (v7 : Int32) (v8 : Int32) (v9 : Int32) (m : zM) : Option ((Bool) ⊕ (Int32 × Int32 × Int32 × Int32)) :=
  zloop (fun s : Int32 × Int32 × Int32 × Int32 => f_Joined_isRing_B56 v1 v2 s.1 s.2.1 s.2.2.1 v6 v7 v8 s.2.2.2 m) FU (v3, v4, v5, v9)
def f_Joined_isRing_B16 (v1 : Int32) (v2 : Nat) (v3 : Int32) (v4 : Int32) (v5 : Int32) (v6 : Int32) (m : zM) : Option ((Bool) ⊕ (Int32 × Int32 × Int32 × Int32)) :=
  (ix 2401 (v1 + 1)).bind fun i2 =>
  if (m.1 131 i2) ≤ v6 then
    zl (f_Joined_isRing_J201 v3 v4 v5 m)
  else
    (ix 2400 v6).bind fun i3 =>
    (ix 601 ((m.1 132 i3) / 4)).bind fun i4 =>
    f_Joined_isRing_L56 v1 v2 v3 v4 v5 v6 (m.1 132 i3) ((m.1 132 i3) / 4) (m.1 36 i4) m
def f_Joined_isRing_L16 (v1 : Int32) (v2 : Nat) (v3 : Int32) (v4 : Int32) (v5 : Int32) (v6 : Int32) (m : zM) : Option (Bool) :=
  zloop (fun s : Int32 × Int32 × Int32 × Int32 => f_Joined_isRing_B16 v1 v2 s.1 s.2.1 s.2.2.1 s.2.2.2 m) FU (v3, v4, v5, v6)
def f_Joined_isRing (v1 : Int32) (v2 : Nat) (m : zM) : Option (Bool) :=
  (ix 2401 v1).bind fun i1 =>
  f_Joined_isRing_L16 v1 v2 0 0 0 (m.1 131 i1) m
def f_Study_markRings_J103  (m : zM) : Option (zM) :=
  (f_Joined_spread 124 m).bind fun p7 => 
  some (p7)
def f_Study_markRings_J97 (v1 : Int32) (m : zM) : Option ((zM) ⊕ (Int32 × zM)) :=
  some (.inr ((v1 + 1), m))
def f_Study_markRings_B61 (v1 : Int32) (v2 : Int32) (m : zM) : Option (((zM) ⊕ (Int32 × zM)) ⊕ (Int32 × zM)) :=
  (ix 2401 (v1 + 1)).bind fun i8 =>
  if (m.1 131 i8) ≤ v2 then
    zl (f_Study_markRings_J97 v1 m)
  else
    (ix 2400 v2).bind fun i9 =>
    (ix 2400 (m.1 132 i9)).bind fun i10 => lt (sI m 124 i10 (b2i true)) fun m11 =>
    some (.inr ((v2 + 1), m11))
def f_Study_markRings_L61 (v1 : Int32) (v2 : Int32) (m : zM) : Option ((zM) ⊕ (Int32 × zM)) :=
  zloop (fun s : Int32 × zM => f_Study_markRings_B61 v1 s.1 s.2) FU (v2, m)
def f_Study_markRings_B25 (v1 : Int32) (m : zM) : Option ((zM) ⊕ (Int32 × zM)) :=
  if (m.1 129 4) ≤ v1 then
    zl (f_Study_markRings_J103 m)
  else
    (tb li_Table m 2).bind fun t4 =>
    (f_Joined_isRing v1 t4 m).bind fun r5 =>
    if r5 = true then
      (ix 2401 v1).bind fun i6 =>
      f_Study_markRings_L61 v1 (m.1 131 i6) m
    else
      f_Study_markRings_J97 v1 m
def f_Study_markRings_L25 (v1 : Int32) (m : zM) : Option (zM) :=
  zloop (fun s : Int32 × zM => f_Study_markRings_B25 s.1 s.2) FU (v1, m)
def f_Study_markRings  (m : zM) : Option (zM) :=
  (f_Study_clear 124 m).bind fun p1 => 
  (tb li_Table p1 2).bind fun t2 =>
  (f_Joined_join 1 (-1) (p1.1 t2 11) p1).bind fun p3 => 
  f_Study_markRings_L25 0 p3
def f_Study_begin_B63 (v2 : Int32) (m : zM) : Option ((zM) ⊕ (Int32 × zM)) :=
  if 16 ≤ v2 then
    some (.inl m)
  else
    (ix 16 v2).bind fun i10 => lt (sI m 127 i10 (b2i false)) fun m11 =>
    some (.inr ((v2 + 1), m11))
def f_Study_begin_L63 (v2 : Int32) (m : zM) : Option (zM) :=
  zloop (fun s : Int32 × zM => f_Study_begin_B63 s.1 s.2) FU (v2, m)
def f_Study_begin_J61  (m : zM) : Option (zM) :=
  f_Study_begin_L63 0 m
def f_Study_begin (v1 : Nat) (m : zM) : Option (zM) :=
  lt (sT m 2 v1) fun m1 =>
  (f_Study_findParts m1).bind fun p2 => 
  (f_Study_clear 122 p2).bind fun p3 => 
  (f_Study_clear 123 p3).bind fun p4 => 
  (tb li_Table p4 2).bind fun t5 =>
  if (p4.1 t5 10) = (-1) then
    f_Study_begin_J61 p4
  else
    (f_Study_markHoping (-1) p4).bind fun p6 => 
    (f_Study_tellWanting 122 0 p6).bind fun p7 => 
    (f_Study_markRings p7).bind fun p8 => 
    (f_Study_tellWanting 123 1 p8).bind fun p9 => 
    f_Study_begin_J61 p9
def f_Sight_forget  (m : zM) : zM :=
  lt (sI m 48 2 0) fun m1 =>
  lt (sI m1 48 3 0) fun m2 =>
  lt (sI m2 48 8 (-1)) fun m3 =>
  m3
def f_PA_table_J53 (v1 : Int32) (m : zM) : Option (Int32 × zM) :=
  lt (f_Bytes_cut 1 0 m) fun p5 =>
  if v1 = (-1) then
    (f_PA_refuse 1 p5).bind fun p19 => 
    some ((p19.1, p19.2))
  else
    (tb li_Table p5 0).bind fun t6 =>
    (tb li_Table p5 1).bind fun t7 =>
    lt (sT p5 0 t7) fun m8 =>
    lt (sT m8 1 t6) fun m9 =>
    lt (sI m9 0 13 1) fun m10 =>
    (tb li_Table m10 0).bind fun t11 =>
    (f_Atlas_fill t11 m10).bind fun p12 => 
    (tb li_Table p12 0).bind fun t13 =>
    (f_Study_begin t13 p12).bind fun p14 => 
    lt (f_Sight_forget p14) fun p15 =>
    (tb li_Table p15 0).bind fun t16 =>
    (f_World_begin 55 t16 p15).bind fun p17 => 
    lt (sI p17 0 14 0) fun m18 =>
    some ((v1, m18))
def f_PA_table  (m : zM) : Option (Int32 × zM) :=
  (f_Reader_read 1 m).bind fun p1 => 
  if p1.1 = (-1) then
    f_PA_table_J53 p1.1 p1.2
  else
    (tb li_Table p1.2 1).bind fun t2 =>
    (f_Search_explore t2 p1.2).bind fun p3 => 
    if p3.1 = true then
      f_PA_table_J53 p1.1 p3.2
    else
      lt (f_Reader_refuse 6 (f_Bytes_size 1 p3.2) p3.2) fun p4 =>
      f_PA_table_J53 (-1) p4.2
def f_PA_fault (v1 : Int32) (m : zM) : Int32 :=
  if v1 = 0 then
    (m.1 65 7)
  else
    if v1 = 1 then
      (m.1 65 8)
    else
      (-1)
def f_Atlas_allWorlds_B4 (v1 : Int32) (v2 : Int32) (m : zM) : Option ((Int32) ⊕ (Int32 × Int32)) :=
  if (m.1 24 0) ≤ v2 then
    some (.inl v1)
  else
    (ix 600 v2).bind fun i1 =>
    some (.inr ((v1 + (m.1 32 i1)), (v2 + 1)))
def f_Atlas_allWorlds_L4 (v1 : Int32) (v2 : Int32) (m : zM) : Option (Int32) :=
  zloop (fun s : Int32 × Int32 => f_Atlas_allWorlds_B4 s.1 s.2 m) FU (v1, v2)
def f_Atlas_allWorlds  (m : zM) : Option (Int32) :=
  f_Atlas_allWorlds_L4 0 0 m
def f_Atlas_allMoves_J67 (v1 : Int32) (v2 : Int32) (v3 : Int32) (m : zM) : Option ((Int32) ⊕ (Int32 × Int32)) :=
  some (.inr (v2, (v3 + 1)))
def f_Atlas_allMoves_J59 (v1 : Int32) (v3 : Int32) (v4 : Int32) (t0 : Int32) (t1 : Int32) (m : zM) : Option (((Int32) ⊕ (Int32 × Int32)) ⊕ (Int32 × Int32)) :=
  some (.inr ((t0 + t1), (v4 + 1)))
def f_Atlas_allMoves_J49 (v1 : Int32) (v3 : Int32) (v4 : Int32) (t0 : Int32) (m : zM) : Option (((Int32) ⊕ (Int32 × Int32)) ⊕ (Int32 × Int32)) :=
  (ix 600 v3).bind fun i4 =>
  f_Atlas_allMoves_J59 v1 v3 v4 t0 (m.1 32 i4) m
def f_Atlas_allMoves_B20 (v1 : Int32) (v2 : Int32) (v3 : Int32) (v4 : Int32) (m : zM) : Option (((Int32) ⊕ (Int32 × Int32)) ⊕ (Int32 × Int32)) :=
  (ix 601 (v3 + 1)).bind fun i2 =>
  if (m.1 36 i2) ≤ v4 then
    zl (f_Atlas_allMoves_J67 v1 v2 v3 m)
  else
    if v1 = (-1) then
      f_Atlas_allMoves_J49 v1 v3 v4 v2 m
    else
      (f_Atlas_by v4 m).bind fun r3 =>
      if r3 = v1 then
        f_Atlas_allMoves_J49 v1 v3 v4 v2 m
      else
        f_Atlas_allMoves_J59 v1 v3 v4 v2 0 m
def f_Atlas_allMoves_L20 (v1 : Int32) (v2 : Int32) (v3 : Int32) (v4 : Int32) (m : zM) : Option ((Int32) ⊕ (Int32 × Int32)) :=
  zloop (fun s : Int32 × Int32 => f_Atlas_allMoves_B20 v1 s.1 v3 s.2 m) FU (v2, v4)
def f_Atlas_allMoves_B4 (v1 : Int32) (v2 : Int32) (v3 : Int32) (m : zM) : Option ((Int32) ⊕ (Int32 × Int32)) :=
  if (m.1 24 0) ≤ v3 then
    some (.inl v2)
  else
    (ix 601 v3).bind fun i1 =>
    f_Atlas_allMoves_L20 v1 v2 v3 (m.1 36 i1) m
def f_Atlas_allMoves_L4 (v1 : Int32) (v2 : Int32) (v3 : Int32) (m : zM) : Option (Int32) :=
  zloop (fun s : Int32 × Int32 => f_Atlas_allMoves_B4 v1 s.1 s.2 m) FU (v2, v3)
def f_Atlas_allMoves (v1 : Int32) (m : zM) : Option (Int32) :=
  f_Atlas_allMoves_L4 v1 0 0 m
def f_Atlas_allBad_J32 (v2 : Int32) (t0 : Int32) (t1 : Int32) (m : zM) : Option ((Int32) ⊕ (Int32 × Int32)) :=
  some (.inr ((t0 + t1), (v2 + 1)))
def f_Atlas_allBad_B4 (v1 : Int32) (v2 : Int32) (m : zM) : Option ((Int32) ⊕ (Int32 × Int32)) :=
  if (m.1 24 0) ≤ v2 then
    some (.inl v1)
  else
    (ix 600 v2).bind fun i1 =>
    if (m.1 33 i1) = 0 then
      f_Atlas_allBad_J32 v2 v1 0 m
    else
      (ix 600 v2).bind fun i2 =>
      f_Atlas_allBad_J32 v2 v1 (m.1 32 i2) m
def f_Atlas_allBad_L4 (v1 : Int32) (v2 : Int32) (m : zM) : Option (Int32) :=
  zloop (fun s : Int32 × Int32 => f_Atlas_allBad_B4 s.1 s.2 m) FU (v1, v2)
def f_Atlas_allBad  (m : zM) : Option (Int32) :=
  f_Atlas_allBad_L4 0 0 m
def f_Atlas_movesFrom (v1 : Int32) (m : zM) : Option (Int32) :=
  (ix 601 (v1 + 1)).bind fun i1 =>
  (ix 601 v1).bind fun i2 =>
  some (((m.1 36 i1) - (m.1 36 i2)))
def f_Atlas_allStuck_J31 (v2 : Int32) (t0 : Int32) (t1 : Int32) (m : zM) : Option ((Int32) ⊕ (Int32 × Int32)) :=
  some (.inr ((t0 + t1), (v2 + 1)))
def f_Atlas_allStuck_B4 (v1 : Int32) (v2 : Int32) (m : zM) : Option ((Int32) ⊕ (Int32 × Int32)) :=
  if (m.1 24 0) ≤ v2 then
    some (.inl v1)
  else
    (f_Atlas_movesFrom v2 m).bind fun r1 =>
    if r1 = 0 then
      (ix 600 v2).bind fun i2 =>
      f_Atlas_allStuck_J31 v2 v1 (m.1 32 i2) m
    else
      f_Atlas_allStuck_J31 v2 v1 0 m
def f_Atlas_allStuck_L4 (v1 : Int32) (v2 : Int32) (m : zM) : Option (Int32) :=
  zloop (fun s : Int32 × Int32 => f_Atlas_allStuck_B4 s.1 s.2 m) FU (v1, v2)
def f_Atlas_allStuck  (m : zM) : Option (Int32) :=
  f_Atlas_allStuck_L4 0 0 m
def f_PA_has (v1 : Int32) (m : zM) : Option (Int32) :=
  if v1 < 0 then
    some ((-1))
  else
    if v1 ≤ 13 then
      if (m.1 0 13) = 0 then
        some (0)
      else
        if v1 = 0 then
          (tb li_Table m 0).bind fun t1 =>
          some ((m.1 t1 0))
        else
        if v1 = 1 then
          (tb li_Table m 0).bind fun t2 =>
          (ix 3 0).bind fun i3 =>
          some ((m.1 (t2 + 1) i3))
        else
        if v1 = 2 then
          (tb li_Table m 0).bind fun t4 =>
          (ix 3 1).bind fun i5 =>
          some ((m.1 (t4 + 1) i5))
        else
        if v1 = 3 then
          (tb li_Table m 0).bind fun t6 =>
          (ix 3 2).bind fun i7 =>
          some ((m.1 (t6 + 1) i7))
        else
        if v1 = 4 then
          (tb li_Table m 0).bind fun t8 =>
          some ((m.1 t8 4))
        else
        if v1 = 5 then
          some ((m.1 24 0))
        else
        if v1 = 6 then
          (f_Atlas_allWorlds m).bind fun r9 =>
          some (r9)
        else
        if v1 = 7 then
          (ix 600 ((m.1 24 0) - 1)).bind fun i10 =>
          some ((m.1 29 i10))
        else
        if v1 = 8 then
          (f_Atlas_allMoves (-1) m).bind fun r11 =>
          some (r11)
        else
        if v1 = 9 then
          (f_Atlas_allBad m).bind fun r12 =>
          some (r12)
        else
        if v1 = 10 then
          (f_Atlas_allStuck m).bind fun r13 =>
          some (r13)
        else
        if v1 = 11 then
          some ((m.1 116 3))
        else
        if v1 = 12 then
          some ((m.1 0 14))
        else
        some ((m.1 48 2))
    else
      some ((-1))
def f_Table_name (v0 : Nat) (v1 : Int32) (v2 : Int32) (m : zM) : Option (Int32) :=
  if v2 < 0 then
    some (0)
  else
    (ix 3 v1).bind fun i1 =>
    if (m.1 (v0 + 1) i1) ≤ v2 then
      some (0)
    else
      (ix 18 ((v1 * 6) + v2)).bind fun i2 =>
      some ((m.1 (v0 + 2) i2))
def f_PA_letterOf (v0 : Int32) (v1 : Int32) : Int32 :=
  ((shr v0 (5 * (5 - v1))) &&& 31)
def f_PA_letter (v1 : Int32) (v2 : Int32) (v3 : Int32) (m : zM) : Option (Int32) :=
  if (m.1 0 13) = 0 then
    some ((-1))
  else
    if v1 < 0 then
      some ((-1))
    else
      if 3 ≤ v1 then
        some ((-1))
      else
        if v3 < 0 then
          some ((-1))
        else
          if v3 < 6 then
            if v2 < 0 then
              some ((-1))
            else
              (tb li_Table m 0).bind fun t1 =>
              (ix 3 v1).bind fun i2 =>
              if v2 < (m.1 (t1 + 1) i2) then
                (tb li_Table m 0).bind fun t3 =>
                (f_Table_name t3 v1 v2 m).bind fun r4 =>
                some ((f_PA_letterOf r4 v3))
              else
                some ((-1))
          else
            some ((-1))
def f_PA_isRule (v1 : Int32) (m : zM) : Option (Bool) :=
  if (m.1 0 13) = 0 then
    some (false)
  else
    if v1 < 0 then
      some (false)
    else
      (tb li_Table m 0).bind fun t1 =>
      if (m.1 t1 4) ≤ v1 then
        some (false)
      else
        some (true)
def f_PA_asNumber (v0 : Int32) : Int32 :=
  if v0 = 0 then
    0
  else
    1
def f_Row_told (v0 : Nat) (v1 : Int32) (m : zM) : Int32 :=
  if v1 = 0 then
    (f_PA_asNumber (m.1 v0 0))
  else
  if v1 = 1 then
    (m.1 v0 1)
  else
  if v1 = 2 then
    (m.1 v0 2)
  else
  if v1 = 3 then
    (m.1 v0 3)
  else
  if v1 = 4 then
    (m.1 v0 4)
  else
  if v1 = 5 then
    (m.1 v0 5)
  else
  if v1 = 6 then
    (m.1 v0 6)
  else
  if v1 = 7 then
    (f_PA_asNumber (m.1 v0 7))
  else
  (-1)
def f_PA_rule (v1 : Int32) (v2 : Int32) (m : zM) : Option (Int32) :=
  (f_PA_isRule v1 m).bind fun r1 =>
  if r1 = true then
    (tb li_Table m 0).bind fun t2 =>
    (ix 16 v1).bind fun i3 =>
    some ((f_Row_told (t2 + 7 + i3) v2 m))
  else
    some ((-1))
def f_PA_isWorld (v1 : Int32) (m : zM) : Bool :=
  if (m.1 0 13) = 0 then
    false
  else
    if v1 < 0 then
      false
    else
      if (m.1 24 0) ≤ v1 then
        false
      else
        true
def f_Atlas_home (v1 : Int32) (m : zM) : Option (Int32 × zM) :=
  (ix 600 v1).bind fun i1 =>
  (f_World_load 40 (m.2.1 28 i1) (m.1 24 1) m).bind fun p2 => 
  some (((p2.1 40 0), p2))
def f_PA_world_J110 (t0 : Bool) (m : zM) : Option (Int32 × zM) :=
  some (((f_PA_asNumber (b2i t0)), m))
def f_PA_world (v1 : Int32) (v2 : Int32) (m : zM) : Option (Int32 × zM) :=
  if (f_PA_isWorld v1 m) = true then
    if v2 = 0 then
      (ix 600 v1).bind fun i1 =>
      some (((m.1 29 i1), m))
    else
    if v2 = 1 then
      (ix 600 v1).bind fun i2 =>
      some (((m.1 32 i2), m))
    else
    if v2 = 2 then
      (f_Atlas_home v1 m).bind fun p3 => 
      some ((p3.1, p3.2))
    else
    if v2 = 3 then
      (ix 600 v1).bind fun i4 =>
      some (((f_PA_asNumber (m.1 33 i4)), m))
    else
    if v2 = 4 then
      (f_Atlas_movesFrom v1 m).bind fun r5 =>
      if r5 = 0 then
        f_PA_world_J110 true m
      else
        f_PA_world_J110 false m
    else
    if v2 = 5 then
      (f_Atlas_movesFrom v1 m).bind fun r6 =>
      some ((r6, m))
    else
    if v2 = 6 then
      (ix 600 v1).bind fun i7 =>
      some (((m.1 117 i7), m))
    else
    some (((-1), m))
  else
    some (((-1), m))
def f_PA_isAgent (v1 : Int32) (m : zM) : Option (Bool) :=
  if (m.1 0 13) = 0 then
    some (false)
  else
    if v1 < 0 then
      some (false)
    else
      (tb li_Table m 0).bind fun t1 =>
      if (m.1 t1 0) ≤ v1 then
        some (false)
      else
        some (true)
def f_PA_agent (v1 : Int32) (v2 : Int32) (v3 : Int32) (m : zM) : Option (Int32) :=
  if (f_PA_isWorld v1 m) = true then
    (f_PA_isAgent v2 m).bind fun r1 =>
    if r1 = true then
      if v3 = 4 then
        (ix 2400 ((v1 * 4) + v2)).bind fun i2 =>
        some ((f_PA_asNumber (m.1 122 i2)))
      else
      if v3 = 5 then
        (ix 2400 ((v1 * 4) + v2)).bind fun i3 =>
        some ((f_PA_asNumber (m.1 123 i3)))
      else
      (ix 2400 ((v1 * 4) + v2)).bind fun i4 =>
      some ((f_PA_held (m.1 34 i4) v3))
    else
      some ((-1))
  else
    some ((-1))
def f_Atlas_leading_J41 (v4 : Int32) (m : zM) : Option (Int32) :=
  (f_Atlas_target v4 m).bind fun r5 =>
  some (r5)
def f_Atlas_leading_J48 (v1 : Int32) (v2 : Int32) (v3 : Int32) (v4 : Int32) (m : zM) : Option ((Int32) ⊕ (Int32)) :=
  some (.inr (v4 + 1))
def f_Atlas_leading_B8 (v1 : Int32) (v2 : Int32) (v3 : Int32) (v4 : Int32) (m : zM) : Option ((Int32) ⊕ (Int32)) :=
  (ix 601 (v1 + 1)).bind fun i2 =>
  if (m.1 36 i2) ≤ v4 then
    some (.inl (-1))
  else
    (f_Atlas_by v4 m).bind fun r3 =>
    if r3 = v2 then
      (f_Atlas_mover v4 m).bind fun r4 =>
      if r4 = v3 then
        zl (f_Atlas_leading_J41 v4 m)
      else
        f_Atlas_leading_J48 v1 v2 v3 v4 m
    else
      f_Atlas_leading_J48 v1 v2 v3 v4 m
def f_Atlas_leading_L8 (v1 : Int32) (v2 : Int32) (v3 : Int32) (v4 : Int32) (m : zM) : Option (Int32) :=
  zloop (fun s : Int32 => f_Atlas_leading_B8 v1 v2 v3 s m) FU v4
def f_Atlas_leading (v1 : Int32) (v2 : Int32) (v3 : Int32) (m : zM) : Option (Int32) :=
  (ix 601 v1).bind fun i1 =>
  f_Atlas_leading_L8 v1 v2 v3 (m.1 36 i1) m
def f_PA_leads (v1 : Int32) (v2 : Int32) (v3 : Int32) (m : zM) : Option (Int32) :=
  if (f_PA_isWorld v1 m) = true then
    (f_PA_isRule v2 m).bind fun r1 =>
    if r1 = true then
      (f_PA_isAgent v3 m).bind fun r2 =>
      if r2 = true then
        (f_Atlas_leading v1 v2 v3 m).bind fun r3 =>
        some (r3)
      else
        some ((-1))
    else
      some ((-1))
  else
    some ((-1))
def f_Atlas_stepTo_J34 (v3 : Int32) (m : zM) : Option (Int32) :=
  (ix 600 v3).bind fun i3 =>
  some ((m.1 31 i3))
def f_Atlas_stepTo_B5 (v2 : Int32) (v3 : Int32) (v4 : Int32) (m : zM) : Option ((Int32) ⊕ (Int32 × Int32)) :=
  if v2 ≤ v4 then
    zl (f_Atlas_stepTo_J34 v3 m)
  else
    (ix 600 v3).bind fun i1 =>
    if (m.1 30 i1) = (-1) then
      zl (f_Atlas_stepTo_J34 v3 m)
    else
      (ix 600 v3).bind fun i2 =>
      some (.inr ((m.1 30 i2), (v4 + 1)))
def f_Atlas_stepTo_L5 (v2 : Int32) (v3 : Int32) (v4 : Int32) (m : zM) : Option (Int32) :=
  zloop (fun s : Int32 × Int32 => f_Atlas_stepTo_B5 v2 s.1 s.2 m) FU (v3, v4)
def f_Atlas_stepTo (v1 : Int32) (v2 : Int32) (m : zM) : Option (Int32) :=
  f_Atlas_stepTo_L5 v2 v1 0 m
def f_PA_way (v1 : Int32) (v2 : Int32) (v3 : Int32) (m : zM) : Option (Int32) :=
  if (f_PA_isWorld v1 m) = true then
    (ix 600 v1).bind fun i1 =>
    if v2 = (-1) then
      if v3 = 0 then
        some ((m.1 29 i1))
      else
        some ((-1))
    else
      if v2 < 0 then
        some ((-1))
      else
        if v2 < (m.1 29 i1) then
          (f_Atlas_stepTo v1 (((m.1 29 i1) - 1) - v2) m).bind fun r2 =>
          if v3 = 0 then
            some ((r2 / 4))
          else
            if v3 = 1 then
              some ((ir r2 4))
            else
              some ((-1))
        else
          some ((-1))
  else
    some ((-1))
def f_Atlas_firstBad_B2 (v1 : Int32) (m : zM) : Option ((Int32) ⊕ (Int32)) :=
  if (m.1 24 0) ≤ v1 then
    some (.inl (-1))
  else
    (ix 600 v1).bind fun i1 =>
    if (m.1 33 i1) = 0 then
      some (.inr (v1 + 1))
    else
      some (.inl v1)
def f_Atlas_firstBad_L2 (v1 : Int32) (m : zM) : Option (Int32) :=
  zloop (fun s : Int32 => f_Atlas_firstBad_B2 s m) FU v1
def f_Atlas_firstBad  (m : zM) : Option (Int32) :=
  f_Atlas_firstBad_L2 0 m
def f_Atlas_firstStuck_B2 (v1 : Int32) (m : zM) : Option ((Int32) ⊕ (Int32)) :=
  if (m.1 24 0) ≤ v1 then
    some (.inl (-1))
  else
    (f_Atlas_movesFrom v1 m).bind fun r1 =>
    if r1 = 0 then
      some (.inl v1)
    else
      some (.inr (v1 + 1))
def f_Atlas_firstStuck_L2 (v1 : Int32) (m : zM) : Option (Int32) :=
  zloop (fun s : Int32 => f_Atlas_firstStuck_B2 s m) FU v1
def f_Atlas_firstStuck  (m : zM) : Option (Int32) :=
  f_Atlas_firstStuck_L2 0 m
def f_Study_firstWith_J21 (v2 : Int32) (m : zM) : Option (Int32) :=
  some ((v2 / 4))
def f_Study_firstWith_B2 (v1 : Nat) (v2 : Int32) (m : zM) : Option ((Int32) ⊕ (Int32)) :=
  if ((m.1 24 0) * 4) ≤ v2 then
    some (.inl (-1))
  else
    (ix (zlen gX v1) v2).bind fun i1 =>
    if (m.1 v1 i1) = 0 then
      some (.inr (v2 + 1))
    else
      zl (f_Study_firstWith_J21 v2 m)
def f_Study_firstWith_L2 (v1 : Nat) (v2 : Int32) (m : zM) : Option (Int32) :=
  zloop (fun s : Int32 => f_Study_firstWith_B2 v1 s m) FU v2
def f_Study_firstWith (v1 : Nat) (m : zM) : Option (Int32) :=
  f_Study_firstWith_L2 v1 0 m
def f_PA_first (v1 : Int32) (m : zM) : Option (Int32) :=
  if (m.1 0 13) = 0 then
    some ((-1))
  else
    if v1 = 0 then
      (f_Atlas_firstBad m).bind fun r1 =>
      some (r1)
    else
    if v1 = 1 then
      (f_Atlas_firstStuck m).bind fun r2 =>
      some (r2)
    else
    if v1 = 2 then
      (f_Study_firstWith 122 m).bind fun r3 =>
      some (r3)
    else
    if v1 = 3 then
      (f_Study_firstWith 123 m).bind fun r4 =>
      some (r4)
    else
    some ((-1))
def f_PA_part (v1 : Int32) (v2 : Int32) (m : zM) : Option (Int32) :=
  if (m.1 0 13) = 0 then
    some ((-1))
  else
    if v1 < 0 then
      some ((-1))
    else
      if v1 < (m.1 116 3) then
        if v2 = 0 then
          (ix 600 v1).bind fun i1 =>
          some ((m.1 118 i1))
        else
        if v2 = 1 then
          (ix 600 v1).bind fun i2 =>
          some ((m.1 119 i2))
        else
        if v2 = 2 then
          (ix 600 v1).bind fun i3 =>
          some ((f_PA_asNumber (m.1 120 i3)))
        else
        some ((-1))
      else
        some ((-1))
def f_Study_worldsOfPart_J39 (v1 : Int32) (v3 : Int32) (t0 : Int32) (t1 : Int32) (m : zM) : Option ((Int32) ⊕ (Int32 × Int32)) :=
  some (.inr ((t0 + t1), (v3 + 1)))
def f_Study_worldsOfPart_B4 (v1 : Int32) (v2 : Int32) (v3 : Int32) (m : zM) : Option ((Int32) ⊕ (Int32 × Int32)) :=
  if (m.1 24 0) ≤ v3 then
    some (.inl v2)
  else
    (ix 600 v3).bind fun i1 =>
    if (m.1 117 i1) = v1 then
      (ix 600 v3).bind fun i2 =>
      f_Study_worldsOfPart_J39 v1 v3 v2 (m.1 32 i2) m
    else
      f_Study_worldsOfPart_J39 v1 v3 v2 0 m
def f_Study_worldsOfPart_L4 (v1 : Int32) (v2 : Int32) (v3 : Int32) (m : zM) : Option (Int32) :=
  zloop (fun s : Int32 × Int32 => f_Study_worldsOfPart_B4 v1 s.1 s.2 m) FU (v2, v3)
def f_Study_worldsOfPart (v1 : Int32) (m : zM) : Option (Int32) :=
  f_Study_worldsOfPart_L4 v1 0 0 m
def f_PA_returns  (m : zM) : Option (Int32) :=
  if (m.1 0 13) = 0 then
    some ((-1))
  else
    (f_Study_worldsOfPart 0 m).bind fun r1 =>
    some (r1)
def f_Study_agentsWith_J39 (v1 : Nat) (v3 : Int32) (t0 : Int32) (t1 : Int32) (m : zM) : Option ((Int32) ⊕ (Int32 × Int32)) :=
  some (.inr ((t0 + t1), (v3 + 1)))
def f_Study_agentsWith_B4 (v1 : Nat) (v2 : Int32) (v3 : Int32) (m : zM) : Option ((Int32) ⊕ (Int32 × Int32)) :=
  if ((m.1 24 0) * 4) ≤ v3 then
    some (.inl v2)
  else
    (ix (zlen gX v1) v3).bind fun i1 =>
    if (m.1 v1 i1) = 0 then
      f_Study_agentsWith_J39 v1 v3 v2 0 m
    else
      (ix 600 (v3 / 4)).bind fun i2 =>
      f_Study_agentsWith_J39 v1 v3 v2 (m.1 32 i2) m
def f_Study_agentsWith_L4 (v1 : Nat) (v2 : Int32) (v3 : Int32) (m : zM) : Option (Int32) :=
  zloop (fun s : Int32 × Int32 => f_Study_agentsWith_B4 v1 s.1 s.2 m) FU (v2, v3)
def f_Study_agentsWith (v1 : Nat) (m : zM) : Option (Int32) :=
  f_Study_agentsWith_L4 v1 0 0 m
def f_PA_starving (v1 : Int32) (m : zM) : Option (Int32) :=
  if (m.1 0 13) = 0 then
    some ((-1))
  else
    if v1 = 0 then
      (f_Study_agentsWith 122 m).bind fun r2 =>
      some (r2)
    else
      if v1 = 1 then
        (f_Study_agentsWith 123 m).bind fun r1 =>
        some (r1)
      else
        some ((-1))
def f_PA_uses (v1 : Int32) (m : zM) : Option (Int32) :=
  (f_PA_isRule v1 m).bind fun r1 =>
  if r1 = true then
    (f_Atlas_allMoves v1 m).bind fun r2 =>
    some (r2)
  else
    some ((-1))
def f_Study_reach_J133 (v1 : Int32) (v2 : Int32) (v3 : Int32) (m : zM) : Option ((Int32 × zM) ⊕ (Int32 × Int32 × zM)) :=
  some (.inr (v2, (v3 + 1), m))
def f_Study_reach_J127 (v1 : Int32) (v2 : Int32) (v3 : Int32) (v4 : Int32) (v5 : Int32) (m : zM) : Option (((Int32 × zM) ⊕ (Int32 × Int32 × zM)) ⊕ (Int32 × Int32 × zM)) :=
  some (.inr (v2, (v5 + 1), m))
def f_Study_reach_B57 (v1 : Int32) (v2 : Int32) (v3 : Int32) (v4 : Int32) (v5 : Int32) (m : zM) : Option (((Int32 × zM) ⊕ (Int32 × Int32 × zM)) ⊕ (Int32 × Int32 × zM)) :=
  (ix 601 (v4 + 1)).bind fun i8 =>
  if (m.1 36 i8) ≤ v5 then
    zl (f_Study_reach_J133 v1 v2 v3 m)
  else
    (f_Atlas_target v5 m).bind fun r9 =>
    (f_Atlas_by v5 m).bind fun r10 =>
    if r10 = v1 then
      f_Study_reach_J127 v1 v2 v3 v4 v5 m
    else
      (ix 600 r9).bind fun i11 =>
      if (m.1 125 i11) = 0 then
        (ix 600 r9).bind fun i12 => lt (sI m 125 i12 (b2i true)) fun m13 =>
        (ix 600 v2).bind fun i14 => lt (sI m13 126 i14 r9) fun m15 =>
        f_Study_reach_J127 v1 (v2 + 1) v3 v4 v5 m15
      else
        f_Study_reach_J127 v1 v2 v3 v4 v5 m
def f_Study_reach_L57 (v1 : Int32) (v2 : Int32) (v3 : Int32) (v4 : Int32) (v5 : Int32) (m : zM) : Option ((Int32 × zM) ⊕ (Int32 × Int32 × zM)) :=
  zloop (fun s : Int32 × Int32 × zM => f_Study_reach_B57 v1 s.1 v3 v4 s.2.1 s.2.2) FU (v2, v5, m)
def f_Study_reach_B25 (v1 : Int32) (v2 : Int32) (v3 : Int32) (m : zM) : Option ((Int32 × zM) ⊕ (Int32 × Int32 × zM)) :=
  if v2 ≤ v3 then
    some (.inl (v2, m))
  else
    if 600 ≤ v3 then
      some (.inl (v2, m))
    else
      (ix 600 v3).bind fun i6 =>
      (ix 601 (m.1 126 i6)).bind fun i7 =>
      f_Study_reach_L57 v1 v2 v3 (m.1 126 i6) (m.1 36 i7) m
def f_Study_reach_L25 (v1 : Int32) (v2 : Int32) (v3 : Int32) (m : zM) : Option (Int32 × zM) :=
  zloop (fun s : Int32 × Int32 × zM => f_Study_reach_B25 v1 s.1 s.2.1 s.2.2) FU (v2, v3, m)
def f_Study_reach (v1 : Int32) (m : zM) : Option (Int32 × zM) :=
  (f_Study_clear 125 m).bind fun p1 => 
  (ix 600 0).bind fun i2 => lt (sI p1 126 i2 0) fun m3 =>
  (ix 600 0).bind fun i4 => lt (sI m3 125 i4 (b2i true)) fun m5 =>
  f_Study_reach_L25 v1 1 0 m5
def f_Study_isStuckWithout_B10 (v1 : Int32) (v2 : Int32) (v3 : Int32) (m : zM) : Option ((Bool) ⊕ (Int32)) :=
  (ix 601 (v1 + 1)).bind fun i2 =>
  if (m.1 36 i2) ≤ v3 then
    some (.inl true)
  else
    (f_Atlas_by v3 m).bind fun r3 =>
    if r3 = v2 then
      some (.inr (v3 + 1))
    else
      some (.inl false)
def f_Study_isStuckWithout_L10 (v1 : Int32) (v2 : Int32) (v3 : Int32) (m : zM) : Option (Bool) :=
  zloop (fun s : Int32 => f_Study_isStuckWithout_B10 v1 v2 s m) FU v3
def f_Study_isStuckWithout (v1 : Int32) (v2 : Int32) (m : zM) : Option (Bool) :=
  (ix 601 v1).bind fun i1 =>
  f_Study_isStuckWithout_L10 v1 v2 (m.1 36 i1) m
def f_Study_hopeless_J58 (v1 : Int32) (v3 : Int32) (t0 : Int32) (t1 : Bool) (m : zM) : Option ((Int32) ⊕ (Int32 × Int32)) :=
  some (.inr ((t0 + (b2i t1)), (v3 + 1)))
def f_Study_hopeless_J57 (v1 : Int32) (v3 : Int32) (t0 : Int32) (m : zM) : Option ((Int32) ⊕ (Int32 × Int32)) :=
  f_Study_hopeless_J58 v1 v3 t0 false m
def f_Study_hopeless_B4 (v1 : Int32) (v2 : Int32) (v3 : Int32) (m : zM) : Option ((Int32) ⊕ (Int32 × Int32)) :=
  if (m.1 24 1) ≤ v3 then
    some (.inl v2)
  else
    (tb li_Table m 2).bind fun t1 =>
    (f_Study_isAgentIn ((v1 * 4) + v3) (m.1 t1 10) m).bind fun r2 =>
    if r2 = true then
      (f_Study_firstLike ((v1 * 4) + v3) m).bind fun r3 =>
      (ix 2400 r3).bind fun i4 =>
      if (m.1 124 i4) = 0 then
        f_Study_hopeless_J58 v1 v3 v2 true m
      else
        f_Study_hopeless_J57 v1 v3 v2 m
    else
      f_Study_hopeless_J57 v1 v3 v2 m
def f_Study_hopeless_L4 (v1 : Int32) (v2 : Int32) (v3 : Int32) (m : zM) : Option (Int32) :=
  zloop (fun s : Int32 × Int32 => f_Study_hopeless_B4 v1 s.1 s.2 m) FU (v2, v3)
def f_Study_hopeless (v1 : Int32) (m : zM) : Option (Int32) :=
  f_Study_hopeless_L4 v1 0 0 m
def f_Study_figure_J234 (v1 : Int32) (v2 : Int32) (v3 : Int32) (v4 : Bool) (v5 : Int32) (t0 : Nat) (t1 : Int32) (t2 : Int32) (t3 : Int32) (m : zM) : Option ((zM) ⊕ (Int32 × zM)) :=
  (ix (zlen gX t0) t1).bind fun i29 => lt (sI m t0 i29 (t2 + t3)) fun m30 =>
  some (.inr ((v5 + 1), m30))
def f_Study_figure_J197 (v1 : Int32) (v2 : Int32) (v3 : Int32) (v4 : Bool) (v5 : Int32) (v6 : Int32) (t0 : Nat) (t1 : Int32) (t2 : Int32) (t3 : Int32) (m : zM) : Option ((zM) ⊕ (Int32 × zM)) :=
  (ix (zlen gX t0) t1).bind fun i24 => lt (sI m t0 i24 (t2 + t3)) fun m25 =>
  (ix 80 (v2 + 4)).bind fun i26 =>
  if v4 = true then
    (ix 600 v6).bind fun i27 =>
    (f_Study_hopeless v6 m25).bind fun r28 =>
    f_Study_figure_J234 v1 v2 v3 v4 v5 128 (v2 + 4) (m25.1 128 i26) ((m25.1 32 i27) * r28) m25
  else
    f_Study_figure_J234 v1 v2 v3 v4 v5 128 (v2 + 4) (m25.1 128 i26) 0 m25
def f_Study_figure_J162 (v1 : Int32) (v2 : Int32) (v3 : Int32) (v4 : Bool) (v5 : Int32) (v6 : Int32) (t0 : Nat) (t1 : Int32) (t2 : Int32) (t3 : Int32) (m : zM) : Option ((zM) ⊕ (Int32 × zM)) :=
  (ix (zlen gX t0) t1).bind fun i19 => lt (sI m t0 i19 (t2 + t3)) fun m20 =>
  (ix 80 (v2 + 3)).bind fun i21 =>
  (f_Study_isStuckWithout v6 v1 m20).bind fun r22 =>
  if r22 = true then
    (ix 600 v6).bind fun i23 =>
    f_Study_figure_J197 v1 v2 v3 v4 v5 v6 128 (v2 + 3) (m20.1 128 i21) (m20.1 32 i23) m20
  else
    f_Study_figure_J197 v1 v2 v3 v4 v5 v6 128 (v2 + 3) (m20.1 128 i21) 0 m20
def f_Study_figure_B90 (v1 : Int32) (v2 : Int32) (v3 : Int32) (v4 : Bool) (v5 : Int32) (m : zM) : Option ((zM) ⊕ (Int32 × zM)) :=
  if v3 ≤ v5 then
    some (.inl m)
  else
    (ix 600 v5).bind fun i11 =>
    (ix 80 (v2 + 1)).bind fun i12 =>
    (ix 600 (m.1 126 i11)).bind fun i13 =>
    (ix 80 (v2 + 1)).bind fun i14 => lt (sI m 128 i14 ((m.1 128 i12) + (m.1 32 i13))) fun m15 =>
    (ix 80 (v2 + 2)).bind fun i16 =>
    (ix 600 (m.1 126 i11)).bind fun i17 =>
    if (m15.1 33 i17) = 0 then
      f_Study_figure_J162 v1 v2 v3 v4 v5 (m.1 126 i11) 128 (v2 + 2) (m15.1 128 i16) 0 m15
    else
      (ix 600 (m.1 126 i11)).bind fun i18 =>
      f_Study_figure_J162 v1 v2 v3 v4 v5 (m.1 126 i11) 128 (v2 + 2) (m15.1 128 i16) (m15.1 32 i18) m15
def f_Study_figure_L90 (v1 : Int32) (v2 : Int32) (v3 : Int32) (v4 : Bool) (v5 : Int32) (m : zM) : Option (zM) :=
  zloop (fun s : Int32 × zM => f_Study_figure_B90 v1 v2 v3 v4 s.1 s.2) FU (v5, m)
def f_Study_figure_J87 (v1 : Int32) (v2 : Int32) (v3 : Int32) (v4 : Bool) (m : zM) : Option (zM) :=
  f_Study_figure_L90 v1 v2 v3 v4 0 m
def f_Study_figure_J75 (v1 : Int32) (v2 : Int32) (v3 : Int32) (t0 : Bool) (m : zM) : Option (zM) :=
  if t0 = true then
    (f_Study_markHoping v1 m).bind fun p10 => 
    f_Study_figure_J87 v1 v2 v3 t0 p10
  else
    f_Study_figure_J87 v1 v2 v3 t0 m
def f_Study_figure_J52 (v1 : Int32) (v2 : Int32) (v3 : Int32) (m : zM) : Option (zM) :=
  (ix 80 v2).bind fun i7 => lt (sI m 128 i7 v3) fun m8 =>
  (tb li_Table m8 2).bind fun t9 =>
  if (m8.1 t9 10) = (-1) then
    f_Study_figure_J75 v1 v2 v3 false m8
  else
    f_Study_figure_J75 v1 v2 v3 true m8
def f_Study_figure_B30 (v1 : Int32) (v2 : Int32) (v3 : Int32) (v4 : Int32) (m : zM) : Option ((zM) ⊕ (Int32 × zM)) :=
  if 5 ≤ v4 then
    zl (f_Study_figure_J52 v1 v2 v3 m)
  else
    (ix 80 (v2 + v4)).bind fun i5 => lt (sI m 128 i5 0) fun m6 =>
    some (.inr ((v4 + 1), m6))
def f_Study_figure_L30 (v1 : Int32) (v2 : Int32) (v3 : Int32) (v4 : Int32) (m : zM) : Option (zM) :=
  zloop (fun s : Int32 × zM => f_Study_figure_B30 v1 v2 v3 s.1 s.2) FU (v4, m)
def f_Study_figure (v1 : Int32) (m : zM) : Option (zM) :=
  (ix 16 v1).bind fun i1 =>
  if (m.1 127 i1) = 0 then
    (ix 16 v1).bind fun i2 => lt (sI m 127 i2 (b2i true)) fun m3 =>
    (f_Study_reach v1 m3).bind fun p4 => 
    f_Study_figure_L30 v1 (v1 * 5) p4.1 0 p4.2
  else
    some (m)
def f_Study_lacking (v1 : Int32) (v2 : Int32) (m : zM) : Option (Int32 × zM) :=
  (f_Study_figure v1 m).bind fun p1 => 
  (ix 80 ((v1 * 5) + v2)).bind fun i2 =>
  some (((p1.1 128 i2), p1))
def f_PA_without (v1 : Int32) (v2 : Int32) (m : zM) : Option (Int32 × zM) :=
  (f_PA_isRule v1 m).bind fun r1 =>
  if r1 = true then
    if v2 < 0 then
      some (((-1), m))
    else
      if v2 < 5 then
        (f_Study_lacking v1 v2 m).bind fun p2 => 
        some ((p2.1, p2.2))
      else
        some (((-1), m))
  else
    some (((-1), m))
def f_Study_isBetter_J38 (v4 : Int32) (v5 : Int32) (m : zM) : Option (Bool) :=
  if v5 ≤ v4 then
    some (false)
  else
    some (true)
def f_Study_isBetter_B2 (v1 : Int32) (v2 : Int32) (v3 : Int32) (m : zM) : Option ((Bool) ⊕ (Int32)) :=
  if 5 ≤ v3 then
    some (.inl false)
  else
    (ix 80 ((v1 * 5) + v3)).bind fun i1 =>
    (ix 80 ((v2 * 5) + v3)).bind fun i2 =>
    if (m.1 128 i1) = (m.1 128 i2) then
      some (.inr (v3 + 1))
    else
      zl (f_Study_isBetter_J38 (m.1 128 i1) (m.1 128 i2) m)
def f_Study_isBetter_L2 (v1 : Int32) (v2 : Int32) (v3 : Int32) (m : zM) : Option (Bool) :=
  zloop (fun s : Int32 => f_Study_isBetter_B2 v1 v2 s m) FU v3
def f_Study_isBetter (v1 : Int32) (v2 : Int32) (m : zM) : Option (Bool) :=
  f_Study_isBetter_L2 v1 v2 2 m
def f_Study_bestLeftOut_J45 (v1 : Int32) (v2 : Int32) (m : zM) : Option ((Int32 × zM) ⊕ (Int32 × Int32 × zM)) :=
  some (.inr (v1, (v2 + 1), m))
def f_Study_bestLeftOut_B18 (v1 : Int32) (v2 : Int32) (m : zM) : Option ((Int32 × zM) ⊕ (Int32 × Int32 × zM)) :=
  (tb li_Table m 2).bind fun t2 =>
  if (m.1 t2 4) ≤ v2 then
    some (.inl (v1, m))
  else
    (f_Study_figure v2 m).bind fun p3 => 
    (f_Study_isBetter v2 v1 p3).bind fun r4 =>
    if r4 = true then
      f_Study_bestLeftOut_J45 v2 v2 p3
    else
      f_Study_bestLeftOut_J45 v1 v2 p3
def f_Study_bestLeftOut_L18 (v1 : Int32) (v2 : Int32) (m : zM) : Option (Int32 × zM) :=
  zloop (fun s : Int32 × Int32 × zM => f_Study_bestLeftOut_B18 s.1 s.2.1 s.2.2) FU (v1, v2, m)
def f_Study_bestLeftOut_J15 (t0 : Int32) (m : zM) : Option (Int32 × zM) :=
  f_Study_bestLeftOut_L18 t0 0 m
def f_Study_bestLeftOut  (m : zM) : Option (Int32 × zM) :=
  (tb li_Table m 2).bind fun t1 =>
  if (m.1 t1 4) ≤ 0 then
    f_Study_bestLeftOut_J15 (-1) m
  else
    f_Study_bestLeftOut_J15 0 m
def f_PA_mend  (m : zM) : Option (Int32 × zM) :=
  if (m.1 0 13) = 0 then
    some (((-1), m))
  else
    (f_Study_bestLeftOut m).bind fun p1 => 
    some ((p1.1, p1.2))
def f_PA_now (v1 : Int32) (v2 : Int32) (m : zM) : Option (Int32 × zM) :=
  if (m.1 0 13) = 0 then
    some (((-1), m))
  else
    if v1 = (-1) then
      if v2 = 0 then
        some (((m.1 55 0), m))
      else
      if v2 = 1 then
        (f_Atlas_number 55 m).bind fun p3 => 
        some ((p3.1, p3.2))
      else
      if v2 = 2 then
        (tb li_Table m 0).bind fun t4 =>
        (f_Table_isBad t4 55 m).bind fun r5 =>
        some (((f_PA_asNumber (b2i r5)), m))
      else
      some (((-1), m))
    else
      (f_PA_isAgent v1 m).bind fun r1 =>
      if r1 = true then
        (ix 4 v1).bind fun i2 =>
        some (((f_PA_held (m.1 (55 + 1) i2) v2), m))
      else
        some (((-1), m))
def f_PA_can (v1 : Int32) (v2 : Int32) (m : zM) : Option (Int32 × zM) :=
  (f_PA_isRule v1 m).bind fun r1 =>
  if r1 = true then
    (f_PA_isAgent v2 m).bind fun r2 =>
    if r2 = true then
      (tb li_Table m 0).bind fun t3 =>
      (f_Table_go t3 55 v1 v2 59 m).bind fun p4 => 
      some (((f_PA_asNumber (b2i p4.1)), p4.2))
    else
      some (((-1), m))
  else
    some (((-1), m))
def f_PA_remember_J34  (m : zM) : Option (zM) :=
  (f_World_ownKey 55 m).bind fun r4 =>
  (ix 20 (m.1 0 14)).bind fun i5 => lt (sJ m 63 i5 r4) fun m6 =>
  lt (sI m6 0 14 ((m6.1 0 14) + 1)) fun m7 =>
  some (m7)
def f_PA_remember  (m : zM) : Option (zM) :=
  if (m.1 0 14) = 20 then
    (zcpy 20 20 1 0 19).bind fun r1 => lt (cJ m 63 63 r1.1 r1.2.1 r1.2.2) fun m2 =>
    lt (sI m2 0 14 ((m2.1 0 14) - 1)) fun m3 =>
    f_PA_remember_J34 m3
  else
    f_PA_remember_J34 m
def f_PA_move_J36  (m : zM) : Option (Int32 × zM) :=
  (f_PA_refuse 2 m).bind fun p8 => 
  some ((p8.1, p8.2))
def f_PA_move (v1 : Int32) (v2 : Int32) (m : zM) : Option (Int32 × zM) :=
  (f_PA_isRule v1 m).bind fun r1 =>
  if r1 = true then
    (f_PA_isAgent v2 m).bind fun r2 =>
    if r2 = true then
      (tb li_Table m 0).bind fun t3 =>
      (f_Table_go t3 55 v1 v2 59 m).bind fun p4 => 
      if p4.1 = true then
        (f_PA_remember p4.2).bind fun p5 => 
        (f_World_copy 55 59 p5).bind fun p6 => 
        (f_Atlas_number 55 p6).bind fun p7 => 
        some ((p7.1, p7.2))
      else
        f_PA_move_J36 p4.2
    else
      f_PA_move_J36 m
  else
    f_PA_move_J36 m
def f_PA_jump (v1 : Int32) (m : zM) : Option (Bool × zM) :=
  if (f_PA_isWorld v1 m) = true then
    (f_PA_remember m).bind fun p1 => 
    (ix 600 v1).bind fun i2 =>
    (tb li_Table p1 0).bind fun t3 =>
    (f_World_load 55 (p1.2.1 28 i2) (p1.1 t3 0) p1).bind fun p4 => 
    some ((true, p4))
  else
    (f_PA_refuse 2 m).bind fun p5 => 
    some ((false, p5.2))
def f_Table_choices_J53 (v0 : Nat) (v1 : Nat) (v2 : Nat) (v3 : Int32) (v4 : Int32) (m : zM) : Option ((Int32 × zM) ⊕ (Int32 × Int32 × zM)) :=
  some (.inr (v3, (v4 + 1), m))
def f_Table_choices_J45 (v0 : Nat) (v1 : Nat) (v2 : Nat) (v4 : Int32) (v5 : Int32) (t0 : Int32) (t1 : Bool) (m : zM) : Option (((Int32 × zM) ⊕ (Int32 × Int32 × zM)) ⊕ (Int32 × Int32 × zM)) :=
  some (.inr ((t0 + (b2i t1)), (v5 + 1), m))
def f_Table_choices_B17 (v0 : Nat) (v1 : Nat) (v2 : Nat) (v3 : Int32) (v4 : Int32) (v5 : Int32) (m : zM) : Option (((Int32 × zM) ⊕ (Int32 × Int32 × zM)) ⊕ (Int32 × Int32 × zM)) :=
  if (m.1 v0 0) ≤ v5 then
    zl (f_Table_choices_J53 v0 v1 v2 v3 v4 m)
  else
    (f_Table_go v0 v1 v4 v5 v2 m).bind fun p1 => 
    if p1.1 = true then
      f_Table_choices_J45 v0 v1 v2 v4 v5 v3 true p1.2
    else
      f_Table_choices_J45 v0 v1 v2 v4 v5 v3 false p1.2
def f_Table_choices_L17 (v0 : Nat) (v1 : Nat) (v2 : Nat) (v3 : Int32) (v4 : Int32) (v5 : Int32) (m : zM) : Option ((Int32 × zM) ⊕ (Int32 × Int32 × zM)) :=
  zloop (fun s : Int32 × Int32 × zM => f_Table_choices_B17 v0 v1 v2 s.1 v4 s.2.1 s.2.2) FU (v3, v5, m)
def f_Table_choices_B5 (v0 : Nat) (v1 : Nat) (v2 : Nat) (v3 : Int32) (v4 : Int32) (m : zM) : Option ((Int32 × zM) ⊕ (Int32 × Int32 × zM)) :=
  if (m.1 v0 4) ≤ v4 then
    some (.inl (v3, m))
  else
    f_Table_choices_L17 v0 v1 v2 v3 v4 0 m
def f_Table_choices_L5 (v0 : Nat) (v1 : Nat) (v2 : Nat) (v3 : Int32) (v4 : Int32) (m : zM) : Option (Int32 × zM) :=
  zloop (fun s : Int32 × Int32 × zM => f_Table_choices_B5 v0 v1 v2 s.1 s.2.1 s.2.2) FU (v3, v4, m)
def f_Table_choices (v0 : Nat) (v1 : Nat) (v2 : Nat) (m : zM) : Option (Int32 × zM) :=
  f_Table_choices_L5 v0 v1 v2 0 0 m
def f_PA_draw (v1 : Int32) (m : zM) : Option (Int32 × zM) :=
  lt (sJ m 0 15 (((1103515245 * (m.2.1 0 15)) + 12345) &&& 2147483647)) fun m1 =>
  if v1 ≤ 0 then
    some ((0, m1))
  else
    (nzl v1.toInt64).bind fun _ =>
    some ((((irl ((m1.2.1 0 15) / 64) v1.toInt64).toInt32), m1))
def f_Table_choose_J55 (v0 : Nat) (v1 : Nat) (v3 : Nat) (v4 : Int32) (v5 : Int32) (m : zM) : Option ((zM) ⊕ (Int32 × Int32 × zM)) :=
  some (.inr (v4, (v5 + 1), m))
def f_Table_choose_J49 (v0 : Nat) (v1 : Nat) (v3 : Nat) (v4 : Int32) (v5 : Int32) (v6 : Int32) (m : zM) : Option (((zM) ⊕ (Int32 × Int32 × zM)) ⊕ (Int32 × Int32 × zM)) :=
  some (.inr (v4, (v6 + 1), m))
def f_Table_choose_B18 (v0 : Nat) (v1 : Nat) (v3 : Nat) (v4 : Int32) (v5 : Int32) (v6 : Int32) (m : zM) : Option (((zM) ⊕ (Int32 × Int32 × zM)) ⊕ (Int32 × Int32 × zM)) :=
  if (m.1 v0 0) ≤ v6 then
    zl (f_Table_choose_J55 v0 v1 v3 v4 v5 m)
  else
    (f_Table_go v0 v1 v5 v6 v3 m).bind fun p1 => 
    if p1.1 = true then
      if v4 = 0 then
        some (.inl (.inl p1.2))
      else
        f_Table_choose_J49 v0 v1 v3 (v4 + (-1)) v5 v6 p1.2
    else
      f_Table_choose_J49 v0 v1 v3 v4 v5 v6 p1.2
def f_Table_choose_L18 (v0 : Nat) (v1 : Nat) (v3 : Nat) (v4 : Int32) (v5 : Int32) (v6 : Int32) (m : zM) : Option ((zM) ⊕ (Int32 × Int32 × zM)) :=
  zloop (fun s : Int32 × Int32 × zM => f_Table_choose_B18 v0 v1 v3 s.1 v5 s.2.1 s.2.2) FU (v4, v6, m)
def f_Table_choose_B6 (v0 : Nat) (v1 : Nat) (v3 : Nat) (v4 : Int32) (v5 : Int32) (m : zM) : Option ((zM) ⊕ (Int32 × Int32 × zM)) :=
  if (m.1 v0 4) ≤ v5 then
    some (.inl m)
  else
    f_Table_choose_L18 v0 v1 v3 v4 v5 0 m
def f_Table_choose_L6 (v0 : Nat) (v1 : Nat) (v3 : Nat) (v4 : Int32) (v5 : Int32) (m : zM) : Option (zM) :=
  zloop (fun s : Int32 × Int32 × zM => f_Table_choose_B6 v0 v1 v3 s.1 s.2.1 s.2.2) FU (v4, v5, m)
def f_Table_choose (v0 : Nat) (v1 : Nat) (v2 : Int32) (v3 : Nat) (m : zM) : Option (zM) :=
  f_Table_choose_L6 v0 v1 v3 v2 0 m
def f_PA_chance_J18  (m : zM) : Option (Int32 × zM) :=
  (f_PA_refuse 3 m).bind fun p2 => 
  some ((p2.1, p2.2))
def f_PA_chance_J59 (v2 : Int32) (m : zM) : Option (Int32 × zM) :=
  some ((v2, m))
def f_PA_chance_B32 (v1 : Int32) (v2 : Int32) (v3 : Int32) (m : zM) : Option ((Int32 × zM) ⊕ (Int32 × Int32 × zM)) :=
  if v1 ≤ v3 then
    some (.inl (v2, m))
  else
    (tb li_Table m 0).bind fun t3 =>
    (f_Table_choices t3 55 59 m).bind fun p4 => 
    if p4.1 = 0 then
      zl (f_PA_chance_J59 v2 p4.2)
    else
      (tb li_Table p4.2 0).bind fun t5 =>
      (f_PA_draw p4.1 p4.2).bind fun p6 => 
      (f_Table_choose t5 55 p6.1 59 p6.2).bind fun p7 => 
      (f_World_copy 55 59 p7).bind fun p8 => 
      some (.inr ((v2 + 1), (v3 + 1), p8))
def f_PA_chance_L32 (v1 : Int32) (v2 : Int32) (v3 : Int32) (m : zM) : Option (Int32 × zM) :=
  zloop (fun s : Int32 × Int32 × zM => f_PA_chance_B32 v1 s.1 s.2.1 s.2.2) FU (v2, v3, m)
def f_PA_chance (v1 : Int32) (m : zM) : Option (Int32 × zM) :=
  if (m.1 0 13) = 0 then
    f_PA_chance_J18 m
  else
    if v1 < 1 then
      f_PA_chance_J18 m
    else
      if v1 ≤ 100 then
        (f_PA_remember m).bind fun p1 => 
        f_PA_chance_L32 v1 0 0 p1
      else
        f_PA_chance_J18 m
def f_PA_undo_J14  (m : zM) : Option (Bool × zM) :=
  (f_PA_refuse 4 m).bind fun p5 => 
  some ((false, p5.2))
def f_PA_undo  (m : zM) : Option (Bool × zM) :=
  if (m.1 0 13) = 0 then
    f_PA_undo_J14 m
  else
    if (m.1 0 14) = 0 then
      f_PA_undo_J14 m
    else
      lt (sI m 0 14 ((m.1 0 14) - 1)) fun m1 =>
      (ix 20 (m1.1 0 14)).bind fun i2 =>
      (tb li_Table m1 0).bind fun t3 =>
      (f_World_load 55 (m1.2.1 63 i2) (m1.1 t3 0) m1).bind fun p4 => 
      some ((true, p4))
def f_PA_seed (v1 : Int32) (m : zM) : Option (Bool × zM) :=
  if 0 ≤ v1 then
    lt (sJ m 0 15 v1.toInt64) fun m1 =>
    some ((true, m1))
  else
    (f_PA_refuse 5 m).bind fun p2 => 
    some ((false, p2.2))
def f_Sight_isSight_B26 (v0 : Nat) (v1 : Nat) (v2 : Int32) (v3 : Int32) (m : zM) : Option ((Bool) ⊕ (Int32)) :=
  if v2 ≤ v3 then
    some (.inl true)
  else
    (f_Bytes_get v0 v3 m).bind fun r1 =>
    (ix 3 0).bind fun i2 =>
    if (m.1 (v1 + 1) i2) ≤ r1 then
      some (.inl false)
    else
      (f_Bytes_get v0 (v3 + 1) m).bind fun r3 =>
      if r3 ≤ 4 then
        some (.inr (v3 + 2))
      else
        some (.inl false)
def f_Sight_isSight_L26 (v0 : Nat) (v1 : Nat) (v2 : Int32) (v3 : Int32) (m : zM) : Option (Bool) :=
  zloop (fun s : Int32 => f_Sight_isSight_B26 v0 v1 v2 s m) FU v3
def f_Sight_isSight (v0 : Nat) (v1 : Nat) (m : zM) : Option (Bool) :=
  if (f_Bytes_size v0 m) < 2 then
    some (false)
  else
    if 12 < (f_Bytes_size v0 m) then
      some (false)
    else
      if (ir (f_Bytes_size v0 m) 2) = 0 then
        f_Sight_isSight_L26 v0 v1 (f_Bytes_size v0 m) 0 m
      else
        some (false)
def f_Sight_take_J59 (v2 : Int32) (m : zM) : Option (zM) :=
  lt (sI m 48 3 v2) fun m8 =>
  lt (sI m8 48 8 (-1)) fun m9 =>
  some (m9)
def f_Sight_take_B17 (v1 : Nat) (v2 : Int32) (v3 : Int32) (m : zM) : Option ((zM) ⊕ (Int32 × zM)) :=
  if (m.1 48 2) ≤ v3 then
    zl (f_Sight_take_J59 v2 m)
  else
    (f_Bytes_get v1 (2 * v3) m).bind fun r2 =>
    (ix 6 v3).bind fun i3 => lt (sI m 49 i3 r2) fun m4 =>
    (f_Bytes_get v1 ((2 * v3) + 1) m4).bind fun r5 =>
    (ix 6 v3).bind fun i6 => lt (sI m4 50 i6 r5) fun m7 =>
    some (.inr ((v3 + 1), m7))
def f_Sight_take_L17 (v1 : Nat) (v2 : Int32) (v3 : Int32) (m : zM) : Option (zM) :=
  zloop (fun s : Int32 × zM => f_Sight_take_B17 v1 v2 s.1 s.2) FU (v3, m)
def f_Sight_take (v1 : Nat) (v2 : Int32) (m : zM) : Option (zM) :=
  lt (sI m 48 2 (f_Math_min ((f_Bytes_size v1 m) / 2) 6)) fun m1 =>
  f_Sight_take_L17 v1 v2 0 m1
def f_PA_see_J53 (v2 : Bool) (m : zM) : Option (Int32 × zM) :=
  lt (f_Bytes_cut 1 0 m) fun p4 =>
  if v2 = true then
    some (((p4.1 48 2), p4))
  else
    (f_PA_refuse 1 p4).bind fun p5 => 
    some ((p5.1, p5.2))
def f_PA_see_J36 (v1 : Int32) (t0 : Bool) (m : zM) : Option (Int32 × zM) :=
  if t0 = true then
    (f_Sight_take 1 v1 m).bind fun p3 => 
    f_PA_see_J53 t0 p3
  else
    f_PA_see_J53 t0 m
def f_PA_see_J35 (v1 : Int32) (m : zM) : Option (Int32 × zM) :=
  f_PA_see_J36 v1 false m
def f_PA_see (v1 : Int32) (m : zM) : Option (Int32 × zM) :=
  if (m.1 0 13) = 0 then
    f_PA_see_J35 v1 m
  else
    if v1 < 0 then
      f_PA_see_J35 v1 m
    else
      if 6 < v1 then
        f_PA_see_J35 v1 m
      else
        (tb li_Table m 0).bind fun t1 =>
        (f_Sight_isSight 1 t1 m).bind fun r2 =>
        if r2 = true then
          f_PA_see_J36 v1 true m
        else
          f_PA_see_J35 v1 m
def f_Sight_goOn_B86 (v2 : Int32) (m : zM) : Option ((zM) ⊕ (Int32 × zM)) :=
  if (m.1 24 0) ≤ v2 then
    some (.inl m)
  else
    (ix 600 v2).bind fun i4 =>
    (ix 600 v2).bind fun i5 => lt (sI m 51 i5 (vp_nar .boolean (m.1 52 i4))) fun m6 =>
    some (.inr ((v2 + 1), m6))
def f_Sight_goOn_L86 (v2 : Int32) (m : zM) : Option (zM) :=
  zloop (fun s : Int32 × zM => f_Sight_goOn_B86 s.1 s.2) FU (v2, m)
def f_Sight_goOn_J84  (m : zM) : Option (zM) :=
  f_Sight_goOn_L86 0 m
def f_Sight_goOn_J78 (v2 : Int32) (m : zM) : Option ((zM) ⊕ (Int32 × zM)) :=
  some (.inr ((v2 + 1), m))
def f_Sight_goOn_B40 (v2 : Int32) (v3 : Int32) (m : zM) : Option (((zM) ⊕ (Int32 × zM)) ⊕ (Int32 × zM)) :=
  (ix 600 v2).bind fun i7 =>
  if (m.1 51 i7) = 0 then
    zl (f_Sight_goOn_J78 v2 m)
  else
    (ix 601 (v2 + 1)).bind fun i8 =>
    if (m.1 36 i8) ≤ v3 then
      zl (f_Sight_goOn_J78 v2 m)
    else
      (f_Atlas_target v3 m).bind fun r9 =>
      (ix 600 r9).bind fun i10 => lt (sI m 52 i10 (b2i true)) fun m11 =>
      some (.inr ((v3 + 1), m11))
def f_Sight_goOn_L40 (v2 : Int32) (v3 : Int32) (m : zM) : Option ((zM) ⊕ (Int32 × zM)) :=
  zloop (fun s : Int32 × zM => f_Sight_goOn_B40 v2 s.1 s.2) FU (v3, m)
def f_Sight_goOn_B25 (v2 : Int32) (m : zM) : Option ((zM) ⊕ (Int32 × zM)) :=
  if (m.1 24 0) ≤ v2 then
    zl (f_Sight_goOn_J84 m)
  else
    (ix 601 v2).bind fun i3 =>
    f_Sight_goOn_L40 v2 (m.1 36 i3) m
def f_Sight_goOn_L25 (v2 : Int32) (m : zM) : Option (zM) :=
  zloop (fun s : Int32 × zM => f_Sight_goOn_B25 s.1 s.2) FU (v2, m)
def f_Sight_goOn_J23  (m : zM) : Option (zM) :=
  f_Sight_goOn_L25 0 m
def f_Sight_goOn_B2 (v2 : Int32) (m : zM) : Option ((zM) ⊕ (Int32 × zM)) :=
  if (m.1 24 0) ≤ v2 then
    zl (f_Sight_goOn_J23 m)
  else
    (ix 600 v2).bind fun i1 => lt (sI m 52 i1 (b2i false)) fun m2 =>
    some (.inr ((v2 + 1), m2))
def f_Sight_goOn_L2 (v2 : Int32) (m : zM) : Option (zM) :=
  zloop (fun s : Int32 × zM => f_Sight_goOn_B2 s.1 s.2) FU (v2, m)
def f_Sight_goOn  (m : zM) : Option (zM) :=
  f_Sight_goOn_L2 0 m
def f_Atlas_inState_J39 (v1 : Int32) (v2 : Int32) (v4 : Int32) (t0 : Int32) (t1 : Bool) (m : zM) : Option ((Int32) ⊕ (Int32 × Int32)) :=
  some (.inr ((t0 + (b2i t1)), (v4 + 1)))
def f_Atlas_inState_B5 (v1 : Int32) (v2 : Int32) (v3 : Int32) (v4 : Int32) (m : zM) : Option ((Int32) ⊕ (Int32 × Int32)) :=
  if (m.1 24 1) ≤ v4 then
    some (.inl v3)
  else
    (ix 2400 ((v1 * 4) + v4)).bind fun i1 =>
    if (f_PA_held (m.1 34 i1) 0) = v2 then
      f_Atlas_inState_J39 v1 v2 v4 v3 true m
    else
      f_Atlas_inState_J39 v1 v2 v4 v3 false m
def f_Atlas_inState_L5 (v1 : Int32) (v2 : Int32) (v3 : Int32) (v4 : Int32) (m : zM) : Option (Int32) :=
  zloop (fun s : Int32 × Int32 => f_Atlas_inState_B5 v1 v2 s.1 s.2 m) FU (v3, v4)
def f_Atlas_inState (v1 : Int32) (v2 : Int32) (m : zM) : Option (Int32) :=
  f_Atlas_inState_L5 v1 v2 0 0 m
def f_Sight_isAsSeen_B2 (v2 : Int32) (v3 : Int32) (m : zM) : Option ((Bool) ⊕ (Int32)) :=
  if (m.1 48 2) ≤ v3 then
    some (.inl true)
  else
    (ix 6 v3).bind fun i1 =>
    (f_Atlas_inState v2 (m.1 49 i1) m).bind fun r2 =>
    (ix 6 v3).bind fun i3 =>
    if r2 = (m.1 50 i3) then
      some (.inr (v3 + 1))
    else
      some (.inl false)
def f_Sight_isAsSeen_L2 (v2 : Int32) (v3 : Int32) (m : zM) : Option (Bool) :=
  zloop (fun s : Int32 => f_Sight_isAsSeen_B2 v2 s m) FU v3
def f_Sight_isAsSeen (v2 : Int32) (m : zM) : Option (Bool) :=
  f_Sight_isAsSeen_L2 v2 0 m
def f_Sight_look_J126 (v2 : Int32) (m : zM) : Option (zM) :=
  lt (sI m 48 8 v2) fun m8 =>
  some (m8)
def f_Sight_look_J120 (v2 : Int32) (v3 : Int32) (m : zM) : Option ((zM) ⊕ (Int32 × zM)) :=
  some (.inr ((v3 + 1), m))
def f_Sight_look_B74 (v2 : Int32) (v3 : Int32) (m : zM) : Option ((zM) ⊕ (Int32 × zM)) :=
  if (m.1 24 0) ≤ v3 then
    zl (f_Sight_look_J126 v2 m)
  else
    (ix 600 v3).bind fun i3 =>
    if (m.1 51 i3) = 0 then
      f_Sight_look_J120 v2 v3 m
    else
      (f_Sight_isAsSeen v3 m).bind fun r4 =>
      if r4 = true then
        (ix 600 (m.1 48 7)).bind fun i5 => lt (sI m 53 i5 v3) fun m6 =>
        lt (sI m6 48 7 ((m6.1 48 7) + 1)) fun m7 =>
        f_Sight_look_J120 v2 v3 m7
      else
        f_Sight_look_J120 v2 v3 m
def f_Sight_look_L74 (v2 : Int32) (v3 : Int32) (m : zM) : Option (zM) :=
  zloop (fun s : Int32 × zM => f_Sight_look_B74 v2 s.1 s.2) FU (v3, m)
def f_Sight_look_J67 (v2 : Int32) (m : zM) : Option (zM) :=
  lt (sI m 48 7 0) fun m2 =>
  f_Sight_look_L74 v2 0 m2
def f_Sight_look_B48 (v2 : Int32) (v3 : Int32) (m : zM) : Option ((zM) ⊕ (Int32 × zM)) :=
  if (m.1 48 3) ≤ v3 then
    zl (f_Sight_look_J67 v2 m)
  else
    (f_Sight_goOn m).bind fun p1 => 
    some (.inr ((v3 + 1), p1))
def f_Sight_look_L48 (v2 : Int32) (v3 : Int32) (m : zM) : Option (zM) :=
  zloop (fun s : Int32 × zM => f_Sight_look_B48 v2 s.1 s.2) FU (v3, m)
def f_Sight_look_J46 (v2 : Int32) (m : zM) : Option (zM) :=
  f_Sight_look_L48 v2 0 m
def f_Sight_look_J39 (v2 : Int32) (v3 : Int32) (t0 : Nat) (t1 : Int32) (t2 : Bool) (m : zM) : Option ((zM) ⊕ (Int32 × zM)) :=
  (ix (zlen gX t0) t1).bind fun i9 => lt (sI m t0 i9 (b2i t2)) fun m10 =>
  some (.inr ((v3 + 1), m10))
def f_Sight_look_B16 (v2 : Int32) (v3 : Int32) (m : zM) : Option ((zM) ⊕ (Int32 × zM)) :=
  if (m.1 24 0) ≤ v3 then
    zl (f_Sight_look_J46 v2 m)
  else
    if v3 = v2 then
      f_Sight_look_J39 v2 v3 51 v3 true m
    else
      f_Sight_look_J39 v2 v3 51 v3 false m
def f_Sight_look_L16 (v2 : Int32) (v3 : Int32) (m : zM) : Option (zM) :=
  zloop (fun s : Int32 × zM => f_Sight_look_B16 v2 s.1 s.2) FU (v3, m)
def f_Sight_look (v2 : Int32) (m : zM) : Option (zM) :=
  if v2 = (-1) then
    some (m)
  else
    if v2 = (m.1 48 8) then
      some (m)
    else
      f_Sight_look_L16 v2 0 m
def f_PA_could (v1 : Int32) (m : zM) : Option (Int32 × zM) :=
  if (m.1 0 13) = 0 then
    some (((-1), m))
  else
    (f_Atlas_number 55 m).bind fun p1 => 
    (f_Sight_look p1.1 p1.2).bind fun p2 => 
    if v1 = (-1) then
      some (((p2.1 48 7), p2))
    else
      if v1 < 0 then
        some (((-1), p2))
      else
        if (p2.1 48 7) ≤ v1 then
          some (((-1), p2))
        else
          (ix 600 v1).bind fun i3 =>
          some (((p2.1 53 i3), p2))
def f_Math_max (v0 : Int32) (v1 : Int32) : Int32 :=
  if v0 < v1 then
    v1
  else
    v0
def f_Sight_mostLeft_B13 (v2 : Int32) (v3 : Int32) (v4 : Int32) (m : zM) : Option ((Int32 × zM) ⊕ (Int32 × Int32 × zM)) :=
  if (m.1 48 7) ≤ v4 then
    some (.inl (v3, m))
  else
    (ix 600 v4).bind fun i2 =>
    (f_Atlas_inState (m.1 53 i2) v2 m).bind fun r3 =>
    (ix 5 r3).bind fun i4 =>
    (ix 5 r3).bind fun i5 => lt (sI m 54 i5 ((m.1 54 i4) + 1)) fun m6 =>
    (ix 5 r3).bind fun i7 =>
    some (.inr ((f_Math_max v3 (m6.1 54 i7)), (v4 + 1), m6))
def f_Sight_mostLeft_L13 (v2 : Int32) (v3 : Int32) (v4 : Int32) (m : zM) : Option (Int32 × zM) :=
  zloop (fun s : Int32 × Int32 × zM => f_Sight_mostLeft_B13 v2 s.1 s.2.1 s.2.2) FU (v3, v4, m)
def f_Sight_mostLeft (v2 : Int32) (m : zM) : Option (Int32 × zM) :=
  (f_Arrays_fill 54 0 m).bind fun p1 => 
  f_Sight_mostLeft_L13 v2 0 0 p1
def f_Sight_tellingState_J30 (v2 : Int32) (v3 : Int32) (v4 : Int32) (m : zM) : Option ((Int32 × zM) ⊕ (Int32 × Int32 × zM)) :=
  some (.inr (v3, (v4 + 1), m))
def f_Sight_tellingState_B5 (v2 : Int32) (v3 : Int32) (v4 : Int32) (m : zM) : Option ((Int32 × zM) ⊕ (Int32 × Int32 × zM)) :=
  if v2 ≤ v4 then
    some (.inl (v3, m))
  else
    (f_Sight_mostLeft v4 m).bind fun p1 => 
    (f_Sight_mostLeft v3 p1.2).bind fun p2 => 
    if p2.1 ≤ p1.1 then
      f_Sight_tellingState_J30 v2 v3 v4 p2.2
    else
      f_Sight_tellingState_J30 v2 v4 v4 p2.2
def f_Sight_tellingState_L5 (v2 : Int32) (v3 : Int32) (v4 : Int32) (m : zM) : Option (Int32 × zM) :=
  zloop (fun s : Int32 × Int32 × zM => f_Sight_tellingState_B5 v2 s.1 s.2.1 s.2.2) FU (v3, v4, m)
def f_Sight_tellingState (v2 : Int32) (m : zM) : Option (Int32 × zM) :=
  f_Sight_tellingState_L5 v2 0 1 m
def f_PA_tells (v1 : Int32) (m : zM) : Option (Int32 × zM) :=
  if (m.1 0 13) = 0 then
    some (((-1), m))
  else
    if v1 < 0 then
      some (((-1), m))
    else
      if v1 ≤ 1 then
        (f_Atlas_number 55 m).bind fun p1 => 
        (f_Sight_look p1.1 p1.2).bind fun p2 => 
        if (p2.1 48 7) = 0 then
          some (((-1), p2))
        else
          (tb li_Table p2 0).bind fun t3 =>
          (ix 3 0).bind fun i4 =>
          (f_Sight_tellingState (p2.1 (t3 + 1) i4) p2).bind fun p5 => 
          if v1 = 0 then
            some ((p5.1, p5.2))
          else
            (f_Sight_mostLeft p5.1 p5.2).bind fun p6 => 
            some ((p6.1, p6.2))
      else
        some (((-1), m))
def f_Bytes_addName_J26 (v0 : Nat) (v1 : Int32) (v2 : Int32) (m : zM) : Option ((zM) ⊕ (Int32 × zM)) :=
  some (.inr ((v2 + 1), m))
def f_Bytes_addName_B2 (v0 : Nat) (v1 : Int32) (v2 : Int32) (m : zM) : Option ((zM) ⊕ (Int32 × zM)) :=
  if 6 ≤ v2 then
    some (.inl m)
  else
    if (f_PA_letterOf v1 v2) ≤ 0 then
      f_Bytes_addName_J26 v0 v1 v2 m
    else
      (f_Bytes_add v0 (96 + (f_PA_letterOf v1 v2)) m).bind fun p1 => 
      f_Bytes_addName_J26 v0 v1 v2 p1
def f_Bytes_addName_L2 (v0 : Nat) (v1 : Int32) (v2 : Int32) (m : zM) : Option (zM) :=
  zloop (fun s : Int32 × zM => f_Bytes_addName_B2 v0 v1 s.1 s.2) FU (v2, m)
def f_Bytes_addName (v0 : Nat) (v1 : Int32) (m : zM) : Option (zM) :=
  f_Bytes_addName_L2 v0 v1 0 m
def f_PA_writeAgent_J93 (v1 : Int32) (v2 : Nat) (m : zM) : Option (zM) :=
  if (f_PA_held v1 3) = (-1) then
    some (m)
  else
    (f_Bytes_add v2 33 m).bind fun p13 => 
    (tb li_Table p13 0).bind fun t14 =>
    (f_Table_name t14 2 (f_PA_held v1 3) p13).bind fun r15 =>
    (f_Bytes_addName v2 r15 p13).bind fun p16 => 
    some (p16)
def f_PA_writeAgent_J87 (v1 : Int32) (v2 : Nat) (m : zM) : Option (zM) :=
  (f_Bytes_add v2 62 m).bind fun p17 => 
  f_PA_writeAgent_J93 v1 v2 p17
def f_PA_writeAgent (v1 : Int32) (v2 : Nat) (m : zM) : Option (zM) :=
  (f_Bytes_add v2 32 m).bind fun p1 => 
  (tb li_Table p1 0).bind fun t2 =>
  (f_Table_name t2 0 (f_PA_held v1 0) p1).bind fun r3 =>
  (f_Bytes_addName v2 r3 p1).bind fun p4 => 
  if (f_PA_held v1 1) = (-1) then
    f_PA_writeAgent_J93 v1 v2 p4
  else
    (f_Bytes_add v2 60 p4).bind fun p5 => 
    (tb li_Table p5 0).bind fun t6 =>
    (f_Table_name t6 2 (f_PA_held v1 1) p5).bind fun r7 =>
    (f_Bytes_addName v2 r7 p5).bind fun p8 => 
    if (f_PA_held v1 2) = (-1) then
      f_PA_writeAgent_J87 v1 v2 p8
    else
      (f_Bytes_add v2 44 p8).bind fun p9 => 
      (tb li_Table p9 0).bind fun t10 =>
      (f_Table_name t10 2 (f_PA_held v1 2) p9).bind fun r11 =>
      (f_Bytes_addName v2 r11 p9).bind fun p12 => 
      f_PA_writeAgent_J87 v1 v2 p12
def f_PA_write_B44 (v1 : Int32) (v2 : Nat) (v4 : Int32) (m : zM) : Option ((zM) ⊕ (Int32 × zM)) :=
  (tb li_Table m 0).bind fun t7 =>
  if (m.1 t7 0) ≤ v4 then
    some (.inl m)
  else
    (ix 2400 ((v1 * 4) + v4)).bind fun i8 =>
    (f_PA_writeAgent (m.1 34 i8) v2 m).bind fun p9 => 
    some (.inr ((v4 + 1), p9))
def f_PA_write_L44 (v1 : Int32) (v2 : Nat) (v4 : Int32) (m : zM) : Option (zM) :=
  zloop (fun s : Int32 × zM => f_PA_write_B44 v1 v2 s.1 s.2) FU (v4, m)
def f_PA_write_J41 (v1 : Int32) (v2 : Nat) (m : zM) : Option (zM) :=
  f_PA_write_L44 v1 v2 0 m
def f_PA_write (v1 : Int32) (v2 : Nat) (m : zM) : Option (zM) :=
  lt (f_Bytes_cut v2 0 m) fun p1 =>
  (f_Atlas_home v1 p1).bind fun p2 => 
  if p2.1 = (-1) then
    (f_Bytes_add v2 45 p2.2).bind fun p6 => 
    f_PA_write_J41 v1 v2 p6
  else
    (tb li_Table p2.2 0).bind fun t3 =>
    (f_Table_name t3 1 p2.1 p2.2).bind fun r4 =>
    (f_Bytes_addName v2 r4 p2.2).bind fun p5 => 
    f_PA_write_J41 v1 v2 p5
def f_PA_spell (v1 : Int32) (m : zM) : Option (Int32 × zM) :=
  if (f_PA_isWorld v1 m) = true then
    (f_PA_write v1 3 m).bind fun p1 => 
    some (((f_Bytes_size 3 p1), p1))
  else
    some (((-1), m))
def f_Bytes_isLike_B15 (v0 : Nat) (v1 : Nat) (v2 : Int32) (m : zM) : Option ((Bool) ⊕ (Int32)) :=
  if (m.1 v0 1) ≤ v2 then
    some (.inl true)
  else
    (ix 1600 v2).bind fun i1 =>
    (ix 1600 v2).bind fun i2 =>
    if (m.1 (v0 + 1) i1) = (m.1 (v1 + 1) i2) then
      some (.inr (v2 + 1))
    else
      some (.inl false)
def f_Bytes_isLike_L15 (v0 : Nat) (v1 : Nat) (v2 : Int32) (m : zM) : Option (Bool) :=
  zloop (fun s : Int32 => f_Bytes_isLike_B15 v0 v1 s m) FU v2
def f_Bytes_isLike (v0 : Nat) (v1 : Nat) (m : zM) : Option (Bool) :=
  if (m.1 v0 1) = (m.1 v1 1) then
    f_Bytes_isLike_L15 v0 v1 0 m
  else
    some (false)
def f_PA_which_J58 (v1 : Int32) (m : zM) : Option (Int32 × zM) :=
  lt (f_Bytes_cut 1 0 m) fun p3 =>
  if v1 = (-1) then
    (f_PA_refuse 5 p3).bind fun p4 => 
    some ((p4.1, p4.2))
  else
    some ((v1, p3))
def f_PA_which_J52 (v1 : Int32) (v2 : Int32) (m : zM) : Option ((Int32 × zM) ⊕ (Int32 × Int32 × zM)) :=
  some (.inr (v1, (v2 + 1), m))
def f_PA_which_B4 (v1 : Int32) (v2 : Int32) (m : zM) : Option ((Int32 × zM) ⊕ (Int32 × Int32 × zM)) :=
  if (m.1 0 13) = 0 then
    zl (f_PA_which_J58 v1 m)
  else
    if (m.1 24 0) ≤ v2 then
      zl (f_PA_which_J58 v1 m)
    else
      if v1 = (-1) then
        (f_PA_write v2 5 m).bind fun p1 => 
        (f_Bytes_isLike 5 1 p1).bind fun r2 =>
        if r2 = true then
          f_PA_which_J52 v2 v2 p1
        else
          f_PA_which_J52 v1 v2 p1
      else
        zl (f_PA_which_J58 v1 m)
def f_PA_which_L4 (v1 : Int32) (v2 : Int32) (m : zM) : Option (Int32 × zM) :=
  zloop (fun s : Int32 × Int32 × zM => f_PA_which_B4 s.1 s.2.1 s.2.2) FU (v1, v2, m)
def f_PA_which  (m : zM) : Option (Int32 × zM) :=
  f_PA_which_L4 (-1) 0 m
def f_PA_asByte (v0 : Int32) : Int32 :=
  if v0 = (-1) then
    255
  else
    v0
def f_Bytes_check_B6 (v0 : Nat) (v1 : Int32) (v2 : Int32) (v3 : Int32) (m : zM) : Option ((Int32) ⊕ (Int32 × Int32)) :=
  if v1 ≤ v3 then
    some (.inl v2)
  else
    if (m.1 v0 1) ≤ v3 then
      some (.inl v2)
    else
      (ix 1600 v3).bind fun i1 =>
      some (.inr ((ir ((5 * v2) + (m.1 (v0 + 1) i1)) 251), (v3 + 1)))
def f_Bytes_check_L6 (v0 : Nat) (v1 : Int32) (v2 : Int32) (v3 : Int32) (m : zM) : Option (Int32) :=
  zloop (fun s : Int32 × Int32 => f_Bytes_check_B6 v0 v1 s.1 s.2 m) FU (v2, v3)
def f_Bytes_check (v0 : Nat) (v1 : Int32) (m : zM) : Option (Int32) :=
  f_Bytes_check_L6 v0 v1 193 0 m
def f_PA_image_J89  (m : zM) : Option (Int32 × zM) :=
  (f_Bytes_check 3 (f_Bytes_size 3 m) m).bind fun r4 =>
  (f_Bytes_add 3 r4 m).bind fun p5 => 
  some (((f_Bytes_size 3 p5), p5))
def f_PA_image_J83 (v1 : Int32) (m : zM) : Option ((Int32 × zM) ⊕ (Int32 × zM)) :=
  some (.inr ((v1 + 1), m))
def f_PA_image_B49 (v1 : Int32) (v2 : Int32) (m : zM) : Option (((Int32 × zM) ⊕ (Int32 × zM)) ⊕ (Int32 × zM)) :=
  if 4 ≤ v2 then
    zl (f_PA_image_J83 v1 m)
  else
    (ix 4 v1).bind fun i6 =>
    (f_Bytes_add 3 (f_PA_asByte (f_PA_held (m.1 (55 + 1) i6) v2)) m).bind fun p7 => 
    some (.inr ((v2 + 1), p7))
def f_PA_image_L49 (v1 : Int32) (v2 : Int32) (m : zM) : Option ((Int32 × zM) ⊕ (Int32 × zM)) :=
  zloop (fun s : Int32 × zM => f_PA_image_B49 v1 s.1 s.2) FU (v2, m)
def f_PA_image_B36 (v1 : Int32) (m : zM) : Option ((Int32 × zM) ⊕ (Int32 × zM)) :=
  (tb li_Table m 0).bind fun t3 =>
  if (m.1 t3 0) ≤ v1 then
    zl (f_PA_image_J89 m)
  else
    f_PA_image_L49 v1 0 m
def f_PA_image_L36 (v1 : Int32) (m : zM) : Option (Int32 × zM) :=
  zloop (fun s : Int32 × zM => f_PA_image_B36 s.1 s.2) FU (v1, m)
def f_PA_image  (m : zM) : Option (Int32 × zM) :=
  if (m.1 0 13) = 0 then
    some (((-1), m))
  else
    lt (f_Bytes_cut 3 0 m) fun p1 =>
    (f_Bytes_add 3 (f_PA_asByte (p1.1 55 0)) p1).bind fun p2 => 
    f_PA_image_L36 0 p2
def f_PA_octet (v1 : Int32) (m : zM) : Option (Int32) :=
  (f_Bytes_get 3 v1 m).bind fun r1 =>
  some (r1)
def f_Table_isOneOf_J17  (m : zM) : Option (Bool) :=
  some (true)
def f_Table_isOneOf (v0 : Nat) (v1 : Int32) (v2 : Int32) (m : zM) : Option (Bool) :=
  if v1 = 255 then
    f_Table_isOneOf_J17 m
  else
    (ix 3 v2).bind fun i1 =>
    if (m.1 (v0 + 1) i1) ≤ v1 then
      some (false)
    else
      f_Table_isOneOf_J17 m
def f_Table_isImage_J111 (v0 : Nat) (v1 : Nat) (v2 : Int32) (v3 : Int32) (m : zM) : Option ((Bool) ⊕ (Int32)) :=
  some (.inr (v3 + 1))
def f_Table_isImage_J93  (m : zM) : Option (Bool) :=
  some (false)
def f_Table_isImage_J72 (v0 : Nat) (v1 : Nat) (v2 : Int32) (v3 : Int32) (t0 : Bool) (m : zM) : Option ((Bool) ⊕ (Int32)) :=
  if t0 = true then
    (f_Bytes_get v1 v3 m).bind fun r7 =>
    (ix 3 0).bind fun i8 =>
    if r7 < (m.1 (v0 + 1) i8) then
      f_Table_isImage_J111 v0 v1 v2 v3 m
    else
      zl (f_Table_isImage_J93 m)
  else
    (f_Bytes_get v1 v3 m).bind fun r5 =>
    (f_Table_isOneOf v0 r5 2 m).bind fun r6 =>
    if r6 = true then
      f_Table_isImage_J111 v0 v1 v2 v3 m
    else
      some (.inl false)
def f_Table_isImage_B53 (v0 : Nat) (v1 : Nat) (v2 : Int32) (v3 : Int32) (m : zM) : Option ((Bool) ⊕ (Int32)) :=
  if (v2 - 1) ≤ v3 then
    some (.inl true)
  else
    if (ir v3 4) = 1 then
      f_Table_isImage_J72 v0 v1 v2 v3 true m
    else
      f_Table_isImage_J72 v0 v1 v2 v3 false m
def f_Table_isImage_L53 (v0 : Nat) (v1 : Nat) (v2 : Int32) (v3 : Int32) (m : zM) : Option (Bool) :=
  zloop (fun s : Int32 => f_Table_isImage_B53 v0 v1 v2 s m) FU v3
def f_Table_isImage (v0 : Nat) (v1 : Nat) (m : zM) : Option (Bool) :=
  if (f_Bytes_size v1 m) = (2 + (4 * (m.1 v0 0))) then
    (f_Bytes_get v1 ((2 + (4 * (m.1 v0 0))) - 1) m).bind fun r1 =>
    (f_Bytes_check v1 ((2 + (4 * (m.1 v0 0))) - 1) m).bind fun r2 =>
    if r1 = r2 then
      (f_Bytes_get v1 0 m).bind fun r3 =>
      (f_Table_isOneOf v0 r3 1 m).bind fun r4 =>
      if r4 = true then
        f_Table_isImage_L53 v0 v1 (2 + (4 * (m.1 v0 0))) 1 m
      else
        some (false)
    else
      some (false)
  else
    some (false)
def f_Table_heldBy (v0 : Int32) : Int32 :=
  if v0 = 255 then
    (-1)
  else
    v0
def f_Table_develop_B22 (v0 : Nat) (v1 : Nat) (v2 : Nat) (v3 : Int32) (m : zM) : Option ((zM) ⊕ (Int32 × zM)) :=
  if (m.1 v0 0) ≤ v3 then
    some (.inl m)
  else
    (f_Bytes_get v1 (1 + (4 * v3)) m).bind fun r4 =>
    (f_Bytes_get v1 ((1 + (4 * v3)) + 1) m).bind fun r5 =>
    (f_Bytes_get v1 ((1 + (4 * v3)) + 2) m).bind fun r6 =>
    (f_Bytes_get v1 ((1 + (4 * v3)) + 3) m).bind fun r7 =>
    (ix 4 v3).bind fun i8 => lt (sI m (v2 + 1) i8 (f_PA_codeOf r4 (f_Table_heldBy r5) (f_Table_heldBy r6) (f_Table_heldBy r7))) fun m9 =>
    some (.inr ((v3 + 1), m9))
def f_Table_develop_L22 (v0 : Nat) (v1 : Nat) (v2 : Nat) (v3 : Int32) (m : zM) : Option (zM) :=
  zloop (fun s : Int32 × zM => f_Table_develop_B22 v0 v1 v2 s.1 s.2) FU (v3, m)
def f_Table_develop (v0 : Nat) (v1 : Nat) (v2 : Nat) (m : zM) : Option (zM) :=
  lt (sI m v2 1 (m.1 v0 0)) fun m1 =>
  (f_Bytes_get v1 0 m1).bind fun r2 =>
  lt (sI m1 v2 0 (f_Table_heldBy r2)) fun m3 =>
  f_Table_develop_L22 v0 v1 v2 0 m3
def f_PA_on_J67 (v1 : Bool) (m : zM) : Option (Bool × zM) :=
  lt (f_Bytes_cut 1 0 m) fun p6 =>
  if v1 = true then
    (f_World_copy 55 59 p6).bind fun p7 => 
    lt (sI p7 0 14 0) fun m8 =>
    some ((true, m8))
  else
    (f_PA_refuse 5 p6).bind fun p9 => 
    some ((false, p9.2))
def f_PA_on_J66 (t0 : Bool) (m : zM) : Option (Bool × zM) :=
  f_PA_on_J67 t0 m
def f_PA_on_J26 (t0 : Bool) (m : zM) : Option (Bool × zM) :=
  if t0 = true then
    (tb li_Table m 0).bind fun t3 =>
    (f_Table_develop t3 1 59 m).bind fun p4 => 
    (f_Atlas_number 59 p4).bind fun p5 => 
    if p5.1 = (-1) then
      f_PA_on_J66 false p5.2
    else
      f_PA_on_J66 true p5.2
  else
    f_PA_on_J67 t0 m
def f_PA_on_J25  (m : zM) : Option (Bool × zM) :=
  f_PA_on_J26 false m
def f_PA_on  (m : zM) : Option (Bool × zM) :=
  if (m.1 0 13) = 0 then
    f_PA_on_J25 m
  else
    (tb li_Table m 0).bind fun t1 =>
    (f_Table_isImage t1 1 m).bind fun r2 =>
    if r2 = true then
      f_PA_on_J26 true m
    else
      f_PA_on_J25 m
def f_PA_status (v1 : Int32) (m : zM) : Option (Int32) :=
  if v1 < 0 then
    some ((-1))
  else
    if 6 ≤ v1 then
      some ((-1))
    else
      (ix 6 v1).bind fun i1 =>
      some ((m.1 64 i1))
