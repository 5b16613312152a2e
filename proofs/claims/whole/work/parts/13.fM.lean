def f_MO_refuses (v1 : Int32) (m : zM) : Option (Int32 × zM) :=
  (ix 6 v1).bind fun i1 =>
  (ix 6 v1).bind fun i2 => lt (sI m 2 i2 ((m.1 2 i1) + 1)) fun m3 =>
  some (((-1), m3))
def f_MO_feed_J118  (m : zM) : Option (Int32 × zM) :=
  some (((m.1 0 1), m))
def f_MO_feed_J75 (v1 : Int32) (v2 : Int32) (v3 : Int32) (v4 : Int32) (v5 : Int32) (v6 : Int32) (t0 : Int32) (m : zM) : Option ((Int32 × zM) ⊕ (Int32 × zM)) :=
  (ix 1600 (m.1 0 1)).bind fun i2 => lt (sI m 1 i2 ((shr t0 (8 * (3 - (ir v6 4)))) &&& 255)) fun m3 =>
  lt (sI m3 0 1 ((m3.1 0 1) + 1)) fun m4 =>
  some (.inr ((v6 + 1), m4))
def f_MO_feed_B22 (v1 : Int32) (v2 : Int32) (v3 : Int32) (v4 : Int32) (v5 : Int32) (v6 : Int32) (m : zM) : Option ((Int32 × zM) ⊕ (Int32 × zM)) :=
  if 20 ≤ v6 then
    zl (f_MO_feed_J118 m)
  else
    if 4 ≤ v6 then
      if 8 ≤ v6 then
        if 12 ≤ v6 then
          if 16 ≤ v6 then
            f_MO_feed_J75 v1 v2 v3 v4 v5 v6 v5 m
          else
            f_MO_feed_J75 v1 v2 v3 v4 v5 v6 v4 m
        else
          f_MO_feed_J75 v1 v2 v3 v4 v5 v6 v3 m
      else
        f_MO_feed_J75 v1 v2 v3 v4 v5 v6 v2 m
    else
      f_MO_feed_J75 v1 v2 v3 v4 v5 v6 v1 m
def f_MO_feed_L22 (v1 : Int32) (v2 : Int32) (v3 : Int32) (v4 : Int32) (v5 : Int32) (v6 : Int32) (m : zM) : Option (Int32 × zM) :=
  zloop (fun s : Int32 × zM => f_MO_feed_B22 v1 v2 v3 v4 v5 s.1 s.2) FU (v6, m)
def f_MO_feed (v1 : Int32) (v2 : Int32) (v3 : Int32) (v4 : Int32) (v5 : Int32) (m : zM) : Option (Int32 × zM) :=
  if ((m.1 0 1) + 20) ≤ 1600 then
    f_MO_feed_L22 v1 v2 v3 v4 v5 0 m
  else
    (f_MO_refuses 0 m).bind fun p1 => 
    some ((p1.1, p1.2))
def f_MO_isRefused (v1 : Int32) (m : zM) : Option (Bool × zM) :=
  (ix 6 v1).bind fun i1 =>
  (ix 6 v1).bind fun i2 => lt (sI m 2 i2 ((m.1 2 i1) + 1)) fun m3 =>
  some ((false, m3))
def f_MO_end_J12  (m : zM) : Option (Bool × zM) :=
  (f_MO_isRefused 0 m).bind fun p2 => 
  some ((p2.1, p2.2))
def f_MO_end (v1 : Int32) (m : zM) : Option (Bool × zM) :=
  if v1 < 0 then
    f_MO_end_J12 m
  else
    if v1 ≤ (m.1 0 1) then
      lt (sI m 0 1 v1) fun m1 =>
      some ((true, m1))
    else
      f_MO_end_J12 m
def f_MO_isIn (v0 : Int64) (v2 : Int64) (v4 : Int64) : Bool :=
  if (lg_cmp v0 v2) < 0 then
    false
  else
    if 0 < (lg_cmp v0 v4) then
      false
    else
      true
def f_MO_status (v1 : Int32) (m : zM) : Option (Int32) :=
  if (f_MO_isIn v1.toInt64 0 5) = true then
    (ix 6 v1).bind fun i1 =>
    some ((m.1 2 i1))
  else
    some ((-1))
def f_MO_fault (v1 : Int32) (m : zM) : Int32 :=
  if v1 = 0 then
    (m.1 0 7)
  else
    if v1 = 1 then
      (m.1 0 8)
    else
      (-1)
def f_MO_look_J52  (m : zM) : Option (Int32 × zM) :=
  if (m.1 0 3) ≤ (m.1 0 2) then
    some (((-1), m))
  else
    (ix 1600 (m.1 0 2)).bind fun i3 =>
    some (((m.1 1 i3), m))
def f_MO_look_J39  (m : zM) : Option ((Int32 × zM) ⊕ (zM)) :=
  lt (sI m 0 2 ((m.1 0 2) + 1)) fun m4 =>
  some (.inr m4)
def f_MO_look_B0  (m : zM) : Option ((Int32 × zM) ⊕ (zM)) :=
  if (m.1 0 3) ≤ (m.1 0 2) then
    zl (f_MO_look_J52 m)
  else
    (ix 1600 (m.1 0 2)).bind fun i1 =>
    if (m.1 1 i1) = 10 then
      f_MO_look_J39 m
    else
      (ix 1600 (m.1 0 2)).bind fun i2 =>
      if (m.1 1 i2) = 32 then
        f_MO_look_J39 m
      else
        zl (f_MO_look_J52 m)
def f_MO_look_L0  (m : zM) : Option (Int32 × zM) :=
  zloop (fun s : zM => f_MO_look_B0  s) FU m
def f_MO_look  (m : zM) : Option (Int32 × zM) :=
  f_MO_look_L0 m
def f_MO_isLetter (v0 : Int32) : Bool :=
  if v0 < 97 then
    false
  else
    if 122 < v0 then
      false
    else
      true
def f_MO_isHere_B76 (v1 : Nat) (v3 : Int32) (m : zM) : Option ((Bool × zM) ⊕ (Int32)) :=
  if (Int32.ofNat (zlen gM v1)) ≤ v3 then
    some (.inl (true, m))
  else
    (ix 1600 ((m.1 0 2) + v3)).bind fun i3 =>
    (ix (zlen gM v1) v3).bind fun i4 =>
    if (m.1 1 i3) = (m.1 v1 i4) then
      some (.inr (v3 + 1))
    else
      some (.inl (false, m))
def f_MO_isHere_L76 (v1 : Nat) (v3 : Int32) (m : zM) : Option (Bool × zM) :=
  zloop (fun s : Int32 => f_MO_isHere_B76 v1 s m) FU v3
def f_MO_isHere_J61 (v1 : Nat) (v2 : Int32) (m : zM) : Option (Bool × zM) :=
  if (v2 - (m.1 0 2)) = (Int32.ofNat (zlen gM v1)) then
    f_MO_isHere_L76 v1 0 m
  else
    some ((false, m))
def f_MO_isHere_B35 (v1 : Nat) (v2 : Int32) (m : zM) : Option ((Bool × zM) ⊕ (Int32)) :=
  if (m.1 0 3) ≤ v2 then
    zl (f_MO_isHere_J61 v1 v2 m)
  else
    (ix 1600 v2).bind fun i2 =>
    if (f_MO_isLetter (m.1 1 i2)) = true then
      some (.inr (v2 + 1))
    else
      zl (f_MO_isHere_J61 v1 v2 m)
def f_MO_isHere_L35 (v1 : Nat) (v2 : Int32) (m : zM) : Option (Bool × zM) :=
  zloop (fun s : Int32 => f_MO_isHere_B35 v1 s m) FU v2
def f_MO_isHere (v1 : Nat) (m : zM) : Option (Bool × zM) :=
  if (m.1 0 5) = 0 then
    (f_MO_look m).bind fun p1 => 
    if (f_MO_isLetter p1.1) = true then
      if (p1.2.1 0 2) = (p1.2.1 0 4) then
        some ((false, p1.2))
      else
        f_MO_isHere_L35 v1 (p1.2.1 0 2) p1.2
    else
      some ((false, p1.2))
  else
    some ((false, m))
def f_MO_takes (v1 : Nat) (m : zM) : Option (Bool × zM) :=
  (f_MO_isHere v1 m).bind fun p1 => 
  if p1.1 = true then
    lt (sI p1.2 0 2 ((p1.2.1 0 2) + (Int32.ofNat (zlen gM v1)))) fun m2 =>
    lt (sI m2 0 4 (m2.1 0 2)) fun m3 =>
    some ((true, m3))
  else
    some ((false, p1.2))
def f_MO_fail (v1 : Int32) (v2 : Int32) (m : zM) : zM :=
  if (m.1 0 5) = 0 then
    lt (sI m 0 5 v1) fun m1 =>
    lt (sI m1 0 6 v2) fun m2 =>
    m2
  else
    m
def f_MO_asks (v1 : Nat) (m : zM) : Option (zM) :=
  if (m.1 0 5) = 0 then
    (f_MO_takes v1 m).bind fun p1 => 
    if p1.1 = true then
      some (p1.2)
    else
      lt (f_MO_fail 1 (p1.2.1 0 2) p1.2) fun p2 =>
      some (p2)
  else
    some (m)
def f_MO_isDigit (v0 : Int32) : Bool :=
  if v0 < 48 then
    false
  else
    if 57 < v0 then
      false
    else
      true
def f_MO_number_J30 (v1 : Int32) (m : zM) : Option (Int32 × zM) :=
  lt (f_MO_fail 1 (m.1 0 2) m) fun p7 =>
  some ((v1, p7))
def f_MO_number_J116 (v1 : Int32) (v2 : Int32) (v3 : Int32) (v4 : Int32) (m : zM) : Option (Int32 × zM) :=
  if (f_MO_isIn v4.toInt64 v1.toInt64 v2.toInt64) = true then
    some ((v4, m))
  else
    lt (f_MO_fail 2 v3 m) fun p8 =>
    some ((v4, p8))
def f_MO_number (v1 : Int32) (v2 : Int32) (m : zM) : Option (Int32 × zM) :=
  if (m.1 0 5) = 0 then
    (f_MO_look m).bind fun p1 => 
    if (f_MO_isDigit p1.1) = true then
      if (p1.2.1 0 2) = (p1.2.1 0 4) then
        f_MO_number_J30 v1 p1.2
      else
        (ix 1600 (p1.2.1 0 2)).bind fun i2 =>
        lt (sI p1.2 0 2 ((p1.2.1 0 2) + 1)) fun m3 =>
        lt (sI m3 0 4 (m3.1 0 2)) fun m4 =>
        if (m4.1 0 3) ≤ (m4.1 0 2) then
          f_MO_number_J116 v1 v2 (p1.2.1 0 2) ((p1.2.1 1 i2) - 48) m4
        else
          (ix 1600 (m4.1 0 2)).bind fun i5 =>
          if (f_MO_isDigit (m4.1 1 i5)) = true then
            lt (f_MO_fail 1 (m4.1 0 2) m4) fun p6 =>
            some ((((p1.2.1 1 i2) - 48), p6))
          else
            f_MO_number_J116 v1 v2 (p1.2.1 0 2) ((p1.2.1 1 i2) - 48) m4
    else
      f_MO_number_J30 v1 p1.2
  else
    some ((v1, m))
def f_MO_isOwnHere_J239  (m : zM) : Option (Bool × zM) :=
  some ((true, m))
def f_MO_isOwnHere_J190 (t0 : Bool) (m : zM) : Option (Bool × zM) :=
  if t0 = true then
    f_MO_isOwnHere_J239 m
  else
    (f_MO_isHere 18 m).bind fun p16 => 
    if p16.1 = true then
      f_MO_isOwnHere_J239 p16.2
    else
      (f_MO_isHere 19 p16.2).bind fun p17 => 
      if p17.1 = true then
        f_MO_isOwnHere_J239 p17.2
      else
        (f_MO_isHere 20 p17.2).bind fun p18 => 
        if p18.1 = true then
          f_MO_isOwnHere_J239 p18.2
        else
          (f_MO_isHere 21 p18.2).bind fun p19 => 
          if p19.1 = true then
            f_MO_isOwnHere_J239 p19.2
          else
            some ((false, p19.2))
def f_MO_isOwnHere_J185  (m : zM) : Option (Bool × zM) :=
  f_MO_isOwnHere_J190 true m
def f_MO_isOwnHere_J125 (t0 : Bool) (m : zM) : Option (Bool × zM) :=
  if t0 = true then
    f_MO_isOwnHere_J185 m
  else
    (f_MO_isHere 13 m).bind fun p11 => 
    if p11.1 = true then
      f_MO_isOwnHere_J185 p11.2
    else
      (f_MO_isHere 14 p11.2).bind fun p12 => 
      if p12.1 = true then
        f_MO_isOwnHere_J185 p12.2
      else
        (f_MO_isHere 15 p12.2).bind fun p13 => 
        if p13.1 = true then
          f_MO_isOwnHere_J185 p13.2
        else
          (f_MO_isHere 16 p13.2).bind fun p14 => 
          if p14.1 = true then
            f_MO_isOwnHere_J185 p14.2
          else
            (f_MO_isHere 17 p14.2).bind fun p15 => 
            if p15.1 = true then
              f_MO_isOwnHere_J185 p15.2
            else
              f_MO_isOwnHere_J190 false p15.2
def f_MO_isOwnHere_J120  (m : zM) : Option (Bool × zM) :=
  f_MO_isOwnHere_J125 true m
def f_MO_isOwnHere_J60 (t0 : Bool) (m : zM) : Option (Bool × zM) :=
  if t0 = true then
    f_MO_isOwnHere_J120 m
  else
    (f_MO_isHere 8 m).bind fun p6 => 
    if p6.1 = true then
      f_MO_isOwnHere_J120 p6.2
    else
      (f_MO_isHere 9 p6.2).bind fun p7 => 
      if p7.1 = true then
        f_MO_isOwnHere_J120 p7.2
      else
        (f_MO_isHere 10 p7.2).bind fun p8 => 
        if p8.1 = true then
          f_MO_isOwnHere_J120 p8.2
        else
          (f_MO_isHere 11 p8.2).bind fun p9 => 
          if p9.1 = true then
            f_MO_isOwnHere_J120 p9.2
          else
            (f_MO_isHere 12 p9.2).bind fun p10 => 
            if p10.1 = true then
              f_MO_isOwnHere_J120 p10.2
            else
              f_MO_isOwnHere_J125 false p10.2
def f_MO_isOwnHere_J55  (m : zM) : Option (Bool × zM) :=
  f_MO_isOwnHere_J60 true m
def f_MO_isOwnHere  (m : zM) : Option (Bool × zM) :=
  (f_MO_isHere 3 m).bind fun p1 => 
  if p1.1 = true then
    f_MO_isOwnHere_J55 p1.2
  else
    (f_MO_isHere 4 p1.2).bind fun p2 => 
    if p2.1 = true then
      f_MO_isOwnHere_J55 p2.2
    else
      (f_MO_isHere 5 p2.2).bind fun p3 => 
      if p3.1 = true then
        f_MO_isOwnHere_J55 p3.2
      else
        (f_MO_isHere 6 p3.2).bind fun p4 => 
        if p4.1 = true then
          f_MO_isOwnHere_J55 p4.2
        else
          (f_MO_isHere 7 p4.2).bind fun p5 => 
          if p5.1 = true then
            f_MO_isOwnHere_J55 p5.2
          else
            f_MO_isOwnHere_J60 false p5.2
def f_MO_name_J37  (m : zM) : Option (Int32 × zM) :=
  lt (f_MO_fail 1 (m.1 0 2) m) fun p4 =>
  some ((0, p4))
def f_MO_name_J142 (v1 : Int32) (m : zM) : Option (Int32 × zM) :=
  lt (sI m 0 4 (m.1 0 2)) fun m8 =>
  some ((v1, m8))
def f_MO_name_J98  (m : zM) : Option (Int32 × zM) :=
  lt (f_MO_fail 1 (m.1 0 2) m) fun p9 =>
  some ((0, p9))
def f_MO_name_B58 (v1 : Int32) (m : zM) : Option ((Int32 × zM) ⊕ (Int32 × zM)) :=
  if (m.1 0 3) ≤ (m.1 0 2) then
    zl (f_MO_name_J142 v1 m)
  else
    (ix 1600 (m.1 0 2)).bind fun i5 =>
    if (f_MO_isLetter (m.1 1 i5)) = true then
      if ((m.1 0 2) - (m.1 0 29)) = 6 then
        zl (f_MO_name_J98 m)
      else
        (ix 1600 (m.1 0 2)).bind fun i6 =>
        lt (sI m 0 2 ((m.1 0 2) + 1)) fun m7 =>
        some (.inr (((((27 * v1) + (m.1 1 i6)) - 97) + 1), m7))
    else
      zl (f_MO_name_J142 v1 m)
def f_MO_name_L58 (v1 : Int32) (m : zM) : Option (Int32 × zM) :=
  zloop (fun s : Int32 × zM => f_MO_name_B58 s.1 s.2) FU (v1, m)
def f_MO_name  (m : zM) : Option (Int32 × zM) :=
  if (m.1 0 5) = 0 then
    (f_MO_look m).bind fun p1 => 
    if (f_MO_isLetter p1.1) = true then
      if (p1.2.1 0 2) = (p1.2.1 0 4) then
        f_MO_name_J37 p1.2
      else
        (f_MO_isOwnHere p1.2).bind fun p2 => 
        if p2.1 = true then
          f_MO_name_J37 p2.2
        else
          lt (sI p2.2 0 29 (p2.2.1 0 2)) fun m3 =>
          f_MO_name_L58 0 m3
    else
      f_MO_name_J37 p1.2
  else
    some ((0, m))
def f_MO_nameAt (v0 : Int32) (v1 : Int32) : Int32 :=
  ((10 + (6 * v0)) + v1)
def f_MO_known_B2 (v1 : Int32) (v2 : Int32) (v3 : Int32) (m : zM) : Option ((Int32) ⊕ (Int32)) :=
  (ix 184 (0 + v1)).bind fun i1 =>
  if (m.1 22 i1) ≤ v3 then
    some (.inl (-1))
  else
    (ix 184 (f_MO_nameAt v1 v3)).bind fun i2 =>
    if (m.1 22 i2) = v2 then
      some (.inl v3)
    else
      some (.inr (v3 + 1))
def f_MO_known_L2 (v1 : Int32) (v2 : Int32) (v3 : Int32) (m : zM) : Option (Int32) :=
  zloop (fun s : Int32 => f_MO_known_B2 v1 v2 s m) FU v3
def f_MO_known (v1 : Int32) (v2 : Int32) (m : zM) : Option (Int32) :=
  f_MO_known_L2 v1 v2 0 m
def f_MO_takesSign (v1 : Int32) (m : zM) : Option (Bool × zM) :=
  if (m.1 0 5) = 0 then
    (f_MO_look m).bind fun p1 => 
    if p1.1 = v1 then
      lt (sI p1.2 0 2 ((p1.2.1 0 2) + 1)) fun m2 =>
      some ((true, m2))
    else
      some ((false, p1.2))
  else
    some ((false, m))
def f_MO_newNames_J87 (v1 : Int32) (v2 : Int32) (v3 : Int32) (m : zM) : Option ((zM) ⊕ (Int32 × zM)) :=
  if (m.1 0 5) = 0 then
    (ix 184 (f_MO_nameAt v1 v2)).bind fun i7 => lt (sI m 22 i7 v3) fun m8 =>
    (ix 184 (0 + v1)).bind fun i9 => lt (sI m8 22 i9 (v2 + 1)) fun m10 =>
    (f_MO_takesSign 44 m10).bind fun p11 => 
    if p11.1 = true then
      some (.inr ((v2 + 1), p11.2))
    else
      some (.inl p11.2)
  else
    some (.inl m)
def f_MO_newNames_J78 (v1 : Int32) (v2 : Int32) (v3 : Int32) (m : zM) : Option ((zM) ⊕ (Int32 × zM)) :=
  lt (f_MO_fail 3 (m.1 0 29) m) fun p12 =>
  f_MO_newNames_J87 v1 v2 v3 p12
def f_MO_newNames_J36 (v1 : Int32) (v2 : Int32) (m : zM) : Option ((zM) ⊕ (Int32 × zM)) :=
  (f_MO_name m).bind fun p3 => 
  if (p3.2.1 0 5) = 0 then
    (f_MO_known 0 p3.1 p3.2).bind fun r4 =>
    if r4 = (-1) then
      (f_MO_known 1 p3.1 p3.2).bind fun r5 =>
      if r5 = (-1) then
        (f_MO_known 2 p3.1 p3.2).bind fun r6 =>
        if r6 = (-1) then
          f_MO_newNames_J87 v1 v2 p3.1 p3.2
        else
          f_MO_newNames_J78 v1 v2 p3.1 p3.2
      else
        f_MO_newNames_J78 v1 v2 p3.1 p3.2
    else
      f_MO_newNames_J78 v1 v2 p3.1 p3.2
  else
    f_MO_newNames_J87 v1 v2 p3.1 p3.2
def f_MO_newNames_J29 (v1 : Int32) (v2 : Int32) (t1 : Int32) (m : zM) : Option ((zM) ⊕ (Int32 × zM)) :=
  lt (f_MO_fail t1 (m.1 0 2) m) fun p2 =>
  f_MO_newNames_J36 v1 v2 p2
def f_MO_newNames_B2 (v1 : Int32) (v2 : Int32) (m : zM) : Option ((zM) ⊕ (Int32 × zM)) :=
  if (m.1 0 5) = 0 then
    if v2 = 6 then
      (f_MO_look m).bind fun p1 => 
      if p1.1 = (-1) then
        f_MO_newNames_J29 v1 v2 1 p1.2
      else
        f_MO_newNames_J29 v1 v2 5 p1.2
    else
      f_MO_newNames_J36 v1 v2 m
  else
    f_MO_newNames_J36 v1 v2 m
def f_MO_newNames_L2 (v1 : Int32) (v2 : Int32) (m : zM) : Option (zM) :=
  zloop (fun s : Int32 × zM => f_MO_newNames_B2 v1 s.1 s.2) FU (v2, m)
def f_MO_newNames (v1 : Int32) (m : zM) : Option (zM) :=
  f_MO_newNames_L2 v1 0 m
def f_MO_asksSign (v1 : Int32) (m : zM) : Option (zM) :=
  if (m.1 0 5) = 0 then
    (f_MO_takesSign v1 m).bind fun p1 => 
    if p1.1 = true then
      some (p1.2)
    else
      lt (f_MO_fail 1 (p1.2.1 0 2) p1.2) fun p2 =>
      some (p2)
  else
    some (m)
def f_MO_isOnce_J25 (v2 : Int32) (m : zM) : Option (Bool × zM) :=
  lt (sI m 0 35 ((m.1 0 35) ||| v2)) fun m3 =>
  some ((true, m3))
def f_MO_isOnce (v1 : Nat) (v2 : Int32) (v3 : Int32) (m : zM) : Option (Bool × zM) :=
  (f_MO_takes v1 m).bind fun p1 => 
  if p1.1 = true then
    if ((p1.2.1 0 35) &&& v2) = 0 then
      f_MO_isOnce_J25 v2 p1.2
    else
      lt (f_MO_fail 5 v3 p1.2) fun p2 =>
      f_MO_isOnce_J25 v2 p2
  else
    some ((false, p1.2))
def f_MO_named_J22 (t0 : Int32) (m : zM) : Option (Int32 × zM) :=
  if (m.1 0 5) = 0 then
    if t0 = (-1) then
      lt (f_MO_fail 3 (m.1 0 29) m) fun p3 =>
      some ((t0, p3))
    else
      some ((t0, m))
  else
    some ((t0, m))
def f_MO_named (v1 : Int32) (m : zM) : Option (Int32 × zM) :=
  (f_MO_name m).bind fun p1 => 
  if (p1.2.1 0 5) = 0 then
    (f_MO_known v1 p1.1 p1.2).bind fun r2 =>
    f_MO_named_J22 r2 p1.2
  else
    f_MO_named_J22 0 p1.2
def f_MO_neverTold_J111 (v1 : Int32) (v2 : Int32) (m : zM) : Option (zM) :=
  (ix 184 v1).bind fun i11 => lt (sI m 22 i11 v2) fun m12 =>
  (ix 184 5).bind fun i13 =>
  (ix 184 5).bind fun i14 => lt (sI m12 22 i14 ((m12.1 22 i13) + 1)) fun m15 =>
  some (m15)
def f_MO_neverTold_J48 (v1 : Int32) (v2 : Int32) (m : zM) : Option ((zM) ⊕ (Int32 × zM)) :=
  (f_MO_number 1 4 m).bind fun p4 => 
  (f_MO_named 0 p4.2).bind fun p5 => 
  if (p5.2.1 0 5) = 0 then
    (ix 184 ((v1 + 1) + (2 * v2))).bind fun i6 => lt (sI p5.2 22 i6 p4.1) fun m7 =>
    (ix 184 ((v1 + 2) + (2 * v2))).bind fun i8 => lt (sI m7 22 i8 p5.1) fun m9 =>
    (f_MO_takes 11 m9).bind fun p10 => 
    if p10.1 = true then
      some (.inr ((v2 + 1), p10.2))
    else
      zl (f_MO_neverTold_J111 v1 (v2 + 1) p10.2)
  else
    some (.inl p5.2)
def f_MO_neverTold_J41 (v1 : Int32) (v2 : Int32) (t1 : Int32) (m : zM) : Option ((zM) ⊕ (Int32 × zM)) :=
  lt (f_MO_fail t1 (m.1 0 2) m) fun p3 =>
  f_MO_neverTold_J48 v1 v2 p3
def f_MO_neverTold_B15 (v1 : Int32) (v2 : Int32) (m : zM) : Option ((zM) ⊕ (Int32 × zM)) :=
  if (m.1 0 5) = 0 then
    if v2 = 3 then
      (f_MO_look m).bind fun p2 => 
      if p2.1 = (-1) then
        f_MO_neverTold_J41 v1 v2 1 p2.2
      else
        f_MO_neverTold_J41 v1 v2 5 p2.2
    else
      f_MO_neverTold_J48 v1 v2 m
  else
    f_MO_neverTold_J48 v1 v2 m
def f_MO_neverTold_L15 (v1 : Int32) (v2 : Int32) (m : zM) : Option (zM) :=
  zloop (fun s : Int32 × zM => f_MO_neverTold_B15 v1 s.1 s.2) FU (v2, m)
def f_MO_neverTold  (m : zM) : Option (zM) :=
  (ix 184 5).bind fun i1 =>
  f_MO_neverTold_L15 (28 + (7 * (m.1 22 i1))) 0 m
def f_MO_ruleField (v1 : Int32) (v2 : Int32) (m : zM) : Option (zM) :=
  if (m.1 0 5) = 0 then
    (ix 184 8).bind fun i1 =>
    (ix 184 ((56 + (8 * (m.1 22 i1))) + v1)).bind fun i2 => lt (sI m 22 i2 v2) fun m3 =>
    some (m3)
  else
    some (m)
def f_MO_onTold_J104  (m : zM) : Option (zM) :=
  (ix 184 8).bind fun i12 =>
  (ix 184 8).bind fun i13 => lt (sI m 22 i13 ((m.1 22 i12) + 1)) fun m14 =>
  some (m14)
def f_MO_onTold_J65  (m : zM) : Option (zM) :=
  (f_MO_asks 15 m).bind fun p6 => 
  (f_MO_named 0 p6).bind fun p7 => 
  (f_MO_ruleField 3 p7.1 p7.2).bind fun p8 => 
  (f_MO_takes 16 p8).bind fun p9 => 
  if p9.1 = true then
    (f_MO_named 2 p9.2).bind fun p10 => 
    (f_MO_ruleField 4 p10.1 p10.2).bind fun p11 => 
    f_MO_onTold_J104 p11
  else
    f_MO_onTold_J104 p9.2
def f_MO_onTold_J34  (m : zM) : Option (zM) :=
  (f_MO_named 0 m).bind fun p1 => 
  (f_MO_ruleField 1 p1.1 p1.2).bind fun p2 => 
  (f_MO_takes 14 p2).bind fun p3 => 
  if p3.1 = true then
    (f_MO_named 2 p3.2).bind fun p4 => 
    (f_MO_ruleField 2 p4.1 p4.2).bind fun p5 => 
    f_MO_onTold_J65 p5
  else
    f_MO_onTold_J65 p3.2
def f_MO_onTold_J25 (v1 : Int32) (t1 : Int32) (t2 : Int32) (m : zM) : Option ((zM) ⊕ (Int32 × zM)) :=
  (f_MO_ruleField t1 t2 m).bind fun p15 => 
  some (.inr ((v1 + 1), p15))
def f_MO_onTold_J20 (v1 : Int32) (t1 : Int32) (m : zM) : Option ((zM) ⊕ (Int32 × zM)) :=
  f_MO_onTold_J25 v1 t1 0 m
def f_MO_onTold_B2 (v1 : Int32) (m : zM) : Option ((zM) ⊕ (Int32 × zM)) :=
  if 8 ≤ v1 then
    zl (f_MO_onTold_J34 m)
  else
    if v1 = 0 then
      f_MO_onTold_J20 v1 v1 m
    else
      if v1 = 7 then
        f_MO_onTold_J20 v1 v1 m
      else
        f_MO_onTold_J25 v1 v1 (-1) m
def f_MO_onTold_L2 (v1 : Int32) (m : zM) : Option (zM) :=
  zloop (fun s : Int32 × zM => f_MO_onTold_B2 s.1 s.2) FU (v1, m)
def f_MO_onTold  (m : zM) : Option (zM) :=
  f_MO_onTold_L2 0 m
def f_MO_atTold_J180  (m : zM) : Option (zM) :=
  (ix 184 8).bind fun i22 =>
  (ix 184 8).bind fun i23 => lt (sI m 22 i23 ((m.1 22 i22) + 1)) fun m24 =>
  some (m24)
def f_MO_atTold_J126  (m : zM) : Option (zM) :=
  (f_MO_takes 20 m).bind fun p15 => 
  if p15.1 = true then
    (f_MO_named 0 p15.2).bind fun p20 => 
    (f_MO_ruleField 6 p20.1 p20.2).bind fun p21 => 
    f_MO_atTold_J180 p21
  else
    (f_MO_takes 21 p15.2).bind fun p16 => 
    if p16.1 = true then
      (f_MO_named 0 p16.2).bind fun p17 => 
      (f_MO_ruleField 6 p17.1 p17.2).bind fun p18 => 
      (f_MO_ruleField 7 1 p18).bind fun p19 => 
      f_MO_atTold_J180 p19
    else
      f_MO_atTold_J180 p16.2
def f_MO_atTold_J105  (m : zM) : Option (zM) :=
  (f_MO_takes 19 m).bind fun p12 => 
  if p12.1 = true then
    (f_MO_named 2 p12.2).bind fun p13 => 
    (f_MO_ruleField 5 p13.1 p13.2).bind fun p14 => 
    f_MO_atTold_J126 p14
  else
    f_MO_atTold_J126 p12.2
def f_MO_atTold_J38  (m : zM) : Option (zM) :=
  (f_MO_named 1 m).bind fun p1 => 
  (f_MO_ruleField 1 p1.1 p1.2).bind fun p2 => 
  (f_MO_asks 14 p2).bind fun p3 => 
  (f_MO_named 2 p3).bind fun p4 => 
  (f_MO_ruleField 2 p4.1 p4.2).bind fun p5 => 
  (f_MO_asks 15 p5).bind fun p6 => 
  (f_MO_named 1 p6).bind fun p7 => 
  (f_MO_ruleField 3 p7.1 p7.2).bind fun p8 => 
  (f_MO_takes 18 p8).bind fun p9 => 
  if p9.1 = true then
    (f_MO_named 2 p9.2).bind fun p10 => 
    (f_MO_ruleField 4 p10.1 p10.2).bind fun p11 => 
    f_MO_atTold_J105 p11
  else
    f_MO_atTold_J105 p9.2
def f_MO_atTold_J29 (v1 : Int32) (t1 : Int32) (t2 : Int32) (m : zM) : Option ((zM) ⊕ (Int32 × zM)) :=
  (f_MO_ruleField t1 t2 m).bind fun p25 => 
  some (.inr ((v1 + 1), p25))
def f_MO_atTold_B2 (v1 : Int32) (m : zM) : Option ((zM) ⊕ (Int32 × zM)) :=
  if 8 ≤ v1 then
    zl (f_MO_atTold_J38 m)
  else
    if v1 = 0 then
      f_MO_atTold_J29 v1 v1 1 m
    else
      if v1 = 7 then
        f_MO_atTold_J29 v1 v1 0 m
      else
        f_MO_atTold_J29 v1 v1 (-1) m
def f_MO_atTold_L2 (v1 : Int32) (m : zM) : Option (zM) :=
  zloop (fun s : Int32 × zM => f_MO_atTold_B2 s.1 s.2) FU (v1, m)
def f_MO_atTold  (m : zM) : Option (zM) :=
  f_MO_atTold_L2 0 m
def f_MO_statementTold_J279  (m : zM) : Option (zM) :=
  (f_MO_asksSign 59 m).bind fun p21 => 
  lt (sI p21 0 34 ((p21.1 0 34) + 1)) fun m22 =>
  some (m22)
def f_MO_statementTold_J135 (t0 : Nat) (t1 : Int32) (t2 : Bool) (m : zM) : Option (zM) :=
  (ix (zlen gM t0) t1).bind fun i23 => lt (sI m t0 i23 (b2i t2)) fun m24 =>
  (ix 184 4).bind fun i25 =>
  if (m24.1 22 i25) = 0 then
    (f_MO_asks 8 m24).bind fun p26 => 
    f_MO_statementTold_J279 p26
  else
    f_MO_statementTold_J279 m24
def f_MO_statementTold_J183  (m : zM) : Option (zM) :=
  if (m.1 0 5) = 0 then
    (f_MO_neverTold m).bind fun p27 => 
    f_MO_statementTold_J279 p27
  else
    f_MO_statementTold_J279 m
def f_MO_statementTold_J237  (m : zM) : Option (zM) :=
  (f_MO_takes 13 m).bind fun p30 => 
  if p30.1 = true then
    (f_MO_onTold p30.2).bind fun p33 => 
    f_MO_statementTold_J279 p33
  else
    (f_MO_takes 17 p30.2).bind fun p31 => 
    if p31.1 = true then
      (f_MO_atTold p31.2).bind fun p32 => 
      f_MO_statementTold_J279 p32
    else
      f_MO_statementTold_J279 p31.2
def f_MO_statementTold_J219 (v1 : Int32) (m : zM) : Option (zM) :=
  (ix 184 8).bind fun i28 =>
  if (m.1 22 i28) = 16 then
    lt (f_MO_fail 5 v1 m) fun p29 =>
    f_MO_statementTold_J237 p29
  else
    f_MO_statementTold_J237 m
def f_MO_statementTold  (m : zM) : Option (zM) :=
  if (m.1 0 34) = 60 then
    lt (f_MO_fail 5 (m.1 0 2) m) fun p20 =>
    some (p20)
  else
    (f_MO_isOnce 5 1 (m.1 0 2) m).bind fun p1 => 
    if p1.1 = true then
      (f_MO_newNames 1 p1.2).bind fun p19 => 
      f_MO_statementTold_J279 p19
    else
      (f_MO_isOnce 6 2 (m.1 0 2) p1.2).bind fun p2 => 
      if p2.1 = true then
        (f_MO_newNames 2 p2.2).bind fun p18 => 
        f_MO_statementTold_J279 p18
      else
        (f_MO_isOnce 12 4 (m.1 0 2) p2.2).bind fun p3 => 
        if p3.1 = true then
          (f_MO_named 0 p3.2).bind fun p12 => 
          (ix 184 6).bind fun i13 => lt (sI p12.2 22 i13 p12.1) fun m14 =>
          (f_MO_named 0 m14).bind fun p15 => 
          (ix 184 7).bind fun i16 => lt (sI p15.2 22 i16 p15.1) fun m17 =>
          f_MO_statementTold_J279 m17
        else
          (f_MO_takes 7 p3.2).bind fun p4 => 
          if p4.1 = true then
            (f_MO_takes 9 p4.2).bind fun p11 => 
            if p11.1 = true then
              f_MO_statementTold_J135 22 4 true p11.2
            else
              f_MO_statementTold_J135 22 4 false p11.2
          else
            (f_MO_takes 10 p4.2).bind fun p5 => 
            if p5.1 = true then
              (ix 184 5).bind fun i9 =>
              if (p5.2.1 22 i9) = 4 then
                lt (f_MO_fail 5 (m.1 0 2) p5.2) fun p10 =>
                f_MO_statementTold_J183 p10
              else
                f_MO_statementTold_J183 p5.2
            else
              (f_MO_isHere 13 p5.2).bind fun p6 => 
              if p6.1 = true then
                f_MO_statementTold_J219 (m.1 0 2) p6.2
              else
                (f_MO_isHere 17 p6.2).bind fun p7 => 
                if p7.1 = true then
                  f_MO_statementTold_J219 (m.1 0 2) p7.2
                else
                  lt (f_MO_fail 1 (m.1 0 2) p7.2) fun p8 =>
                  f_MO_statementTold_J279 p8
def f_MO_opensFirst_B20 (v1 : Int32) (m : zM) : Option ((zM) ⊕ (Int32 × zM)) :=
  if 4 ≤ v1 then
    some (.inl m)
  else
    (ix 4 v1).bind fun i3 => lt (sI m 26 i3 0) fun m4 =>
    some (.inr ((v1 + 1), m4))
def f_MO_opensFirst_L20 (v1 : Int32) (m : zM) : Option (zM) :=
  zloop (fun s : Int32 × zM => f_MO_opensFirst_B20 s.1 s.2) FU (v1, m)
def f_MO_opensFirst_J15 (t1 : Int32) (m : zM) : Option (zM) :=
  lt (sI m 0 38 t1) fun m2 =>
  f_MO_opensFirst_L20 0 m2
def f_MO_opensFirst  (m : zM) : Option (zM) :=
  (ix 184 1).bind fun i1 =>
  if (m.1 23 i1) ≤ 0 then
    f_MO_opensFirst_J15 (-1) m
  else
    f_MO_opensFirst_J15 0 m
def f_MO_shut_B10 (v1 : Int64) (v3 : Int32) (m : zM) : Option ((Int64) ⊕ (Int64 × Int32)) :=
  if 4 ≤ v3 then
    some (.inl v1)
  else
    (ix 4 v3).bind fun i1 =>
    some (.inr (((lsl v1 12) ||| ((m.1 26 i1).toInt64)), (v3 + 1)))
def f_MO_shut_L10 (v1 : Int64) (v3 : Int32) (m : zM) : Option (Int64) :=
  zloop (fun s : Int64 × Int32 => f_MO_shut_B10 s.1 s.2 m) FU (v1, v3)
def f_MO_shut  (m : zM) : Option (Int64) :=
  f_MO_shut_L10 (((m.1 0 38) + 1).toInt64) 0 m
def f_MO_spot (v0 : Int64) : Int32 :=
  ((lus (v0 * (-7046029254386353131)) 53).toInt32)
def f_MO_found_J42 (v3 : Int32) (m : zM) : Option (Int32) :=
  (ix 2048 v3).bind fun i4 =>
  some ((m.1 29 i4))
def f_MO_found_B5 (v1 : Int64) (v3 : Int32) (m : zM) : Option ((Int32) ⊕ (Int32)) :=
  (ix 2048 v3).bind fun i1 =>
  if (m.1 29 i1) = (-1) then
    zl (f_MO_found_J42 v3 m)
  else
    (ix 2048 v3).bind fun i2 =>
    (ix 608 (m.1 29 i2)).bind fun i3 =>
    if (lg_cmp (m.2.1 27 i3) v1) = 0 then
      zl (f_MO_found_J42 v3 m)
    else
      some (.inr ((v3 + 1) &&& 2047))
def f_MO_found_L5 (v1 : Int64) (v3 : Int32) (m : zM) : Option (Int32) :=
  zloop (fun s : Int32 => f_MO_found_B5 v1 s m) FU v3
def f_MO_found (v1 : Int64) (m : zM) : Option (Int32) :=
  f_MO_found_L5 v1 (f_MO_spot v1) m
def f_MO_enters_J31 (v1 : Int32) (v2 : Int32) (m : zM) : Option (zM) :=
  (ix 2048 v2).bind fun i3 => lt (sI m 29 i3 v1) fun m4 =>
  some (m4)
def f_MO_enters_B10 (v1 : Int32) (v2 : Int32) (m : zM) : Option ((zM) ⊕ (Int32)) :=
  (ix 2048 v2).bind fun i2 =>
  if (m.1 29 i2) = (-1) then
    zl (f_MO_enters_J31 v1 v2 m)
  else
    some (.inr ((v2 + 1) &&& 2047))
def f_MO_enters_L10 (v1 : Int32) (v2 : Int32) (m : zM) : Option (zM) :=
  zloop (fun s : Int32 => f_MO_enters_B10 v1 s m) FU v2
def f_MO_enters (v1 : Int32) (m : zM) : Option (zM) :=
  (ix 608 v1).bind fun i1 =>
  f_MO_enters_L10 v1 (f_MO_spot (m.2.1 27 i1)) m
def f_MO_comes (v1 : Int64) (v3 : Int32) (m : zM) : Option (zM) :=
  if 600 < (m.1 0 41) then
    some (m)
  else
    (f_MO_found v1 m).bind fun r1 =>
    if r1 = (-1) then
      (ix 608 (m.1 0 41)).bind fun i2 => lt (sJ m 27 i2 v1) fun m3 =>
      (ix 608 (m3.1 0 41)).bind fun i4 => lt (sI m3 28 i4 v3) fun m5 =>
      (f_MO_enters (m5.1 0 41) m5).bind fun p6 => 
      lt (sI p6 0 41 ((p6.1 0 41) + 1)) fun m7 =>
      some (m7)
    else
      some (m)
def f_MO_rules  (m : zM) : Option (Int32) :=
  (ix 184 8).bind fun i1 =>
  some ((m.1 23 i1))
def f_MO_opens_B13 (v1 : Int64) (v3 : Int32) (m : zM) : Option ((zM) ⊕ (Int32 × zM)) :=
  if 4 ≤ v3 then
    some (.inl m)
  else
    (ix 4 v3).bind fun i2 => lt (sI m 25 i2 (((lsr v1 (36 - (12 * v3))).toInt32) &&& 4095)) fun m3 =>
    some (.inr ((v3 + 1), m3))
def f_MO_opens_L13 (v1 : Int64) (v3 : Int32) (m : zM) : Option (zM) :=
  zloop (fun s : Int32 × zM => f_MO_opens_B13 v1 s.1 s.2) FU (v3, m)
def f_MO_opens (v1 : Int64) (m : zM) : Option (zM) :=
  lt (sI m 0 36 (((lsr v1 48).toInt32) - 1)) fun m1 =>
  f_MO_opens_L13 v1 0 m1
def f_MO_agents  (m : zM) : Option (Int32) :=
  (ix 184 3).bind fun i1 =>
  some ((m.1 23 i1))
def f_MO_ruleOf (v1 : Int32) (v2 : Int32) (m : zM) : Option (Int32) :=
  (ix 184 ((56 + (8 * v1)) + v2)).bind fun i1 =>
  some ((m.1 23 i1))
def f_MO_stateOf (v0 : Int32) : Int32 :=
  (shr v0 9)
def f_MO_firstIn (v0 : Int32) : Int32 :=
  ((shr v0 6) &&& 7)
def f_MO_secondIn (v0 : Int32) : Int32 :=
  ((shr v0 3) &&& 7)
def f_MO_without0 (v1 : Int32) (v2 : Int32) (m : zM) : Option (Int32) :=
  if (f_MO_firstIn v1) = v2 then
    some (((v1 &&& (-505)) ||| (shl (f_MO_secondIn v1) 6)))
  else
    (ix 184 4).bind fun i1 =>
    if (m.1 23 i1) = 1 then
      if (f_MO_secondIn v1) = v2 then
        some (((v1 &&& (-505)) ||| (shl (f_MO_firstIn v1) 6)))
      else
        some ((-1))
    else
      some ((-1))
def f_MO_outOf (v0 : Int32) : Int32 :=
  (v0 &&& 7)
def f_MO_isMovedOn_J69 (v1 : Int32) (v2 : Int32) (v3 : Int32) (m : zM) : Option (Bool × zM) :=
  (f_MO_ruleOf v1 3 m).bind fun r7 =>
  (f_MO_ruleOf v1 4 m).bind fun r8 =>
  (ix 4 v2).bind fun i9 => lt (sI m 26 i9 (((v3 &&& 511) ||| (shl r7 9)) ||| (r8 + 1))) fun m10 =>
  some ((true, m10))
def f_MO_isMovedOn_J46 (v1 : Int32) (v2 : Int32) (v3 : Int32) (m : zM) : Option (Bool × zM) :=
  if v3 < 0 then
    some ((false, m))
  else
    (f_MO_ruleOf v1 4 m).bind fun r6 =>
    if r6 = (-1) then
      f_MO_isMovedOn_J69 v1 v2 v3 m
    else
      if (f_MO_outOf v3) = 0 then
        f_MO_isMovedOn_J69 v1 v2 v3 m
      else
        some ((false, m))
def f_MO_isMovedOn (v1 : Int32) (v2 : Int32) (m : zM) : Option (Bool × zM) :=
  (ix 4 v2).bind fun i1 =>
  (f_MO_ruleOf v1 1 m).bind fun r2 =>
  if (f_MO_stateOf (m.1 25 i1)) = r2 then
    (f_MO_ruleOf v1 2 m).bind fun r3 =>
    if r3 = (-1) then
      f_MO_isMovedOn_J46 v1 v2 (m.1 25 i1) m
    else
      (f_MO_ruleOf v1 2 m).bind fun r4 =>
      (f_MO_without0 (m.1 25 i1) (r4 + 1) m).bind fun r5 =>
      f_MO_isMovedOn_J46 v1 v2 r5 m
  else
    some ((false, m))
def f_MO_isOther_J30 (v1 : Int32) (v2 : Int32) (v3 : Int32) (m : zM) : Option ((Bool) ⊕ (Int32)) :=
  some (.inr (v3 + 1))
def f_MO_isOther_B2 (v1 : Int32) (v2 : Int32) (v3 : Int32) (m : zM) : Option ((Bool) ⊕ (Int32)) :=
  (f_MO_agents m).bind fun r1 =>
  if r1 ≤ v3 then
    some (.inl false)
  else
    if v3 = v2 then
      f_MO_isOther_J30 v1 v2 v3 m
    else
      (ix 4 v3).bind fun i2 =>
      if (f_MO_stateOf (m.1 25 i2)) = v1 then
        some (.inl true)
      else
        f_MO_isOther_J30 v1 v2 v3 m
def f_MO_isOther_L2 (v1 : Int32) (v2 : Int32) (v3 : Int32) (m : zM) : Option (Bool) :=
  zloop (fun s : Int32 => f_MO_isOther_B2 v1 v2 s m) FU v3
def f_MO_isOther (v1 : Int32) (v2 : Int32) (m : zM) : Option (Bool) :=
  f_MO_isOther_L2 v1 v2 0 m
def f_MO_with0_J39 (v1 : Int32) (v2 : Int32) (m : zM) : Option (Int32) :=
  some ((v1 ||| (shl v2 3)))
def f_MO_with0 (v1 : Int32) (v2 : Int32) (m : zM) : Option (Int32) :=
  if (f_MO_secondIn v1) = 0 then
    if (f_MO_firstIn v1) = 0 then
      some ((v1 ||| (shl v2 6)))
    else
      (ix 184 4).bind fun i1 =>
      if (m.1 23 i1) = 0 then
        f_MO_with0_J39 v1 v2 m
      else
        if v2 < (f_MO_firstIn v1) then
          some ((((v1 &&& (-505)) ||| (shl v2 6)) ||| (shl (f_MO_firstIn v1) 3)))
        else
          f_MO_with0_J39 v1 v2 m
  else
    some ((-1))
def f_MO_isMovedAt_J164 (v1 : Int32) (m : zM) : Option (Bool × zM) :=
  (f_MO_ruleOf v1 3 m).bind fun r12 =>
  lt (sI m 0 38 r12) fun m13 =>
  some ((true, m13))
def f_MO_isMovedAt_J147 (v1 : Int32) (v2 : Int32) (v3 : Int32) (m : zM) : Option ((Bool × zM) ⊕ (Int32 × zM)) :=
  (ix 4 v3).bind fun i19 =>
  if 0 ≤ (m.1 26 i19) then
    some (.inr ((v3 + 1), m))
  else
    some (.inl (false, m))
def f_MO_isMovedAt_J116 (v1 : Int32) (v2 : Int32) (v3 : Int32) (t1 : Int32) (t2 : Int32) (m : zM) : Option ((Bool × zM) ⊕ (Int32 × zM)) :=
  (f_MO_ruleOf t1 t2 m).bind fun r14 =>
  if r14 = (-1) then
    f_MO_isMovedAt_J147 v1 v2 v3 m
  else
    (ix 4 v3).bind fun i15 =>
    (f_MO_with0 (m.1 26 i15) (r14 + 1) m).bind fun r16 =>
    (ix 4 v3).bind fun i17 => lt (sI m 26 i17 r16) fun m18 =>
    f_MO_isMovedAt_J147 v1 v2 v3 m18
def f_MO_isMovedAt_B96 (v1 : Int32) (v2 : Int32) (v3 : Int32) (m : zM) : Option ((Bool × zM) ⊕ (Int32 × zM)) :=
  (f_MO_agents m).bind fun r11 =>
  if r11 ≤ v3 then
    zl (f_MO_isMovedAt_J164 v1 m)
  else
    if v3 = v2 then
      f_MO_isMovedAt_J116 v1 v2 v3 v1 4 m
    else
      f_MO_isMovedAt_J116 v1 v2 v3 v1 5 m
def f_MO_isMovedAt_L96 (v1 : Int32) (v2 : Int32) (v3 : Int32) (m : zM) : Option (Bool × zM) :=
  zloop (fun s : Int32 × zM => f_MO_isMovedAt_B96 v1 v2 s.1 s.2) FU (v3, m)
def f_MO_isMovedAt_J79 (v1 : Int32) (v2 : Int32) (m : zM) : Option (Bool × zM) :=
  (ix 4 v2).bind fun i8 =>
  (ix 4 v2).bind fun i9 => lt (sI m 26 i9 ((m.1 25 i8) &&& (-8))) fun m10 =>
  f_MO_isMovedAt_L96 v1 v2 0 m10
def f_MO_isMovedAt_J74 (v1 : Int32) (v2 : Int32) (t0 : Bool) (t1 : Bool) (m : zM) : Option (Bool × zM) :=
  if (b2i t0) = (b2i t1) then
    f_MO_isMovedAt_J79 v1 v2 m
  else
    some ((false, m))
def f_MO_isMovedAt (v1 : Int32) (v2 : Int32) (m : zM) : Option (Bool × zM) :=
  (f_MO_ruleOf v1 1 m).bind fun r1 =>
  if (m.1 0 36) = r1 then
    (ix 4 v2).bind fun i2 =>
    (f_MO_ruleOf v1 2 m).bind fun r3 =>
    if (f_MO_outOf (m.1 25 i2)) = (r3 + 1) then
      (f_MO_ruleOf v1 6 m).bind fun r4 =>
      if r4 = (-1) then
        f_MO_isMovedAt_J79 v1 v2 m
      else
        (f_MO_ruleOf v1 6 m).bind fun r5 =>
        (f_MO_isOther r5 v2 m).bind fun r6 =>
        (f_MO_ruleOf v1 7 m).bind fun r7 =>
        if r7 = 1 then
          f_MO_isMovedAt_J74 v1 v2 r6 true m
        else
          f_MO_isMovedAt_J74 v1 v2 r6 false m
    else
      some ((false, m))
  else
    some ((false, m))
def f_MO_isMoved_J33 (v1 : Int32) (v2 : Int32) (m : zM) : Option (Bool × zM) :=
  (f_MO_ruleOf v1 0 m).bind fun r5 =>
  if r5 = 0 then
    (f_MO_isMovedOn v1 v2 m).bind fun p7 => 
    some ((p7.1, p7.2))
  else
    (f_MO_isMovedAt v1 v2 m).bind fun p6 => 
    some ((p6.1, p6.2))
def f_MO_isMoved_B10 (v1 : Int32) (v2 : Int32) (v3 : Int32) (m : zM) : Option ((Bool × zM) ⊕ (Int32 × zM)) :=
  if 4 ≤ v3 then
    zl (f_MO_isMoved_J33 v1 v2 m)
  else
    (ix 4 v3).bind fun i2 =>
    (ix 4 v3).bind fun i3 => lt (sI m 26 i3 (m.1 25 i2)) fun m4 =>
    some (.inr ((v3 + 1), m4))
def f_MO_isMoved_L10 (v1 : Int32) (v2 : Int32) (v3 : Int32) (m : zM) : Option (Bool × zM) :=
  zloop (fun s : Int32 × zM => f_MO_isMoved_B10 v1 v2 s.1 s.2) FU (v3, m)
def f_MO_isMoved (v1 : Int32) (v2 : Int32) (m : zM) : Option (Bool × zM) :=
  lt (sI m 0 38 (m.1 0 36)) fun m1 =>
  f_MO_isMoved_L10 v1 v2 0 m1
def f_MO_folds_J69 (v1 : Int32) (m : zM) : Option ((zM) ⊕ (Int32 × zM)) :=
  some (.inr ((v1 + 1), m))
def f_MO_folds_B12 (v1 : Int32) (v2 : Int32) (m : zM) : Option (((zM) ⊕ (Int32 × zM)) ⊕ (Int32 × zM)) :=
  if v2 ≤ 0 then
    zl (f_MO_folds_J69 v1 m)
  else
    (ix 4 (v2 - 1)).bind fun i2 =>
    (ix 4 v2).bind fun i3 =>
    if (m.1 26 i2) ≤ (m.1 26 i3) then
      zl (f_MO_folds_J69 v1 m)
    else
      (ix 4 v2).bind fun i4 =>
      (ix 4 (v2 - 1)).bind fun i5 =>
      (ix 4 v2).bind fun i6 => lt (sI m 26 i6 (m.1 26 i5)) fun m7 =>
      (ix 4 (v2 - 1)).bind fun i8 => lt (sI m7 26 i8 (m.1 26 i4)) fun m9 =>
      some (.inr ((v2 + (-1)), m9))
def f_MO_folds_L12 (v1 : Int32) (v2 : Int32) (m : zM) : Option ((zM) ⊕ (Int32 × zM)) :=
  zloop (fun s : Int32 × zM => f_MO_folds_B12 v1 s.1 s.2) FU (v2, m)
def f_MO_folds_B2 (v1 : Int32) (m : zM) : Option ((zM) ⊕ (Int32 × zM)) :=
  (f_MO_agents m).bind fun r1 =>
  if r1 ≤ v1 then
    some (.inl m)
  else
    f_MO_folds_L12 v1 v1 m
def f_MO_folds_L2 (v1 : Int32) (m : zM) : Option (zM) :=
  zloop (fun s : Int32 × zM => f_MO_folds_B2 s.1 s.2) FU (v1, m)
def f_MO_folds  (m : zM) : Option (zM) :=
  f_MO_folds_L2 1 m
def f_MO_comesBy_J52 (v1 : Int32) (v2 : Int32) (v3 : Int32) (m : zM) : Option ((zM) ⊕ (Int32 × zM)) :=
  some (.inr ((v3 + 1), m))
def f_MO_comesBy_B12 (v1 : Int32) (v2 : Int32) (v3 : Int32) (m : zM) : Option ((zM) ⊕ (Int32 × zM)) :=
  (f_MO_agents m).bind fun r3 =>
  if r3 ≤ v3 then
    some (.inl m)
  else
    (f_MO_isMoved v2 v3 m).bind fun p4 => 
    if p4.1 = true then
      (f_MO_folds p4.2).bind fun p5 => 
      (f_MO_shut p5).bind fun r6 =>
      (ix 608 v1).bind fun i7 =>
      (f_MO_comes r6 ((p5.1 28 i7) + 1) p5).bind fun p8 => 
      f_MO_comesBy_J52 v1 v2 v3 p8
    else
      f_MO_comesBy_J52 v1 v2 v3 p4.2
def f_MO_comesBy_L12 (v1 : Int32) (v2 : Int32) (v3 : Int32) (m : zM) : Option (zM) :=
  zloop (fun s : Int32 × zM => f_MO_comesBy_B12 v1 v2 s.1 s.2) FU (v3, m)
def f_MO_comesBy (v1 : Int32) (v2 : Int32) (m : zM) : Option (zM) :=
  (ix 608 v1).bind fun i1 =>
  (f_MO_opens (m.2.1 27 i1) m).bind fun p2 => 
  f_MO_comesBy_L12 v1 v2 0 p2
def f_MO_sorts_B160 (v1 : Int32) (m : zM) : Option ((zM) ⊕ (Int32 × zM)) :=
  if (m.1 0 41) ≤ v1 then
    some (.inl m)
  else
    (f_MO_enters v1 m).bind fun p5 => 
    some (.inr ((v1 + 1), p5))
def f_MO_sorts_L160 (v1 : Int32) (m : zM) : Option (zM) :=
  zloop (fun s : Int32 × zM => f_MO_sorts_B160 s.1 s.2) FU (v1, m)
def f_MO_sorts_J158  (m : zM) : Option (zM) :=
  f_MO_sorts_L160 0 m
def f_MO_sorts_B138 (v1 : Int32) (m : zM) : Option ((zM) ⊕ (Int32 × zM)) :=
  if 2048 ≤ v1 then
    zl (f_MO_sorts_J158 m)
  else
    (ix 2048 v1).bind fun i3 => lt (sI m 29 i3 (-1)) fun m4 =>
    some (.inr ((v1 + 1), m4))
def f_MO_sorts_L138 (v1 : Int32) (m : zM) : Option (zM) :=
  zloop (fun s : Int32 × zM => f_MO_sorts_B138 s.1 s.2) FU (v1, m)
def f_MO_sorts_J136  (m : zM) : Option (zM) :=
  f_MO_sorts_L138 0 m
def f_MO_sorts_J113 (v1 : Int32) (v2 : Int64) (v4 : Int32) (v5 : Int32) (m : zM) : Option ((zM) ⊕ (Int32 × zM)) :=
  (ix 608 v5).bind fun i9 => lt (sJ m 27 i9 v2) fun m10 =>
  (ix 608 v5).bind fun i11 => lt (sI m10 28 i11 v4) fun m12 =>
  some (.inr ((v1 + 1), m12))
def f_MO_sorts_J75 (v1 : Int32) (v2 : Int64) (v4 : Int32) (v5 : Int32) (m : zM) : Option (((zM) ⊕ (Int32 × zM)) ⊕ (Int32 × zM)) :=
  (ix 608 (v5 - 1)).bind fun i13 =>
  (ix 608 v5).bind fun i14 => lt (sJ m 27 i14 (m.2.1 27 i13)) fun m15 =>
  (ix 608 (v5 - 1)).bind fun i16 =>
  (ix 608 v5).bind fun i17 => lt (sI m15 28 i17 (m15.1 28 i16)) fun m18 =>
  some (.inr ((v5 + (-1)), m18))
def f_MO_sorts_B28 (v1 : Int32) (v2 : Int64) (v4 : Int32) (v5 : Int32) (m : zM) : Option (((zM) ⊕ (Int32 × zM)) ⊕ (Int32 × zM)) :=
  if v5 ≤ 0 then
    zl (f_MO_sorts_J113 v1 v2 v4 v5 m)
  else
    (ix 608 (v5 - 1)).bind fun i6 =>
    if v4 < (m.1 28 i6) then
      f_MO_sorts_J75 v1 v2 v4 v5 m
    else
      (ix 608 (v5 - 1)).bind fun i7 =>
      if (m.1 28 i7) = v4 then
        (ix 608 (v5 - 1)).bind fun i8 =>
        if (lg_cmp (m.2.1 27 i8) v2) ≤ 0 then
          zl (f_MO_sorts_J113 v1 v2 v4 v5 m)
        else
          f_MO_sorts_J75 v1 v2 v4 v5 m
      else
        zl (f_MO_sorts_J113 v1 v2 v4 v5 m)
def f_MO_sorts_L28 (v1 : Int32) (v2 : Int64) (v4 : Int32) (v5 : Int32) (m : zM) : Option ((zM) ⊕ (Int32 × zM)) :=
  zloop (fun s : Int32 × zM => f_MO_sorts_B28 v1 v2 v4 s.1 s.2) FU (v5, m)
def f_MO_sorts_B2 (v1 : Int32) (m : zM) : Option ((zM) ⊕ (Int32 × zM)) :=
  if (m.1 0 41) ≤ v1 then
    zl (f_MO_sorts_J136 m)
  else
    (ix 608 v1).bind fun i1 =>
    (ix 608 v1).bind fun i2 =>
    f_MO_sorts_L28 v1 (m.2.1 27 i1) (m.1 28 i2) v1 m
def f_MO_sorts_L2 (v1 : Int32) (m : zM) : Option (zM) :=
  zloop (fun s : Int32 × zM => f_MO_sorts_B2 s.1 s.2) FU (v1, m)
def f_MO_sorts  (m : zM) : Option (zM) :=
  f_MO_sorts_L2 1 m
def f_MO_leads0_J112 (v1 : Int32) (v2 : Int32) (m : zM) : Option ((zM) ⊕ (Int32 × zM)) :=
  some (.inr ((v2 + 1), m))
def f_MO_leads0_J106 (v1 : Int32) (v2 : Int32) (v3 : Int32) (m : zM) : Option (((zM) ⊕ (Int32 × zM)) ⊕ (Int32 × zM)) :=
  some (.inr ((v3 + 1), m))
def f_MO_leads0_B22 (v1 : Int32) (v2 : Int32) (v3 : Int32) (m : zM) : Option (((zM) ⊕ (Int32 × zM)) ⊕ (Int32 × zM)) :=
  if 64 ≤ v3 then
    zl (f_MO_leads0_J112 v1 v2 m)
  else
    (ix 38912 ((64 * v2) + v3)).bind fun i3 => lt (sI m 30 i3 (-1)) fun m4 =>
    (f_MO_rules m4).bind fun r5 =>
    if r5 ≤ (v3 / 4) then
      f_MO_leads0_J106 v1 v2 v3 m4
    else
      if (v3 / 4) = v1 then
        f_MO_leads0_J106 v1 v2 v3 m4
      else
        (f_MO_agents m4).bind fun r6 =>
        if r6 ≤ (ir v3 4) then
          f_MO_leads0_J106 v1 v2 v3 m4
        else
          (f_MO_isMoved (v3 / 4) (ir v3 4) m4).bind fun p7 => 
          if p7.1 = true then
            (f_MO_folds p7.2).bind fun p8 => 
            (f_MO_shut p8).bind fun r9 =>
            (f_MO_found r9 p8).bind fun r10 =>
            (ix 38912 ((64 * v2) + v3)).bind fun i11 => lt (sI p8 30 i11 r10) fun m12 =>
            f_MO_leads0_J106 v1 v2 v3 m12
          else
            f_MO_leads0_J106 v1 v2 v3 p7.2
def f_MO_leads0_L22 (v1 : Int32) (v2 : Int32) (v3 : Int32) (m : zM) : Option ((zM) ⊕ (Int32 × zM)) :=
  zloop (fun s : Int32 × zM => f_MO_leads0_B22 v1 v2 s.1 s.2) FU (v3, m)
def f_MO_leads0_B2 (v1 : Int32) (v2 : Int32) (m : zM) : Option ((zM) ⊕ (Int32 × zM)) :=
  if (m.1 0 41) ≤ v2 then
    some (.inl m)
  else
    (ix 608 v2).bind fun i1 =>
    (f_MO_opens (m.2.1 27 i1) m).bind fun p2 => 
    f_MO_leads0_L22 v1 v2 0 p2
def f_MO_leads0_L2 (v1 : Int32) (v2 : Int32) (m : zM) : Option (zM) :=
  zloop (fun s : Int32 × zM => f_MO_leads0_B2 v1 s.1 s.2) FU (v2, m)
def f_MO_leads0 (v1 : Int32) (m : zM) : Option (zM) :=
  f_MO_leads0_L2 v1 0 m
def f_MO_goesThrough_J93 (v1 : Int32) (m : zM) : Option (Bool × zM) :=
  if (m.1 0 41) ≤ 600 then
    (f_MO_sorts m).bind fun p7 => 
    (f_MO_leads0 v1 p7).bind fun p8 => 
    lt (sI p8 0 40 v1) fun m9 =>
    lt (sI m9 0 46 0) fun m10 =>
    some ((true, m10))
  else
    some ((false, m))
def f_MO_goesThrough_J87 (v1 : Int32) (v2 : Int32) (m : zM) : Option ((Bool × zM) ⊕ (Int32 × zM)) :=
  some (.inr ((v2 + 1), m))
def f_MO_goesThrough_J81 (v1 : Int32) (v2 : Int32) (v3 : Int32) (m : zM) : Option (((Bool × zM) ⊕ (Int32 × zM)) ⊕ (Int32 × zM)) :=
  some (.inr ((v3 + 1), m))
def f_MO_goesThrough_B62 (v1 : Int32) (v2 : Int32) (v3 : Int32) (m : zM) : Option (((Bool × zM) ⊕ (Int32 × zM)) ⊕ (Int32 × zM)) :=
  (f_MO_rules m).bind fun r11 =>
  if r11 ≤ v3 then
    zl (f_MO_goesThrough_J87 v1 v2 m)
  else
    if v3 = v1 then
      f_MO_goesThrough_J81 v1 v2 v3 m
    else
      (f_MO_comesBy v2 v3 m).bind fun p12 => 
      f_MO_goesThrough_J81 v1 v2 v3 p12
def f_MO_goesThrough_L62 (v1 : Int32) (v2 : Int32) (v3 : Int32) (m : zM) : Option ((Bool × zM) ⊕ (Int32 × zM)) :=
  zloop (fun s : Int32 × zM => f_MO_goesThrough_B62 v1 v2 s.1 s.2) FU (v3, m)
def f_MO_goesThrough_B42 (v1 : Int32) (v2 : Int32) (m : zM) : Option ((Bool × zM) ⊕ (Int32 × zM)) :=
  if (m.1 0 41) ≤ v2 then
    zl (f_MO_goesThrough_J93 v1 m)
  else
    if 600 < (m.1 0 41) then
      zl (f_MO_goesThrough_J93 v1 m)
    else
      f_MO_goesThrough_L62 v1 v2 0 m
def f_MO_goesThrough_L42 (v1 : Int32) (v2 : Int32) (m : zM) : Option (Bool × zM) :=
  zloop (fun s : Int32 × zM => f_MO_goesThrough_B42 v1 s.1 s.2) FU (v2, m)
def f_MO_goesThrough_J27 (v1 : Int32) (m : zM) : Option (Bool × zM) :=
  (f_MO_opensFirst m).bind fun p4 => 
  (f_MO_shut p4).bind fun r5 =>
  (f_MO_comes r5 0 p4).bind fun p6 => 
  f_MO_goesThrough_L42 v1 0 p6
def f_MO_goesThrough_B7 (v1 : Int32) (v2 : Int32) (m : zM) : Option ((Bool × zM) ⊕ (Int32 × zM)) :=
  if 2048 ≤ v2 then
    zl (f_MO_goesThrough_J27 v1 m)
  else
    (ix 2048 v2).bind fun i2 => lt (sI m 29 i2 (-1)) fun m3 =>
    some (.inr ((v2 + 1), m3))
def f_MO_goesThrough_L7 (v1 : Int32) (v2 : Int32) (m : zM) : Option (Bool × zM) :=
  zloop (fun s : Int32 × zM => f_MO_goesThrough_B7 v1 s.1 s.2) FU (v2, m)
def f_MO_goesThrough (v1 : Int32) (m : zM) : Option (Bool × zM) :=
  lt (sI m 0 41 0) fun m1 =>
  f_MO_goesThrough_L7 v1 0 m1
def f_MO_stands_B97 (v1 : Int32) (m : zM) : Option ((zM) ⊕ (Int32 × zM)) :=
  if 184 ≤ v1 then
    some (.inl m)
  else
    (ix 184 v1).bind fun i16 =>
    (ix 184 v1).bind fun i17 => lt (sI m 23 i17 (m.1 24 i16)) fun m18 =>
    some (.inr ((v1 + 1), m18))
def f_MO_stands_L97 (v1 : Int32) (m : zM) : Option (zM) :=
  zloop (fun s : Int32 × zM => f_MO_stands_B97 s.1 s.2) FU (v1, m)
def f_MO_stands_J39  (m : zM) : Option (zM) :=
  lt (sI m 0 40 (-2)) fun m7 =>
  (f_MO_goesThrough (-1) m7).bind fun p8 => 
  if p8.1 = true then
    lt (sI p8.2 0 33 1) fun m11 =>
    (ix 608 0).bind fun i12 =>
    lt (sJ m11 0 72 (m11.2.1 27 i12)) fun m13 =>
    lt (sI m13 0 74 0) fun m14 =>
    lt (sI m14 0 77 0) fun m15 =>
    some (m15)
  else
    lt (f_MO_fail 6 (p8.2.1 0 3) p8.2) fun p9 =>
    lt (sI p9 0 40 (-2)) fun m10 =>
    f_MO_stands_L97 0 m10
def f_MO_stands_B2 (v1 : Int32) (m : zM) : Option ((zM) ⊕ (Int32 × zM)) :=
  if 184 ≤ v1 then
    zl (f_MO_stands_J39 m)
  else
    (ix 184 v1).bind fun i1 =>
    (ix 184 v1).bind fun i2 => lt (sI m 24 i2 (m.1 23 i1)) fun m3 =>
    (ix 184 v1).bind fun i4 =>
    (ix 184 v1).bind fun i5 => lt (sI m3 23 i5 (m3.1 22 i4)) fun m6 =>
    some (.inr ((v1 + 1), m6))
def f_MO_stands_L2 (v1 : Int32) (m : zM) : Option (zM) :=
  zloop (fun s : Int32 × zM => f_MO_stands_B2 s.1 s.2) FU (v1, m)
def f_MO_stands  (m : zM) : Option (zM) :=
  f_MO_stands_L2 0 m
def f_MO_table_J153  (m : zM) : Option (Int32 × zM) :=
  lt (sI m 0 7 (m.1 0 5)) fun m25 =>
  lt (sI m25 0 8 (m25.1 0 6)) fun m26 =>
  if (m26.1 0 5) = 0 then
    some (((m26.1 0 34), m26))
  else
    (f_MO_refuses 1 m26).bind fun p27 => 
    some ((p27.1, p27.2))
def f_MO_table_J142  (m : zM) : Option (Int32 × zM) :=
  if (m.1 0 5) = 0 then
    (f_MO_stands m).bind fun p24 => 
    f_MO_table_J153 p24
  else
    f_MO_table_J153 m
def f_MO_table_B120  (m : zM) : Option ((Int32 × zM) ⊕ (zM)) :=
  if (m.1 0 5) = 0 then
    (f_MO_look m).bind fun p22 => 
    if p22.1 = (-1) then
      zl (f_MO_table_J142 p22.2)
    else
      (f_MO_statementTold p22.2).bind fun p23 => 
      some (.inr p23)
  else
    zl (f_MO_table_J142 m)
def f_MO_table_L120  (m : zM) : Option (Int32 × zM) :=
  zloop (fun s : zM => f_MO_table_B120  s) FU m
def f_MO_table_J60  (m : zM) : Option (Int32 × zM) :=
  (ix 184 6).bind fun i10 => lt (sI m 22 i10 (-1)) fun m11 =>
  (ix 184 7).bind fun i12 => lt (sI m11 22 i12 (-1)) fun m13 =>
  (f_MO_asks 3 m13).bind fun p14 => 
  (f_MO_number 2 4 p14).bind fun p15 => 
  (ix 184 3).bind fun i16 => lt (sI p15.2 22 i16 p15.1) fun m17 =>
  (f_MO_asks 4 m17).bind fun p18 => 
  (f_MO_newNames 0 p18).bind fun p19 => 
  (f_MO_asksSign 59 p19).bind fun p20 => 
  lt (sI p20 0 34 1) fun m21 =>
  f_MO_table_L120 m21
def f_MO_table_B40 (v1 : Int32) (m : zM) : Option ((Int32 × zM) ⊕ (Int32 × zM)) :=
  if 184 ≤ v1 then
    zl (f_MO_table_J60 m)
  else
    (ix 184 v1).bind fun i8 => lt (sI m 22 i8 0) fun m9 =>
    some (.inr ((v1 + 1), m9))
def f_MO_table_L40 (v1 : Int32) (m : zM) : Option (Int32 × zM) :=
  zloop (fun s : Int32 × zM => f_MO_table_B40 s.1 s.2) FU (v1, m)
def f_MO_table  (m : zM) : Option (Int32 × zM) :=
  lt (sI m 0 3 (m.1 0 1)) fun m1 =>
  lt (sI m1 0 1 0) fun m2 =>
  lt (sI m2 0 2 0) fun m3 =>
  lt (sI m3 0 4 (-1)) fun m4 =>
  lt (sI m4 0 5 0) fun m5 =>
  lt (sI m5 0 6 (-1)) fun m6 =>
  lt (sI m6 0 35 0) fun m7 =>
  f_MO_table_L40 0 m7
def f_MO_atlas (v1 : Int32) (m : zM) : Option (zM) :=
  if (m.1 0 40) = v1 then
    some (m)
  else
    (f_MO_goesThrough v1 m).bind fun p1 => 
    some (p1.2)
def f_MO_isAsked  (m : zM) : Option (Bool × zM) :=
  if (m.1 0 33) = 0 then
    some ((false, m))
  else
    (f_MO_atlas (-1) m).bind fun p1 => 
    some ((true, p1))
def f_MO_copies_J57 (v2 : Int32) (v4 : Int32) (t0 : Int32) (m : zM) : Option ((Int32 × zM) ⊕ (Int32 × Int32 × Int32)) :=
  (nz t0).bind fun _ =>
  some (.inr (((v2 * (v4 + 1)) / t0), t0, (v4 + 1)))
def f_MO_copies_J56 (v2 : Int32) (v4 : Int32) (m : zM) : Option ((Int32 × zM) ⊕ (Int32 × Int32 × Int32)) :=
  f_MO_copies_J57 v2 v4 1 m
def f_MO_copies_B17 (v2 : Int32) (v3 : Int32) (v4 : Int32) (m : zM) : Option ((Int32 × zM) ⊕ (Int32 × Int32 × Int32)) :=
  (f_MO_agents m).bind fun r3 =>
  if r3 ≤ v4 then
    some (.inl (v2, m))
  else
    if v4 ≤ 0 then
      f_MO_copies_J56 v2 v4 m
    else
      (ix 4 v4).bind fun i4 =>
      (ix 4 (v4 - 1)).bind fun i5 =>
      if (m.1 25 i4) = (m.1 25 i5) then
        f_MO_copies_J57 v2 v4 (v3 + 1) m
      else
        f_MO_copies_J56 v2 v4 m
def f_MO_copies_L17 (v2 : Int32) (v3 : Int32) (v4 : Int32) (m : zM) : Option (Int32 × zM) :=
  zloop (fun s : Int32 × Int32 × Int32 => f_MO_copies_B17 s.1 s.2.1 s.2.2 m) FU (v2, v3, v4)
def f_MO_copies (v1 : Int32) (m : zM) : Option (Int32 × zM) :=
  (ix 608 v1).bind fun i1 =>
  (f_MO_opens (m.2.1 27 i1) m).bind fun p2 => 
  f_MO_copies_L17 1 0 0 p2
def f_MO_movesFrom_J28 (v1 : Int32) (v2 : Int32) (v3 : Int32) (m : zM) : Option ((Int32) ⊕ (Int32 × Int32)) :=
  some (.inr (v2, (v3 + 1)))
def f_MO_movesFrom_B4 (v1 : Int32) (v2 : Int32) (v3 : Int32) (m : zM) : Option ((Int32) ⊕ (Int32 × Int32)) :=
  if 64 ≤ v3 then
    some (.inl v2)
  else
    (ix 38912 ((64 * v1) + v3)).bind fun i1 =>
    if (m.1 30 i1) = (-1) then
      f_MO_movesFrom_J28 v1 v2 v3 m
    else
      f_MO_movesFrom_J28 v1 (v2 + 1) v3 m
def f_MO_movesFrom_L4 (v1 : Int32) (v2 : Int32) (v3 : Int32) (m : zM) : Option (Int32) :=
  zloop (fun s : Int32 × Int32 => f_MO_movesFrom_B4 v1 s.1 s.2 m) FU (v2, v3)
def f_MO_movesFrom (v1 : Int32) (m : zM) : Option (Int32) :=
  f_MO_movesFrom_L4 v1 0 0 m
def f_MO_isNever_J69 (v2 : Int32) (v3 : Int32) (v4 : Int32) (m : zM) : Option ((Bool) ⊕ (Int32)) :=
  (ix 184 ((v2 + 1) + (2 * v3))).bind fun i5 =>
  if (m.1 23 i5) ≤ v4 then
    some (.inr (v3 + 1))
  else
    some (.inl false)
def f_MO_isNever_J63 (v2 : Int32) (v3 : Int32) (v4 : Int32) (v5 : Int32) (m : zM) : Option (((Bool) ⊕ (Int32)) ⊕ (Int32 × Int32)) :=
  some (.inr (v4, (v5 + 1)))
def f_MO_isNever_B26 (v2 : Int32) (v3 : Int32) (v4 : Int32) (v5 : Int32) (m : zM) : Option (((Bool) ⊕ (Int32)) ⊕ (Int32 × Int32)) :=
  (f_MO_agents m).bind fun r2 =>
  if r2 ≤ v5 then
    zl (f_MO_isNever_J69 v2 v3 v4 m)
  else
    (ix 4 v5).bind fun i3 =>
    (ix 184 ((v2 + 2) + (2 * v3))).bind fun i4 =>
    if (f_MO_stateOf (m.1 25 i3)) = (m.1 23 i4) then
      f_MO_isNever_J63 v2 v3 (v4 + 1) v5 m
    else
      f_MO_isNever_J63 v2 v3 v4 v5 m
def f_MO_isNever_L26 (v2 : Int32) (v3 : Int32) (v4 : Int32) (v5 : Int32) (m : zM) : Option ((Bool) ⊕ (Int32)) :=
  zloop (fun s : Int32 × Int32 => f_MO_isNever_B26 v2 v3 s.1 s.2 m) FU (v4, v5)
def f_MO_isNever_B10 (v2 : Int32) (v3 : Int32) (m : zM) : Option ((Bool) ⊕ (Int32)) :=
  (ix 184 v2).bind fun i1 =>
  if (m.1 23 i1) ≤ v3 then
    some (.inl true)
  else
    f_MO_isNever_L26 v2 v3 0 0 m
def f_MO_isNever_L10 (v2 : Int32) (v3 : Int32) (m : zM) : Option (Bool) :=
  zloop (fun s : Int32 => f_MO_isNever_B10 v2 s m) FU v3
def f_MO_isNever (v1 : Int32) (m : zM) : Option (Bool) :=
  f_MO_isNever_L10 (28 + (7 * v1)) 0 m
def f_MO_isBad_B7 (v3 : Int32) (m : zM) : Option ((Bool × zM) ⊕ (Int32)) :=
  (ix 184 5).bind fun i2 =>
  if (m.1 23 i2) ≤ v3 then
    some (.inl (false, m))
  else
    (f_MO_isNever v3 m).bind fun r3 =>
    if r3 = true then
      some (.inl (true, m))
    else
      some (.inr (v3 + 1))
def f_MO_isBad_L7 (v3 : Int32) (m : zM) : Option (Bool × zM) :=
  zloop (fun s : Int32 => f_MO_isBad_B7 s m) FU v3
def f_MO_isBad (v1 : Int64) (m : zM) : Option (Bool × zM) :=
  (f_MO_opens v1 m).bind fun p1 => 
  f_MO_isBad_L7 0 p1
def f_MO_sumOf_J85 (v1 : Int32) (v2 : Int32) (v3 : Int32) (m : zM) : Option ((Int32 × zM) ⊕ (Int32 × Int32 × zM)) :=
  some (.inr (v2, (v3 + 1), m))
def f_MO_sumOf_J67 (v1 : Int32) (v2 : Int32) (v3 : Int32) (v4 : Int32) (m : zM) : Option ((Int32 × zM) ⊕ (Int32 × Int32 × zM)) :=
  if v1 = 3 then
    (f_MO_movesFrom v3 m).bind fun r5 =>
    if r5 = 0 then
      f_MO_sumOf_J85 v1 (v2 + v4) v3 m
    else
      f_MO_sumOf_J85 v1 v2 v3 m
  else
    f_MO_sumOf_J85 v1 v2 v3 m
def f_MO_sumOf_J44 (v1 : Int32) (v2 : Int32) (v3 : Int32) (v4 : Int32) (m : zM) : Option ((Int32 × zM) ⊕ (Int32 × Int32 × zM)) :=
  if v1 = 2 then
    (ix 608 v3).bind fun i3 =>
    (f_MO_isBad (m.2.1 27 i3) m).bind fun p4 => 
    if p4.1 = true then
      f_MO_sumOf_J67 v1 (v2 + v4) v3 v4 p4.2
    else
      f_MO_sumOf_J67 v1 v2 v3 v4 p4.2
  else
    f_MO_sumOf_J67 v1 v2 v3 v4 m
def f_MO_sumOf_J28 (v1 : Int32) (v2 : Int32) (v3 : Int32) (v4 : Int32) (m : zM) : Option ((Int32 × zM) ⊕ (Int32 × Int32 × zM)) :=
  if v1 = 1 then
    (f_MO_movesFrom v3 m).bind fun r2 =>
    f_MO_sumOf_J44 v1 (v2 + (v4 * r2)) v3 v4 m
  else
    f_MO_sumOf_J44 v1 v2 v3 v4 m
def f_MO_sumOf_B4 (v1 : Int32) (v2 : Int32) (v3 : Int32) (m : zM) : Option ((Int32 × zM) ⊕ (Int32 × Int32 × zM)) :=
  if (m.1 0 41) ≤ v3 then
    some (.inl (v2, m))
  else
    (f_MO_copies v3 m).bind fun p1 => 
    if v1 = 0 then
      f_MO_sumOf_J28 v1 (v2 + p1.1) v3 p1.1 p1.2
    else
      f_MO_sumOf_J28 v1 v2 v3 p1.1 p1.2
def f_MO_sumOf_L4 (v1 : Int32) (v2 : Int32) (v3 : Int32) (m : zM) : Option (Int32 × zM) :=
  zloop (fun s : Int32 × Int32 × zM => f_MO_sumOf_B4 v1 s.1 s.2.1 s.2.2) FU (v2, v3, m)
def f_MO_sumOf (v1 : Int32) (m : zM) : Option (Int32 × zM) :=
  f_MO_sumOf_L4 v1 0 0 m
def f_MO_enters0 (v1 : Int32) (m : zM) : Option (zM) :=
  lt (sI m 0 62 ((m.1 0 62) + 1)) fun m1 =>
  (ix 2432 v1).bind fun i2 => lt (sI m1 38 i2 (m1.1 0 62)) fun m3 =>
  (ix 2432 v1).bind fun i4 => lt (sI m3 39 i4 (m3.1 0 62)) fun m5 =>
  (ix 2432 v1).bind fun i6 => lt (sI m5 41 i6 0) fun m7 =>
  (ix 2432 (m7.1 0 60)).bind fun i8 => lt (sI m7 40 i8 v1) fun m9 =>
  lt (sI m9 0 60 ((m9.1 0 60) + 1)) fun m10 =>
  (ix 2432 (m10.1 0 61)).bind fun i11 => lt (sI m10 42 i11 v1) fun m12 =>
  lt (sI m12 0 61 ((m12.1 0 61) + 1)) fun m13 =>
  (ix 2432 v1).bind fun i14 => lt (sI m13 43 i14 (b2i true)) fun m15 =>
  some (m15)
def f_MO_leaves_J47  (m : zM) : Option (zM) :=
  lt (sI m 0 63 ((m.1 0 63) + 1)) fun m7 =>
  some (m7)
def f_MO_leaves_B2 (v1 : Int32) (v2 : Int32) (m : zM) : Option ((zM) ⊕ (Int32 × zM)) :=
  if v2 = v1 then
    zl (f_MO_leaves_J47 m)
  else
    lt (sI m 0 61 ((m.1 0 61) - 1)) fun m1 =>
    (ix 2432 (m1.1 0 61)).bind fun i2 =>
    (ix 2432 (m1.1 42 i2)).bind fun i3 => lt (sI m1 43 i3 (b2i false)) fun m4 =>
    (ix 2432 (m1.1 42 i2)).bind fun i5 => lt (sI m4 37 i5 (m4.1 0 63)) fun m6 =>
    some (.inr ((m1.1 42 i2), m6))
def f_MO_leaves_L2 (v1 : Int32) (v2 : Int32) (m : zM) : Option (zM) :=
  zloop (fun s : Int32 × zM => f_MO_leaves_B2 v1 s.1 s.2) FU (v2, m)
def f_MO_leaves (v1 : Int32) (m : zM) : Option (zM) :=
  f_MO_leaves_L2 v1 (-1) m
def f_MO_goesDown_J229 (v1 : Nat) (m : zM) : Option ((zM) ⊕ (zM)) :=
  some (.inr m)
def f_MO_goesDown_J209 (v1 : Nat) (v3 : Int32) (m : zM) : Option ((zM) ⊕ (zM)) :=
  (ix 2432 v3).bind fun i27 =>
  (ix 2432 v3).bind fun i28 =>
  if (m.1 39 i27) = (m.1 38 i28) then
    (f_MO_leaves v3 m).bind fun p29 => 
    f_MO_goesDown_J229 v1 p29
  else
    f_MO_goesDown_J229 v1 m
def f_MO_goesDown_B10 (v1 : Nat) (m : zM) : Option ((zM) ⊕ (zM)) :=
  if (m.1 0 60) ≤ 0 then
    some (.inl m)
  else
    (ix 2432 ((m.1 0 60) - 1)).bind fun i3 =>
    (ix 2432 (m.1 40 i3)).bind fun i4 =>
    if 64 ≤ (m.1 41 i4) then
      lt (sI m 0 60 ((m.1 0 60) - 1)) fun m5 =>
      if (m5.1 0 60) ≤ 0 then
        f_MO_goesDown_J209 v1 (m.1 40 i3) m5
      else
        (ix 2432 (m.1 40 i3)).bind fun i6 =>
        (ix 2432 ((m5.1 0 60) - 1)).bind fun i7 =>
        (ix 2432 (m5.1 40 i7)).bind fun i8 =>
        if (m5.1 39 i8) ≤ (m5.1 39 i6) then
          f_MO_goesDown_J209 v1 (m.1 40 i3) m5
        else
          (ix 2432 ((m5.1 0 60) - 1)).bind fun i9 =>
          (ix 2432 (m.1 40 i3)).bind fun i10 =>
          (ix 2432 (m5.1 40 i9)).bind fun i11 => lt (sI m5 39 i11 (m5.1 39 i10)) fun m12 =>
          f_MO_goesDown_J209 v1 (m.1 40 i3) m12
    else
      (ix 2432 (m.1 40 i3)).bind fun i13 =>
      (ix (zlen gM v1) ((64 * (m.1 40 i3)) + (m.1 41 i13))).bind fun i14 =>
      (ix 2432 (m.1 40 i3)).bind fun i15 =>
      (ix 2432 (m.1 40 i3)).bind fun i16 => lt (sI m 41 i16 ((m.1 41 i15) + 1)) fun m17 =>
      if (m.1 v1 i14) = (-1) then
        some (.inr m17)
      else
        (ix 2432 (m.1 v1 i14)).bind fun i18 =>
        if (m17.1 34 i18) = 0 then
          some (.inr m17)
        else
          (ix 2432 (m.1 v1 i14)).bind fun i19 =>
          if (m17.1 38 i19) = 0 then
            (f_MO_enters0 (m.1 v1 i14) m17).bind fun p26 => 
            some (.inr p26)
          else
            (ix 2432 (m.1 v1 i14)).bind fun i20 =>
            if (m17.1 43 i20) = 0 then
              some (.inr m17)
            else
              (ix 2432 (m.1 v1 i14)).bind fun i21 =>
              (ix 2432 (m.1 40 i3)).bind fun i22 =>
              if (m17.1 39 i22) ≤ (m17.1 38 i21) then
                some (.inr m17)
              else
                (ix 2432 (m.1 v1 i14)).bind fun i23 =>
                (ix 2432 (m.1 40 i3)).bind fun i24 => lt (sI m17 39 i24 (m17.1 38 i23)) fun m25 =>
                some (.inr m25)
def f_MO_goesDown_L10 (v1 : Nat) (m : zM) : Option (zM) :=
  zloop (fun s : zM => f_MO_goesDown_B10 v1 s) FU m
def f_MO_goesDown (v1 : Nat) (v2 : Int32) (m : zM) : Option (zM) :=
  lt (sI m 0 60 0) fun m1 =>
  (f_MO_enters0 v2 m1).bind fun p2 => 
  f_MO_goesDown_L10 v1 p2
def f_MO_joins_J80 (v1 : Nat) (v2 : Int32) (v3 : Int32) (m : zM) : Option ((zM) ⊕ (Int32 × zM)) :=
  some (.inr ((v3 + 1), m))
def f_MO_joins_B51 (v1 : Nat) (v2 : Int32) (v3 : Int32) (m : zM) : Option ((zM) ⊕ (Int32 × zM)) :=
  if v2 ≤ v3 then
    some (.inl m)
  else
    (ix 2432 v3).bind fun i10 =>
    if (m.1 34 i10) = 0 then
      f_MO_joins_J80 v1 v2 v3 m
    else
      (ix 2432 v3).bind fun i11 =>
      if (m.1 38 i11) = 0 then
        (f_MO_goesDown v1 v3 m).bind fun p12 => 
        f_MO_joins_J80 v1 v2 v3 p12
      else
        f_MO_joins_J80 v1 v2 v3 m
def f_MO_joins_L51 (v1 : Nat) (v2 : Int32) (v3 : Int32) (m : zM) : Option (zM) :=
  zloop (fun s : Int32 × zM => f_MO_joins_B51 v1 v2 s.1 s.2) FU (v3, m)
def f_MO_joins_J49 (v1 : Nat) (v2 : Int32) (m : zM) : Option (zM) :=
  f_MO_joins_L51 v1 v2 0 m
def f_MO_joins_B17 (v1 : Nat) (v2 : Int32) (v3 : Int32) (m : zM) : Option ((zM) ⊕ (Int32 × zM)) :=
  if v2 ≤ v3 then
    zl (f_MO_joins_J49 v1 v2 m)
  else
    (ix 2432 v3).bind fun i4 => lt (sI m 38 i4 0) fun m5 =>
    (ix 2432 v3).bind fun i6 => lt (sI m5 37 i6 (-1)) fun m7 =>
    (ix 2432 v3).bind fun i8 => lt (sI m7 43 i8 (b2i false)) fun m9 =>
    some (.inr ((v3 + 1), m9))
def f_MO_joins_L17 (v1 : Nat) (v2 : Int32) (v3 : Int32) (m : zM) : Option (zM) :=
  zloop (fun s : Int32 × zM => f_MO_joins_B17 v1 v2 s.1 s.2) FU (v3, m)
def f_MO_joins (v1 : Nat) (v2 : Int32) (m : zM) : Option (zM) :=
  lt (sI m 0 62 0) fun m1 =>
  lt (sI m1 0 63 0) fun m2 =>
  lt (sI m2 0 61 0) fun m3 =>
  f_MO_joins_L17 v1 v2 0 m3
def f_MO_partMany_J107 (v1 : Int32) (v2 : Int32) (m : zM) : Option ((Int32 × zM) ⊕ (Int32 × Int32 × zM)) :=
  (ix 2432 v2).bind fun i13 =>
  (ix 2432 (m.1 37 i13)).bind fun i14 =>
  (ix 608 v2).bind fun i15 => lt (sI m 47 i15 (m.1 49 i14)) fun m16 =>
  some (.inr (v1, (v2 + 1), m16))
def f_MO_partMany_B62 (v1 : Int32) (v2 : Int32) (m : zM) : Option ((Int32 × zM) ⊕ (Int32 × Int32 × zM)) :=
  if (m.1 0 41) ≤ v2 then
    some (.inl (v1, m))
  else
    (ix 2432 v2).bind fun i6 =>
    (ix 2432 (m.1 37 i6)).bind fun i7 =>
    if (m.1 49 i7) = (-1) then
      (ix 2432 v2).bind fun i8 =>
      (ix 2432 (m.1 37 i8)).bind fun i9 => lt (sI m 49 i9 v1) fun m10 =>
      (ix 608 v1).bind fun i11 => lt (sI m10 48 i11 v2) fun m12 =>
      f_MO_partMany_J107 (v1 + 1) v2 m12
    else
      f_MO_partMany_J107 v1 v2 m
def f_MO_partMany_L62 (v1 : Int32) (v2 : Int32) (m : zM) : Option (Int32 × zM) :=
  zloop (fun s : Int32 × Int32 × zM => f_MO_partMany_B62 s.1 s.2.1 s.2.2) FU (v1, v2, m)
def f_MO_partMany_J58  (m : zM) : Option (Int32 × zM) :=
  f_MO_partMany_L62 0 0 m
def f_MO_partMany_B37 (v1 : Int32) (m : zM) : Option ((Int32 × zM) ⊕ (Int32 × zM)) :=
  if (m.1 0 63) ≤ v1 then
    zl (f_MO_partMany_J58 m)
  else
    (ix 2432 v1).bind fun i4 => lt (sI m 49 i4 (-1)) fun m5 =>
    some (.inr ((v1 + 1), m5))
def f_MO_partMany_L37 (v1 : Int32) (m : zM) : Option (Int32 × zM) :=
  zloop (fun s : Int32 × zM => f_MO_partMany_B37 s.1 s.2) FU (v1, m)
def f_MO_partMany_J23  (m : zM) : Option (Int32 × zM) :=
  (f_MO_joins 30 (m.1 0 41) m).bind fun p3 => 
  f_MO_partMany_L37 0 p3
def f_MO_partMany_B2 (v1 : Int32) (m : zM) : Option ((Int32 × zM) ⊕ (Int32 × zM)) :=
  if (m.1 0 41) ≤ v1 then
    zl (f_MO_partMany_J23 m)
  else
    (ix 2432 v1).bind fun i1 => lt (sI m 34 i1 (b2i true)) fun m2 =>
    some (.inr ((v1 + 1), m2))
def f_MO_partMany_L2 (v1 : Int32) (m : zM) : Option (Int32 × zM) :=
  zloop (fun s : Int32 × zM => f_MO_partMany_B2 s.1 s.2) FU (v1, m)
def f_MO_partMany  (m : zM) : Option (Int32 × zM) :=
  f_MO_partMany_L2 0 m
def f_MO_has_J97 (v1 : Int32) (m : zM) : Option (Int32 × zM) :=
  (ix 184 ((0 + v1) - 1)).bind fun i7 =>
  some (((m.1 23 i7), m))
def f_MO_has_J136 (v1 : Int32) (m : zM) : Option (Int32 × zM) :=
  (f_MO_sumOf (v1 - 7) m).bind fun p8 => 
  some ((p8.1, p8.2))
def f_MO_has (v1 : Int32) (m : zM) : Option (Int32 × zM) :=
  if (f_MO_isIn v1.toInt64 0 13) = true then
    (f_MO_isAsked m).bind fun p1 => 
    if p1.1 = true then
      if v1 = 0 then
        (f_MO_agents p1.2).bind fun r2 =>
        some ((r2, p1.2))
      else
      if v1 = 1 then
        f_MO_has_J97 v1 p1.2
      else
      if v1 = 2 then
        f_MO_has_J97 v1 p1.2
      else
      if v1 = 3 then
        f_MO_has_J97 v1 p1.2
      else
      if v1 = 4 then
        (f_MO_rules p1.2).bind fun r3 =>
        some ((r3, p1.2))
      else
      if v1 = 5 then
        some (((p1.2.1 0 41), p1.2))
      else
      if v1 = 6 then
        (f_MO_sumOf 0 p1.2).bind fun p4 => 
        some ((p4.1, p4.2))
      else
      if v1 = 7 then
        (ix 608 ((p1.2.1 0 41) - 1)).bind fun i5 =>
        some (((p1.2.1 28 i5), p1.2))
      else
      if v1 = 8 then
        f_MO_has_J136 v1 p1.2
      else
      if v1 = 9 then
        f_MO_has_J136 v1 p1.2
      else
      if v1 = 10 then
        f_MO_has_J136 v1 p1.2
      else
      if v1 = 11 then
        (f_MO_partMany p1.2).bind fun p6 => 
        some ((p6.1, p6.2))
      else
      if v1 = 12 then
        some (((p1.2.1 0 74), p1.2))
      else
      some (((p1.2.1 0 77), p1.2))
    else
      some ((0, p1.2))
  else
    some (((-1), m))
def f_MO_lettersOf_B4 (v1 : Int32) (v2 : Int32) : Option ((Int32) ⊕ (Int32 × Int32)) :=
  if v2 ≤ 0 then
    some (.inl v1)
  else
    some (.inr ((v1 + 1), (v2 / 27)))
def f_MO_lettersOf_L4 (v1 : Int32) (v2 : Int32) : Option (Int32) :=
  zloop (fun s : Int32 × Int32 => f_MO_lettersOf_B4 s.1 s.2) FU (v1, v2)
def f_MO_lettersOf (v0 : Int32) : Option (Int32) :=
  f_MO_lettersOf_L4 0 v0
def f_MO_letter_J97 (v3 : Int32) (v4 : Int32) (v5 : Int32) (m : zM) : Option (Int32) :=
  if v5 ≤ v3 then
    some (0)
  else
    some ((ir v4 27))
def f_MO_letter_B78 (v3 : Int32) (v4 : Int32) (v5 : Int32) (v6 : Int32) (m : zM) : Option ((Int32) ⊕ (Int32 × Int32)) :=
  if v6 ≤ v3 then
    zl (f_MO_letter_J97 v3 v4 v5 m)
  else
    some (.inr ((v4 / 27), (v6 + (-1))))
def f_MO_letter_L78 (v3 : Int32) (v4 : Int32) (v5 : Int32) (v6 : Int32) (m : zM) : Option (Int32) :=
  zloop (fun s : Int32 × Int32 => f_MO_letter_B78 v3 s.1 v5 s.2 m) FU (v4, v6)
def f_MO_letter (v1 : Int32) (v2 : Int32) (v3 : Int32) (m : zM) : Option (Int32) :=
  if (m.1 0 33) = 0 then
    some ((-1))
  else
    if (f_MO_isIn v1.toInt64 0 2) = true then
      (ix 184 (0 + v1)).bind fun i1 =>
      if (f_MO_isIn v2.toInt64 0 (((m.1 23 i1) - 1).toInt64)) = true then
        if (f_MO_isIn v3.toInt64 0 5) = true then
          (ix 184 (f_MO_nameAt v1 v2)).bind fun i2 =>
          (f_MO_lettersOf (m.1 23 i2)).bind fun r3 =>
          f_MO_letter_L78 v3 (m.1 23 i2) r3 (r3 - 1) m
        else
          some ((-1))
      else
        some ((-1))
    else
      some ((-1))
def f_MO_rule (v1 : Int32) (v2 : Int32) (m : zM) : Option (Int32) :=
  if (m.1 0 33) = 0 then
    some ((-1))
  else
    (f_MO_rules m).bind fun r1 =>
    if (f_MO_isIn v1.toInt64 0 ((r1 - 1).toInt64)) = true then
      if (f_MO_isIn v2.toInt64 0 7) = true then
        (f_MO_ruleOf v1 v2 m).bind fun r2 =>
        some (r2)
      else
        some ((-1))
    else
      some ((-1))
def f_MO_isEnd_J53 (v1 : Int32) (v2 : Int32) (m : zM) : Option ((Bool) ⊕ (Int32)) :=
  some (.inr (v2 + 1))
def f_MO_isEnd_B2 (v1 : Int32) (v2 : Int32) (m : zM) : Option ((Bool) ⊕ (Int32)) :=
  if (64 * (m.1 0 41)) ≤ v2 then
    some (.inl true)
  else
    (ix 608 (v2 / 64)).bind fun i1 =>
    if (m.1 47 i1) = v1 then
      (ix 38912 v2).bind fun i2 =>
      if (m.1 30 i2) = (-1) then
        f_MO_isEnd_J53 v1 v2 m
      else
        (ix 38912 v2).bind fun i3 =>
        (ix 608 (m.1 30 i3)).bind fun i4 =>
        if (m.1 47 i4) = v1 then
          f_MO_isEnd_J53 v1 v2 m
        else
          some (.inl false)
    else
      f_MO_isEnd_J53 v1 v2 m
def f_MO_isEnd_L2 (v1 : Int32) (v2 : Int32) (m : zM) : Option (Bool) :=
  zloop (fun s : Int32 => f_MO_isEnd_B2 v1 s m) FU v2
def f_MO_isEnd (v1 : Int32) (m : zM) : Option (Bool) :=
  f_MO_isEnd_L2 v1 0 m
def f_MO_part_J59 (v1 : Int32) (v2 : Int32) (v3 : Int32) (m : zM) : Option (Int32 × zM) :=
  if v2 = 0 then
    some ((v3, m))
  else
  if v2 = 1 then
    (ix 608 v1).bind fun i4 =>
    some (((m.1 48 i4), m))
  else
  if v2 = 2 then
    (f_MO_isEnd v1 m).bind fun r5 =>
    if r5 = true then
      some ((1, m))
    else
      some ((0, m))
  else
  some (((-1), m))
def f_MO_part_J53 (v1 : Int32) (v2 : Int32) (v3 : Int32) (v4 : Int32) (m : zM) : Option ((Int32 × zM) ⊕ (Int32 × Int32)) :=
  some (.inr (v3, (v4 + 1)))
def f_MO_part_B30 (v1 : Int32) (v2 : Int32) (v3 : Int32) (v4 : Int32) (m : zM) : Option ((Int32 × zM) ⊕ (Int32 × Int32)) :=
  if (m.1 0 41) ≤ v4 then
    zl (f_MO_part_J59 v1 v2 v3 m)
  else
    (ix 608 v4).bind fun i3 =>
    if (m.1 47 i3) = v1 then
      f_MO_part_J53 v1 v2 (v3 + 1) v4 m
    else
      f_MO_part_J53 v1 v2 v3 v4 m
def f_MO_part_L30 (v1 : Int32) (v2 : Int32) (v3 : Int32) (v4 : Int32) (m : zM) : Option (Int32 × zM) :=
  zloop (fun s : Int32 × Int32 => f_MO_part_B30 v1 v2 s.1 s.2 m) FU (v3, v4)
def f_MO_part (v1 : Int32) (v2 : Int32) (m : zM) : Option (Int32 × zM) :=
  (f_MO_isAsked m).bind fun p1 => 
  if p1.1 = true then
    (f_MO_partMany p1.2).bind fun p2 => 
    if (f_MO_isIn v1.toInt64 0 ((p2.1 - 1).toInt64)) = true then
      f_MO_part_L30 v1 v2 0 0 p2.2
    else
      some (((-1), p2.2))
  else
    some (((-1), p1.2))
def f_MO_isWorld (v1 : Int32) (m : zM) : Option (Bool × zM) :=
  (f_MO_isAsked m).bind fun p1 => 
  if p1.1 = true then
    if (f_MO_isIn v1.toInt64 0 (((p1.2.1 0 41) - 1).toInt64)) = true then
      some ((true, p1.2))
    else
      some ((false, p1.2))
  else
    some ((false, p1.2))
def f_MO_world (v1 : Int32) (v2 : Int32) (m : zM) : Option (Int32 × zM) :=
  (f_MO_isWorld v1 m).bind fun p1 => 
  if p1.1 = true then
    if v2 = 0 then
      (ix 608 v1).bind fun i2 =>
      some (((p1.2.1 28 i2), p1.2))
    else
    if v2 = 1 then
      (f_MO_copies v1 p1.2).bind fun p3 => 
      some ((p3.1, p3.2))
    else
    if v2 = 2 then
      (ix 608 v1).bind fun i4 =>
      some (((((lsr (p1.2.2.1 27 i4) 48).toInt32) - 1), p1.2))
    else
    if v2 = 3 then
      (ix 608 v1).bind fun i5 =>
      (f_MO_isBad (p1.2.2.1 27 i5) p1.2).bind fun p6 => 
      if p6.1 = true then
        some ((1, p6.2))
      else
        some ((0, p6.2))
    else
    if v2 = 4 then
      (f_MO_movesFrom v1 p1.2).bind fun r7 =>
      if r7 = 0 then
        some ((1, p1.2))
      else
        some ((0, p1.2))
    else
    if v2 = 5 then
      (f_MO_movesFrom v1 p1.2).bind fun r8 =>
      some ((r8, p1.2))
    else
    if v2 = 6 then
      (f_MO_partMany p1.2).bind fun p9 => 
      (ix 608 v1).bind fun i10 =>
      some (((p9.2.1 47 i10), p9.2))
    else
    some (((-1), p1.2))
  else
    some (((-1), p1.2))
def f_MO_lookMany  (m : zM) : Int32 :=
  (4 * (m.1 0 41))
def f_MO_firstLike_B2 (v0 : Nat) (v1 : Int32) (v2 : Int32) (m : zM) : Option ((Int32) ⊕ (Int32)) :=
  (ix (zlen gM v0) v2).bind fun i1 =>
  if (m.1 v0 i1) = v1 then
    some (.inl v2)
  else
    some (.inr (v2 + 1))
def f_MO_firstLike_L2 (v0 : Nat) (v1 : Int32) (v2 : Int32) (m : zM) : Option (Int32) :=
  zloop (fun s : Int32 => f_MO_firstLike_B2 v0 v1 s m) FU v2
def f_MO_firstLike (v0 : Nat) (v1 : Int32) (m : zM) : Option (Int32) :=
  f_MO_firstLike_L2 v0 v1 0 m
def f_MO_looksFrom_J173 (v1 : Int32) (v2 : Int32) (v3 : Int32) (v4 : Int32) (m : zM) : Option ((zM) ⊕ (Int32 × zM)) :=
  some (.inr ((v4 + 1), m))
def f_MO_looksFrom_B63 (v1 : Int32) (v2 : Int32) (v3 : Int32) (v4 : Int32) (m : zM) : Option ((zM) ⊕ (Int32 × zM)) :=
  if 64 ≤ v4 then
    some (.inl m)
  else
    (ix 155648 ((64 * v3) + v4)).bind fun i9 => lt (sI m 31 i9 (-1)) fun m10 =>
    (ix 2432 v3).bind fun i11 =>
    if (m10.1 32 i11) = (-1) then
      f_MO_looksFrom_J173 v1 v2 v3 v4 m10
    else
      (ix 38912 ((64 * v1) + v4)).bind fun i12 =>
      if (m10.1 30 i12) = (-1) then
        f_MO_looksFrom_J173 v1 v2 v3 v4 m10
      else
        (f_MO_isMoved (v4 / 4) (ir v4 4) m10).bind fun p13 => 
        (ix 4 v2).bind fun i14 =>
        (f_MO_folds p13.2).bind fun p15 => 
        (ix 38912 ((64 * v1) + v4)).bind fun i16 =>
        (f_MO_firstLike 26 (p13.2.1 26 i14) p15).bind fun r17 =>
        (ix 155648 ((64 * v3) + v4)).bind fun i18 => lt (sI p15 31 i18 ((4 * (p15.1 30 i16)) + r17)) fun m19 =>
        f_MO_looksFrom_J173 v1 v2 v3 v4 m19
def f_MO_looksFrom_L63 (v1 : Int32) (v2 : Int32) (v3 : Int32) (v4 : Int32) (m : zM) : Option (zM) :=
  zloop (fun s : Int32 × zM => f_MO_looksFrom_B63 v1 v2 v3 s.1 s.2) FU (v4, m)
def f_MO_looksFrom_J59 (v1 : Int32) (v2 : Int32) (v3 : Int32) (t0 : Nat) (t1 : Int32) (t2 : Int32) (m : zM) : Option (zM) :=
  (ix (zlen gM t0) t1).bind fun i7 => lt (sI m t0 i7 t2) fun m8 =>
  f_MO_looksFrom_L63 v1 v2 v3 0 m8
def f_MO_looksFrom_J58 (v1 : Int32) (v2 : Int32) (v3 : Int32) (t0 : Nat) (t1 : Int32) (m : zM) : Option (zM) :=
  f_MO_looksFrom_J59 v1 v2 v3 t0 t1 (-1) m
def f_MO_looksFrom (v1 : Int32) (v2 : Int32) (m : zM) : Option (zM) :=
  (ix 608 v1).bind fun i1 =>
  (f_MO_opens (m.2.1 27 i1) m).bind fun p2 => 
  (f_MO_agents p2).bind fun r3 =>
  if r3 ≤ v2 then
    f_MO_looksFrom_J58 v1 v2 ((4 * v1) + v2) 32 ((4 * v1) + v2) p2
  else
    (ix 4 v2).bind fun i4 =>
    (f_MO_firstLike 25 (p2.1 25 i4) p2).bind fun r5 =>
    if r5 = v2 then
      (ix 4 v2).bind fun i6 =>
      f_MO_looksFrom_J59 v1 v2 ((4 * v1) + v2) 32 ((4 * v1) + v2) (f_MO_stateOf (p2.1 25 i6)) p2
    else
      f_MO_looksFrom_J58 v1 v2 ((4 * v1) + v2) 32 ((4 * v1) + v2) p2
def f_MO_leadsInto_J39 (v1 : Int32) (v2 : Nat) (v3 : Int32) (m : zM) : Option ((Bool) ⊕ (Int32)) :=
  some (.inr (v3 + 1))
def f_MO_leadsInto_B5 (v1 : Int32) (v2 : Nat) (v3 : Int32) (m : zM) : Option ((Bool) ⊕ (Int32)) :=
  if ((64 * v1) + 64) ≤ v3 then
    some (.inl false)
  else
    (ix 155648 v3).bind fun i1 =>
    if (m.1 31 i1) = (-1) then
      f_MO_leadsInto_J39 v1 v2 v3 m
    else
      (ix 155648 v3).bind fun i2 =>
      (ix (zlen gM v2) (m.1 31 i2)).bind fun i3 =>
      if (m.1 v2 i3) = 0 then
        f_MO_leadsInto_J39 v1 v2 v3 m
      else
        some (.inl true)
def f_MO_leadsInto_L5 (v1 : Int32) (v2 : Nat) (v3 : Int32) (m : zM) : Option (Bool) :=
  zloop (fun s : Int32 => f_MO_leadsInto_B5 v1 v2 s m) FU v3
def f_MO_leadsInto (v1 : Int32) (v2 : Nat) (m : zM) : Option (Bool) :=
  f_MO_leadsInto_L5 v1 v2 (64 * v1) m
def f_MO_spreads_J55 (v1 : Nat) (v2 : Bool) (m : zM) : Option ((zM) ⊕ (Bool × zM)) :=
  some (.inr (v2, m))
def f_MO_spreads_J49 (v1 : Nat) (v2 : Bool) (v3 : Int32) (m : zM) : Option (((zM) ⊕ (Bool × zM)) ⊕ (Bool × Int32 × zM)) :=
  some (.inr (v2, (v3 + (-1)), m))
def f_MO_spreads_B15 (v1 : Nat) (v2 : Bool) (v3 : Int32) (m : zM) : Option (((zM) ⊕ (Bool × zM)) ⊕ (Bool × Int32 × zM)) :=
  if v3 < 0 then
    zl (f_MO_spreads_J55 v1 v2 m)
  else
    (ix (zlen gM v1) v3).bind fun i1 =>
    if (m.1 v1 i1) = 0 then
      (ix 2432 v3).bind fun i2 =>
      if (m.1 34 i2) = 0 then
        f_MO_spreads_J49 v1 v2 v3 m
      else
        (f_MO_leadsInto v3 v1 m).bind fun r3 =>
        if r3 = true then
          (ix (zlen gM v1) v3).bind fun i4 => lt (sI m v1 i4 (b2i true)) fun m5 =>
          f_MO_spreads_J49 v1 true v3 m5
        else
          f_MO_spreads_J49 v1 v2 v3 m
    else
      f_MO_spreads_J49 v1 v2 v3 m
def f_MO_spreads_L15 (v1 : Nat) (v2 : Bool) (v3 : Int32) (m : zM) : Option ((zM) ⊕ (Bool × zM)) :=
  zloop (fun s : Bool × Int32 × zM => f_MO_spreads_B15 v1 s.1 s.2.1 s.2.2) FU (v2, v3, m)
def f_MO_spreads_B2 (v1 : Nat) (v2 : Bool) (m : zM) : Option ((zM) ⊕ (Bool × zM)) :=
  if v2 = true then
    f_MO_spreads_L15 v1 false ((f_MO_lookMany m) - 1) m
  else
    some (.inl m)
def f_MO_spreads_L2 (v1 : Nat) (v2 : Bool) (m : zM) : Option (zM) :=
  zloop (fun s : Bool × zM => f_MO_spreads_B2 v1 s.1 s.2) FU (v2, m)
def f_MO_spreads (v1 : Nat) (m : zM) : Option (zM) :=
  f_MO_spreads_L2 v1 true m
def f_MO_ringsBy_J66 (v1 : Int32) (v2 : Int32) (v4 : Int32) (v5 : Bool) (m : zM) : Option (zM) :=
  if (ir v2 4) = (ir v1 4) then
    (f_MO_ruleOf (v2 / 4) 0 m).bind fun r7 =>
    if r7 = 1 then
      some (m)
    else
      (ix 2432 v4).bind fun i8 =>
      (ix 2432 v4).bind fun i9 => lt (sI m 45 i9 ((m.1 45 i8) ||| (shl 1 (v2 / 4)))) fun m10 =>
      if v5 = true then
        (ix 2432 v4).bind fun i11 =>
        (ix 2432 v4).bind fun i12 => lt (sI m10 46 i12 ((m10.1 46 i11) ||| (shl 1 (v2 / 4)))) fun m13 =>
        some (m13)
      else
        some (m10)
  else
    some (m)
def f_MO_ringsBy_J51 (v1 : Int32) (v2 : Int32) (v4 : Int32) (t0 : Bool) (m : zM) : Option (zM) :=
  if t0 = true then
    (ix 2432 v4).bind fun i5 => lt (sI m 44 i5 (b2i true)) fun m6 =>
    f_MO_ringsBy_J66 v1 v2 v4 t0 m6
  else
    f_MO_ringsBy_J66 v1 v2 v4 t0 m
def f_MO_ringsBy_J50 (v1 : Int32) (v2 : Int32) (v4 : Int32) (m : zM) : Option (zM) :=
  f_MO_ringsBy_J51 v1 v2 v4 false m
def f_MO_ringsBy (v1 : Int32) (v2 : Int32) (m : zM) : Option (zM) :=
  (ix 155648 ((64 * v1) + v2)).bind fun i1 =>
  if (m.1 31 i1) = (-1) then
    some (m)
  else
    (ix 2432 v1).bind fun i2 =>
    (ix 2432 (m.1 31 i1)).bind fun i3 =>
    if (m.1 34 i3) = 0 then
      f_MO_ringsBy_J50 v1 v2 (m.1 37 i2) m
    else
      (ix 2432 (m.1 31 i1)).bind fun i4 =>
      if (m.1 37 i4) = (m.1 37 i2) then
        f_MO_ringsBy_J51 v1 v2 (m.1 37 i2) true m
      else
        f_MO_ringsBy_J50 v1 v2 (m.1 37 i2) m
def f_MO_rings_J146 (v1 : Int32) (m : zM) : Option ((zM) ⊕ (Int32 × zM)) :=
  some (.inr ((v1 + 1), m))
def f_MO_rings_J145 (v1 : Int32) (t0 : Nat) (t1 : Int32) (t2 : Bool) (m : zM) : Option ((zM) ⊕ (Int32 × zM)) :=
  (ix (zlen gM t0) t1).bind fun i13 => lt (sI m t0 i13 (b2i t2)) fun m14 =>
  f_MO_rings_J146 v1 m14
def f_MO_rings_J144 (v1 : Int32) (t0 : Nat) (t1 : Int32) (m : zM) : Option ((zM) ⊕ (Int32 × zM)) :=
  f_MO_rings_J145 v1 t0 t1 false m
def f_MO_rings_B84 (v1 : Int32) (m : zM) : Option ((zM) ⊕ (Int32 × zM)) :=
  if (f_MO_lookMany m) ≤ v1 then
    some (.inl m)
  else
    (ix 2432 v1).bind fun i8 =>
    if (m.1 34 i8) = 0 then
      f_MO_rings_J146 v1 m
    else
      (ix 2432 v1).bind fun i9 =>
      (ix 2432 (m.1 37 i9)).bind fun i10 =>
      if (m.1 44 i10) = 0 then
        f_MO_rings_J144 v1 36 v1 m
      else
        (ix 2432 (m.1 37 i9)).bind fun i11 =>
        (ix 2432 (m.1 37 i9)).bind fun i12 =>
        if ((m.1 45 i11) &&& ((m.1 46 i12) ^^^ (-1))) = 0 then
          f_MO_rings_J145 v1 36 v1 true m
        else
          f_MO_rings_J144 v1 36 v1 m
def f_MO_rings_L84 (v1 : Int32) (m : zM) : Option (zM) :=
  zloop (fun s : Int32 × zM => f_MO_rings_B84 s.1 s.2) FU (v1, m)
def f_MO_rings_J82  (m : zM) : Option (zM) :=
  f_MO_rings_L84 0 m
def f_MO_rings_J76 (v1 : Int32) (m : zM) : Option ((zM) ⊕ (Int32 × zM)) :=
  some (.inr ((v1 + 1), m))
def f_MO_rings_B58 (v1 : Int32) (v2 : Int32) (m : zM) : Option (((zM) ⊕ (Int32 × zM)) ⊕ (Int32 × zM)) :=
  if 64 ≤ v2 then
    zl (f_MO_rings_J76 v1 m)
  else
    (f_MO_ringsBy v1 v2 m).bind fun p15 => 
    some (.inr ((v2 + 1), p15))
def f_MO_rings_L58 (v1 : Int32) (v2 : Int32) (m : zM) : Option ((zM) ⊕ (Int32 × zM)) :=
  zloop (fun s : Int32 × zM => f_MO_rings_B58 v1 s.1 s.2) FU (v2, m)
def f_MO_rings_B39 (v1 : Int32) (m : zM) : Option ((zM) ⊕ (Int32 × zM)) :=
  if (f_MO_lookMany m) ≤ v1 then
    zl (f_MO_rings_J82 m)
  else
    (ix 2432 v1).bind fun i7 =>
    if (m.1 34 i7) = 0 then
      f_MO_rings_J76 v1 m
    else
      f_MO_rings_L58 v1 0 m
def f_MO_rings_L39 (v1 : Int32) (m : zM) : Option (zM) :=
  zloop (fun s : Int32 × zM => f_MO_rings_B39 s.1 s.2) FU (v1, m)
def f_MO_rings_J37  (m : zM) : Option (zM) :=
  f_MO_rings_L39 0 m
def f_MO_rings_B2 (v1 : Int32) (m : zM) : Option ((zM) ⊕ (Int32 × zM)) :=
  if (m.1 0 63) ≤ v1 then
    zl (f_MO_rings_J37 m)
  else
    (ix 2432 v1).bind fun i1 => lt (sI m 44 i1 (b2i false)) fun m2 =>
    (ix 2432 v1).bind fun i3 => lt (sI m2 45 i3 0) fun m4 =>
    (ix 2432 v1).bind fun i5 => lt (sI m4 46 i5 0) fun m6 =>
    some (.inr ((v1 + 1), m6))
def f_MO_rings_L2 (v1 : Int32) (m : zM) : Option (zM) :=
  zloop (fun s : Int32 × zM => f_MO_rings_B2 s.1 s.2) FU (v1, m)
def f_MO_rings  (m : zM) : Option (zM) :=
  f_MO_rings_L2 0 m
def f_MO_looks_J176  (m : zM) : Option (zM) :=
  (f_MO_joins 31 (f_MO_lookMany m) m).bind fun p8 => 
  (f_MO_rings p8).bind fun p9 => 
  (f_MO_spreads 36 p9).bind fun p10 => 
  some (p10)
def f_MO_looks_J162 (v1 : Int32) (v2 : Int32) (t0 : Nat) (t1 : Int32) (t2 : Bool) (m : zM) : Option ((zM) ⊕ (Int32 × zM)) :=
  (ix (zlen gM t0) t1).bind fun i11 => lt (sI m t0 i11 (b2i t2)) fun m12 =>
  (ix 2432 v2).bind fun i13 => lt (sI m12 36 i13 (b2i false)) fun m14 =>
  some (.inr ((v2 + 1), m14))
def f_MO_looks_J161 (v1 : Int32) (v2 : Int32) (t0 : Nat) (t1 : Int32) (m : zM) : Option ((zM) ⊕ (Int32 × zM)) :=
  f_MO_looks_J162 v1 v2 t0 t1 false m
def f_MO_looks_B124 (v1 : Int32) (v2 : Int32) (m : zM) : Option ((zM) ⊕ (Int32 × zM)) :=
  if (f_MO_lookMany m) ≤ v2 then
    zl (f_MO_looks_J176 m)
  else
    (ix 2432 v2).bind fun i6 =>
    if (m.1 32 i6) = (-1) then
      f_MO_looks_J161 v1 v2 34 v2 m
    else
      (ix 2432 v2).bind fun i7 =>
      if (m.1 32 i7) = v1 then
        f_MO_looks_J161 v1 v2 34 v2 m
      else
        f_MO_looks_J162 v1 v2 34 v2 true m
def f_MO_looks_L124 (v1 : Int32) (v2 : Int32) (m : zM) : Option (zM) :=
  zloop (fun s : Int32 × zM => f_MO_looks_B124 v1 s.1 s.2) FU (v2, m)
def f_MO_looks_J114 (v1 : Int32) (m : zM) : Option (zM) :=
  (f_MO_spreads 35 m).bind fun p5 => 
  f_MO_looks_L124 v1 0 p5
def f_MO_looks_J107 (v1 : Int32) (v2 : Int32) (t0 : Nat) (t1 : Int32) (t2 : Bool) (m : zM) : Option ((zM) ⊕ (Int32 × zM)) :=
  (ix (zlen gM t0) t1).bind fun i19 => lt (sI m t0 i19 (b2i t2)) fun m20 =>
  some (.inr ((v2 + 1), m20))
def f_MO_looks_J106 (v1 : Int32) (v2 : Int32) (t0 : Nat) (t1 : Int32) (m : zM) : Option ((zM) ⊕ (Int32 × zM)) :=
  f_MO_looks_J107 v1 v2 t0 t1 false m
def f_MO_looks_J77 (v1 : Int32) (v2 : Int32) (t0 : Nat) (t1 : Int32) (t2 : Bool) (m : zM) : Option ((zM) ⊕ (Int32 × zM)) :=
  (ix (zlen gM t0) t1).bind fun i15 => lt (sI m t0 i15 (b2i t2)) fun m16 =>
  (ix 2432 v2).bind fun i17 =>
  if (m16.1 34 i17) = 0 then
    f_MO_looks_J106 v1 v2 35 v2 m16
  else
    (ix 2432 v2).bind fun i18 =>
    if (m16.1 32 i18) = v1 then
      f_MO_looks_J107 v1 v2 35 v2 true m16
    else
      f_MO_looks_J106 v1 v2 35 v2 m16
def f_MO_looks_B49 (v1 : Int32) (v2 : Int32) (m : zM) : Option ((zM) ⊕ (Int32 × zM)) :=
  if (f_MO_lookMany m) ≤ v2 then
    zl (f_MO_looks_J114 v1 m)
  else
    (ix 2432 v2).bind fun i4 =>
    if (m.1 32 i4) = (-1) then
      f_MO_looks_J77 v1 v2 34 v2 false m
    else
      f_MO_looks_J77 v1 v2 34 v2 true m
def f_MO_looks_L49 (v1 : Int32) (v2 : Int32) (m : zM) : Option (zM) :=
  zloop (fun s : Int32 × zM => f_MO_looks_B49 v1 s.1 s.2) FU (v2, m)
def f_MO_looks_J39  (m : zM) : Option (zM) :=
  (ix 184 7).bind fun i3 =>
  f_MO_looks_L49 (m.1 23 i3) 0 m
def f_MO_looks_B15 (v1 : Int32) (m : zM) : Option ((zM) ⊕ (Int32 × zM)) :=
  if (f_MO_lookMany m) ≤ v1 then
    zl (f_MO_looks_J39 m)
  else
    (f_MO_looksFrom (v1 / 4) (ir v1 4) m).bind fun p2 => 
    some (.inr ((v1 + 1), p2))
def f_MO_looks_L15 (v1 : Int32) (m : zM) : Option (zM) :=
  zloop (fun s : Int32 × zM => f_MO_looks_B15 s.1 s.2) FU (v1, m)
def f_MO_looks  (m : zM) : Option (zM) :=
  if (m.1 0 46) = 0 then
    lt (sI m 0 46 1) fun m1 =>
    f_MO_looks_L15 0 m1
  else
    some (m)
def f_MO_nodeOf (v1 : Int32) (v2 : Int32) (m : zM) : Option (Int32 × zM) :=
  (ix 608 v1).bind fun i1 =>
  (f_MO_opens (m.2.1 27 i1) m).bind fun p2 => 
  (ix 4 v2).bind fun i3 =>
  (f_MO_firstLike 25 (p2.1 25 i3) p2).bind fun r4 =>
  some ((((4 * v1) + r4), p2))
def f_MO_isStarving (v1 : Int32) (v2 : Int32) (m : zM) : Option (Bool × zM) :=
  (ix 184 6).bind fun i1 =>
  if (m.1 23 i1) = (-1) then
    some ((false, m))
  else
    (f_MO_nodeOf v1 v2 m).bind fun p2 => 
    (ix 2432 p2.1).bind fun i3 =>
    (ix 184 6).bind fun i4 =>
    if (p2.2.1 32 i3) = (p2.2.1 23 i4) then
      (ix 2432 p2.1).bind fun i5 =>
      if (p2.2.1 35 i5) = 0 then
        some ((true, p2.2))
      else
        some ((false, p2.2))
    else
      some ((false, p2.2))
def f_MO_isLeftOut (v1 : Int32) (v2 : Int32) (m : zM) : Option (Bool × zM) :=
  (ix 184 6).bind fun i1 =>
  if (m.1 23 i1) = (-1) then
    some ((false, m))
  else
    (f_MO_nodeOf v1 v2 m).bind fun p2 => 
    (ix 2432 p2.1).bind fun i3 =>
    (ix 184 6).bind fun i4 =>
    if (p2.2.1 32 i3) = (p2.2.1 23 i4) then
      (ix 2432 p2.1).bind fun i5 =>
      if (p2.2.1 36 i5) = 0 then
        some ((false, p2.2))
      else
        some ((true, p2.2))
    else
      some ((false, p2.2))
def f_MO_agentHas (v1 : Int32) (v2 : Int32) (m : zM) : Option (Int32) :=
  (ix 4 v1).bind fun i1 =>
  if v2 = 0 then
    some ((f_MO_stateOf (m.1 25 i1)))
  else
  if v2 = 1 then
    some (((f_MO_firstIn (m.1 25 i1)) - 1))
  else
  if v2 = 2 then
    some (((f_MO_secondIn (m.1 25 i1)) - 1))
  else
  some (((f_MO_outOf (m.1 25 i1)) - 1))
def f_MO_agent_J73  (m : zM) : Option (Int32 × zM) :=
  some ((1, m))
def f_MO_agent (v1 : Int32) (v2 : Int32) (v3 : Int32) (m : zM) : Option (Int32 × zM) :=
  (f_MO_isWorld v1 m).bind fun p1 => 
  if p1.1 = true then
    (f_MO_agents p1.2).bind fun r2 =>
    if (f_MO_isIn v2.toInt64 0 ((r2 - 1).toInt64)) = true then
      if (f_MO_isIn v3.toInt64 0 5) = true then
        if v3 ≤ 3 then
          (ix 608 v1).bind fun i3 =>
          (f_MO_opens (p1.2.2.1 27 i3) p1.2).bind fun p4 => 
          (f_MO_agentHas v2 v3 p4).bind fun r5 =>
          some ((r5, p4))
        else
          (f_MO_looks p1.2).bind fun p6 => 
          if v3 = 4 then
            (f_MO_isStarving v1 v2 p6).bind fun p8 => 
            if p8.1 = true then
              f_MO_agent_J73 p8.2
            else
              some ((0, p8.2))
          else
            (f_MO_isLeftOut v1 v2 p6).bind fun p7 => 
            if p7.1 = true then
              f_MO_agent_J73 p7.2
            else
              some ((0, p7.2))
      else
        some (((-1), p1.2))
    else
      some (((-1), p1.2))
  else
    some (((-1), p1.2))
def f_MO_isMove (v1 : Int32) (v2 : Int32) (m : zM) : Option (Bool) :=
  (f_MO_rules m).bind fun r1 =>
  if (f_MO_isIn v1.toInt64 0 ((r1 - 1).toInt64)) = true then
    (f_MO_agents m).bind fun r2 =>
    if (f_MO_isIn v2.toInt64 0 ((r2 - 1).toInt64)) = true then
      some (true)
    else
      some (false)
  else
    some (false)
def f_MO_leads (v1 : Int32) (v2 : Int32) (v3 : Int32) (m : zM) : Option (Int32 × zM) :=
  (f_MO_isWorld v1 m).bind fun p1 => 
  if p1.1 = true then
    (f_MO_isMove v2 v3 p1.2).bind fun r2 =>
    if r2 = true then
      (ix 38912 (((64 * v1) + (4 * v2)) + v3)).bind fun i3 =>
      some (((p1.2.1 30 i3), p1.2))
    else
      some (((-1), p1.2))
  else
    some (((-1), p1.2))
def f_MO_measures_J142 (v2 : Bool) (m : zM) : Option ((zM) ⊕ (Bool × zM)) :=
  some (.inr (v2, m))
def f_MO_measures_J136 (v2 : Bool) (v3 : Int32) (m : zM) : Option (((zM) ⊕ (Bool × zM)) ⊕ (Bool × Int32 × zM)) :=
  some (.inr (v2, (v3 + (-1)), m))
def f_MO_measures_J130 (v2 : Bool) (v3 : Int32) (v4 : Int32) (m : zM) : Option ((((zM) ⊕ (Bool × zM)) ⊕ (Bool × Int32 × zM)) ⊕ (Bool × Int32 × zM)) :=
  some (.inr (v2, (v4 + 1), m))
def f_MO_measures_B59 (v2 : Bool) (v3 : Int32) (v4 : Int32) (m : zM) : Option ((((zM) ⊕ (Bool × zM)) ⊕ (Bool × Int32 × zM)) ⊕ (Bool × Int32 × zM)) :=
  if ((64 * v3) + 64) ≤ v4 then
    zl (f_MO_measures_J136 v2 v3 m)
  else
    (ix 38912 v4).bind fun i1 =>
    if (m.1 30 i1) = (-1) then
      f_MO_measures_J130 v2 v3 v4 m
    else
      (ix 38912 v4).bind fun i2 =>
      (ix 608 (m.1 30 i2)).bind fun i3 =>
      (ix 608 v3).bind fun i4 =>
      if ((m.1 50 i3) + 1) < (m.1 50 i4) then
        (ix 38912 v4).bind fun i5 =>
        (ix 608 (m.1 30 i5)).bind fun i6 =>
        (ix 608 v3).bind fun i7 => lt (sI m 50 i7 ((m.1 50 i6) + 1)) fun m8 =>
        f_MO_measures_J130 true v3 v4 m8
      else
        f_MO_measures_J130 v2 v3 v4 m
def f_MO_measures_L59 (v2 : Bool) (v3 : Int32) (v4 : Int32) (m : zM) : Option (((zM) ⊕ (Bool × zM)) ⊕ (Bool × Int32 × zM)) :=
  zloop (fun s : Bool × Int32 × zM => f_MO_measures_B59 s.1 v3 s.2.1 s.2.2) FU (v2, v4, m)
def f_MO_measures_B49 (v2 : Bool) (v3 : Int32) (m : zM) : Option (((zM) ⊕ (Bool × zM)) ⊕ (Bool × Int32 × zM)) :=
  if v3 < 0 then
    zl (f_MO_measures_J142 v2 m)
  else
    f_MO_measures_L59 v2 v3 (64 * v3) m
def f_MO_measures_L49 (v2 : Bool) (v3 : Int32) (m : zM) : Option ((zM) ⊕ (Bool × zM)) :=
  zloop (fun s : Bool × Int32 × zM => f_MO_measures_B49 s.1 s.2.1 s.2.2) FU (v2, v3, m)
def f_MO_measures_B36 (v2 : Bool) (m : zM) : Option ((zM) ⊕ (Bool × zM)) :=
  if v2 = true then
    f_MO_measures_L49 false ((m.1 0 41) - 1) m
  else
    some (.inl m)
def f_MO_measures_L36 (v2 : Bool) (m : zM) : Option (zM) :=
  zloop (fun s : Bool × zM => f_MO_measures_B36 s.1 s.2) FU (v2, m)
def f_MO_measures_J34  (m : zM) : Option (zM) :=
  f_MO_measures_L36 true m
def f_MO_measures_J27 (v1 : Int32) (v2 : Int32) (t0 : Nat) (t1 : Int32) (t2 : Int32) (m : zM) : Option ((zM) ⊕ (Int32 × zM)) :=
  (ix (zlen gM t0) t1).bind fun i9 => lt (sI m t0 i9 t2) fun m10 =>
  some (.inr ((v2 + 1), m10))
def f_MO_measures_B2 (v1 : Int32) (v2 : Int32) (m : zM) : Option ((zM) ⊕ (Int32 × zM)) :=
  if (m.1 0 41) ≤ v2 then
    zl (f_MO_measures_J34 m)
  else
    if v2 = v1 then
      f_MO_measures_J27 v1 v2 50 v2 0 m
    else
      f_MO_measures_J27 v1 v2 50 v2 100000 m
def f_MO_measures_L2 (v1 : Int32) (v2 : Int32) (m : zM) : Option (zM) :=
  zloop (fun s : Int32 × zM => f_MO_measures_B2 v1 s.1 s.2) FU (v2, m)
def f_MO_measures (v1 : Int32) (m : zM) : Option (zM) :=
  f_MO_measures_L2 v1 0 m
def f_MO_foldedOf_J38  (m : zM) : Option (Int32 × zM) :=
  (f_MO_folds m).bind fun p6 => 
  (f_MO_shut p6).bind fun r7 =>
  (f_MO_found r7 p6).bind fun r8 =>
  some ((r8, p6))
def f_MO_foldedOf_B15 (v3 : Int32) (m : zM) : Option ((Int32 × zM) ⊕ (Int32 × zM)) :=
  if 4 ≤ v3 then
    zl (f_MO_foldedOf_J38 m)
  else
    (ix 4 v3).bind fun i3 =>
    (ix 4 v3).bind fun i4 => lt (sI m 26 i4 (m.1 25 i3)) fun m5 =>
    some (.inr ((v3 + 1), m5))
def f_MO_foldedOf_L15 (v3 : Int32) (m : zM) : Option (Int32 × zM) :=
  zloop (fun s : Int32 × zM => f_MO_foldedOf_B15 s.1 s.2) FU (v3, m)
def f_MO_foldedOf (v1 : Int64) (m : zM) : Option (Int32 × zM) :=
  (f_MO_opens v1 m).bind fun p1 => 
  lt (sI p1 0 38 (p1.1 0 36)) fun m2 =>
  f_MO_foldedOf_L15 0 m2
def f_MO_nearer_J73 (v1 : Int64) (v3 : Int32) (v4 : Int32) (m : zM) : Option ((Int32 × zM) ⊕ (Int32 × zM)) :=
  some (.inr ((v4 + 1), m))
def f_MO_nearer_J59 (v4 : Int32) (v5 : Int32) (m : zM) : Option (Int32 × zM) :=
  some ((((4 * v4) + v5), m))
def f_MO_nearer_J67 (v1 : Int64) (v3 : Int32) (v4 : Int32) (v5 : Int32) (m : zM) : Option (((Int32 × zM) ⊕ (Int32 × zM)) ⊕ (Int32 × zM)) :=
  some (.inr ((v5 + 1), m))
def f_MO_nearer_B15 (v1 : Int64) (v3 : Int32) (v4 : Int32) (v5 : Int32) (m : zM) : Option (((Int32 × zM) ⊕ (Int32 × zM)) ⊕ (Int32 × zM)) :=
  (f_MO_agents m).bind fun r2 =>
  if r2 ≤ v5 then
    zl (f_MO_nearer_J73 v1 v3 v4 m)
  else
    (f_MO_opens v1 m).bind fun p3 => 
    (f_MO_isMoved v4 v5 p3).bind fun p4 => 
    if p4.1 = true then
      (f_MO_shut p4.2).bind fun r5 =>
      (f_MO_foldedOf r5 p4.2).bind fun p6 => 
      (ix 608 p6.1).bind fun i7 =>
      if (p6.2.1 50 i7) = (v3 - 1) then
        zl (zl (f_MO_nearer_J59 v4 v5 p6.2))
      else
        f_MO_nearer_J67 v1 v3 v4 v5 p6.2
    else
      f_MO_nearer_J67 v1 v3 v4 v5 p4.2
def f_MO_nearer_L15 (v1 : Int64) (v3 : Int32) (v4 : Int32) (v5 : Int32) (m : zM) : Option ((Int32 × zM) ⊕ (Int32 × zM)) :=
  zloop (fun s : Int32 × zM => f_MO_nearer_B15 v1 v3 v4 s.1 s.2) FU (v5, m)
def f_MO_nearer_B3 (v1 : Int64) (v3 : Int32) (v4 : Int32) (m : zM) : Option ((Int32 × zM) ⊕ (Int32 × zM)) :=
  (f_MO_rules m).bind fun r1 =>
  if r1 ≤ v4 then
    some (.inl ((-1), m))
  else
    f_MO_nearer_L15 v1 v3 v4 0 m
def f_MO_nearer_L3 (v1 : Int64) (v3 : Int32) (v4 : Int32) (m : zM) : Option (Int32 × zM) :=
  zloop (fun s : Int32 × zM => f_MO_nearer_B3 v1 v3 s.1 s.2) FU (v4, m)
def f_MO_nearer (v1 : Int64) (v3 : Int32) (m : zM) : Option (Int32 × zM) :=
  f_MO_nearer_L3 v1 v3 0 m
def f_MO_way_J133 (v3 : Int32) (v6 : Int32) (m : zM) : Option (Int32 × zM) :=
  if v3 = 0 then
    some (((v6 / 4), m))
  else
    some (((ir v6 4), m))
def f_MO_way_B79 (v1 : Int32) (v2 : Int32) (v3 : Int32) (v4 : Int64) (v6 : Int32) (v7 : Int32) (m : zM) : Option ((Int32 × zM) ⊕ (Int64 × Int32 × Int32 × zM)) :=
  if v2 < v7 then
    zl (f_MO_way_J133 v3 v6 m)
  else
    (ix 608 v1).bind fun i6 =>
    (f_MO_nearer v4 ((m.1 28 i6) - v7) m).bind fun p7 => 
    (f_MO_opens v4 p7.2).bind fun p8 => 
    (f_MO_isMoved (p7.1 / 4) (ir p7.1 4) p8).bind fun p9 => 
    (f_MO_shut p9.2).bind fun r10 =>
    some (.inr (r10, p7.1, (v7 + 1), p9.2))
def f_MO_way_L79 (v1 : Int32) (v2 : Int32) (v3 : Int32) (v4 : Int64) (v6 : Int32) (v7 : Int32) (m : zM) : Option (Int32 × zM) :=
  zloop (fun s : Int64 × Int32 × Int32 × zM => f_MO_way_B79 v1 v2 v3 s.1 s.2.1 s.2.2.1 s.2.2.2) FU (v4, v6, v7, m)
def f_MO_way (v1 : Int32) (v2 : Int32) (v3 : Int32) (m : zM) : Option (Int32 × zM) :=
  (f_MO_isWorld v1 m).bind fun p1 => 
  if p1.1 = true then
    if v2 = (-1) then
      if v3 = 0 then
        (ix 608 v1).bind fun i5 =>
        some (((p1.2.1 28 i5), p1.2))
      else
        some (((-1), p1.2))
    else
      (ix 608 v1).bind fun i2 =>
      if (f_MO_isIn v2.toInt64 0 (((p1.2.1 28 i2) - 1).toInt64)) = true then
        if (f_MO_isIn v3.toInt64 0 1) = true then
          (f_MO_measures v1 p1.2).bind fun p3 => 
          (ix 608 0).bind fun i4 =>
          f_MO_way_L79 v1 v2 v3 (p3.2.1 27 i4) (-1) 0 p3
        else
          some (((-1), p1.2))
      else
        some (((-1), p1.2))
  else
    some (((-1), p1.2))
def f_MO_wantingIn_J44 (v1 : Int32) (v2 : Int32) (v3 : Int32) (v4 : Int32) (m : zM) : Option ((Int32 × zM) ⊕ (Int32 × Int32 × zM)) :=
  some (.inr (v3, (v4 + 1), m))
def f_MO_wantingIn_J41 (v1 : Int32) (v2 : Int32) (v3 : Int32) (v4 : Int32) (m : zM) : Option ((Int32 × zM) ⊕ (Int32 × Int32 × zM)) :=
  f_MO_wantingIn_J44 v1 v2 (v3 + 1) v4 m
def f_MO_wantingIn_B5 (v1 : Int32) (v2 : Int32) (v3 : Int32) (v4 : Int32) (m : zM) : Option ((Int32 × zM) ⊕ (Int32 × Int32 × zM)) :=
  (f_MO_agents m).bind fun r1 =>
  if r1 ≤ v4 then
    some (.inl (v3, m))
  else
    if v2 = 0 then
      (f_MO_isStarving v1 v4 m).bind fun p3 => 
      if p3.1 = true then
        f_MO_wantingIn_J41 v1 v2 v3 v4 p3.2
      else
        f_MO_wantingIn_J44 v1 v2 v3 v4 p3.2
    else
      (f_MO_isLeftOut v1 v4 m).bind fun p2 => 
      if p2.1 = true then
        f_MO_wantingIn_J41 v1 v2 v3 v4 p2.2
      else
        f_MO_wantingIn_J44 v1 v2 v3 v4 p2.2
def f_MO_wantingIn_L5 (v1 : Int32) (v2 : Int32) (v3 : Int32) (v4 : Int32) (m : zM) : Option (Int32 × zM) :=
  zloop (fun s : Int32 × Int32 × zM => f_MO_wantingIn_B5 v1 v2 s.1 s.2.1 s.2.2) FU (v3, v4, m)
def f_MO_wantingIn (v1 : Int32) (v2 : Int32) (m : zM) : Option (Int32 × zM) :=
  f_MO_wantingIn_L5 v1 v2 0 0 m
def f_MO_isFirst (v1 : Int32) (v2 : Int32) (m : zM) : Option (Bool × zM) :=
  if v2 = 0 then
    (ix 608 v1).bind fun i3 =>
    (f_MO_isBad (m.2.1 27 i3) m).bind fun p4 => 
    some ((p4.1, p4.2))
  else
    if v2 = 1 then
      (f_MO_movesFrom v1 m).bind fun r2 =>
      if r2 = 0 then
        some ((true, m))
      else
        some ((false, m))
    else
      (f_MO_wantingIn v1 (v2 - 2) m).bind fun p1 => 
      if p1.1 ≤ 0 then
        some ((false, p1.2))
      else
        some ((true, p1.2))
def f_MO_first_B32 (v1 : Int32) (v2 : Int32) (m : zM) : Option ((Int32 × zM) ⊕ (Int32 × zM)) :=
  if (m.1 0 41) ≤ v2 then
    some (.inl ((-1), m))
  else
    (f_MO_isFirst v2 v1 m).bind fun p3 => 
    if p3.1 = true then
      some (.inl (v2, p3.2))
    else
      some (.inr ((v2 + 1), p3.2))
def f_MO_first_L32 (v1 : Int32) (v2 : Int32) (m : zM) : Option (Int32 × zM) :=
  zloop (fun s : Int32 × zM => f_MO_first_B32 v1 s.1 s.2) FU (v2, m)
def f_MO_first_J30 (v1 : Int32) (m : zM) : Option (Int32 × zM) :=
  f_MO_first_L32 v1 0 m
def f_MO_first (v1 : Int32) (m : zM) : Option (Int32 × zM) :=
  (f_MO_isAsked m).bind fun p1 => 
  if p1.1 = true then
    if (f_MO_isIn v1.toInt64 0 3) = true then
      if v1 ≤ 1 then
        f_MO_first_J30 v1 p1.2
      else
        (f_MO_looks p1.2).bind fun p2 => 
        f_MO_first_J30 v1 p2
    else
      some (((-1), p1.2))
  else
    some (((-1), p1.2))
def f_MO_returns_J46 (v1 : Int32) (v2 : Int32) (m : zM) : Option ((Int32 × zM) ⊕ (Int32 × Int32 × zM)) :=
  some (.inr (v1, (v2 + 1), m))
def f_MO_returns_B18 (v1 : Int32) (v2 : Int32) (m : zM) : Option ((Int32 × zM) ⊕ (Int32 × Int32 × zM)) :=
  if (m.1 0 41) ≤ v2 then
    some (.inl (v1, m))
  else
    (ix 608 v2).bind fun i3 =>
    if 100000 ≤ (m.1 50 i3) then
      f_MO_returns_J46 v1 v2 m
    else
      (f_MO_copies v2 m).bind fun p4 => 
      f_MO_returns_J46 (v1 + p4.1) v2 p4.2
def f_MO_returns_L18 (v1 : Int32) (v2 : Int32) (m : zM) : Option (Int32 × zM) :=
  zloop (fun s : Int32 × Int32 × zM => f_MO_returns_B18 s.1 s.2.1 s.2.2) FU (v1, v2, m)
def f_MO_returns  (m : zM) : Option (Int32 × zM) :=
  (f_MO_isAsked m).bind fun p1 => 
  if p1.1 = true then
    (f_MO_measures 0 p1.2).bind fun p2 => 
    f_MO_returns_L18 0 0 p2
  else
    some (((-1), p1.2))
def f_MO_wantingAll_B8 (v1 : Int32) (v2 : Int32) (v3 : Int32) (m : zM) : Option ((Int32 × zM) ⊕ (Int32 × Int32 × zM)) :=
  if (m.1 0 41) ≤ v3 then
    some (.inl (v2, m))
  else
    (f_MO_copies v3 m).bind fun p2 => 
    (f_MO_wantingIn v3 v1 p2.2).bind fun p3 => 
    some (.inr ((v2 + (p2.1 * p3.1)), (v3 + 1), p3.2))
def f_MO_wantingAll_L8 (v1 : Int32) (v2 : Int32) (v3 : Int32) (m : zM) : Option (Int32 × zM) :=
  zloop (fun s : Int32 × Int32 × zM => f_MO_wantingAll_B8 v1 s.1 s.2.1 s.2.2) FU (v2, v3, m)
def f_MO_wantingAll (v1 : Int32) (m : zM) : Option (Int32 × zM) :=
  (f_MO_looks m).bind fun p1 => 
  f_MO_wantingAll_L8 v1 0 0 p1
def f_MO_starving (v1 : Int32) (m : zM) : Option (Int32 × zM) :=
  (f_MO_isAsked m).bind fun p1 => 
  if p1.1 = true then
    if (f_MO_isIn v1.toInt64 0 1) = true then
      (f_MO_wantingAll v1 p1.2).bind fun p2 => 
      some ((p2.1, p2.2))
    else
      some (((-1), p1.2))
  else
    some (((-1), p1.2))
def f_MO_uses_J80 (v1 : Int32) (v2 : Int32) (v3 : Int32) (m : zM) : Option ((Int32 × zM) ⊕ (Int32 × Int32 × zM)) :=
  some (.inr (v2, (v3 + 1), m))
def f_MO_uses_J74 (v1 : Int32) (v2 : Int32) (v3 : Int32) (v4 : Int32) (m : zM) : Option (((Int32 × zM) ⊕ (Int32 × Int32 × zM)) ⊕ (Int32 × Int32 × zM)) :=
  some (.inr (v2, (v4 + 1), m))
def f_MO_uses_B40 (v1 : Int32) (v2 : Int32) (v3 : Int32) (v4 : Int32) (m : zM) : Option (((Int32 × zM) ⊕ (Int32 × Int32 × zM)) ⊕ (Int32 × Int32 × zM)) :=
  if 4 ≤ v4 then
    zl (f_MO_uses_J80 v1 v2 v3 m)
  else
    (ix 38912 (((64 * v3) + (4 * v1)) + v4)).bind fun i3 =>
    if (m.1 30 i3) = (-1) then
      f_MO_uses_J74 v1 v2 v3 v4 m
    else
      (f_MO_copies v3 m).bind fun p4 => 
      f_MO_uses_J74 v1 (v2 + p4.1) v3 v4 p4.2
def f_MO_uses_L40 (v1 : Int32) (v2 : Int32) (v3 : Int32) (v4 : Int32) (m : zM) : Option ((Int32 × zM) ⊕ (Int32 × Int32 × zM)) :=
  zloop (fun s : Int32 × Int32 × zM => f_MO_uses_B40 v1 s.1 v3 s.2.1 s.2.2) FU (v2, v4, m)
def f_MO_uses_B29 (v1 : Int32) (v2 : Int32) (v3 : Int32) (m : zM) : Option ((Int32 × zM) ⊕ (Int32 × Int32 × zM)) :=
  if (m.1 0 41) ≤ v3 then
    some (.inl (v2, m))
  else
    f_MO_uses_L40 v1 v2 v3 0 m
def f_MO_uses_L29 (v1 : Int32) (v2 : Int32) (v3 : Int32) (m : zM) : Option (Int32 × zM) :=
  zloop (fun s : Int32 × Int32 × zM => f_MO_uses_B29 v1 s.1 s.2.1 s.2.2) FU (v2, v3, m)
def f_MO_uses (v1 : Int32) (m : zM) : Option (Int32 × zM) :=
  (f_MO_isAsked m).bind fun p1 => 
  if p1.1 = true then
    (f_MO_rules p1.2).bind fun r2 =>
    if (f_MO_isIn v1.toInt64 0 ((r2 - 1).toInt64)) = true then
      f_MO_uses_L29 v1 0 0 p1.2
    else
      some (((-1), p1.2))
  else
    some (((-1), p1.2))
def f_MO_withoutOf_J35 (t1 : Int32) (m : zM) : Option (Int32 × zM) :=
  (f_MO_sumOf t1 m).bind fun p2 => 
  some ((p2.1, p2.2))
def f_MO_withoutOf (v1 : Int32) (m : zM) : Option (Int32 × zM) :=
  if v1 = 0 then
    some (((m.1 0 41), m))
  else
    if v1 = 4 then
      (f_MO_wantingAll 0 m).bind fun p1 => 
      some ((p1.1, p1.2))
    else
      if v1 = 1 then
        f_MO_withoutOf_J35 0 m
      else
        f_MO_withoutOf_J35 v1 m
def f_MO_without (v1 : Int32) (v2 : Int32) (m : zM) : Option (Int32 × zM) :=
  if (m.1 0 33) = 0 then
    some (((-1), m))
  else
    (f_MO_rules m).bind fun r1 =>
    if (f_MO_isIn v1.toInt64 0 ((r1 - 1).toInt64)) = true then
      if (f_MO_isIn v2.toInt64 0 4) = true then
        (f_MO_atlas v1 m).bind fun p2 => 
        (f_MO_withoutOf v2 p2).bind fun p3 => 
        some ((p3.1, p3.2))
      else
        some (((-1), m))
    else
      some (((-1), m))
def f_MO_isBetter_J23 (v1 : Int32) (v2 : Int32) (m : zM) : Option (Bool × zM) :=
  (ix 5 v1).bind fun i3 =>
  if (m.1 51 i3) ≤ v2 then
    some ((false, m))
  else
    some ((true, m))
def f_MO_isBetter_B2 (v1 : Int32) (m : zM) : Option ((Bool × zM) ⊕ (Int32 × zM)) :=
  if 5 ≤ v1 then
    some (.inl (false, m))
  else
    (f_MO_withoutOf v1 m).bind fun p1 => 
    (ix 5 v1).bind fun i2 =>
    if p1.1 = (p1.2.1 51 i2) then
      some (.inr ((v1 + 1), p1.2))
    else
      zl (f_MO_isBetter_J23 v1 p1.1 p1.2)
def f_MO_isBetter_L2 (v1 : Int32) (m : zM) : Option (Bool × zM) :=
  zloop (fun s : Int32 × zM => f_MO_isBetter_B2 s.1 s.2) FU (v1, m)
def f_MO_isBetter  (m : zM) : Option (Bool × zM) :=
  f_MO_isBetter_L2 2 m
def f_MO_mend_J74 (v1 : Int32) (v2 : Int32) (m : zM) : Option ((Int32 × zM) ⊕ (Int32 × Int32 × zM)) :=
  some (.inr (v1, (v2 + 1), m))
def f_MO_mend_B52 (v1 : Int32) (v2 : Int32) (v3 : Int32) (m : zM) : Option (((Int32 × zM) ⊕ (Int32 × Int32 × zM)) ⊕ (Int32 × zM)) :=
  if 5 ≤ v3 then
    zl (f_MO_mend_J74 v1 v2 m)
  else
    (f_MO_withoutOf v3 m).bind fun p5 => 
    (ix 5 v3).bind fun i6 => lt (sI p5.2 51 i6 p5.1) fun m7 =>
    some (.inr ((v3 + 1), m7))
def f_MO_mend_L52 (v1 : Int32) (v2 : Int32) (v3 : Int32) (m : zM) : Option ((Int32 × zM) ⊕ (Int32 × Int32 × zM)) :=
  zloop (fun s : Int32 × zM => f_MO_mend_B52 v1 v2 s.1 s.2) FU (v3, m)
def f_MO_mend_J48 (v2 : Int32) (m : zM) : Option ((Int32 × zM) ⊕ (Int32 × Int32 × zM)) :=
  f_MO_mend_L52 v2 v2 2 m
def f_MO_mend_B20 (v1 : Int32) (v2 : Int32) (m : zM) : Option ((Int32 × zM) ⊕ (Int32 × Int32 × zM)) :=
  (f_MO_rules m).bind fun r2 =>
  if r2 ≤ v2 then
    some (.inl (v1, m))
  else
    (f_MO_atlas v2 m).bind fun p3 => 
    if v1 = (-1) then
      f_MO_mend_J48 v2 p3
    else
      (f_MO_isBetter p3).bind fun p4 => 
      if p4.1 = true then
        f_MO_mend_J48 v2 p4.2
      else
        f_MO_mend_J74 v1 v2 p4.2
def f_MO_mend_L20 (v1 : Int32) (v2 : Int32) (m : zM) : Option (Int32 × zM) :=
  zloop (fun s : Int32 × Int32 × zM => f_MO_mend_B20 s.1 s.2.1 s.2.2) FU (v1, v2, m)
def f_MO_mend  (m : zM) : Option (Int32 × zM) :=
  if (m.1 0 33) = 0 then
    some (((-1), m))
  else
    (f_MO_rules m).bind fun r1 =>
    if r1 = 0 then
      some (((-1), m))
    else
      f_MO_mend_L20 (-1) 0 m
def f_MO_undo  (m : zM) : Option (Bool × zM) :=
  if (m.1 0 74) = 0 then
    (f_MO_isRefused 4 m).bind fun p5 => 
    some ((p5.1, p5.2))
  else
    (ix 20 (m.1 0 75)).bind fun i1 =>
    lt (sJ m 0 72 (m.2.1 52 i1)) fun m2 =>
    lt (sI m2 0 75 (ir (((m2.1 0 75) + 20) - 1) 20)) fun m3 =>
    lt (sI m3 0 74 ((m3.1 0 74) - 1)) fun m4 =>
    some ((true, m4))
def f_MO_now_J42 (v1 : Int32) (v2 : Int32) (t0 : Int64) (t1 : Int64) (t2 : Int64) (m : zM) : Option (Int32 × zM) :=
  if (f_MO_isIn t0 t1 t2) = true then
    (f_MO_opens (m.2.1 0 72) m).bind fun p3 => 
    if v1 = (-1) then
      if v2 = 0 then
        some (((p3.1 0 36), p3))
      else
        if v2 = 1 then
          (f_MO_foldedOf (p3.2.1 0 72) p3).bind fun p5 => 
          some ((p5.1, p5.2))
        else
          (f_MO_isBad (p3.2.1 0 72) p3).bind fun p4 => 
          if p4.1 = true then
            some ((1, p4.2))
          else
            some ((0, p4.2))
    else
      (f_MO_agentHas v1 v2 p3).bind fun r6 =>
      some ((r6, p3))
  else
    some (((-1), m))
def f_MO_now (v1 : Int32) (v2 : Int32) (m : zM) : Option (Int32 × zM) :=
  (f_MO_isAsked m).bind fun p1 => 
  if p1.1 = true then
    (f_MO_agents p1.2).bind fun r2 =>
    if (f_MO_isIn v1.toInt64 (-1) ((r2 - 1).toInt64)) = true then
      if v1 = (-1) then
        f_MO_now_J42 v1 v2 v2.toInt64 0 2 p1.2
      else
        f_MO_now_J42 v1 v2 v2.toInt64 0 3 p1.2
    else
      some (((-1), p1.2))
  else
    some (((-1), p1.2))
def f_MO_can (v1 : Int32) (v2 : Int32) (m : zM) : Option (Int32 × zM) :=
  (f_MO_isAsked m).bind fun p1 => 
  if p1.1 = true then
    (f_MO_isMove v1 v2 p1.2).bind fun r2 =>
    if r2 = true then
      (f_MO_opens (p1.2.2.1 0 72) p1.2).bind fun p3 => 
      (f_MO_isMoved v1 v2 p3).bind fun p4 => 
      if p4.1 = true then
        some ((1, p4.2))
      else
        some ((0, p4.2))
    else
      some (((-1), p1.2))
  else
    some (((-1), p1.2))
def f_MO_keeps  (m : zM) : Option (zM) :=
  lt (sI m 0 75 (ir ((m.1 0 75) + 1) 20)) fun m1 =>
  (ix 20 (m1.1 0 75)).bind fun i2 => lt (sJ m1 52 i2 (m1.2.1 0 72)) fun m3 =>
  if 20 ≤ (m3.1 0 74) then
    some (m3)
  else
    lt (sI m3 0 74 ((m3.1 0 74) + 1)) fun m4 =>
    some (m4)
def f_MO_move (v1 : Int32) (v2 : Int32) (m : zM) : Option (Int32 × zM) :=
  (f_MO_can v1 v2 m).bind fun p1 => 
  if p1.1 = 1 then
    (f_MO_keeps p1.2).bind fun p2 => 
    (f_MO_shut p2).bind fun r3 =>
    lt (sJ p2 0 72 r3) fun m4 =>
    (f_MO_foldedOf (m4.2.1 0 72) m4).bind fun p5 => 
    some ((p5.1, p5.2))
  else
    (f_MO_refuses 2 p1.2).bind fun p6 => 
    some ((p6.1, p6.2))
def f_MO_jump (v1 : Int32) (m : zM) : Option (Bool × zM) :=
  (f_MO_isWorld v1 m).bind fun p1 => 
  if p1.1 = true then
    (f_MO_keeps p1.2).bind fun p2 => 
    (ix 608 v1).bind fun i3 =>
    lt (sJ p2 0 72 (p2.2.1 27 i3)) fun m4 =>
    some ((true, m4))
  else
    (f_MO_isRefused 2 p1.2).bind fun p5 => 
    some ((p5.1, p5.2))
def f_MO_seed (v1 : Int32) (m : zM) : Option (Bool × zM) :=
  if 0 ≤ v1 then
    lt (sJ m 0 76 v1.toInt64) fun m1 =>
    some ((true, m1))
  else
    (f_MO_isRefused 5 m).bind fun p2 => 
    some ((p2.1, p2.2))
def f_MO_movesOfWalk_J70 (v1 : Int32) (v2 : Int32) (v3 : Int32) (m : zM) : Option ((Int32 × zM) ⊕ (Int32 × Int32 × zM)) :=
  some (.inr (v2, (v3 + 1), m))
def f_MO_movesOfWalk_J67 (v1 : Int32) (v2 : Int32) (v3 : Int32) (m : zM) : Option ((Int32 × zM) ⊕ (Int32 × Int32 × zM)) :=
  f_MO_movesOfWalk_J70 v1 (v2 + 1) v3 m
def f_MO_movesOfWalk_B12 (v1 : Int32) (v2 : Int32) (v3 : Int32) (m : zM) : Option ((Int32 × zM) ⊕ (Int32 × Int32 × zM)) :=
  if 64 ≤ v3 then
    some (.inl (v2, m))
  else
    (f_MO_rules m).bind fun r2 =>
    if r2 ≤ (v3 / 4) then
      f_MO_movesOfWalk_J70 v1 v2 v3 m
    else
      (f_MO_agents m).bind fun r3 =>
      if r3 ≤ (ir v3 4) then
        f_MO_movesOfWalk_J70 v1 v2 v3 m
      else
        (f_MO_isMoved (v3 / 4) (ir v3 4) m).bind fun p4 => 
        if p4.1 = true then
          if v2 = v1 then
            (f_MO_shut p4.2).bind fun r5 =>
            lt (sJ p4.2 0 72 r5) fun m6 =>
            f_MO_movesOfWalk_J67 v1 v2 v3 m6
          else
            f_MO_movesOfWalk_J67 v1 v2 v3 p4.2
        else
          f_MO_movesOfWalk_J70 v1 v2 v3 p4.2
def f_MO_movesOfWalk_L12 (v1 : Int32) (v2 : Int32) (v3 : Int32) (m : zM) : Option (Int32 × zM) :=
  zloop (fun s : Int32 × Int32 × zM => f_MO_movesOfWalk_B12 v1 s.1 s.2.1 s.2.2) FU (v2, v3, m)
def f_MO_movesOfWalk (v1 : Int32) (m : zM) : Option (Int32 × zM) :=
  (f_MO_opens (m.2.1 0 72) m).bind fun p1 => 
  f_MO_movesOfWalk_L12 v1 0 0 p1
def f_MO_drawOf (v1 : Int32) (m : zM) : Option (Int32 × zM) :=
  lt (sJ m 0 76 (irl ((1103515245 * (m.2.1 0 76)) + 12345) 2147483648)) fun m1 =>
  (nzl v1.toInt64).bind fun _ =>
  some ((((irl ((m1.2.1 0 76) / 64) v1.toInt64).toInt32), m1))
def f_MO_chance_B37 (v1 : Int32) (v2 : Int32) (v3 : Int32) (m : zM) : Option ((Int32 × zM) ⊕ (Int32 × Int32 × zM)) :=
  if v1 ≤ v2 then
    some (.inl (v2, m))
  else
    if v3 ≤ 0 then
      some (.inl (v2, m))
    else
      (f_MO_drawOf v3 m).bind fun p4 => 
      (f_MO_movesOfWalk p4.1 p4.2).bind fun p5 => 
      (f_MO_movesOfWalk (-1) p5.2).bind fun p6 => 
      some (.inr ((v2 + 1), p6.1, p6.2))
def f_MO_chance_L37 (v1 : Int32) (v2 : Int32) (v3 : Int32) (m : zM) : Option (Int32 × zM) :=
  zloop (fun s : Int32 × Int32 × zM => f_MO_chance_B37 v1 s.1 s.2.1 s.2.2) FU (v2, v3, m)
def f_MO_chance_J19  (m : zM) : Option (Int32 × zM) :=
  (f_MO_refuses 3 m).bind fun p7 => 
  some ((p7.1, p7.2))
def f_MO_chance (v1 : Int32) (m : zM) : Option (Int32 × zM) :=
  (f_MO_isAsked m).bind fun p1 => 
  if p1.1 = true then
    if (f_MO_isIn v1.toInt64 1 100) = true then
      (f_MO_keeps p1.2).bind fun p2 => 
      (f_MO_movesOfWalk (-1) p2).bind fun p3 => 
      f_MO_chance_L37 v1 0 p3.1 p3.2
    else
      f_MO_chance_J19 p1.2
  else
    f_MO_chance_J19 p1.2
def f_MO_see_J146 (v1 : Int32) (v2 : Int32) (m : zM) : Option (Int32 × zM) :=
  lt (sI m 0 77 (v2 / 2)) fun m9 =>
  lt (sI m9 0 78 v1) fun m10 =>
  some (((m10.1 0 77), m10))
def f_MO_see_B120 (v1 : Int32) (v2 : Int32) (v4 : Int32) (m : zM) : Option ((Int32 × zM) ⊕ (Int32 × zM)) :=
  if v2 ≤ v4 then
    zl (f_MO_see_J146 v1 v2 m)
  else
    (ix 1600 v4).bind fun i6 =>
    (ix 12 v4).bind fun i7 => lt (sI m 53 i7 (m.1 1 i6)) fun m8 =>
    some (.inr ((v4 + 1), m8))
def f_MO_see_L120 (v1 : Int32) (v2 : Int32) (v4 : Int32) (m : zM) : Option (Int32 × zM) :=
  zloop (fun s : Int32 × zM => f_MO_see_B120 v1 v2 s.1 s.2) FU (v4, m)
def f_MO_see_J107 (v1 : Int32) (v2 : Int32) (v3 : Bool) (m : zM) : Option (Int32 × zM) :=
  if v3 = true then
    f_MO_see_L120 v1 v2 0 m
  else
    (f_MO_refuses 1 m).bind fun p5 => 
    some ((p5.1, p5.2))
def f_MO_see_J100 (v1 : Int32) (v2 : Int32) (v4 : Int32) (t0 : Bool) (m : zM) : Option ((Int32 × zM) ⊕ (Bool × Int32)) :=
  some (.inr (t0, (v4 + 2)))
def f_MO_see_J99 (v1 : Int32) (v2 : Int32) (v4 : Int32) (m : zM) : Option ((Int32 × zM) ⊕ (Bool × Int32)) :=
  f_MO_see_J100 v1 v2 v4 false m
def f_MO_see_B56 (v1 : Int32) (v2 : Int32) (v3 : Bool) (v4 : Int32) (m : zM) : Option ((Int32 × zM) ⊕ (Bool × Int32)) :=
  if v2 ≤ v4 then
    zl (f_MO_see_J107 v1 v2 v3 m)
  else
    if v3 = true then
      (ix 1600 v4).bind fun i2 =>
      (ix 184 0).bind fun i3 =>
      if (m.1 23 i3) ≤ (m.1 1 i2) then
        f_MO_see_J99 v1 v2 v4 m
      else
        (ix 1600 (v4 + 1)).bind fun i4 =>
        if 4 < (m.1 1 i4) then
          f_MO_see_J99 v1 v2 v4 m
        else
          f_MO_see_J100 v1 v2 v4 true m
    else
      zl (f_MO_see_J107 v1 v2 v3 m)
def f_MO_see_L56 (v1 : Int32) (v2 : Int32) (v3 : Bool) (v4 : Int32) (m : zM) : Option (Int32 × zM) :=
  zloop (fun s : Bool × Int32 => f_MO_see_B56 v1 v2 s.1 s.2 m) FU (v3, v4)
def f_MO_see_J52 (v1 : Int32) (v2 : Int32) (t0 : Bool) (m : zM) : Option (Int32 × zM) :=
  f_MO_see_L56 v1 v2 t0 0 m
def f_MO_see_J51 (v1 : Int32) (v2 : Int32) (m : zM) : Option (Int32 × zM) :=
  f_MO_see_J52 v1 v2 false m
def f_MO_see (v1 : Int32) (m : zM) : Option (Int32 × zM) :=
  lt (sI m 0 1 0) fun m1 =>
  if (m1.1 0 33) = 0 then
    f_MO_see_J51 v1 (m.1 0 1) m1
  else
    if (f_MO_isIn v1.toInt64 0 6) = true then
      if (m.1 0 1) ≤ 0 then
        f_MO_see_J51 v1 (m.1 0 1) m1
      else
        if (ir (m.1 0 1) 2) = 0 then
          if 6 < ((m.1 0 1) / 2) then
            f_MO_see_J51 v1 (m.1 0 1) m1
          else
            f_MO_see_J52 v1 (m.1 0 1) true m1
        else
          f_MO_see_J51 v1 (m.1 0 1) m1
    else
      f_MO_see_J51 v1 (m.1 0 1) m1
def f_MO_couldGoOn_J82 (v1 : Int32) (m : zM) : Option ((zM) ⊕ (Int32 × zM)) :=
  some (.inr ((v1 + 1), m))
def f_MO_couldGoOn_B37 (v1 : Int32) (m : zM) : Option ((zM) ⊕ (Int32 × zM)) :=
  if (64 * (m.1 0 41)) ≤ v1 then
    some (.inl m)
  else
    (ix 608 (v1 / 64)).bind fun i6 =>
    if (m.1 55 i6) = 0 then
      f_MO_couldGoOn_J82 v1 m
    else
      (ix 38912 v1).bind fun i7 =>
      if (m.1 30 i7) = (-1) then
        f_MO_couldGoOn_J82 v1 m
      else
        (ix 38912 v1).bind fun i8 =>
        (ix 608 (m.1 30 i8)).bind fun i9 => lt (sI m 54 i9 (b2i true)) fun m10 =>
        f_MO_couldGoOn_J82 v1 m10
def f_MO_couldGoOn_L37 (v1 : Int32) (m : zM) : Option (zM) :=
  zloop (fun s : Int32 × zM => f_MO_couldGoOn_B37 s.1 s.2) FU (v1, m)
def f_MO_couldGoOn_J35  (m : zM) : Option (zM) :=
  f_MO_couldGoOn_L37 0 m
def f_MO_couldGoOn_B2 (v1 : Int32) (m : zM) : Option ((zM) ⊕ (Int32 × zM)) :=
  if (m.1 0 41) ≤ v1 then
    zl (f_MO_couldGoOn_J35 m)
  else
    (ix 608 v1).bind fun i1 =>
    (ix 608 v1).bind fun i2 => lt (sI m 55 i2 (vp_nar .boolean (m.1 54 i1))) fun m3 =>
    (ix 608 v1).bind fun i4 => lt (sI m3 54 i4 (b2i false)) fun m5 =>
    some (.inr ((v1 + 1), m5))
def f_MO_couldGoOn_L2 (v1 : Int32) (m : zM) : Option (zM) :=
  zloop (fun s : Int32 × zM => f_MO_couldGoOn_B2 s.1 s.2) FU (v1, m)
def f_MO_couldGoOn  (m : zM) : Option (zM) :=
  f_MO_couldGoOn_L2 0 m
def f_MO_inState_J41 (v2 : Int32) (v3 : Int32) (v4 : Int32) (m : zM) : Option ((Int32 × zM) ⊕ (Int32 × Int32)) :=
  some (.inr (v3, (v4 + 1)))
def f_MO_inState_B15 (v2 : Int32) (v3 : Int32) (v4 : Int32) (m : zM) : Option ((Int32 × zM) ⊕ (Int32 × Int32)) :=
  (f_MO_agents m).bind fun r3 =>
  if r3 ≤ v4 then
    some (.inl (v3, m))
  else
    (ix 4 v4).bind fun i4 =>
    if (f_MO_stateOf (m.1 25 i4)) = v2 then
      f_MO_inState_J41 v2 (v3 + 1) v4 m
    else
      f_MO_inState_J41 v2 v3 v4 m
def f_MO_inState_L15 (v2 : Int32) (v3 : Int32) (v4 : Int32) (m : zM) : Option (Int32 × zM) :=
  zloop (fun s : Int32 × Int32 => f_MO_inState_B15 v2 s.1 s.2 m) FU (v3, v4)
def f_MO_inState (v1 : Int32) (v2 : Int32) (m : zM) : Option (Int32 × zM) :=
  (ix 608 v1).bind fun i1 =>
  (f_MO_opens (m.2.1 27 i1) m).bind fun p2 => 
  f_MO_inState_L15 v2 0 0 p2
def f_MO_isAsSeen_B2 (v1 : Int32) (v2 : Int32) (m : zM) : Option ((Bool × zM) ⊕ (Int32 × zM)) :=
  if (m.1 0 77) ≤ v2 then
    some (.inl (true, m))
  else
    (ix 12 (2 * v2)).bind fun i1 =>
    (f_MO_inState v1 (m.1 53 i1) m).bind fun p2 => 
    (ix 12 ((2 * v2) + 1)).bind fun i3 =>
    if p2.1 = (p2.2.1 53 i3) then
      some (.inr ((v2 + 1), p2.2))
    else
      some (.inl (false, p2.2))
def f_MO_isAsSeen_L2 (v1 : Int32) (v2 : Int32) (m : zM) : Option (Bool × zM) :=
  zloop (fun s : Int32 × zM => f_MO_isAsSeen_B2 v1 s.1 s.2) FU (v2, m)
def f_MO_isAsSeen (v1 : Int32) (m : zM) : Option (Bool × zM) :=
  f_MO_isAsSeen_L2 v1 0 m
def f_MO_laysCould_J116 (v1 : Int32) (v2 : Int32) (m : zM) : Option ((Int32 × zM) ⊕ (Int32 × Int32 × zM)) :=
  some (.inr (v1, (v2 + 1), m))
def f_MO_laysCould_J103 (v1 : Int32) (v2 : Int32) (t0 : Nat) (t1 : Int32) (t2 : Bool) (m : zM) : Option ((Int32 × zM) ⊕ (Int32 × Int32 × zM)) :=
  (ix (zlen gM t0) t1).bind fun i9 => lt (sI m t0 i9 (b2i t2)) fun m10 =>
  (ix 608 v2).bind fun i11 =>
  if (m10.1 54 i11) = 0 then
    f_MO_laysCould_J116 v1 v2 m10
  else
    f_MO_laysCould_J116 (v1 + 1) v2 m10
def f_MO_laysCould_J102 (v1 : Int32) (v2 : Int32) (t0 : Nat) (t1 : Int32) (m : zM) : Option ((Int32 × zM) ⊕ (Int32 × Int32 × zM)) :=
  f_MO_laysCould_J103 v1 v2 t0 t1 false m
def f_MO_laysCould_B68 (v1 : Int32) (v2 : Int32) (m : zM) : Option ((Int32 × zM) ⊕ (Int32 × Int32 × zM)) :=
  if (m.1 0 41) ≤ v2 then
    some (.inl (v1, m))
  else
    (ix 608 v2).bind fun i7 =>
    if (m.1 54 i7) = 0 then
      f_MO_laysCould_J102 v1 v2 54 v2 m
    else
      (f_MO_isAsSeen v2 m).bind fun p8 => 
      if p8.1 = true then
        f_MO_laysCould_J103 v1 v2 54 v2 true p8.2
      else
        f_MO_laysCould_J102 v1 v2 54 v2 p8.2
def f_MO_laysCould_L68 (v1 : Int32) (v2 : Int32) (m : zM) : Option (Int32 × zM) :=
  zloop (fun s : Int32 × Int32 × zM => f_MO_laysCould_B68 s.1 s.2.1 s.2.2) FU (v1, v2, m)
def f_MO_laysCould_J64  (m : zM) : Option (Int32 × zM) :=
  f_MO_laysCould_L68 0 0 m
def f_MO_laysCould_B39 (v1 : Int32) (m : zM) : Option ((Int32 × zM) ⊕ (Int32 × zM)) :=
  if (m.1 0 78) ≤ v1 then
    zl (f_MO_laysCould_J64 m)
  else
    if (m.1 0 77) ≤ 0 then
      zl (f_MO_laysCould_J64 m)
    else
      (f_MO_couldGoOn m).bind fun p6 => 
      some (.inr ((v1 + 1), p6))
def f_MO_laysCould_L39 (v1 : Int32) (m : zM) : Option (Int32 × zM) :=
  zloop (fun s : Int32 × zM => f_MO_laysCould_B39 s.1 s.2) FU (v1, m)
def f_MO_laysCould_J23  (m : zM) : Option (Int32 × zM) :=
  (f_MO_foldedOf (m.2.1 0 72) m).bind fun p3 => 
  (ix 608 p3.1).bind fun i4 => lt (sI p3.2 54 i4 (b2i true)) fun m5 =>
  f_MO_laysCould_L39 0 m5
def f_MO_laysCould_B2 (v1 : Int32) (m : zM) : Option ((Int32 × zM) ⊕ (Int32 × zM)) :=
  if (m.1 0 41) ≤ v1 then
    zl (f_MO_laysCould_J23 m)
  else
    (ix 608 v1).bind fun i1 => lt (sI m 54 i1 (b2i false)) fun m2 =>
    some (.inr ((v1 + 1), m2))
def f_MO_laysCould_L2 (v1 : Int32) (m : zM) : Option (Int32 × zM) :=
  zloop (fun s : Int32 × zM => f_MO_laysCould_B2 s.1 s.2) FU (v1, m)
def f_MO_laysCould  (m : zM) : Option (Int32 × zM) :=
  f_MO_laysCould_L2 0 m
def f_MO_could_J64 (v1 : Int32) (v3 : Int32) (v4 : Int32) (m : zM) : Option ((Int32 × zM) ⊕ (Int32 × Int32)) :=
  some (.inr (v3, (v4 + 1)))
def f_MO_could_B31 (v1 : Int32) (v3 : Int32) (v4 : Int32) (m : zM) : Option ((Int32 × zM) ⊕ (Int32 × Int32)) :=
  if (m.1 0 41) ≤ v4 then
    some (.inl ((-1), m))
  else
    (ix 608 v4).bind fun i3 =>
    if (m.1 54 i3) = 0 then
      f_MO_could_J64 v1 v3 v4 m
    else
      if v3 = v1 then
        some (.inl (v4, m))
      else
        f_MO_could_J64 v1 (v3 + 1) v4 m
def f_MO_could_L31 (v1 : Int32) (v3 : Int32) (v4 : Int32) (m : zM) : Option (Int32 × zM) :=
  zloop (fun s : Int32 × Int32 => f_MO_could_B31 v1 s.1 s.2 m) FU (v3, v4)
def f_MO_could (v1 : Int32) (m : zM) : Option (Int32 × zM) :=
  (f_MO_isAsked m).bind fun p1 => 
  if p1.1 = true then
    if (-1) ≤ v1 then
      (f_MO_laysCould p1.2).bind fun p2 => 
      if v1 = (-1) then
        some ((p2.1, p2.2))
      else
        f_MO_could_L31 v1 0 0 p2.2
    else
      some (((-1), p1.2))
  else
    some (((-1), p1.2))
def f_MO_mostBy_J63 (v1 : Int32) (v2 : Int32) (v3 : Int32) (m : zM) : Option ((Int32 × zM) ⊕ (Int32 × Int32 × zM)) :=
  some (.inr (v2, (v3 + 1), m))
def f_MO_mostBy_J54 (v1 : Int32) (v2 : Int32) (v3 : Int32) (v4 : Int32) (m : zM) : Option ((Int32 × zM) ⊕ (Int32 × Int32 × zM)) :=
  if v4 ≤ v2 then
    f_MO_mostBy_J63 v1 v2 v3 m
  else
    f_MO_mostBy_J63 v1 v4 v3 m
def f_MO_mostBy_J48 (v1 : Int32) (v2 : Int32) (v3 : Int32) (v4 : Int32) (v5 : Int32) (m : zM) : Option (((Int32 × zM) ⊕ (Int32 × Int32 × zM)) ⊕ (Int32 × Int32 × zM)) :=
  some (.inr (v4, (v5 + 1), m))
def f_MO_mostBy_B15 (v1 : Int32) (v2 : Int32) (v3 : Int32) (v4 : Int32) (v5 : Int32) (m : zM) : Option (((Int32 × zM) ⊕ (Int32 × Int32 × zM)) ⊕ (Int32 × Int32 × zM)) :=
  if (m.1 0 41) ≤ v5 then
    zl (f_MO_mostBy_J54 v1 v2 v3 v4 m)
  else
    (ix 608 v5).bind fun i1 =>
    if (m.1 54 i1) = 0 then
      f_MO_mostBy_J48 v1 v2 v3 v4 v5 m
    else
      (f_MO_inState v5 v1 m).bind fun p2 => 
      if p2.1 = v3 then
        f_MO_mostBy_J48 v1 v2 v3 (v4 + 1) v5 p2.2
      else
        f_MO_mostBy_J48 v1 v2 v3 v4 v5 p2.2
def f_MO_mostBy_L15 (v1 : Int32) (v2 : Int32) (v3 : Int32) (v4 : Int32) (v5 : Int32) (m : zM) : Option ((Int32 × zM) ⊕ (Int32 × Int32 × zM)) :=
  zloop (fun s : Int32 × Int32 × zM => f_MO_mostBy_B15 v1 v2 v3 s.1 s.2.1 s.2.2) FU (v4, v5, m)
def f_MO_mostBy_B4 (v1 : Int32) (v2 : Int32) (v3 : Int32) (m : zM) : Option ((Int32 × zM) ⊕ (Int32 × Int32 × zM)) :=
  if 4 < v3 then
    some (.inl (v2, m))
  else
    f_MO_mostBy_L15 v1 v2 v3 0 0 m
def f_MO_mostBy_L4 (v1 : Int32) (v2 : Int32) (v3 : Int32) (m : zM) : Option (Int32 × zM) :=
  zloop (fun s : Int32 × Int32 × zM => f_MO_mostBy_B4 v1 s.1 s.2.1 s.2.2) FU (v2, v3, m)
def f_MO_mostBy (v1 : Int32) (m : zM) : Option (Int32 × zM) :=
  f_MO_mostBy_L4 v1 0 0 m
def f_MO_tells_J61 (v1 : Int32) (v2 : Int32) (m : zM) : Option (Int32 × zM) :=
  if v1 = 0 then
    some ((v2, m))
  else
    (f_MO_mostBy v2 m).bind fun p6 => 
    some ((p6.1, p6.2))
def f_MO_tells_J55 (v1 : Int32) (v2 : Int32) (v3 : Int32) (m : zM) : Option ((Int32 × zM) ⊕ (Int32 × Int32 × zM)) :=
  some (.inr (v2, (v3 + 1), m))
def f_MO_tells_B30 (v1 : Int32) (v2 : Int32) (v3 : Int32) (m : zM) : Option ((Int32 × zM) ⊕ (Int32 × Int32 × zM)) :=
  (ix 184 0).bind fun i3 =>
  if (m.1 23 i3) ≤ v3 then
    zl (f_MO_tells_J61 v1 v2 m)
  else
    (f_MO_mostBy v3 m).bind fun p4 => 
    (f_MO_mostBy v2 p4.2).bind fun p5 => 
    if p5.1 ≤ p4.1 then
      f_MO_tells_J55 v1 v2 v3 p5.2
    else
      f_MO_tells_J55 v1 v3 v3 p5.2
def f_MO_tells_L30 (v1 : Int32) (v2 : Int32) (v3 : Int32) (m : zM) : Option (Int32 × zM) :=
  zloop (fun s : Int32 × Int32 × zM => f_MO_tells_B30 v1 s.1 s.2.1 s.2.2) FU (v2, v3, m)
def f_MO_tells (v1 : Int32) (m : zM) : Option (Int32 × zM) :=
  (f_MO_isAsked m).bind fun p1 => 
  if p1.1 = true then
    if (f_MO_isIn v1.toInt64 0 1) = true then
      (f_MO_laysCould p1.2).bind fun p2 => 
      if p2.1 = 0 then
        some (((-1), p2.2))
      else
        f_MO_tells_L30 v1 0 1 p2.2
    else
      some (((-1), p1.2))
  else
    some (((-1), p1.2))
def f_MO_writes (v1 : Int32) (m : zM) : Option (zM) :=
  (ix 130 (m.1 0 83)).bind fun i1 => lt (sI m 56 i1 v1) fun m2 =>
  lt (sI m2 0 83 ((m2.1 0 83) + 1)) fun m3 =>
  some (m3)
def f_MO_writesName_B31 (v3 : Int32) (v4 : Int32) (v5 : Int32) (m : zM) : Option ((zM) ⊕ (Int32 × Int32 × zM)) :=
  if v4 < v5 then
    some (.inl m)
  else
    (ix 130 ((m.1 0 83) - v5)).bind fun i4 => lt (sI m 56 i4 (96 + (ir v3 27))) fun m5 =>
    some (.inr ((v3 / 27), (v5 + 1), m5))
def f_MO_writesName_L31 (v3 : Int32) (v4 : Int32) (v5 : Int32) (m : zM) : Option (zM) :=
  zloop (fun s : Int32 × Int32 × zM => f_MO_writesName_B31 s.1 v4 s.2.1 s.2.2) FU (v3, v5, m)
def f_MO_writesName (v1 : Int32) (v2 : Int32) (m : zM) : Option (zM) :=
  (ix 184 (f_MO_nameAt v1 v2)).bind fun i1 =>
  (f_MO_lettersOf (m.1 23 i1)).bind fun r2 =>
  lt (sI m 0 83 ((m.1 0 83) + r2)) fun m3 =>
  f_MO_writesName_L31 (m.1 23 i1) r2 1 m3
def f_MO_writesAgent_J69 (v1 : Int32) (m : zM) : Option (zM) :=
  if (f_MO_outOf v1) = 0 then
    some (m)
  else
    (f_MO_writes 33 m).bind fun p7 => 
    (f_MO_writesName 2 ((f_MO_outOf v1) - 1) p7).bind fun p8 => 
    some (p8)
def f_MO_writesAgent_J63 (v1 : Int32) (m : zM) : Option (zM) :=
  (f_MO_writes 62 m).bind fun p9 => 
  f_MO_writesAgent_J69 v1 p9
def f_MO_writesAgent (v1 : Int32) (m : zM) : Option (zM) :=
  (f_MO_writes 32 m).bind fun p1 => 
  (f_MO_writesName 0 (f_MO_stateOf v1) p1).bind fun p2 => 
  if (f_MO_firstIn v1) ≤ 0 then
    f_MO_writesAgent_J69 v1 p2
  else
    (f_MO_writes 60 p2).bind fun p3 => 
    (f_MO_writesName 2 ((f_MO_firstIn v1) - 1) p3).bind fun p4 => 
    if (f_MO_secondIn v1) ≤ 0 then
      f_MO_writesAgent_J63 v1 p4
    else
      (f_MO_writes 44 p4).bind fun p5 => 
      (f_MO_writesName 2 ((f_MO_secondIn v1) - 1) p5).bind fun p6 => 
      f_MO_writesAgent_J63 v1 p6
def f_MO_writesWorld_B43 (v2 : Int32) (m : zM) : Option ((zM) ⊕ (Int32 × zM)) :=
  (f_MO_agents m).bind fun r6 =>
  if r6 ≤ v2 then
    some (.inl m)
  else
    (ix 4 v2).bind fun i7 =>
    (f_MO_writesAgent (m.1 25 i7) m).bind fun p8 => 
    some (.inr ((v2 + 1), p8))
def f_MO_writesWorld_L43 (v2 : Int32) (m : zM) : Option (zM) :=
  zloop (fun s : Int32 × zM => f_MO_writesWorld_B43 s.1 s.2) FU (v2, m)
def f_MO_writesWorld_J41  (m : zM) : Option (zM) :=
  f_MO_writesWorld_L43 0 m
def f_MO_writesWorld (v1 : Int32) (m : zM) : Option (zM) :=
  lt (sI m 0 83 0) fun m1 =>
  (ix 608 v1).bind fun i2 =>
  (f_MO_opens (m1.2.1 27 i2) m1).bind fun p3 => 
  if (p3.1 0 36) = (-1) then
    (f_MO_writes 45 p3).bind fun p5 => 
    f_MO_writesWorld_J41 p5
  else
    (f_MO_writesName 1 (p3.1 0 36) p3).bind fun p4 => 
    f_MO_writesWorld_J41 p4
def f_MO_spell (v1 : Int32) (m : zM) : Option (Int32 × zM) :=
  (f_MO_isWorld v1 m).bind fun p1 => 
  if p1.1 = true then
    (f_MO_writesWorld v1 p1.2).bind fun p2 => 
    some (((p2.1 0 83), p2))
  else
    some (((-1), p1.2))
def f_MO_isSpelled_B12 (v1 : Int32) (v2 : Int32) (m : zM) : Option ((Bool) ⊕ (Int32)) :=
  if v1 ≤ v2 then
    some (.inl true)
  else
    (ix 1600 v2).bind fun i1 =>
    (ix 130 v2).bind fun i2 =>
    if (m.1 1 i1) = (m.1 56 i2) then
      some (.inr (v2 + 1))
    else
      some (.inl false)
def f_MO_isSpelled_L12 (v1 : Int32) (v2 : Int32) (m : zM) : Option (Bool) :=
  zloop (fun s : Int32 => f_MO_isSpelled_B12 v1 s m) FU v2
def f_MO_isSpelled (v1 : Int32) (m : zM) : Option (Bool) :=
  if v1 = (m.1 0 83) then
    f_MO_isSpelled_L12 v1 0 m
  else
    some (false)
def f_MO_which_J127 (v3 : Int32) (m : zM) : Option (Int32 × zM) :=
  if v3 = (-1) then
    (f_MO_refuses 5 m).bind fun p12 => 
    some ((p12.1, p12.2))
  else
    some ((v3, m))
def f_MO_which_B101 (v2 : Int32) (v3 : Int32) (v4 : Int32) (m : zM) : Option ((Int32 × zM) ⊕ (Int32 × zM)) :=
  if v2 ≤ v4 then
    zl (f_MO_which_J127 v3 m)
  else
    (ix 130 v4).bind fun i9 =>
    (ix 130 v4).bind fun i10 => lt (sI m 56 i10 (m.1 57 i9)) fun m11 =>
    some (.inr ((v4 + 1), m11))
def f_MO_which_L101 (v2 : Int32) (v3 : Int32) (v4 : Int32) (m : zM) : Option (Int32 × zM) :=
  zloop (fun s : Int32 × zM => f_MO_which_B101 v2 v3 s.1 s.2) FU (v4, m)
def f_MO_which_J93 (v2 : Int32) (v3 : Int32) (m : zM) : Option (Int32 × zM) :=
  lt (sI m 0 83 v2) fun m8 =>
  f_MO_which_L101 v2 v3 0 m8
def f_MO_which_J87 (v1 : Int32) (v2 : Int32) (v3 : Int32) (v4 : Int32) (m : zM) : Option ((Int32 × zM) ⊕ (Int32 × Int32 × zM)) :=
  some (.inr (v3, (v4 + 1), m))
def f_MO_which_B49 (v1 : Int32) (v2 : Int32) (v3 : Int32) (v4 : Int32) (m : zM) : Option ((Int32 × zM) ⊕ (Int32 × Int32 × zM)) :=
  if (m.1 0 33) = 0 then
    zl (f_MO_which_J93 v2 v3 m)
  else
    (f_MO_isWorld v4 m).bind fun p5 => 
    if p5.1 = true then
      if v3 = (-1) then
        (f_MO_writesWorld v4 p5.2).bind fun p6 => 
        (f_MO_isSpelled v1 p6).bind fun r7 =>
        if r7 = true then
          f_MO_which_J87 v1 v2 v4 v4 p6
        else
          f_MO_which_J87 v1 v2 v3 v4 p6
      else
        zl (f_MO_which_J93 v2 v3 p5.2)
    else
      zl (f_MO_which_J93 v2 v3 p5.2)
def f_MO_which_L49 (v1 : Int32) (v2 : Int32) (v3 : Int32) (v4 : Int32) (m : zM) : Option (Int32 × zM) :=
  zloop (fun s : Int32 × Int32 × zM => f_MO_which_B49 v1 v2 s.1 s.2.1 s.2.2) FU (v3, v4, m)
def f_MO_which_J46 (v1 : Int32) (v2 : Int32) (v3 : Int32) (m : zM) : Option (Int32 × zM) :=
  f_MO_which_L49 v1 v2 v3 0 m
def f_MO_which_B20 (v1 : Int32) (v2 : Int32) (v3 : Int32) (v4 : Int32) (m : zM) : Option ((Int32 × zM) ⊕ (Int32 × zM)) :=
  if v2 ≤ v4 then
    zl (f_MO_which_J46 v1 v2 v3 m)
  else
    (ix 130 v4).bind fun i2 =>
    (ix 130 v4).bind fun i3 => lt (sI m 57 i3 (m.1 56 i2)) fun m4 =>
    some (.inr ((v4 + 1), m4))
def f_MO_which_L20 (v1 : Int32) (v2 : Int32) (v3 : Int32) (v4 : Int32) (m : zM) : Option (Int32 × zM) :=
  zloop (fun s : Int32 × zM => f_MO_which_B20 v1 v2 v3 s.1 s.2) FU (v4, m)
def f_MO_which  (m : zM) : Option (Int32 × zM) :=
  lt (sI m 0 1 0) fun m1 =>
  f_MO_which_L20 (m.1 0 1) (m.1 0 83) (-1) 0 m1
def f_MO_checked_B6 (v0 : Nat) (v1 : Int32) (v2 : Int32) (v3 : Int32) (m : zM) : Option ((Int32) ⊕ (Int32 × Int32)) :=
  if v1 ≤ v3 then
    some (.inl v2)
  else
    (ix (zlen gM v0) v3).bind fun i1 =>
    some (.inr ((ir ((5 * v2) + (m.1 v0 i1)) 251), (v3 + 1)))
def f_MO_checked_L6 (v0 : Nat) (v1 : Int32) (v2 : Int32) (v3 : Int32) (m : zM) : Option (Int32) :=
  zloop (fun s : Int32 × Int32 => f_MO_checked_B6 v0 v1 s.1 s.2 m) FU (v2, v3)
def f_MO_checked (v0 : Nat) (v1 : Int32) (m : zM) : Option (Int32) :=
  f_MO_checked_L6 v0 v1 193 0 m
def f_MO_image_J96  (m : zM) : Option (Int32 × zM) :=
  (f_MO_checked 56 (m.1 0 83) m).bind fun r5 =>
  (f_MO_writes r5 m).bind fun p6 => 
  some (((p6.1 0 83), p6))
def f_MO_image_J90 (v1 : Int32) (m : zM) : Option ((Int32 × zM) ⊕ (Int32 × zM)) :=
  some (.inr ((v1 + 1), m))
def f_MO_image_J81 (v1 : Int32) (v2 : Int32) (t1 : Int32) (m : zM) : Option (((Int32 × zM) ⊕ (Int32 × zM)) ⊕ (Int32 × zM)) :=
  (f_MO_writes t1 m).bind fun p8 => 
  some (.inr ((v2 + 1), p8))
def f_MO_image_B56 (v1 : Int32) (v2 : Int32) (m : zM) : Option (((Int32 × zM) ⊕ (Int32 × zM)) ⊕ (Int32 × zM)) :=
  if 4 ≤ v2 then
    zl (f_MO_image_J90 v1 m)
  else
    (f_MO_agentHas v1 v2 m).bind fun r7 =>
    if r7 = (-1) then
      f_MO_image_J81 v1 v2 255 m
    else
      f_MO_image_J81 v1 v2 r7 m
def f_MO_image_L56 (v1 : Int32) (v2 : Int32) (m : zM) : Option ((Int32 × zM) ⊕ (Int32 × zM)) :=
  zloop (fun s : Int32 × zM => f_MO_image_B56 v1 s.1 s.2) FU (v2, m)
def f_MO_image_B46 (v1 : Int32) (m : zM) : Option ((Int32 × zM) ⊕ (Int32 × zM)) :=
  (f_MO_agents m).bind fun r4 =>
  if r4 ≤ v1 then
    zl (f_MO_image_J96 m)
  else
    f_MO_image_L56 v1 0 m
def f_MO_image_L46 (v1 : Int32) (m : zM) : Option (Int32 × zM) :=
  zloop (fun s : Int32 × zM => f_MO_image_B46 s.1 s.2) FU (v1, m)
def f_MO_image_J41 (t1 : Int32) (m : zM) : Option (Int32 × zM) :=
  (f_MO_writes t1 m).bind fun p3 => 
  f_MO_image_L46 0 p3
def f_MO_image  (m : zM) : Option (Int32 × zM) :=
  if (m.1 0 33) = 0 then
    some (((-1), m))
  else
    lt (sI m 0 83 0) fun m1 =>
    (f_MO_opens (m1.2.1 0 72) m1).bind fun p2 => 
    if (p2.1 0 36) = (-1) then
      f_MO_image_J41 255 p2
    else
      f_MO_image_J41 (p2.1 0 36) p2
def f_MO_octet (v1 : Int32) (m : zM) : Option (Int32) :=
  if v1 < 0 then
    some ((-1))
  else
    if (m.1 0 83) ≤ v1 then
      some ((-1))
    else
      (ix 130 v1).bind fun i1 =>
      some ((m.1 56 i1))
def f_MO_toldAt (v1 : Int32) (m : zM) : Option (Int32) :=
  (ix 1600 v1).bind fun i1 =>
  if (m.1 1 i1) = 255 then
    some (0)
  else
    (ix 1600 v1).bind fun i2 =>
    if (m.1 1 i2) ≤ 6 then
      (ix 1600 v1).bind fun i3 =>
      some (((m.1 1 i3) + 1))
    else
      some (7)
def f_MO_imaged_J160 (v2 : Int64) (v4 : Int32) (t0 : Int32) (m : zM) : Option ((Int64 × zM) ⊕ (Int64 × Int32)) :=
  some (.inr (((lsl v2 12) ||| t0.toInt64), (v4 + 1)))
def f_MO_imaged_J109 (v2 : Int64) (v4 : Int32) (v5 : Int32) (v6 : Bool) (m : zM) : Option ((Int64 × zM) ⊕ (Int64 × Int32)) :=
  if v6 = true then
    (ix 1600 v5).bind fun i9 =>
    (f_MO_toldAt (v5 + 1) m).bind fun r10 =>
    (f_MO_toldAt (v5 + 2) m).bind fun r11 =>
    (f_MO_toldAt (v5 + 3) m).bind fun r12 =>
    f_MO_imaged_J160 v2 v4 ((((shl (m.1 1 i9) 9) ||| (shl r10 6)) ||| (shl r11 3)) ||| r12) m
  else
    f_MO_imaged_J160 v2 v4 0 m
def f_MO_imaged_J105  (m : zM) : Option (Int64 × zM) :=
  some (((-1), m))
def f_MO_imaged_J82 (v2 : Int64) (v4 : Int32) (v5 : Int32) (t0 : Bool) (m : zM) : Option ((Int64 × zM) ⊕ (Int64 × Int32)) :=
  if t0 = true then
    (ix 1600 v5).bind fun i7 =>
    (ix 184 0).bind fun i8 =>
    if (m.1 1 i7) < (m.1 23 i8) then
      f_MO_imaged_J109 v2 v4 v5 t0 m
    else
      zl (f_MO_imaged_J105 m)
  else
    f_MO_imaged_J109 v2 v4 v5 t0 m
def f_MO_imaged_B54 (v2 : Int64) (v4 : Int32) (m : zM) : Option ((Int64 × zM) ⊕ (Int64 × Int32)) :=
  if 4 ≤ v4 then
    some (.inl (v2, m))
  else
    (f_MO_agents m).bind fun r6 =>
    if r6 ≤ v4 then
      f_MO_imaged_J82 v2 v4 (1 + (4 * v4)) false m
    else
      f_MO_imaged_J82 v2 v4 (1 + (4 * v4)) true m
def f_MO_imaged_L54 (v2 : Int64) (v4 : Int32) (m : zM) : Option (Int64 × zM) :=
  zloop (fun s : Int64 × Int32 => f_MO_imaged_B54 s.1 s.2 m) FU (v2, v4)
def f_MO_imaged_J40  (m : zM) : Option (Int64 × zM) :=
  some (((-1), m))
def f_MO_imaged (v1 : Int32) (m : zM) : Option (Int64 × zM) :=
  (f_MO_isAsked m).bind fun p1 => 
  if p1.1 = true then
    (f_MO_agents p1.2).bind fun r2 =>
    if v1 = (2 + (4 * r2)) then
      (ix 1600 (v1 - 1)).bind fun i3 =>
      (f_MO_checked 1 (v1 - 1) p1.2).bind fun r4 =>
      if (p1.2.1 1 i3) = r4 then
        (f_MO_toldAt 0 p1.2).bind fun r5 =>
        f_MO_imaged_L54 r5.toInt64 0 p1.2
      else
        f_MO_imaged_J40 p1.2
    else
      f_MO_imaged_J40 p1.2
  else
    f_MO_imaged_J40 p1.2
def f_MO_on_J31  (m : zM) : Option (Bool × zM) :=
  (f_MO_isRefused 5 m).bind fun p6 => 
  some ((p6.1, p6.2))
def f_MO_on  (m : zM) : Option (Bool × zM) :=
  lt (sI m 0 1 0) fun m1 =>
  (f_MO_imaged (m.1 0 1) m1).bind fun p2 => 
  if (lg_cmp p2.1 0) < 0 then
    f_MO_on_J31 p2.2
  else
    (f_MO_foldedOf p2.1 p2.2).bind fun p3 => 
    if p3.1 = (-1) then
      f_MO_on_J31 p3.2
    else
      lt (sJ p3.2 0 72 p2.1) fun m4 =>
      lt (sI m4 0 74 0) fun m5 =>
      some ((true, m5))
