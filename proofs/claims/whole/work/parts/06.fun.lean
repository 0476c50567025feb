def f_Tx_append (a0 : Nat) (x1 : Int32) (h : Hp) : Option (Unit × Hp) :=
  if 40 ≤ (h a0 1) then
    some ((), h)
  else
    chk 40 (h a0 1) <|
    some ((), hset (hset h (a0 + 1) (ix (h a0 1)) x1) a0 1 (((hset h (a0 + 1) (ix (h a0 1)) x1) a0 1) + 1))
def l_Fr_isTaken_2 : Nat → Nat → Int32 → Int32 → Int32 → Hp → Option (Int32 × Hp)
  | 0, _, _, _, _, _ => none
  | n + 1, a0, x1, x2, x3, h =>
    if (h a0 2) ≤ x3 then
      some (0, h)
    else
      chk 10 x3 <|
      if (h (a0 + 1) (ix x3)) = x1 then
        chk 10 x3 <|
        if (h (a0 + 2) (ix x3)) = x2 then
          some (1, h)
        else
          (l_Fr_isTaken_2 n) a0 x1 x2 (x3 + 1) h
      else
        (l_Fr_isTaken_2 n) a0 x1 x2 (x3 + 1) h
def f_Fr_isTaken (a0 : Nat) (x1 : Int32) (x2 : Int32) (h : Hp) : Option (Int32 × Hp) :=
  l_Fr_isTaken_2 FUEL a0 x1 x2 0 h
def f_Tx_goesOn (a0 : Nat) (a1 : Nat) (x2 : Int32) (h : Hp) : Option (Int32 × Hp) :=
  chk 40 x2 <|
  if (x2 - x2 / 3 * 3) = 2 then
    if (h (a0 + 1) (ix x2)) = 59 then
      some (1, h)
    else
      some (0, h)
  else
    if (h (a0 + 1) (ix x2)) < 48 then
      some (0, h)
    else
      if 57 < (h (a0 + 1) (ix x2)) then
        some (0, h)
      else
        if (h a1 2) < 10 then
          if (x2 - x2 / 3 * 3) = 0 then
            some (1, h)
          else
            chk 40 (x2 - 1) <|
            bnd (f_Fr_isTaken a1 ((h (a0 + 1) (ix (x2 - 1))) - 48) ((h (a0 + 1) (ix x2)) - 48) h) fun r7 h7 =>
            if r7 = 0 then
              some (1, h7)
            else
              some (0, h7)
        else
          some (0, h)
def f_Fr_add (a0 : Nat) (x1 : Int32) (x2 : Int32) (h : Hp) : Option (Unit × Hp) :=
  if 10 ≤ (h a0 2) then
    some ((), h)
  else
    chk 10 (h a0 2) <|
    chk 10 ((hset h (a0 + 1) (ix (h a0 2)) x1) a0 2) <|
    some ((), hset (hset (hset h (a0 + 1) (ix (h a0 2)) x1) (a0 + 2) (ix ((hset h (a0 + 1) (ix (h a0 2)) x1) a0 2)) x2) a0 2 (((hset (hset h (a0 + 1) (ix (h a0 2)) x1) (a0 + 2) (ix ((hset h (a0 + 1) (ix (h a0 2)) x1) a0 2)) x2) a0 2) + 1))
def l_Tx_pegsTo_7 : Nat → Nat → Nat → Int32 → Hp → Option (Int32 × Hp)
  | 0, _, _, _, _ => none
  | n + 1, a0, a1, x2, h =>
    if (h a0 1) ≤ x2 then
      if x2 = (h a0 1) then
        if (h a0 1) = 0 then
          some ((-1), h)
        else
          if ((h a0 1) - (h a0 1) / 3 * 3) = 2 then
            some ((-1), h)
          else
            some (x2, hset h a1 2 0)
      else
        some (x2, hset h a1 2 0)
    else
      bnd (f_Tx_goesOn a0 a1 x2 h) fun r5 h5 =>
      if r5 = 0 then
        if x2 = (h5 a0 1) then
          if (h5 a0 1) = 0 then
            some ((-1), h5)
          else
            if ((h5 a0 1) - (h5 a0 1) / 3 * 3) = 2 then
              some ((-1), h5)
            else
              some (x2, hset h5 a1 2 0)
        else
          some (x2, hset h5 a1 2 0)
      else
        if (x2 - x2 / 3 * 3) = 1 then
          chk 40 (x2 - 1) <|
          chk 40 x2 <|
          bnd (f_Fr_add a1 ((h5 (a0 + 1) (ix (x2 - 1))) - 48) ((h5 (a0 + 1) (ix x2)) - 48) h5) fun _ h11 =>
          (l_Tx_pegsTo_7 n) a0 a1 (x2 + 1) h11
        else
          (l_Tx_pegsTo_7 n) a0 a1 (x2 + 1) h5
def f_Tx_pegsTo (a0 : Nat) (a1 : Nat) (h : Hp) : Option (Int32 × Hp) :=
  l_Tx_pegsTo_7 FUEL a0 a1 0 (hset h a1 2 0)
def f_C_type (x1 : Int32) (h : Hp) : Option (Int32 × Hp) :=
  if x1 < 0 then
    some ((-2), h)
  else
    if x1 ≤ 255 then
      if (h 1 1) < 40 then
        bnd (f_Tx_append 1 x1 h) fun _ h4 =>
        bnd (f_Tx_pegsTo 1 3 h4) fun r5 h5 =>
        some ((hset h5 0 6 r5) 1 1, hset h5 0 6 r5)
      else
        some ((-4), h)
    else
      some ((-2), h)
def f_Tx_shorten (a0 : Nat) (x1 : Int32) (h : Hp) : Option (Unit × Hp) :=
  if x1 < 0 then
    some ((), h)
  else
    if (h a0 1) ≤ x1 then
      some ((), h)
    else
      some ((), hset h a0 1 x1)
def f_C_wipe (h : Hp) : Option (Int32 × Hp) :=
  bnd (f_Tx_shorten 1 0 h) fun _ h1 =>
  bnd (f_Tx_pegsTo 1 3 h1) fun r2 h2 =>
  some (h 1 1, hset h2 0 6 r2)
def f_C_undo (h : Hp) : Option (Int32 × Hp) :=
  if 0 < (h 1 1) then
    bnd (f_Tx_shorten 1 ((h 1 1) - 1) h) fun _ h2 =>
    bnd (f_Tx_pegsTo 1 3 h2) fun r3 h3 =>
    some ((hset h3 0 6 r3) 1 1, hset h3 0 6 r3)
  else
    some ((-3), h)
def f_C_fault (h : Hp) : Option (Int32 × Hp) :=
  some (h 0 6, h)
def f_Fr_has (a0 : Nat) (x1 : Int32) (h : Hp) : Option (Int32 × Hp) :=
  if x1 < 0 then
    some (0, h)
  else
    if (h a0 2) ≤ x1 then
      some (0, h)
    else
      some (1, h)
def f_C_isHidden (x1 : Int32) (h : Hp) : Option (Int32 × Hp) :=
  if (((h 0 7) >>> (x1 &&& 31)) &&& 1) = 1 then
    some (1, h)
  else
    some (0, h)
def f_C_peg (x1 : Int32) (x2 : Int32) (h : Hp) : Option (Int32 × Hp) :=
  bnd (f_Fr_has 3 x1 h) fun r1 h1 =>
  if r1 = 0 then
    some ((-2), h1)
  else
    if x2 = 0 then
      chk 10 x1 <|
      some (h1 4 (ix x1), h1)
    else
      if x2 = 1 then
        chk 10 x1 <|
        some (h1 5 (ix x1), h1)
      else
        if x2 = 2 then
          bnd (f_C_isHidden x1 h1) fun r6 h6 =>
          if r6 = 0 then
            some (0, h6)
          else
            some (1, h6)
        else
          some ((-2), h1)
def f_C_setHidden (x1 : Int32) (x2 : Int32) (h : Hp) : Option (Unit × Hp) :=
  some ((), hset h 0 7 (((h 0 7) &&& (((1 : Int32) <<< (x1 &&& 31)) ^^^ (-1))) ||| (x2 <<< (x1 &&& 31))))
def f_C_hide (x1 : Int32) (x2 : Int32) (h : Hp) : Option (Int32 × Hp) :=
  if x1 < 0 then
    some ((-2), h)
  else
    if 10 ≤ x1 then
      some ((-2), h)
    else
      if x2 < 0 then
        some ((-2), h)
      else
        if x2 ≤ 1 then
          bnd (f_C_isHidden x1 h) fun r5 h5 =>
          if r5 = 0 then
            bnd (f_C_setHidden x1 x2 h5) fun _ h7 =>
            some (0, h7)
          else
            bnd (f_C_setHidden x1 x2 h5) fun _ h8 =>
            some (1, h8)
        else
          some ((-2), h)
def f_C_set (x1 : Int32) (x2 : Int32) (h : Hp) : Option (Int32 × Hp) :=
  if 0 ≤ x2 then
    if x1 = 0 then
      if 200 < x2 then
        if x1 = 1 then
          if 9 < x2 then
            if x1 = 2 then
              some ((-2), h)
            else
              some ((-2), h)
          else
            some (h 0 9, hset h 0 9 x2)
        else
          if x1 = 2 then
            if 9 < x2 then
              some ((-2), h)
            else
              some (h 0 10, hset h 0 10 x2)
          else
            some ((-2), h)
      else
        some (h 0 8, hset h 0 8 x2)
    else
      if x1 = 1 then
        if 9 < x2 then
          if x1 = 2 then
            some ((-2), h)
          else
            some ((-2), h)
        else
          some (h 0 9, hset h 0 9 x2)
      else
        if x1 = 2 then
          if 9 < x2 then
            some ((-2), h)
          else
            some (h 0 10, hset h 0 10 x2)
        else
          some ((-2), h)
  else
    some ((-2), h)
def f_C_isSheet (x0 : Int32) (h : Hp) : Option (Int32 × Hp) :=
  if x0 < 0 then
    some (0, h)
  else
    if 4 ≤ x0 then
      some (0, h)
    else
      some (1, h)
def f_C_found (x1 : Int32) (h : Hp) : Option (Int32 × Hp) :=
  some ((-10) - x1, hset h 0 11 x1)
def l_C_read_43 : Nat → Nat → Int32 → Int32 → Hp → Option (Int32 × Hp)
  | 0, _, _, _, _ => none
  | n + 1, a2, x3, x4, h =>
    if x3 ≤ x4 then
      some (x3, h)
    else
      chk 48 x4 <|
      if (h (a2 + 1) (ix x4)) = 0 then
        bnd (f_C_setHidden x4 (h (a2 + 1) (ix x4)) h) fun _ h8 =>
        (l_C_read_43 n) a2 x3 (x4 + 1) h8
      else
        if (h (a2 + 1) (ix x4)) = 1 then
          bnd (f_C_setHidden x4 (h (a2 + 1) (ix x4)) h) fun _ h10 =>
          (l_C_read_43 n) a2 x3 (x4 + 1) h10
        else
          some (x4, h)
def f_C_read (x1 : Int32) (h : Hp) : Option (Int32 × Hp) :=
  bnd (f_C_isSheet x1 h) fun r1 h1 =>
  if r1 = 0 then
    some ((-2), h1)
  else
    chk 4 x1 <|
    if (h1 (23 + 2 * ix x1) 1) = 0 then
      l_C_read_43 FUEL (23 + 2 * ix x1) (jmin (h1 (23 + 2 * ix x1) 3) 10) 0 h1
    else
      bnd (f_C_found 1 h1) fun r11 h11 =>
      some (r11, h11)
def f_Fr_apart (a0 : Nat) (x1 : Int32) (x2 : Int32) (h : Hp) : Option (Int32 × Hp) :=
  chk 10 x1 <|
  chk 10 x2 <|
  chk 10 x1 <|
  chk 10 x2 <|
  some ((jabs ((h (a0 + 1) (ix x1)) - (h (a0 + 1) (ix x2)))) + (jabs ((h (a0 + 2) (ix x1)) - (h (a0 + 2) (ix x2)))), h)
def f_C_far (x1 : Int32) (x2 : Int32) (h : Hp) : Option (Int32 × Hp) :=
  bnd (f_Fr_has 3 x1 h) fun r1 h1 =>
  if r1 = 0 then
    some ((-2), h1)
  else
    bnd (f_Fr_has 3 x2 h1) fun r3 h3 =>
    if r3 = 0 then
      some ((-2), h3)
    else
      bnd (f_Fr_apart 3 x1 x2 h3) fun r5 h5 =>
      some (r5, h5)
def f_C_isLaw (x0 : Int32) (h : Hp) : Option (Int32 × Hp) :=
  if x0 < 0 then
    some (0, h)
  else
    if 4 ≤ x0 then
      some (0, h)
    else
      some (1, h)
def f_C_canBeTold (x1 : Int32) (x2 : Int32) (h : Hp) : Option (Int32 × Hp) :=
  bnd (f_Fr_has 3 x1 h) fun r1 h1 =>
  if r1 = 0 then
    some (0, h1)
  else
    bnd (f_C_isLaw x2 h1) fun r3 h3 =>
    if r3 = 0 then
      some (0, h3)
    else
      some (1, h3)
def f_Sp_startAt (a0 : Nat) (x1 : Int32) (x2 : Int32) (x3 : Int32) (h : Hp) : Option (Unit × Hp) :=
  chk 10 0 <|
  some ((), hset (hset (hset (hset (hset h (a0 + 1) (ix 0) x1) a0 1 1) a0 2 x2) a0 3 0) a0 4 x3)
def f_Fr_all (a0 : Nat) (h : Hp) : Option (Int32 × Hp) :=
  some (((1 : Int32) <<< ((h a0 2) &&& 31)) - 1, h)
def f_Sp_here (a0 : Nat) (h : Hp) : Option (Int32 × Hp) :=
  if (h a0 1) ≤ 0 then
    some (0, h)
  else
    chk 10 ((h a0 1) - 1) <|
    some (h (a0 + 1) (ix ((h a0 1) - 1)), h)
def f_Fr_behindByNumbers (x0 : Int32) (x1 : Int32) (h : Hp) : Option (Int32 × Hp) :=
  if x1 ≤ x0 then
    some ((x1 - x0) + 10, h)
  else
    some (x1 - x0, h)
def f_Fr_behindByRows (a0 : Nat) (x1 : Int32) (x2 : Int32) (h : Hp) : Option (Int32 × Hp) :=
  chk 10 x2 <|
  chk 10 x1 <|
  chk 10 x2 <|
  chk 10 x1 <|
  if (((((h (a0 + 2) (ix x2)) - (h (a0 + 2) (ix x1))) * 10) + (h (a0 + 1) (ix x2))) - (h (a0 + 1) (ix x1))) ≤ 0 then
    some ((((((h (a0 + 2) (ix x2)) - (h (a0 + 2) (ix x1))) * 10) + (h (a0 + 1) (ix x2))) - (h (a0 + 1) (ix x1))) + 100, h)
  else
    some (((((h (a0 + 2) (ix x2)) - (h (a0 + 2) (ix x1))) * 10) + (h (a0 + 1) (ix x2))) - (h (a0 + 1) (ix x1)), h)
def l_Fr_choose_9 : Nat → Nat → Int32 → Int32 → Int32 → Int32 → Int32 → Int32 → Hp → Option (Int32 × Hp)
  | 0, _, _, _, _, _, _, _, _ => none
  | n + 1, a0, x1, x2, x3, x4, x5, x6, h =>
    if (h a0 2) ≤ x6 then
      some (x4, h)
    else
      if ((x3 >>> (x6 &&& 31)) &&& 1) = 0 then
        (l_Fr_choose_9 n) a0 x1 x2 x3 x4 x5 (x6 + 1) h
      else
        if x1 = 0 then
          bnd (f_Fr_apart a0 x2 x6 h) fun r4 h4 =>
          if x4 = (-1) then
            (l_Fr_choose_9 n) a0 x1 x2 x3 x6 r4 (x6 + 1) h4
          else
            if x5 ≤ r4 then
              (l_Fr_choose_9 n) a0 x1 x2 x3 x4 x5 (x6 + 1) h4
            else
              (l_Fr_choose_9 n) a0 x1 x2 x3 x6 r4 (x6 + 1) h4
        else
          if x1 = 1 then
            bnd (f_Fr_apart a0 x2 x6 h) fun r8 h8 =>
            if x4 = (-1) then
              (l_Fr_choose_9 n) a0 x1 x2 x3 x6 (-r8) (x6 + 1) h8
            else
              if x5 ≤ (-r8) then
                (l_Fr_choose_9 n) a0 x1 x2 x3 x4 x5 (x6 + 1) h8
              else
                (l_Fr_choose_9 n) a0 x1 x2 x3 x6 (-r8) (x6 + 1) h8
          else
            if x1 = 2 then
              bnd (f_Fr_behindByNumbers x2 x6 h) fun r12 h12 =>
              if x4 = (-1) then
                (l_Fr_choose_9 n) a0 x1 x2 x3 x6 r12 (x6 + 1) h12
              else
                if x5 ≤ r12 then
                  (l_Fr_choose_9 n) a0 x1 x2 x3 x4 x5 (x6 + 1) h12
                else
                  (l_Fr_choose_9 n) a0 x1 x2 x3 x6 r12 (x6 + 1) h12
            else
              bnd (f_Fr_behindByRows a0 x2 x6 h) fun r15 h15 =>
              if x4 = (-1) then
                (l_Fr_choose_9 n) a0 x1 x2 x3 x6 r15 (x6 + 1) h15
              else
                if x5 ≤ r15 then
                  (l_Fr_choose_9 n) a0 x1 x2 x3 x4 x5 (x6 + 1) h15
                else
                  (l_Fr_choose_9 n) a0 x1 x2 x3 x6 r15 (x6 + 1) h15
def f_Fr_choose (a0 : Nat) (x1 : Int32) (x2 : Int32) (x3 : Int32) (h : Hp) : Option (Int32 × Hp) :=
  l_Fr_choose_9 FUEL a0 x1 x2 x3 (-1) 0 0 h
def f_Sp_goOn (a0 : Nat) (x1 : Int32) (x2 : Int32) (x3 : Int32) (h : Hp) : Option (Int32 × Hp) :=
  if 10 ≤ (h a0 1) then
    some (0, h)
  else
    if (x2 + x3) ≤ (h a0 4) then
      chk 10 (h a0 1) <|
      some (1, hset (hset (hset (hset h (a0 + 1) (ix (h a0 1)) x1) a0 1 (((hset h (a0 + 1) (ix (h a0 1)) x1) a0 1) + 1)) a0 3 (((hset (hset h (a0 + 1) (ix (h a0 1)) x1) a0 1 (((hset h (a0 + 1) (ix (h a0 1)) x1) a0 1) + 1)) a0 3) + x2)) a0 4 (((hset (hset (hset h (a0 + 1) (ix (h a0 1)) x1) a0 1 (((hset h (a0 + 1) (ix (h a0 1)) x1) a0 1) + 1)) a0 3 (((hset (hset h (a0 + 1) (ix (h a0 1)) x1) a0 1 (((hset h (a0 + 1) (ix (h a0 1)) x1) a0 1) + 1)) a0 3) + x2)) a0 4) - (x2 + x3)))
    else
      some (0, h)
def l_C_lay_31 : Nat → Nat → Nat → Int32 → Int32 → Int32 → Hp → Option (Nat × Hp)
  | 0, _, _, _, _, _, _ => none
  | n + 1, a1, a2, x4, x6, x7, h =>
    if (h a2 2) ≤ x7 then
      some (a1, h)
    else
      bnd (f_Sp_here a1 h) fun r4 h4 =>
      bnd (f_Fr_choose a2 x4 r4 x6 h4) fun r5 h5 =>
      if r5 = (-1) then
        some (a1, h5)
      else
        bnd (f_Sp_here a1 h5) fun r7 h7 =>
        bnd (f_Fr_apart a2 r7 r5 h7) fun r8 h8 =>
        bnd (f_Sp_goOn a1 r5 r8 (h8 0 9) h8) fun r9 h9 =>
        if r9 = 0 then
          some (a1, h9)
        else
          (l_C_lay_31 n) a1 a2 x4 (x6 &&& (((1 : Int32) <<< (r5 &&& 31)) ^^^ (-1))) (x7 + 1) h9
def f_C_lay (a1 : Nat) (a2 : Nat) (x3 : Int32) (x4 : Int32) (x5 : Int32) (h : Hp) : Option (Nat × Hp) :=
  bnd (f_Sp_startAt a1 x3 x4 (h 0 8) h) fun _ h1 =>
  bnd (f_Fr_all a2 h1) fun r2 h2 =>
  l_C_lay_31 FUEL a1 a2 x4 ((r2 &&& (x5 ^^^ (-1))) &&& (((1 : Int32) <<< (x3 &&& 31)) ^^^ (-1))) 1 h2
def f_C_web (x1 : Int32) (x2 : Int32) (x3 : Int32) (h : Hp) : Option (Int32 × Hp) :=
  bnd (f_C_canBeTold x1 x2 h) fun r1 h1 =>
  if r1 = 0 then
    some ((-2), h1)
  else
    if x3 < 0 then
      some ((-2), h1)
    else
      if x3 < 10 then
        bnd (f_C_isHidden x1 h1) fun r5 h5 =>
        if r5 = 0 then
          chk 4 0 <|
          bnd (f_C_lay 15 3 x1 x2 (h5 0 7) h5) fun r8 h8 =>
          if (h8 r8 1) ≤ x3 then
            some ((-1), h8)
          else
            chk 10 x3 <|
            some (h8 (r8 + 1) (ix x3), h8)
        else
          some ((-3), h5)
      else
        some ((-2), h1)
def f_C_length (x1 : Int32) (x2 : Int32) (x3 : Int32) (h : Hp) : Option (Int32 × Hp) :=
  bnd (f_C_canBeTold x1 x2 h) fun r1 h1 =>
  if r1 = 0 then
    some ((-2), h1)
  else
    if x3 < 0 then
      some ((-2), h1)
    else
      if x3 ≤ 2 then
        bnd (f_C_isHidden x1 h1) fun r5 h5 =>
        if r5 = 0 then
          chk 4 0 <|
          bnd (f_C_lay 15 3 x1 x2 (h5 0 7) h5) fun r8 h8 =>
          if x3 = 0 then
            some (h8 r8 3, h8)
          else
            if x3 = 1 then
              some (h8 r8 1, h8)
            else
              some (h8 r8 4, h8)
        else
          some ((-3), h5)
      else
        some ((-2), h1)
def f_Fr_overlap (x0 : Int32) (x1 : Int32) (x2 : Int32) (x3 : Int32) (h : Hp) : Option (Int32 × Hp) :=
  if (jmax x0 x1) < (jmin x2 x3) then
    some (0, h)
  else
    if (jmax x2 x3) < (jmin x0 x1) then
      some (0, h)
    else
      some (1, h)
def f_Fr_side (a0 : Nat) (x1 : Int32) (x2 : Int32) (x3 : Int32) (h : Hp) : Option (Int32 × Hp) :=
  chk 10 x2 <|
  chk 10 x1 <|
  chk 10 x3 <|
  chk 10 x1 <|
  chk 10 x2 <|
  chk 10 x1 <|
  chk 10 x3 <|
  chk 10 x1 <|
  some ((((h (a0 + 1) (ix x2)) - (h (a0 + 1) (ix x1))) * ((h (a0 + 2) (ix x3)) - (h (a0 + 2) (ix x1)))) - (((h (a0 + 2) (ix x2)) - (h (a0 + 2) (ix x1))) * ((h (a0 + 1) (ix x3)) - (h (a0 + 1) (ix x1)))), h)
def f_Fr_meet (a0 : Nat) (x1 : Int32) (x2 : Int32) (x3 : Int32) (x4 : Int32) (h : Hp) : Option (Int32 × Hp) :=
  chk 10 x1 <|
  chk 10 x2 <|
  chk 10 x3 <|
  chk 10 x4 <|
  bnd (f_Fr_overlap (h (a0 + 1) (ix x1)) (h (a0 + 1) (ix x2)) (h (a0 + 1) (ix x3)) (h (a0 + 1) (ix x4)) h) fun r1 h1 =>
  if r1 = 0 then
    some (0, h1)
  else
    chk 10 x1 <|
    chk 10 x2 <|
    chk 10 x3 <|
    chk 10 x4 <|
    bnd (f_Fr_overlap (h1 (a0 + 2) (ix x1)) (h1 (a0 + 2) (ix x2)) (h1 (a0 + 2) (ix x3)) (h1 (a0 + 2) (ix x4)) h1) fun r3 h3 =>
    if r3 = 0 then
      some (0, h3)
    else
      bnd (f_Fr_side a0 x1 x2 x3 h3) fun r5 h5 =>
      bnd (f_Fr_side a0 x1 x2 x4 h5) fun r6 h6 =>
      if 0 < (r5 * r6) then
        some (0, h6)
      else
        bnd (f_Fr_side a0 x3 x4 x1 h6) fun r8 h8 =>
        bnd (f_Fr_side a0 x3 x4 x2 h8) fun r9 h9 =>
        if 0 < (r8 * r9) then
          some (0, h9)
        else
          some (1, h9)
def l_C_crosses_67 (K50 : Nat → Int32 → Int32 → Hp → Option (Int32 × Hp)) : Nat → Nat → Int32 → Int32 → Int32 → Hp → Option (Int32 × Hp)
  | 0, _, _, _, _, _ => none
  | n + 1, a3, x4, x5, x6, h =>
    if (h a3 1) ≤ (x6 + 1) then
      K50 a3 x4 (x5 + 1) h
    else
      chk 10 x5 <|
      chk 10 (x5 + 1) <|
      chk 10 x6 <|
      chk 10 (x6 + 1) <|
      bnd (f_Fr_meet 3 (h (a3 + 1) (ix x5)) (h (a3 + 1) (ix (x5 + 1))) (h (a3 + 1) (ix x6)) (h (a3 + 1) (ix (x6 + 1))) h) fun r9 h9 =>
      if r9 = 0 then
        (l_C_crosses_67 K50 n) a3 x4 x5 (x6 + 1) h9
      else
        (l_C_crosses_67 K50 n) a3 (x4 + 1) x5 (x6 + 1) h9
def l_C_crosses_50 : Nat → Nat → Int32 → Int32 → Hp → Option (Int32 × Hp)
  | 0, _, _, _, _ => none
  | n + 1, a3, x4, x5, h =>
    if (h a3 1) ≤ (x5 + 1) then
      some (x4, h)
    else
      l_C_crosses_67 (l_C_crosses_50 n) FUEL a3 x4 x5 (x5 + 2) h
def f_C_crosses (x1 : Int32) (x2 : Int32) (h : Hp) : Option (Int32 × Hp) :=
  bnd (f_C_canBeTold x1 x2 h) fun r1 h1 =>
  if r1 = 0 then
    some ((-2), h1)
  else
    bnd (f_C_isHidden x1 h1) fun r3 h3 =>
    if r3 = 0 then
      chk 4 0 <|
      bnd (f_C_lay 15 3 x1 x2 (h3 0 7) h3) fun r6 h6 =>
      l_C_crosses_50 FUEL r6 0 0 h6
    else
      some ((-3), h3)
def l_Sp_placeOf_2 : Nat → Nat → Int32 → Int32 → Hp → Option (Int32 × Hp)
  | 0, _, _, _, _ => none
  | n + 1, a0, x1, x2, h =>
    if (h a0 1) ≤ x2 then
      some ((-1), h)
    else
      chk 10 x2 <|
      if (h (a0 + 1) (ix x2)) = x1 then
        some (x2, h)
      else
        (l_Sp_placeOf_2 n) a0 x1 (x2 + 1) h
def f_Sp_placeOf (a0 : Nat) (x1 : Int32) (h : Hp) : Option (Int32 × Hp) :=
  l_Sp_placeOf_2 FUEL a0 x1 0 h
def f_C_neighbours (a0 : Nat) (x1 : Int32) (h : Hp) : Option (Int32 × Hp) :=
  bnd (f_Sp_placeOf a0 x1 h) fun r1 h1 =>
  if r1 = (-1) then
    some (0, h1)
  else
    if r1 ≤ 0 then
      if (h1 a0 1) ≤ (r1 + 1) then
        some (0 + 0, h1)
      else
        some (0 + 1, h1)
    else
      if (h1 a0 1) ≤ (r1 + 1) then
        some (1 + 0, h1)
      else
        some (1 + 1, h1)
def f_C_hangs (x1 : Int32) (x2 : Int32) (x3 : Int32) (h : Hp) : Option (Int32 × Hp) :=
  bnd (f_C_canBeTold x1 x2 h) fun r1 h1 =>
  if r1 = 0 then
    some ((-2), h1)
  else
    bnd (f_Fr_has 3 x3 h1) fun r3 h3 =>
    if r3 = 0 then
      some ((-2), h3)
    else
      bnd (f_C_isHidden x1 h3) fun r5 h5 =>
      if r5 = 0 then
        chk 4 0 <|
        bnd (f_C_lay 15 3 x1 x2 (h5 0 7) h5) fun r8 h8 =>
        bnd (f_C_neighbours r8 x3 h8) fun r9 h9 =>
        some (r9, h9)
      else
        some ((-3), h5)
def f_C_pieces (x1 : Int32) (x2 : Int32) (x3 : Int32) (h : Hp) : Option (Int32 × Hp) :=
  bnd (f_C_canBeTold x1 x2 h) fun r1 h1 =>
  if r1 = 0 then
    some ((-2), h1)
  else
    bnd (f_Fr_has 3 x3 h1) fun r3 h3 =>
    if r3 = 0 then
      some ((-2), h3)
    else
      bnd (f_C_isHidden x1 h3) fun r5 h5 =>
      if r5 = 0 then
        chk 4 0 <|
        bnd (f_C_lay 15 3 x1 x2 (h5 0 7) h5) fun r8 h8 =>
        bnd (f_Sp_placeOf r8 x3 h8) fun r9 h9 =>
        if r9 = (-1) then
          some (1, h9)
        else
          bnd (f_C_neighbours r8 x3 h9) fun r11 h11 =>
          some (r11, h11)
      else
        some ((-3), h5)
def l_Fr_becomeTurned_7 : Nat → Nat → Nat → Int32 → Hp → Option (Unit × Hp)
  | 0, _, _, _, _ => none
  | n + 1, a0, a1, x2, h =>
    if (h a1 2) ≤ x2 then
      some ((), h)
    else
      chk 10 x2 <|
      chk 10 x2 <|
      bnd (f_Fr_add a0 (9 - (h (a1 + 2) (ix x2))) (h (a1 + 1) (ix x2)) h) fun _ h2 =>
      (l_Fr_becomeTurned_7 n) a0 a1 (x2 + 1) h2
def f_Fr_becomeTurned (a0 : Nat) (a1 : Nat) (h : Hp) : Option (Unit × Hp) :=
  l_Fr_becomeTurned_7 FUEL a0 a1 0 (hset h a0 2 0)
def l_Sp_hasRowOf_15 : Nat → Nat → Nat → Int32 → Hp → Option (Int32 × Hp)
  | 0, _, _, _, _ => none
  | n + 1, a0, a1, x2, h =>
    if (h a0 1) ≤ x2 then
      some (1, h)
    else
      chk 10 x2 <|
      chk 10 x2 <|
      if (h (a0 + 1) (ix x2)) = (h (a1 + 1) (ix x2)) then
        (l_Sp_hasRowOf_15 n) a0 a1 (x2 + 1) h
      else
        some (0, h)
def f_Sp_hasRowOf (a0 : Nat) (a1 : Nat) (h : Hp) : Option (Int32 × Hp) :=
  if (h a0 1) = (h a1 1) then
    l_Sp_hasRowOf_15 FUEL a0 a1 0 h
  else
    some (0, h)
def f_C_turned (x1 : Int32) (x2 : Int32) (h : Hp) : Option (Int32 × Hp) :=
  bnd (f_C_canBeTold x1 x2 h) fun r1 h1 =>
  if r1 = 0 then
    some ((-2), h1)
  else
    bnd (f_C_isHidden x1 h1) fun r3 h3 =>
    if r3 = 0 then
      bnd (f_Fr_becomeTurned 6 3 h3) fun _ h5 =>
      chk 4 0 <|
      bnd (f_C_lay 15 3 x1 x2 (h5 0 7) h5) fun r7 h7 =>
      chk 4 1 <|
      bnd (f_C_lay 17 6 x1 x2 (h7 0 7) h7) fun r9 h9 =>
      bnd (f_Sp_hasRowOf r7 r9 h9) fun r10 h10 =>
      if r10 = 0 then
        some (0, h10)
      else
        some (1, h10)
    else
      some ((-3), h3)
def l_Fr_become_7 : Nat → Nat → Nat → Int32 → Hp → Option (Unit × Hp)
  | 0, _, _, _, _ => none
  | n + 1, a0, a1, x2, h =>
    if (h a1 2) ≤ x2 then
      some ((), h)
    else
      chk 10 x2 <|
      chk 10 x2 <|
      bnd (f_Fr_add a0 (h (a1 + 1) (ix x2)) (h (a1 + 2) (ix x2)) h) fun _ h2 =>
      (l_Fr_become_7 n) a0 a1 (x2 + 1) h2
def f_Fr_become (a0 : Nat) (a1 : Nat) (h : Hp) : Option (Unit × Hp) :=
  l_Fr_become_7 FUEL a0 a1 0 (hset h a0 2 0)
def f_C_more (x1 : Int32) (x2 : Int32) (x3 : Int32) (x4 : Int32) (h : Hp) : Option (Int32 × Hp) :=
  bnd (f_C_canBeTold x1 x2 h) fun r1 h1 =>
  if r1 = 0 then
    some ((-2), h1)
  else
    if x3 < 0 then
      some ((-2), h1)
    else
      if 10 ≤ x3 then
        some ((-2), h1)
      else
        if x4 < 0 then
          some ((-2), h1)
        else
          if x4 < 10 then
            bnd (f_C_isHidden x1 h1) fun r7 h7 =>
            if r7 = 0 then
              if 10 ≤ (h7 3 2) then
                some ((-3), h7)
              else
                bnd (f_Fr_isTaken 3 x3 x4 h7) fun r10 h10 =>
                if r10 = 0 then
                  bnd (f_Fr_become 6 3 h10) fun _ h12 =>
                  bnd (f_Fr_add 6 x3 x4 h12) fun _ h13 =>
                  chk 4 0 <|
                  bnd (f_C_lay 15 6 x1 x2 (h13 0 7) h13) fun r15 h15 =>
                  some (h15 r15 3, h15)
                else
                  some ((-3), h10)
            else
              some ((-3), h7)
          else
            some ((-2), h1)
def l_C_begin_20 : Nat → Int32 → Int32 → Int32 → Int32 → Int32 → Hp → Option (Int32 × Hp)
  | 0, _, _, _, _, _, _ => none
  | n + 1, x1, x2, x3, x4, x5, h =>
    if (h 3 2) ≤ x5 then
      some (x2, h)
    else
      bnd (f_C_isHidden x5 h) fun r4 h4 =>
      if r4 = 0 then
        chk 4 0 <|
        bnd (f_C_lay 15 3 x5 x1 (h4 0 7) h4) fun r7 h7 =>
        if x3 < (h7 r7 1) then
          (l_C_begin_20 n) x1 x5 (h7 r7 1) (h7 r7 3) (x5 + 1) h7
        else
          if (h7 r7 1) = x3 then
            if x4 ≤ (h7 r7 3) then
              (l_C_begin_20 n) x1 x2 x3 x4 (x5 + 1) h7
            else
              (l_C_begin_20 n) x1 x5 (h7 r7 1) (h7 r7 3) (x5 + 1) h7
          else
            (l_C_begin_20 n) x1 x2 x3 x4 (x5 + 1) h7
      else
        (l_C_begin_20 n) x1 x2 x3 x4 (x5 + 1) h4
def f_C_begin (x1 : Int32) (h : Hp) : Option (Int32 × Hp) :=
  bnd (f_C_isLaw x1 h) fun r1 h1 =>
  if r1 = 0 then
    some ((-2), h1)
  else
    l_C_begin_20 FUEL x1 (-1) 0 0 0 h1
def f_In_bitCount (x0 : Int32) (h : Hp) : Option (Int32 × Hp) :=
  some ((((((((x0 - (((Int32.toUInt32 x0 >>> (Int32.toUInt32 1 &&& Int32.toUInt32 31)).toInt32) &&& 1431655765)) &&& 858993459) + (((Int32.toUInt32 (x0 - (((Int32.toUInt32 x0 >>> (Int32.toUInt32 1 &&& Int32.toUInt32 31)).toInt32) &&& 1431655765)) >>> (Int32.toUInt32 2 &&& Int32.toUInt32 31)).toInt32) &&& 858993459)) + ((Int32.toUInt32 (((x0 - (((Int32.toUInt32 x0 >>> (Int32.toUInt32 1 &&& Int32.toUInt32 31)).toInt32) &&& 1431655765)) &&& 858993459) + (((Int32.toUInt32 (x0 - (((Int32.toUInt32 x0 >>> (Int32.toUInt32 1 &&& Int32.toUInt32 31)).toInt32) &&& 1431655765)) >>> (Int32.toUInt32 2 &&& Int32.toUInt32 31)).toInt32) &&& 858993459)) >>> (Int32.toUInt32 4 &&& Int32.toUInt32 31)).toInt32)) &&& 252645135) + ((Int32.toUInt32 (((((x0 - (((Int32.toUInt32 x0 >>> (Int32.toUInt32 1 &&& Int32.toUInt32 31)).toInt32) &&& 1431655765)) &&& 858993459) + (((Int32.toUInt32 (x0 - (((Int32.toUInt32 x0 >>> (Int32.toUInt32 1 &&& Int32.toUInt32 31)).toInt32) &&& 1431655765)) >>> (Int32.toUInt32 2 &&& Int32.toUInt32 31)).toInt32) &&& 858993459)) + ((Int32.toUInt32 (((x0 - (((Int32.toUInt32 x0 >>> (Int32.toUInt32 1 &&& Int32.toUInt32 31)).toInt32) &&& 1431655765)) &&& 858993459) + (((Int32.toUInt32 (x0 - (((Int32.toUInt32 x0 >>> (Int32.toUInt32 1 &&& Int32.toUInt32 31)).toInt32) &&& 1431655765)) >>> (Int32.toUInt32 2 &&& Int32.toUInt32 31)).toInt32) &&& 858993459)) >>> (Int32.toUInt32 4 &&& Int32.toUInt32 31)).toInt32)) &&& 252645135) >>> (Int32.toUInt32 8 &&& Int32.toUInt32 31)).toInt32)) + ((Int32.toUInt32 ((((((x0 - (((Int32.toUInt32 x0 >>> (Int32.toUInt32 1 &&& Int32.toUInt32 31)).toInt32) &&& 1431655765)) &&& 858993459) + (((Int32.toUInt32 (x0 - (((Int32.toUInt32 x0 >>> (Int32.toUInt32 1 &&& Int32.toUInt32 31)).toInt32) &&& 1431655765)) >>> (Int32.toUInt32 2 &&& Int32.toUInt32 31)).toInt32) &&& 858993459)) + ((Int32.toUInt32 (((x0 - (((Int32.toUInt32 x0 >>> (Int32.toUInt32 1 &&& Int32.toUInt32 31)).toInt32) &&& 1431655765)) &&& 858993459) + (((Int32.toUInt32 (x0 - (((Int32.toUInt32 x0 >>> (Int32.toUInt32 1 &&& Int32.toUInt32 31)).toInt32) &&& 1431655765)) >>> (Int32.toUInt32 2 &&& Int32.toUInt32 31)).toInt32) &&& 858993459)) >>> (Int32.toUInt32 4 &&& Int32.toUInt32 31)).toInt32)) &&& 252645135) + ((Int32.toUInt32 (((((x0 - (((Int32.toUInt32 x0 >>> (Int32.toUInt32 1 &&& Int32.toUInt32 31)).toInt32) &&& 1431655765)) &&& 858993459) + (((Int32.toUInt32 (x0 - (((Int32.toUInt32 x0 >>> (Int32.toUInt32 1 &&& Int32.toUInt32 31)).toInt32) &&& 1431655765)) >>> (Int32.toUInt32 2 &&& Int32.toUInt32 31)).toInt32) &&& 858993459)) + ((Int32.toUInt32 (((x0 - (((Int32.toUInt32 x0 >>> (Int32.toUInt32 1 &&& Int32.toUInt32 31)).toInt32) &&& 1431655765)) &&& 858993459) + (((Int32.toUInt32 (x0 - (((Int32.toUInt32 x0 >>> (Int32.toUInt32 1 &&& Int32.toUInt32 31)).toInt32) &&& 1431655765)) >>> (Int32.toUInt32 2 &&& Int32.toUInt32 31)).toInt32) &&& 858993459)) >>> (Int32.toUInt32 4 &&& Int32.toUInt32 31)).toInt32)) &&& 252645135) >>> (Int32.toUInt32 8 &&& Int32.toUInt32 31)).toInt32)) >>> (Int32.toUInt32 16 &&& Int32.toUInt32 31)).toInt32)) &&& 63, h)
def l_C_fewestHiddenFor_38 : Nat → Int32 → Int32 → Int32 → Int32 → Int32 → Int32 → Int32 → Hp → Option (Int32 × Hp)
  | 0, _, _, _, _, _, _, _, _ => none
  | n + 1, x1, x2, x3, x4, x5, x6, x7, h =>
    if x4 < x7 then
      some (x5, h)
    else
      if (x7 &&& (x4 ^^^ (-1))) = 0 then
        bnd (f_In_bitCount x7 h) fun r4 h4 =>
        if r4 < x6 then
          chk 4 0 <|
          bnd (f_C_lay 15 3 x1 x2 ((h4 0 7) ||| x7) h4) fun r7 h7 =>
          bnd (f_Sp_here r7 h7) fun r8 h8 =>
          if r8 = x3 then
            bnd (f_In_bitCount x7 h8) fun r10 h10 =>
            (l_C_fewestHiddenFor_38 n) x1 x2 x3 x4 x7 r10 (x7 + 1) h10
          else
            (l_C_fewestHiddenFor_38 n) x1 x2 x3 x4 x5 x6 (x7 + 1) h8
        else
          (l_C_fewestHiddenFor_38 n) x1 x2 x3 x4 x5 x6 (x7 + 1) h4
      else
        (l_C_fewestHiddenFor_38 n) x1 x2 x3 x4 x5 x6 (x7 + 1) h
def f_C_fewestHiddenFor (x1 : Int32) (x2 : Int32) (x3 : Int32) (h : Hp) : Option (Int32 × Hp) :=
  bnd (f_Fr_all 3 h) fun r1 h1 =>
  l_C_fewestHiddenFor_38 FUEL x1 x2 x3 (((r1 &&& ((h1 0 7) ^^^ (-1))) &&& (((1 : Int32) <<< (x1 &&& 31)) ^^^ (-1))) &&& (((1 : Int32) <<< (x3 &&& 31)) ^^^ (-1))) (-1) 11 0 h1
def f_C_last (x1 : Int32) (x2 : Int32) (x3 : Int32) (x4 : Int32) (h : Hp) : Option (Int32 × Hp) :=
  bnd (f_C_canBeTold x1 x2 h) fun r1 h1 =>
  if r1 = 0 then
    some ((-2), h1)
  else
    bnd (f_Fr_has 3 x3 h1) fun r3 h3 =>
    if r3 = 0 then
      some ((-2), h3)
    else
      if x1 = x3 then
        some ((-2), h3)
      else
        if x4 < 0 then
          some ((-2), h3)
        else
          if x4 ≤ 1 then
            bnd (f_C_isHidden x1 h3) fun r8 h8 =>
            if r8 = 0 then
              bnd (f_C_isHidden x3 h8) fun r10 h10 =>
              if r10 = 0 then
                bnd (f_C_fewestHiddenFor x1 x2 x3 h10) fun r12 h12 =>
                if r12 = (-1) then
                  some ((-1), h12)
                else
                  if x4 = 0 then
                    bnd (f_In_bitCount r12 h12) fun r15 h15 =>
                    some (r15, h15)
                  else
                    some (r12, h12)
              else
                some ((-3), h10)
            else
              some ((-3), h8)
          else
            some ((-2), h3)
def l_C_stepInTurn_42 : Nat → Nat → Nat → Int32 → Int32 → Int32 → Int32 → Hp → Option (Int32 × Hp)
  | 0, _, _, _, _, _, _, _ => none
  | n + 1, a1, a2, x3, x4, x5, x6, h =>
    if 40 ≤ x6 then
      some (x4, h)
    else
      if 2 ≤ x5 then
        some (x4, h)
      else
        if (x6 - x6 / 2 * 2) = 0 then
          bnd (f_Sp_here a1 h) fun r7 h7 =>
          bnd (f_Fr_choose 3 (h a1 2) r7 x3 h7) fun r8 h8 =>
          if r8 = (-1) then
            (l_C_stepInTurn_42 n) a1 a2 x3 x4 (x5 + 1) (x6 + 1) h8
          else
            bnd (f_Sp_here a1 h8) fun r10 h10 =>
            bnd (f_Fr_apart 3 r10 r8 h10) fun r11 h11 =>
            bnd (f_Sp_goOn a1 r8 r11 (h11 0 9) h11) fun r12 h12 =>
            if r12 = 0 then
              (l_C_stepInTurn_42 n) a1 a2 x3 x4 (x5 + 1) (x6 + 1) h12
            else
              (l_C_stepInTurn_42 n) a1 a2 (x3 &&& (((1 : Int32) <<< (r8 &&& 31)) ^^^ (-1))) r8 0 (x6 + 1) h12
        else
          bnd (f_Sp_here a2 h) fun r14 h14 =>
          bnd (f_Fr_choose 3 (h a2 2) r14 x3 h14) fun r15 h15 =>
          if r15 = (-1) then
            (l_C_stepInTurn_42 n) a1 a2 x3 x4 (x5 + 1) (x6 + 1) h15
          else
            bnd (f_Sp_here a2 h15) fun r17 h17 =>
            bnd (f_Fr_apart 3 r17 r15 h17) fun r18 h18 =>
            bnd (f_Sp_goOn a2 r15 r18 (h18 0 9) h18) fun r19 h19 =>
            if r19 = 0 then
              (l_C_stepInTurn_42 n) a1 a2 x3 x4 (x5 + 1) (x6 + 1) h19
            else
              (l_C_stepInTurn_42 n) a1 a2 (x3 &&& (((1 : Int32) <<< (r15 &&& 31)) ^^^ (-1))) r15 0 (x6 + 1) h19
def f_C_stepInTurn (a1 : Nat) (a2 : Nat) (h : Hp) : Option (Int32 × Hp) :=
  bnd (f_Fr_all 3 h) fun r1 h1 =>
  bnd (f_Sp_here a1 h1) fun r2 h2 =>
  bnd (f_Sp_here a2 h2) fun r3 h3 =>
  l_C_stepInTurn_42 FUEL a1 a2 (((r1 &&& ((h1 0 7) ^^^ (-1))) &&& (((1 : Int32) <<< (r2 &&& 31)) ^^^ (-1))) &&& (((1 : Int32) <<< (r3 &&& 31)) ^^^ (-1))) (-1) 0 0 h3
def f_C_two (x1 : Int32) (x2 : Int32) (x3 : Int32) (x4 : Int32) (x5 : Int32) (h : Hp) : Option (Int32 × Hp) :=
  bnd (f_C_canBeTold x1 x2 h) fun r1 h1 =>
  if r1 = 0 then
    some ((-2), h1)
  else
    bnd (f_C_canBeTold x3 x4 h1) fun r3 h3 =>
    if r3 = 0 then
      some ((-2), h3)
    else
      if x1 = x3 then
        some ((-2), h3)
      else
        if x5 < 0 then
          some ((-2), h3)
        else
          if x5 ≤ 2 then
            bnd (f_C_isHidden x1 h3) fun r8 h8 =>
            if r8 = 0 then
              bnd (f_C_isHidden x3 h8) fun r10 h10 =>
              if r10 = 0 then
                chk 4 0 <|
                chk 4 1 <|
                bnd (f_Sp_startAt 15 x1 x2 (h10 0 8) h10) fun _ h14 =>
                bnd (f_Sp_startAt 17 x3 x4 (h14 0 8) h14) fun _ h15 =>
                bnd (f_C_stepInTurn 15 17 h15) fun r16 h16 =>
                if x5 = 0 then
                  some (h16 15 1, h16)
                else
                  if x5 = 1 then
                    some (h16 17 1, h16)
                  else
                    some (r16, h16)
              else
                some ((-3), h10)
            else
              some ((-3), h8)
          else
            some ((-2), h3)
def f_No_add (a0 : Nat) (x1 : Int32) (x2 : Int32) (x3 : Int32) (h : Hp) : Option (Unit × Hp) :=
  if 8 ≤ (h a0 3) then
    some ((), h)
  else
    chk 8 (h a0 3) <|
    chk 8 ((hset h (a0 + 1) (ix (h a0 3)) x1) a0 3) <|
    chk 8 ((hset (hset h (a0 + 1) (ix (h a0 3)) x1) (a0 + 2) (ix ((hset h (a0 + 1) (ix (h a0 3)) x1) a0 3)) x2) a0 3) <|
    some ((), hset (hset (hset (hset h (a0 + 1) (ix (h a0 3)) x1) (a0 + 2) (ix ((hset h (a0 + 1) (ix (h a0 3)) x1) a0 3)) x2) (a0 + 3) (ix ((hset (hset h (a0 + 1) (ix (h a0 3)) x1) (a0 + 2) (ix ((hset h (a0 + 1) (ix (h a0 3)) x1) a0 3)) x2) a0 3)) x3) a0 3 (((hset (hset (hset h (a0 + 1) (ix (h a0 3)) x1) (a0 + 2) (ix ((hset h (a0 + 1) (ix (h a0 3)) x1) a0 3)) x2) (a0 + 3) (ix ((hset (hset h (a0 + 1) (ix (h a0 3)) x1) (a0 + 2) (ix ((hset h (a0 + 1) (ix (h a0 3)) x1) a0 3)) x2) a0 3)) x3) a0 3) + 1))
def f_C_seen (x1 : Int32) (x2 : Int32) (x3 : Int32) (h : Hp) : Option (Int32 × Hp) :=
  if x1 < 0 then
    some ((-2), h)
  else
    if 10 ≤ x1 then
      some ((-2), h)
    else
      if x2 < 1 then
        some ((-2), h)
      else
        if 10 ≤ x2 then
          some ((-2), h)
        else
          if x3 < 0 then
            some ((-2), h)
          else
            if x3 < 10 then
              if (h 10 3) < 8 then
                bnd (f_No_add 10 x1 x2 x3 h) fun _ h8 =>
                some (h8 10 3, h8)
              else
                some ((-4), h)
            else
              some ((-2), h)
def f_C_forget (h : Hp) : Option (Int32 × Hp) :=
  some (h 10 3, hset h 10 3 0)
def l_C_comesOut_2 : Nat → Int32 → Int32 → Hp → Option (Int32 × Hp)
  | 0, _, _, _ => none
  | n + 1, x1, x2, h =>
    if (h 10 3) ≤ x2 then
      some (1, h)
    else
      chk 8 x2 <|
      bnd (f_Fr_has 3 (h 11 (ix x2)) h) fun r2 h2 =>
      if r2 = 0 then
        some (0, h2)
      else
        bnd (f_C_isHidden (h 11 (ix x2)) h2) fun r4 h4 =>
        if r4 = 0 then
          chk 4 0 <|
          bnd (f_C_lay 15 3 (h 11 (ix x2)) x1 (h4 0 7) h4) fun r7 h7 =>
          chk 8 x2 <|
          if (h7 r7 1) ≤ (h7 12 (ix x2)) then
            some (0, h7)
          else
            chk 10 (h7 12 (ix x2)) <|
            chk 8 x2 <|
            if (h7 (r7 + 1) (ix (h7 12 (ix x2)))) = (h7 13 (ix x2)) then
              (l_C_comesOut_2 n) x1 (x2 + 1) h7
            else
              some (0, h7)
        else
          some (0, h4)
def f_C_comesOut (x1 : Int32) (h : Hp) : Option (Int32 × Hp) :=
  l_C_comesOut_2 FUEL x1 0 h
def l_C_fits_4 : Nat → Int32 → Int32 → Hp → Option (Int32 × Hp)
  | 0, _, _, _ => none
  | n + 1, x1, x2, h =>
    if 4 ≤ x2 then
      some (x1, h)
    else
      bnd (f_C_comesOut x2 h) fun r2 h2 =>
      if r2 = 0 then
        (l_C_fits_4 n) x1 (x2 + 1) h2
      else
        (l_C_fits_4 n) (x1 ||| ((1 : Int32) <<< (x2 &&& 31))) (x2 + 1) h2
def f_C_fits (h : Hp) : Option (Int32 × Hp) :=
  l_C_fits_4 FUEL 0 0 h
def l_C_unlikeWebs_53 (K5 : Int32 → Int32 → Int32 → Int32 → Hp → Option (Int32 × Hp)) : Nat → Int32 → Int32 → Int32 → Int32 → Nat → Int32 → Int32 → Hp → Option (Int32 × Hp)
  | 0, _, _, _, _, _, _, _, _ => none
  | n + 1, x1, x2, x3, x4, a5, x6, x7, h =>
    if x4 ≤ x7 then
      if x6 = 0 then
        K5 x1 x2 x3 (x4 + 1) h
      else
        K5 x1 x2 (x3 + 1) (x4 + 1) h
    else
      if ((x2 >>> (x7 &&& 31)) &&& 1) = 1 then
        chk 4 x7 <|
        bnd (f_Sp_hasRowOf a5 (15 + 2 * ix x7) h) fun r9 h9 =>
        if r9 = 0 then
          (l_C_unlikeWebs_53 K5 n) x1 x2 x3 x4 a5 x6 (x7 + 1) h9
        else
          (l_C_unlikeWebs_53 K5 n) x1 x2 x3 x4 a5 0 (x7 + 1) h9
      else
        (l_C_unlikeWebs_53 K5 n) x1 x2 x3 x4 a5 x6 (x7 + 1) h
def l_C_unlikeWebs_5 : Nat → Int32 → Int32 → Int32 → Int32 → Hp → Option (Int32 × Hp)
  | 0, _, _, _, _, _ => none
  | n + 1, x1, x2, x3, x4, h =>
    if 4 ≤ x4 then
      some (x3, h)
    else
      if ((x2 >>> (x4 &&& 31)) &&& 1) = 0 then
        (l_C_unlikeWebs_5 n) x1 x2 x3 (x4 + 1) h
      else
        chk 4 x4 <|
        bnd (f_C_lay (15 + 2 * ix x4) 3 x1 x4 (h 0 7) h) fun r4 h4 =>
        l_C_unlikeWebs_53 (l_C_unlikeWebs_5 n) FUEL x1 x2 x3 x4 r4 1 0 h4
def f_C_unlikeWebs (x1 : Int32) (x2 : Int32) (h : Hp) : Option (Int32 × Hp) :=
  l_C_unlikeWebs_5 FUEL x1 x2 0 0 h
def l_C_tells_12 : Nat → Int32 → Int32 → Int32 → Int32 → Hp → Option (Int32 × Hp)
  | 0, _, _, _, _, _ => none
  | n + 1, x1, x2, x3, x4, h =>
    if (h 3 2) ≤ x4 then
      some (x2, h)
    else
      bnd (f_C_isHidden x4 h) fun r3 h3 =>
      if r3 = 0 then
        bnd (f_C_unlikeWebs x4 x1 h3) fun r5 h5 =>
        if r5 ≤ x3 then
          (l_C_tells_12 n) x1 x2 x3 (x4 + 1) h5
        else
          (l_C_tells_12 n) x1 x4 r5 (x4 + 1) h5
      else
        (l_C_tells_12 n) x1 x2 x3 (x4 + 1) h3
def f_C_tells (h : Hp) : Option (Int32 × Hp) :=
  bnd (f_C_fits h) fun r1 h1 =>
  l_C_tells_12 FUEL r1 (-1) (-1) 0 h1
def f_C_nextLot (x0 : Int32) (h : Hp) : Option (Int32 × Hp) :=
  some ((1103515245 * x0) + 12345, h)
def f_C_placeByLot (x0 : Int32) (h : Hp) : Option (Int32 × Hp) :=
  some (((Int32.toUInt32 x0 >>> (Int32.toUInt32 16 &&& Int32.toUInt32 31)).toInt32) - ((Int32.toUInt32 x0 >>> (Int32.toUInt32 16 &&& Int32.toUInt32 31)).toInt32) / 10 * 10, h)
def f_Fr_apartFrom (a0 : Nat) (x1 : Int32) (x2 : Int32) (x3 : Int32) (h : Hp) : Option (Int32 × Hp) :=
  chk 10 x1 <|
  chk 10 x1 <|
  some ((jabs ((h (a0 + 1) (ix x1)) - x2)) + (jabs ((h (a0 + 2) (ix x1)) - x3)), h)
def l_C_isCaught_3 : Nat → Nat → Int32 → Int32 → Int32 → Hp → Option (Int32 × Hp)
  | 0, _, _, _, _, _ => none
  | n + 1, a1, x2, x3, x4, h =>
    if (h a1 1) ≤ x4 then
      some (0, h)
    else
      chk 10 x4 <|
      bnd (f_Fr_apartFrom 3 (h (a1 + 1) (ix x4)) x2 x3 h) fun r2 h2 =>
      if (h2 0 10) < r2 then
        (l_C_isCaught_3 n) a1 x2 x3 (x4 + 1) h2
      else
        some (1, h2)
def f_C_isCaught (a1 : Nat) (x2 : Int32) (x3 : Int32) (h : Hp) : Option (Int32 × Hp) :=
  l_C_isCaught_3 FUEL a1 x2 x3 0 h
def l_C_flies_66 : Nat → Int32 → Nat → Int32 → Int32 → Int32 → Hp → Option (Int32 × Hp)
  | 0, _, _, _, _, _, _ => none
  | n + 1, x4, a5, x6, x7, x8, h =>
    if x4 ≤ x8 then
      some (x7, h)
    else
      bnd (f_C_nextLot x6 h) fun r10 h10 =>
      bnd (f_C_placeByLot r10 h10) fun r11 h11 =>
      bnd (f_C_nextLot r10 h11) fun r12 h12 =>
      bnd (f_C_placeByLot r12 h12) fun r13 h13 =>
      bnd (f_C_isCaught a5 r11 r13 h13) fun r14 h14 =>
      if r14 = 0 then
        (l_C_flies_66 n) x4 a5 r12 x7 (x8 + 1) h14
      else
        (l_C_flies_66 n) x4 a5 r12 (x7 + 1) (x8 + 1) h14
def f_C_flies (x1 : Int32) (x2 : Int32) (x3 : Int32) (x4 : Int32) (h : Hp) : Option (Int32 × Hp) :=
  bnd (f_C_canBeTold x1 x2 h) fun r1 h1 =>
  if r1 = 0 then
    some ((-2), h1)
  else
    if x4 < 0 then
      some ((-2), h1)
    else
      if x4 ≤ 99 then
        bnd (f_C_isHidden x1 h1) fun r5 h5 =>
        if r5 = 0 then
          chk 4 0 <|
          bnd (f_C_lay 15 3 x1 x2 (h5 0 7) h5) fun r8 h8 =>
          l_C_flies_66 FUEL x4 r8 x3 0 0 h8
        else
          some ((-3), h5)
      else
        some ((-2), h1)
def l_C_dew_77 : Nat → Nat → Nat → Int32 → Hp → Option (Int32 × Hp)
  | 0, _, _, _, _ => none
  | n + 1, a4, a5, x6, h =>
    if (h a4 3) ≤ x6 then
      some ((-1), h)
    else
      if (h a5 1) ≤ (x6 + 1) then
        some ((-1), h)
      else
        chk 48 x6 <|
        chk 10 x6 <|
        chk 10 (x6 + 1) <|
        bnd (f_Fr_apart 3 (h (a5 + 1) (ix x6)) (h (a5 + 1) (ix (x6 + 1))) h) fun r13 h13 =>
        if (h (a4 + 1) (ix x6)) ≤ r13 then
          (l_C_dew_77 n) a4 a5 (x6 + 1) h13
        else
          some (x6, h13)
def f_C_dew (x1 : Int32) (x2 : Int32) (x3 : Int32) (h : Hp) : Option (Int32 × Hp) :=
  bnd (f_C_canBeTold x1 x2 h) fun r1 h1 =>
  if r1 = 0 then
    some ((-2), h1)
  else
    bnd (f_C_isSheet x3 h1) fun r3 h3 =>
    if r3 = 0 then
      some ((-2), h3)
    else
      chk 4 x3 <|
      if (h3 (23 + 2 * ix x3) 1) = 0 then
        bnd (f_C_isHidden x1 h3) fun r7 h7 =>
        if r7 = 0 then
          chk 4 0 <|
          bnd (f_C_lay 15 3 x1 x2 (h7 0 7) h7) fun r10 h10 =>
          l_C_dew_77 FUEL (23 + 2 * ix x3) r10 0 h10
        else
          some ((-3), h7)
      else
        bnd (f_C_found 1 h3) fun r15 h15 =>
        some (r15, h15)
def f_C_isForm (x0 : Int32) (h : Hp) : Option (Int32 × Hp) :=
  if x0 < 0 then
    some (0, h)
  else
    if 2 < x0 then
      some (0, h)
    else
      some (1, h)
def l_Sh_renew_22 : Nat → Nat → Int32 → Hp → Option (Unit × Hp)
  | 0, _, _, _ => none
  | n + 1, a0, x3, h =>
    if (h a0 3) ≤ x3 then
      some ((), h)
    else
      chk 48 x3 <|
      (l_Sh_renew_22 n) a0 (x3 + 1) (hset h (a0 + 1) (ix x3) 0)
def f_Sh_renew (a0 : Nat) (x1 : Int32) (x2 : Int32) (h : Hp) : Option (Unit × Hp) :=
  l_Sh_renew_22 FUEL a0 0 (hset (hset (hset h a0 1 0) a0 2 x1) a0 3 (jmin x2 48))
def f_C_sheet (x1 : Int32) (x2 : Int32) (x3 : Int32) (h : Hp) : Option (Int32 × Hp) :=
  bnd (f_C_isSheet x1 h) fun r1 h1 =>
  if r1 = 0 then
    some ((-2), h1)
  else
    bnd (f_C_isForm x2 h1) fun r3 h3 =>
    if r3 = 0 then
      some ((-2), h3)
    else
      if x3 ≤ 48 then
        if 0 ≤ x3 then
          chk 4 x1 <|
          bnd (f_Sh_renew (23 + 2 * ix x1) x2 x3 h3) fun _ h8 =>
          some (x3, h8)
        else
          bnd (f_C_found 5 h3) fun r9 h9 =>
          some (r9, h9)
      else
        some ((-2), h3)
def f_C_lose (x1 : Int32) (h : Hp) : Option (Int32 × Hp) :=
  bnd (f_C_isSheet x1 h) fun r1 h1 =>
  if r1 = 0 then
    some ((-2), h1)
  else
    chk 4 x1 <|
    if (h1 (23 + 2 * ix x1) 1) = 0 then
      chk 4 x1 <|
      chk 4 x1 <|
      some ((hset h1 (23 + 2 * ix x1) 1 1) (23 + 2 * ix x1) 3, hset h1 (23 + 2 * ix x1) 1 1)
    else
      bnd (f_C_found 1 h1) fun r7 h7 =>
      some (r7, h7)
def f_C_refusalOfItem (x1 : Int32) (x2 : Int32) (x3 : Int32) (h : Hp) : Option (Int32 × Hp) :=
  bnd (f_C_isSheet x1 h) fun r1 h1 =>
  if r1 = 0 then
    some ((-2), h1)
  else
    bnd (f_C_isForm x2 h1) fun r3 h3 =>
    if r3 = 0 then
      some ((-2), h3)
    else
      chk 4 x1 <|
      if (h3 (23 + 2 * ix x1) 1) = 0 then
        if (h3 (23 + 2 * ix x1) 2) = x2 then
          if x3 < 0 then
            bnd (f_C_found 2 h3) fun r9 h9 =>
            some (r9, h9)
          else
            if x3 < (h3 (23 + 2 * ix x1) 3) then
              some (0, h3)
            else
              bnd (f_C_found 2 h3) fun r11 h11 =>
              some (r11, h11)
        else
          bnd (f_C_found 3 h3) fun r12 h12 =>
          some (r12, h12)
      else
        bnd (f_C_found 1 h3) fun r13 h13 =>
        some (r13, h13)
def f_Sh_store (a0 : Nat) (x1 : Int32) (x2 : Int32) (h : Hp) : Option (Unit × Hp) :=
  if x1 < 0 then
    some ((), h)
  else
    if x1 < (h a0 3) then
      if (h a0 2) = 0 then
        chk 48 x1 <|
        some ((), hset h (a0 + 1) (ix x1) ((Int32.toInt8 x2).toInt32))
      else
        if (h a0 2) = 1 then
          chk 48 x1 <|
          some ((), hset h (a0 + 1) (ix x1) ((Int32.toInt16 x2).toInt32))
        else
          chk 48 x1 <|
          some ((), hset h (a0 + 1) (ix x1) x2)
    else
      some ((), h)
def f_C_put (x1 : Int32) (x2 : Int32) (x3 : Int32) (x4 : Int32) (h : Hp) : Option (Int32 × Hp) :=
  bnd (f_C_refusalOfItem x1 x2 x3 h) fun r1 h1 =>
  if r1 = 0 then
    chk 4 x1 <|
    bnd (f_Sh_store (23 + 2 * ix x1) x3 x4 h1) fun _ h4 =>
    some (1, h4)
  else
    some (r1, h1)
def f_C_get (x1 : Int32) (x2 : Int32) (x3 : Int32) (h : Hp) : Option (Int32 × Hp) :=
  bnd (f_C_refusalOfItem x1 x2 x3 h) fun r1 h1 =>
  if r1 = 0 then
    chk 4 x1 <|
    chk 48 x3 <|
    some (h1 (23 + 2 * ix x1 + 1) (ix x3), h1)
  else
    some ((-2147483648), h1)
def f_Sh_hasRun (a0 : Nat) (x1 : Int32) (x2 : Int32) (h : Hp) : Option (Int32 × Hp) :=
  if x1 < 0 then
    some (0, h)
  else
    if x2 < 0 then
      some (0, h)
    else
      if (h a0 3) < x1 then
        some (0, h)
      else
        if ((h a0 3) - x1) < x2 then
          some (0, h)
        else
          some (1, h)
def f_C_copy (x1 : Int32) (x2 : Int32) (x3 : Int32) (x4 : Int32) (x5 : Int32) (h : Hp) : Option (Int32 × Hp) :=
  bnd (f_C_isSheet x1 h) fun r1 h1 =>
  if r1 = 0 then
    some ((-2), h1)
  else
    bnd (f_C_isSheet x3 h1) fun r3 h3 =>
    if r3 = 0 then
      some ((-2), h3)
    else
      chk 4 x1 <|
      chk 4 x3 <|
      if (h3 (23 + 2 * ix x1) 1) = 0 then
        if (h3 (23 + 2 * ix x3) 1) = 0 then
          if (h3 (23 + 2 * ix x1) 2) = (h3 (23 + 2 * ix x3) 2) then
            bnd (f_Sh_hasRun (23 + 2 * ix x1) x2 x5 h3) fun r10 h10 =>
            if r10 = 0 then
              bnd (f_C_found 2 h10) fun r12 h12 =>
              some (r12, h12)
            else
              bnd (f_Sh_hasRun (23 + 2 * ix x3) x4 x5 h10) fun r13 h13 =>
              if r13 = 0 then
                bnd (f_C_found 2 h13) fun r15 h15 =>
                some (r15, h15)
              else
                bnd (acp h13 (23 + 2 * ix x1 + 1) (23 + 2 * ix x3 + 1) 48 48 x2 x4 x5) fun _ h16 =>
                some (1, h16)
          else
            bnd (f_C_found 4 h3) fun r17 h17 =>
            some (r17, h17)
        else
          bnd (f_C_found 1 h3) fun r18 h18 =>
          some (r18, h18)
      else
        bnd (f_C_found 1 h3) fun r19 h19 =>
        some (r19, h19)
def l_C_write_92 : Nat → Nat → Nat → Int32 → Int32 → Hp → Option (Int32 × Hp)
  | 0, _, _, _, _, _ => none
  | n + 1, a4, a5, x6, x7, h =>
    if x6 ≤ x7 then
      some (x6, h)
    else
      chk 10 x7 <|
      bnd (f_Sh_store a4 x7 (h (a5 + 1) (ix x7)) h) fun _ h13 =>
      (l_C_write_92 n) a4 a5 x6 (x7 + 1) h13
def f_C_write (x1 : Int32) (x2 : Int32) (x3 : Int32) (h : Hp) : Option (Int32 × Hp) :=
  bnd (f_C_canBeTold x1 x2 h) fun r1 h1 =>
  if r1 = 0 then
    some ((-2), h1)
  else
    bnd (f_C_isSheet x3 h1) fun r3 h3 =>
    if r3 = 0 then
      some ((-2), h3)
    else
      chk 4 x3 <|
      if (h3 (23 + 2 * ix x3) 1) = 0 then
        bnd (f_C_isHidden x1 h3) fun r7 h7 =>
        if r7 = 0 then
          chk 4 0 <|
          bnd (f_C_lay 15 3 x1 x2 (h7 0 7) h7) fun r10 h10 =>
          l_C_write_92 FUEL (23 + 2 * ix x3) r10 (jmin (h10 (23 + 2 * ix x3) 3) (h10 r10 1)) 0 h10
        else
          some ((-3), h7)
      else
        bnd (f_C_found 1 h3) fun r14 h14 =>
        some (r14, h14)
def l_Fr_apartOfAllPairs_16 (K4 : Nat → Int32 → Int32 → Hp → Option (Int32 × Hp)) : Nat → Nat → Int32 → Int32 → Int32 → Hp → Option (Int32 × Hp)
  | 0, _, _, _, _, _ => none
  | n + 1, a0, x1, x2, x3, h =>
    if (h a0 2) ≤ x3 then
      K4 a0 x1 (x2 + 1) h
    else
      bnd (f_Fr_apart a0 x2 x3 h) fun r3 h3 =>
      (l_Fr_apartOfAllPairs_16 K4 n) a0 (x1 + r3) x2 (x3 + 1) h3
def l_Fr_apartOfAllPairs_4 : Nat → Nat → Int32 → Int32 → Hp → Option (Int32 × Hp)
  | 0, _, _, _, _ => none
  | n + 1, a0, x1, x2, h =>
    if (h a0 2) ≤ x2 then
      some (x1, h)
    else
      l_Fr_apartOfAllPairs_16 (l_Fr_apartOfAllPairs_4 n) FUEL a0 x1 x2 (x2 + 1) h
def f_Fr_apartOfAllPairs (a0 : Nat) (h : Hp) : Option (Int32 × Hp) :=
  l_Fr_apartOfAllPairs_4 FUEL a0 0 0 h
def f_C_count (x1 : Int32) (h : Hp) : Option (Int32 × Hp) :=
  if x1 = 0 then
    some (h 3 2, h)
  else
    if x1 = 1 then
      some (h 1 1, h)
    else
      if x1 = 2 then
        bnd (f_Fr_all 3 h) fun r4 h4 =>
        bnd (f_In_bitCount (r4 &&& (h4 0 7)) h4) fun r5 h5 =>
        some (r5, h5)
      else
        if x1 = 3 then
          some (h 0 8, h)
        else
          if x1 = 4 then
            some (h 0 9, h)
          else
            if x1 = 5 then
              some (h 0 10, h)
            else
              if x1 = 6 then
                some (h 10 3, h)
              else
                if x1 = 7 then
                  bnd (f_Fr_apartOfAllPairs 3 h) fun r11 h11 =>
                  some (r11, h11)
                else
                  if x1 = 8 then
                    some (h 0 11, h)
                  else
                    some ((-2), h)
def l_C_mixWeb_6 : Nat → Int32 → Int32 → Int64 → Int32 → Hp → Option (Int64 × Hp)
  | 0, _, _, _, _, _ => none
  | n + 1, x3, x4, l5, x7, h =>
    if 3 ≤ x7 then
      bnd (f_C_crosses x3 x4 h) fun r2 h2 =>
      bnd (f_C_turned x3 x4 h2) fun r3 h3 =>
      bnd (f_C_web x3 x4 1 h3) fun r4 h4 =>
      bnd (f_C_hangs x3 x4 0 h4) fun r5 h5 =>
      bnd (f_C_pieces x3 x4 1 h5) fun r6 h6 =>
      bnd (f_C_flies x3 x4 7 9 h6) fun r7 h7 =>
      some ((31 * ((31 * ((31 * ((31 * ((31 * ((31 * l5) + (Int32.toInt64 r2))) + (Int32.toInt64 r3))) + (Int32.toInt64 r4))) + (Int32.toInt64 r5))) + (Int32.toInt64 r6))) + (Int32.toInt64 r7), h7)
    else
      bnd (f_C_length x3 x4 x7 h) fun r8 h8 =>
      (l_C_mixWeb_6 n) x3 x4 ((31 * l5) + (Int32.toInt64 r8)) (x7 + 1) h8
def f_C_mixWeb (l1 : Int64) (x3 : Int32) (x4 : Int32) (h : Hp) : Option (Int64 × Hp) :=
  l_C_mixWeb_6 FUEL x3 x4 l1 0 h
def l_C_digest_143 : Nat → Int64 → Int32 → Hp → Option (Int64 × Hp)
  | 0, _, _, _ => none
  | n + 1, l1, x3, h =>
    if 3 ≤ x3 then
      bnd (f_C_more 0 0 5 5 h) fun r7 h7 =>
      bnd (f_C_fits h7) fun r8 h8 =>
      bnd (f_C_tells h8) fun r9 h9 =>
      some ((31 * ((31 * ((31 * l1) + (Int32.toInt64 r7))) + (Int32.toInt64 r8))) + (Int32.toInt64 r9), h9)
    else
      bnd (f_C_two 0 0 1 1 x3 h) fun r10 h10 =>
      (l_C_digest_143 n) ((31 * l1) + (Int32.toInt64 r10)) (x3 + 1) h10
def l_C_digest_114 : Nat → Int64 → Int32 → Hp → Option (Int64 × Hp)
  | 0, _, _, _ => none
  | n + 1, l1, x3, h =>
    if 2 ≤ x3 then
      l_C_digest_143 FUEL l1 0 h
    else
      bnd (f_C_last 0 0 1 x3 h) fun r11 h11 =>
      (l_C_digest_114 n) ((31 * l1) + (Int32.toInt64 r11)) (x3 + 1) h11
def l_C_digest_88 : Nat → Int64 → Int32 → Hp → Option (Int64 × Hp)
  | 0, _, _, _ => none
  | n + 1, l1, x3, h =>
    if 4 ≤ x3 then
      l_C_digest_114 FUEL l1 0 h
    else
      bnd (f_C_begin x3 h) fun r12 h12 =>
      (l_C_digest_88 n) ((31 * l1) + (Int32.toInt64 r12)) (x3 + 1) h12
def l_C_digest_59 (K45 : Int64 → Int32 → Hp → Option (Int64 × Hp)) : Nat → Int64 → Int32 → Int32 → Hp → Option (Int64 × Hp)
  | 0, _, _, _, _ => none
  | n + 1, l1, x3, x4, h =>
    if 4 ≤ x4 then
      K45 l1 (x3 + 1) h
    else
      bnd (f_C_mixWeb l1 x3 x4 h) fun r14 h14 =>
      (l_C_digest_59 K45 n) r14 x3 (x4 + 1) h14
def l_C_digest_45 : Nat → Int64 → Int32 → Hp → Option (Int64 × Hp)
  | 0, _, _, _ => none
  | n + 1, l1, x3, h =>
    if (h 3 2) ≤ x3 then
      l_C_digest_88 FUEL l1 0 h
    else
      l_C_digest_59 (l_C_digest_45 n) FUEL l1 x3 0 h
def l_C_digest_6 : Nat → Int64 → Int32 → Hp → Option (Int64 × Hp)
  | 0, _, _, _ => none
  | n + 1, l1, x3, h =>
    if 8 ≤ x3 then
      bnd (f_C_fault h) fun r2 h2 =>
      l_C_digest_45 FUEL ((31 * l1) + (Int32.toInt64 r2)) 0 h2
    else
      bnd (f_C_count x3 h) fun r15 h15 =>
      (l_C_digest_6 n) ((31 * l1) + (Int32.toInt64 r15)) (x3 + 1) h15
def f_C_digest (h : Hp) : Option (Int64 × Hp) :=
  l_C_digest_6 FUEL 17 0 h
def f_M_in (x0 : Int32) (x1 : Int32) (x2 : Int32) (h : Hp) : Option (Int32 × Hp) :=
  if x0 < x1 then
    some (0, h)
  else
    if x2 < x0 then
      some (0, h)
    else
      some (1, h)
def f_M_type (x1 : Int32) (h : Hp) : Option (Int32 × Hp) :=
  bnd (f_M_in x1 0 255 h) fun r1 h1 =>
  if r1 = 0 then
    some ((-2), h1)
  else
    if (h1 31 1) = 40 then
      some ((-4), h1)
    else
      chk 40 (h1 31 1) <|
      some ((hset (hset h1 32 (ix (h1 31 1)) x1) 31 1 (((hset h1 32 (ix (h1 31 1)) x1) 31 1) + 1)) 31 1, hset (hset h1 32 (ix (h1 31 1)) x1) 31 1 (((hset h1 32 (ix (h1 31 1)) x1) 31 1) + 1))
def f_M_wipe (h : Hp) : Option (Int32 × Hp) :=
  some (h 31 1, hset h 31 1 0)
def f_M_undo (h : Hp) : Option (Int32 × Hp) :=
  if (h 31 1) = 0 then
    some ((-3), h)
  else
    some ((hset h 31 1 ((h 31 1) - 1)) 31 1, hset h 31 1 ((h 31 1) - 1))
def f_M_figureAt (x1 : Int32) (h : Hp) : Option (Int32 × Hp) :=
  if (h 31 1) ≤ x1 then
    bnd (f_M_in (-1) 0 9 h) fun r2 h2 =>
    if r2 = 0 then
      some ((-1), h2)
    else
      some ((-1), h2)
  else
    chk 40 x1 <|
    bnd (f_M_in ((h 32 (ix x1)) - 48) 0 9 h) fun r4 h4 =>
    if r4 = 0 then
      some ((-1), h4)
    else
      some ((h 32 (ix x1)) - 48, h4)
def l_M_isTaken_6 : Nat → Int32 → Int32 → Int32 → Int32 → Int32 → Hp → Option (Int32 × Hp)
  | 0, _, _, _, _, _, _ => none
  | n + 1, x1, x2, x3, x4, x5, h =>
    if x3 ≤ x5 then
      zret x4 h
    else
      if x4 = 0 then
        chk 11 x5 <|
        if (h 33 (ix x5)) = x1 then
          chk 11 x5 <|
          if (h 34 (ix x5)) = x2 then
            (l_M_isTaken_6 n) x1 x2 x3 1 (x5 + 1) h
          else
            (l_M_isTaken_6 n) x1 x2 x3 0 (x5 + 1) h
        else
          (l_M_isTaken_6 n) x1 x2 x3 0 (x5 + 1) h
      else
        (l_M_isTaken_6 n) x1 x2 x3 1 (x5 + 1) h
def f_M_isTaken (x1 : Int32) (x2 : Int32) (x3 : Int32) (h : Hp) : Option (Int32 × Hp) :=
  l_M_isTaken_6 FUEL x1 x2 x3 0 0 h
def l_M_faultNow_9 : Nat → Int32 → Int32 → Hp → Option (Int32 × Hp)
  | 0, _, _, _ => none
  | n + 1, x1, x2, h =>
    if x2 < (h 31 1) then
      bnd (f_M_figureAt x2 h) fun r2 h2 =>
      bnd (f_M_figureAt (x2 + 1) h2) fun r3 h3 =>
      if x1 = 10 then
        some (x2, h3)
      else
        if r2 = (-1) then
          some (x2, h3)
        else
          if r3 = (-1) then
            some (x2 + 1, h3)
          else
            bnd (f_M_isTaken r2 r3 x1 h3) fun r7 h7 =>
            if r7 = 0 then
              chk 11 x1 <|
              chk 11 x1 <|
              if (x2 + 2) = ((hset (hset h7 33 (ix x1) r2) 34 (ix x1) r3) 31 1) then
                some ((-1), hset (hset (hset h7 33 (ix x1) r2) 34 (ix x1) r3) 31 2 (x1 + 1))
              else
                chk 40 (x2 + 2) <|
                if ((hset (hset h7 33 (ix x1) r2) 34 (ix x1) r3) 32 (ix (x2 + 2))) = 59 then
                  (l_M_faultNow_9 n) (x1 + 1) ((x2 + 2) + 1) (hset (hset h7 33 (ix x1) r2) 34 (ix x1) r3)
                else
                  some (x2 + 2, hset (hset h7 33 (ix x1) r2) 34 (ix x1) r3)
            else
              some (x2 + 1, h7)
    else
      if x2 ≤ 0 then
        some ((-1), h)
      else
        bnd (f_M_figureAt x2 h) fun r12 h12 =>
        bnd (f_M_figureAt (x2 + 1) h12) fun r13 h13 =>
        if x1 = 10 then
          some (x2, h13)
        else
          if r12 = (-1) then
            some (x2, h13)
          else
            if r13 = (-1) then
              some (x2 + 1, h13)
            else
              bnd (f_M_isTaken r12 r13 x1 h13) fun r17 h17 =>
              if r17 = 0 then
                chk 11 x1 <|
                chk 11 x1 <|
                if (x2 + 2) = ((hset (hset h17 33 (ix x1) r12) 34 (ix x1) r13) 31 1) then
                  some ((-1), hset (hset (hset h17 33 (ix x1) r12) 34 (ix x1) r13) 31 2 (x1 + 1))
                else
                  chk 40 (x2 + 2) <|
                  if ((hset (hset h17 33 (ix x1) r12) 34 (ix x1) r13) 32 (ix (x2 + 2))) = 59 then
                    (l_M_faultNow_9 n) (x1 + 1) ((x2 + 2) + 1) (hset (hset h17 33 (ix x1) r12) 34 (ix x1) r13)
                  else
                    some (x2 + 2, hset (hset h17 33 (ix x1) r12) 34 (ix x1) r13)
              else
                some (x2 + 1, h17)
def f_M_faultNow (h : Hp) : Option (Int32 × Hp) :=
  l_M_faultNow_9 FUEL 0 0 (hset h 31 2 0)
def f_M_fault (h : Hp) : Option (Int32 × Hp) :=
  bnd (f_M_faultNow h) fun r1 h1 =>
  some (r1, h1)
def f_M_isPeg (x1 : Int32) (h : Hp) : Option (Int32 × Hp) :=
  bnd (f_M_faultNow h) fun r1 h1 =>
  bnd (f_M_in x1 0 ((h1 31 2) - 1) h1) fun r2 h2 =>
  zret r2 h2
def f_M_pegOf (x1 : Int32) (x2 : Int32) (h : Hp) : Option (Int32 × Hp) :=
  if x2 = 0 then
    chk 11 x1 <|
    some (h 33 (ix x1), h)
  else
    if x2 = 1 then
      chk 11 x1 <|
      some (h 34 (ix x1), h)
    else
      some (((h 31 5) >>> (x1 &&& 31)) &&& 1, h)
def f_M_peg (x1 : Int32) (x2 : Int32) (h : Hp) : Option (Int32 × Hp) :=
  bnd (f_M_isPeg x1 h) fun r1 h1 =>
  if r1 = 0 then
    some ((-2), h1)
  else
    bnd (f_M_in x2 0 2 h1) fun r3 h3 =>
    if r3 = 0 then
      some ((-2), h3)
    else
      bnd (f_M_pegOf x1 x2 h3) fun r5 h5 =>
      some (r5, h5)
def f_M_isTen (x0 : Int32) (h : Hp) : Option (Int32 × Hp) :=
  bnd (f_M_in x0 0 9 h) fun r1 h1 =>
  zret r1 h1
def f_M_hide (x1 : Int32) (x2 : Int32) (h : Hp) : Option (Int32 × Hp) :=
  bnd (f_M_isTen x1 h) fun r1 h1 =>
  if r1 = 0 then
    some ((-2), h1)
  else
    bnd (f_M_in x2 0 1 h1) fun r3 h3 =>
    if r3 = 0 then
      some ((-2), h3)
    else
      some (((h3 31 5) >>> (x1 &&& 31)) &&& 1, hset h3 31 5 (((h3 31 5) &&& (((1 : Int32) <<< (x1 &&& 31)) ^^^ (-1))) ||| (x2 <<< (x1 &&& 31))))
def f_M_set (x1 : Int32) (x2 : Int32) (h : Hp) : Option (Int32 × Hp) :=
  bnd (f_M_in x1 0 2 h) fun r1 h1 =>
  if r1 = 0 then
    some ((-2), h1)
  else
    if x1 = 0 then
      bnd (f_M_in x2 0 200 h1) fun r4 h4 =>
      if r4 = 0 then
        some ((-2), h4)
      else
        if x1 = 1 then
          if x1 = 2 then
            some (h4 31 6, hset (hset (hset h4 31 6 x2) 31 7 x2) 31 8 x2)
          else
            some (h4 31 6, hset (hset (hset h4 31 6 x2) 31 7 x2) 31 8 ((hset (hset h4 31 6 x2) 31 7 x2) 31 8))
        else
          if x1 = 2 then
            some (h4 31 6, hset (hset (hset h4 31 6 x2) 31 7 ((hset h4 31 6 x2) 31 7)) 31 8 x2)
          else
            some (h4 31 6, hset (hset (hset h4 31 6 x2) 31 7 ((hset h4 31 6 x2) 31 7)) 31 8 ((hset (hset h4 31 6 x2) 31 7 ((hset h4 31 6 x2) 31 7)) 31 8))
    else
      bnd (f_M_in x2 0 9 h1) fun r9 h9 =>
      if r9 = 0 then
        some ((-2), h9)
      else
        if x1 = 1 then
          if x1 = 2 then
            some (h9 31 7, hset (hset (hset h9 31 6 (h9 31 6)) 31 7 x2) 31 8 x2)
          else
            some (h9 31 7, hset (hset (hset h9 31 6 (h9 31 6)) 31 7 x2) 31 8 ((hset (hset h9 31 6 (h9 31 6)) 31 7 x2) 31 8))
        else
          if x1 = 2 then
            some (h9 31 8, hset (hset (hset h9 31 6 (h9 31 6)) 31 7 ((hset h9 31 6 (h9 31 6)) 31 7)) 31 8 x2)
          else
            some (h9 31 8, hset (hset (hset h9 31 6 (h9 31 6)) 31 7 ((hset h9 31 6 (h9 31 6)) 31 7)) 31 8 ((hset (hset h9 31 6 (h9 31 6)) 31 7 ((hset h9 31 6 (h9 31 6)) 31 7)) 31 8))
def f_M_isSheet (x0 : Int32) (h : Hp) : Option (Int32 × Hp) :=
  bnd (f_M_in x0 0 3 h) fun r1 h1 =>
  zret r1 h1
def f_M_meets (x1 : Int32) (h : Hp) : Option (Int32 × Hp) :=
  some ((-10) - x1, hset h 31 24 x1)
def l_M_read_27 : Nat → Int32 → Int32 → Hp → Option (Int32 × Hp)
  | 0, _, _, _ => none
  | n + 1, x1, x2, h =>
    chk 4 x1 <|
    if (h 43 (ix x1)) ≤ x2 then
      some (x2, h)
    else
      if 10 ≤ x2 then
        some (x2, h)
      else
        chk 192 ((48 * x1) + x2) <|
        bnd (f_M_in (h 44 (ix ((48 * x1) + x2))) 0 1 h) fun r7 h7 =>
        if r7 = 0 then
          some (x2, h7)
        else
          chk 192 ((48 * x1) + x2) <|
          (l_M_read_27 n) x1 (x2 + 1) (hset h7 31 5 (((h7 31 5) &&& (((1 : Int32) <<< (x2 &&& 31)) ^^^ (-1))) ||| ((h7 44 (ix ((48 * x1) + x2))) <<< (x2 &&& 31))))
def f_M_read (x1 : Int32) (h : Hp) : Option (Int32 × Hp) :=
  bnd (f_M_isSheet x1 h) fun r1 h1 =>
  if r1 = 0 then
    some ((-2), h1)
  else
    chk 4 x1 <|
    if (h1 41 (ix x1)) = 0 then
      bnd (f_M_meets 1 h1) fun r4 h4 =>
      some (r4, h4)
    else
      l_M_read_27 FUEL x1 0 h1
def f_M_apart (x0 : Int32) (x1 : Int32) (h : Hp) : Option (Int32 × Hp) :=
  if x1 ≤ x0 then
    some (x0 - x1, h)
  else
    some (x1 - x0, h)
def f_M_farOf (x1 : Int32) (x2 : Int32) (h : Hp) : Option (Int32 × Hp) :=
  chk 11 x1 <|
  chk 11 x2 <|
  bnd (f_M_apart (h 33 (ix x1)) (h 33 (ix x2)) h) fun r1 h1 =>
  chk 11 x1 <|
  chk 11 x2 <|
  bnd (f_M_apart (h1 34 (ix x1)) (h1 34 (ix x2)) h1) fun r2 h2 =>
  some (r1 + r2, h2)
def f_M_far (x1 : Int32) (x2 : Int32) (h : Hp) : Option (Int32 × Hp) :=
  bnd (f_M_isPeg x1 h) fun r1 h1 =>
  if r1 = 0 then
    some ((-2), h1)
  else
    bnd (f_M_isPeg x2 h1) fun r3 h3 =>
    if r3 = 0 then
      some ((-2), h3)
    else
      bnd (f_M_farOf x1 x2 h3) fun r5 h5 =>
      some (r5, h5)
def f_M_isLaw (x0 : Int32) (h : Hp) : Option (Int32 × Hp) :=
  bnd (f_M_in x0 0 3 h) fun r1 h1 =>
  zret r1 h1
def f_M_isWeb (x1 : Int32) (x2 : Int32) (h : Hp) : Option (Int32 × Hp) :=
  bnd (f_M_isPeg x1 h) fun r1 h1 =>
  if r1 = 0 then
    some (0, h1)
  else
    bnd (f_M_isLaw x2 h1) fun r3 h3 =>
    if r3 = 0 then
      some (0, h3)
    else
      some (1, h3)
def f_M_isIn (x0 : Int32) (x1 : Int32) (h : Hp) : Option (Int32 × Hp) :=
  if ((x0 >>> (x1 &&& 31)) &&& 1) = 1 then
    some (1, h)
  else
    some (0, h)
def f_M_isHidden (x1 : Int32) (h : Hp) : Option (Int32 × Hp) :=
  bnd (f_M_isIn (h 31 5) x1 h) fun r1 h1 =>
  zret r1 h1
def f_M_place (x1 : Int32) (h : Hp) : Option (Int32 × Hp) :=
  chk 11 x1 <|
  chk 11 x1 <|
  some ((10 * (h 34 (ix x1))) + (h 33 (ix x1)), h)
def l_M_nextOf_9 : Nat → Int32 → Int32 → Int32 → Int32 → Int32 → Int32 → Hp → Option (Int32 × Hp)
  | 0, _, _, _, _, _, _, _ => none
  | n + 1, x1, x2, x3, x4, x5, x6, h =>
    if (h 31 2) ≤ x6 then
      some (x4, h)
    else
      if x2 = 0 then
        bnd (f_M_farOf x1 x6 h) fun r3 h3 =>
        bnd (f_M_isIn x3 x6 h3) fun r4 h4 =>
        if r4 = 0 then
          (l_M_nextOf_9 n) x1 x2 x3 x4 x5 (x6 + 1) h4
        else
          if x4 = (-1) then
            (l_M_nextOf_9 n) x1 x2 x3 x6 r3 (x6 + 1) h4
          else
            if x5 ≤ r3 then
              (l_M_nextOf_9 n) x1 x2 x3 x4 x5 (x6 + 1) h4
            else
              (l_M_nextOf_9 n) x1 x2 x3 x6 r3 (x6 + 1) h4
      else
        if x2 = 1 then
          bnd (f_M_farOf x1 x6 h) fun r9 h9 =>
          bnd (f_M_isIn x3 x6 h9) fun r10 h10 =>
          if r10 = 0 then
            (l_M_nextOf_9 n) x1 x2 x3 x4 x5 (x6 + 1) h10
          else
            if x4 = (-1) then
              (l_M_nextOf_9 n) x1 x2 x3 x6 (-r9) (x6 + 1) h10
            else
              if x5 ≤ (-r9) then
                (l_M_nextOf_9 n) x1 x2 x3 x4 x5 (x6 + 1) h10
              else
                (l_M_nextOf_9 n) x1 x2 x3 x6 (-r9) (x6 + 1) h10
        else
          if x2 = 2 then
            if x6 ≤ x1 then
              bnd (f_M_isIn x3 x6 h) fun r16 h16 =>
              if r16 = 0 then
                (l_M_nextOf_9 n) x1 x2 x3 x4 x5 (x6 + 1) h16
              else
                if x4 = (-1) then
                  (l_M_nextOf_9 n) x1 x2 x3 x6 ((x6 - x1) + 11) (x6 + 1) h16
                else
                  if x5 ≤ ((x6 - x1) + 11) then
                    (l_M_nextOf_9 n) x1 x2 x3 x4 x5 (x6 + 1) h16
                  else
                    (l_M_nextOf_9 n) x1 x2 x3 x6 ((x6 - x1) + 11) (x6 + 1) h16
            else
              bnd (f_M_isIn x3 x6 h) fun r20 h20 =>
              if r20 = 0 then
                (l_M_nextOf_9 n) x1 x2 x3 x4 x5 (x6 + 1) h20
              else
                if x4 = (-1) then
                  (l_M_nextOf_9 n) x1 x2 x3 x6 (x6 - x1) (x6 + 1) h20
                else
                  if x5 ≤ (x6 - x1) then
                    (l_M_nextOf_9 n) x1 x2 x3 x4 x5 (x6 + 1) h20
                  else
                    (l_M_nextOf_9 n) x1 x2 x3 x6 (x6 - x1) (x6 + 1) h20
          else
            bnd (f_M_place x6 h) fun r24 h24 =>
            bnd (f_M_place x1 h24) fun r25 h25 =>
            bnd (f_M_isIn x3 x6 h25) fun r26 h26 =>
            if r26 = 0 then
              (l_M_nextOf_9 n) x1 x2 x3 x4 x5 (x6 + 1) h26
            else
              if x4 = (-1) then
                (l_M_nextOf_9 n) x1 x2 x3 x6 (((r24 - r25) + 100) - ((r24 - r25) + 100) / 100 * 100) (x6 + 1) h26
              else
                if x5 ≤ (((r24 - r25) + 100) - ((r24 - r25) + 100) / 100 * 100) then
                  (l_M_nextOf_9 n) x1 x2 x3 x4 x5 (x6 + 1) h26
                else
                  (l_M_nextOf_9 n) x1 x2 x3 x6 (((r24 - r25) + 100) - ((r24 - r25) + 100) / 100 * 100) (x6 + 1) h26
def f_M_nextOf (x1 : Int32) (x2 : Int32) (x3 : Int32) (h : Hp) : Option (Int32 × Hp) :=
  l_M_nextOf_9 FUEL x1 x2 x3 (-1) 0 0 h
def l_M_lays_55 : Nat → Int32 → Int32 → Int32 → Hp → Option (Unit × Hp)
  | 0, _, _, _, _ => none
  | n + 1, x2, x4, x5, h =>
    if x5 = (-1) then
      some ((), h)
    else
      chk 11 ((h 31 10) - 1) <|
      bnd (f_M_farOf (h 35 (ix ((h 31 10) - 1))) x5 h) fun r3 h3 =>
      if (h 31 12) < (r3 + (h3 31 7)) then
        some ((), h3)
      else
        chk 11 ((h3 31 10) - 1) <|
        bnd (f_M_farOf (h3 35 (ix ((h3 31 10) - 1))) x5 h3) fun r5 h5 =>
        chk 11 ((hset (hset h5 31 11 ((h5 31 11) + r5)) 31 12 (((hset h5 31 11 ((h5 31 11) + r5)) 31 12) - (r5 + ((hset h5 31 11 ((h5 31 11) + r5)) 31 7)))) 31 10) <|
        bnd (f_M_nextOf x5 x2 (x4 &&& (((1 : Int32) <<< (x5 &&& 31)) ^^^ (-1))) (hset (hset (hset (hset h5 31 11 ((h5 31 11) + r5)) 31 12 (((hset h5 31 11 ((h5 31 11) + r5)) 31 12) - (r5 + ((hset h5 31 11 ((h5 31 11) + r5)) 31 7)))) 35 (ix ((hset (hset h5 31 11 ((h5 31 11) + r5)) 31 12 (((hset h5 31 11 ((h5 31 11) + r5)) 31 12) - (r5 + ((hset h5 31 11 ((h5 31 11) + r5)) 31 7)))) 31 10)) x5) 31 10 (((hset (hset (hset h5 31 11 ((h5 31 11) + r5)) 31 12 (((hset h5 31 11 ((h5 31 11) + r5)) 31 12) - (r5 + ((hset h5 31 11 ((h5 31 11) + r5)) 31 7)))) 35 (ix ((hset (hset h5 31 11 ((h5 31 11) + r5)) 31 12 (((hset h5 31 11 ((h5 31 11) + r5)) 31 12) - (r5 + ((hset h5 31 11 ((h5 31 11) + r5)) 31 7)))) 31 10)) x5) 31 10) + 1))) fun r6 h6 =>
        (l_M_lays_55 n) x2 (x4 &&& (((1 : Int32) <<< (x5 &&& 31)) ^^^ (-1))) r6 h6
def f_M_lays (x1 : Int32) (x2 : Int32) (x3 : Int32) (h : Hp) : Option (Unit × Hp) :=
  chk 11 0 <|
  bnd (f_M_nextOf x1 x2 (((((1 : Int32) <<< ((h 31 2) &&& 31)) - 1) &&& (x3 ^^^ (-1))) &&& (((1 : Int32) <<< (x1 &&& 31)) ^^^ (-1))) (hset (hset (hset (hset h 35 (ix 0) x1) 31 10 1) 31 11 0) 31 12 ((hset (hset (hset h 35 (ix 0) x1) 31 10 1) 31 11 0) 31 6))) fun r1 h1 =>
  l_M_lays_55 FUEL x2 (((((1 : Int32) <<< ((h 31 2) &&& 31)) - 1) &&& (x3 ^^^ (-1))) &&& (((1 : Int32) <<< (x1 &&& 31)) ^^^ (-1))) r1 h1
def f_M_webOf (x1 : Int32) (x2 : Int32) (x3 : Int32) (h : Hp) : Option (Int32 × Hp) :=
  bnd (f_M_isHidden x1 h) fun r1 h1 =>
  if r1 = 0 then
    bnd (f_M_lays x1 x2 (h1 31 5) h1) fun _ h3 =>
    if (h3 31 10) ≤ x3 then
      some ((-1), h3)
    else
      chk 11 x3 <|
      some (h3 35 (ix x3), h3)
  else
    some ((-3), h1)
def f_M_web (x1 : Int32) (x2 : Int32) (x3 : Int32) (h : Hp) : Option (Int32 × Hp) :=
  bnd (f_M_isWeb x1 x2 h) fun r1 h1 =>
  if r1 = 0 then
    some ((-2), h1)
  else
    bnd (f_M_isTen x3 h1) fun r3 h3 =>
    if r3 = 0 then
      some ((-2), h3)
    else
      bnd (f_M_webOf x1 x2 x3 h3) fun r5 h5 =>
      some (r5, h5)
def f_M_lengthOf (x1 : Int32) (x2 : Int32) (x3 : Int32) (h : Hp) : Option (Int32 × Hp) :=
  bnd (f_M_isHidden x1 h) fun r1 h1 =>
  if r1 = 0 then
    bnd (f_M_lays x1 x2 (h1 31 5) h1) fun _ h3 =>
    if x3 = 0 then
      some (h3 31 11, h3)
    else
      if x3 = 1 then
        some (h3 31 10, h3)
      else
        some (h3 31 12, h3)
  else
    some ((-3), h1)
def f_M_length (x1 : Int32) (x2 : Int32) (x3 : Int32) (h : Hp) : Option (Int32 × Hp) :=
  bnd (f_M_isWeb x1 x2 h) fun r1 h1 =>
  if r1 = 0 then
    some ((-2), h1)
  else
    bnd (f_M_in x3 0 2 h1) fun r3 h3 =>
    if r3 = 0 then
      some ((-2), h3)
    else
      bnd (f_M_lengthOf x1 x2 x3 h3) fun r5 h5 =>
      some (r5, h5)
def f_M_hand (x1 : Int32) (x2 : Int32) (x3 : Int32) (h : Hp) : Option (Int32 × Hp) :=
  chk 11 x2 <|
  chk 11 x1 <|
  chk 11 x3 <|
  chk 11 x1 <|
  chk 11 x2 <|
  chk 11 x1 <|
  chk 11 x3 <|
  chk 11 x1 <|
  if ((((h 33 (ix x2)) - (h 33 (ix x1))) * ((h 34 (ix x3)) - (h 34 (ix x1)))) - (((h 34 (ix x2)) - (h 34 (ix x1))) * ((h 33 (ix x3)) - (h 33 (ix x1))))) ≤ 0 then
    if 0 ≤ ((((h 33 (ix x2)) - (h 33 (ix x1))) * ((h 34 (ix x3)) - (h 34 (ix x1)))) - (((h 34 (ix x2)) - (h 34 (ix x1))) * ((h 33 (ix x3)) - (h 33 (ix x1))))) then
      some (0, h)
    else
      some ((-1), h)
  else
    some (1, h)
def f_M_isBetween (x1 : Int32) (x2 : Int32) (x3 : Int32) (h : Hp) : Option (Int32 × Hp) :=
  bnd (f_M_farOf x1 x3 h) fun r1 h1 =>
  bnd (f_M_farOf x3 x2 h1) fun r2 h2 =>
  bnd (f_M_farOf x1 x2 h2) fun r3 h3 =>
  if (r1 + r2) = r3 then
    some (1, h3)
  else
    some (0, h3)
def f_M_doMeet (x1 : Int32) (x2 : Int32) (x3 : Int32) (x4 : Int32) (h : Hp) : Option (Int32 × Hp) :=
  bnd (f_M_hand x1 x2 x3 h) fun r1 h1 =>
  bnd (f_M_hand x1 x2 x4 h1) fun r2 h2 =>
  bnd (f_M_hand x3 x4 x1 h2) fun r3 h3 =>
  bnd (f_M_hand x3 x4 x2 h3) fun r4 h4 =>
  if r1 = 0 then
    bnd (f_M_isBetween x1 x2 x3 h4) fun r6 h6 =>
    if r6 = 0 then
      if r2 = 0 then
        bnd (f_M_isBetween x1 x2 x4 h6) fun r9 h9 =>
        if r9 = 0 then
          if r3 = 0 then
            bnd (f_M_isBetween x3 x4 x1 h9) fun r12 h12 =>
            if r12 = 0 then
              if r4 = 0 then
                bnd (f_M_isBetween x3 x4 x2 h12) fun r15 h15 =>
                if r15 = 0 then
                  if 0 ≤ (r1 * r2) then
                    some (0, h15)
                  else
                    if 0 ≤ (r3 * r4) then
                      some (0, h15)
                    else
                      some (1, h15)
                else
                  some (1, h15)
              else
                if 0 ≤ (r1 * r2) then
                  some (0, h12)
                else
                  if 0 ≤ (r3 * r4) then
                    some (0, h12)
                  else
                    some (1, h12)
            else
              some (1, h12)
          else
            if r4 = 0 then
              bnd (f_M_isBetween x3 x4 x2 h9) fun r22 h22 =>
              if r22 = 0 then
                if 0 ≤ (r1 * r2) then
                  some (0, h22)
                else
                  if 0 ≤ (r3 * r4) then
                    some (0, h22)
                  else
                    some (1, h22)
              else
                some (1, h22)
            else
              if 0 ≤ (r1 * r2) then
                some (0, h9)
              else
                if 0 ≤ (r3 * r4) then
                  some (0, h9)
                else
                  some (1, h9)
        else
          some (1, h9)
      else
        if r3 = 0 then
          bnd (f_M_isBetween x3 x4 x1 h6) fun r29 h29 =>
          if r29 = 0 then
            if r4 = 0 then
              bnd (f_M_isBetween x3 x4 x2 h29) fun r32 h32 =>
              if r32 = 0 then
                if 0 ≤ (r1 * r2) then
                  some (0, h32)
                else
                  if 0 ≤ (r3 * r4) then
                    some (0, h32)
                  else
                    some (1, h32)
              else
                some (1, h32)
            else
              if 0 ≤ (r1 * r2) then
                some (0, h29)
              else
                if 0 ≤ (r3 * r4) then
                  some (0, h29)
                else
                  some (1, h29)
          else
            some (1, h29)
        else
          if r4 = 0 then
            bnd (f_M_isBetween x3 x4 x2 h6) fun r39 h39 =>
            if r39 = 0 then
              if 0 ≤ (r1 * r2) then
                some (0, h39)
              else
                if 0 ≤ (r3 * r4) then
                  some (0, h39)
                else
                  some (1, h39)
            else
              some (1, h39)
          else
            if 0 ≤ (r1 * r2) then
              some (0, h6)
            else
              if 0 ≤ (r3 * r4) then
                some (0, h6)
              else
                some (1, h6)
    else
      some (1, h6)
  else
    if r2 = 0 then
      bnd (f_M_isBetween x1 x2 x4 h4) fun r46 h46 =>
      if r46 = 0 then
        if r3 = 0 then
          bnd (f_M_isBetween x3 x4 x1 h46) fun r49 h49 =>
          if r49 = 0 then
            if r4 = 0 then
              bnd (f_M_isBetween x3 x4 x2 h49) fun r52 h52 =>
              if r52 = 0 then
                if 0 ≤ (r1 * r2) then
                  some (0, h52)
                else
                  if 0 ≤ (r3 * r4) then
                    some (0, h52)
                  else
                    some (1, h52)
              else
                some (1, h52)
            else
              if 0 ≤ (r1 * r2) then
                some (0, h49)
              else
                if 0 ≤ (r3 * r4) then
                  some (0, h49)
                else
                  some (1, h49)
          else
            some (1, h49)
        else
          if r4 = 0 then
            bnd (f_M_isBetween x3 x4 x2 h46) fun r59 h59 =>
            if r59 = 0 then
              if 0 ≤ (r1 * r2) then
                some (0, h59)
              else
                if 0 ≤ (r3 * r4) then
                  some (0, h59)
                else
                  some (1, h59)
            else
              some (1, h59)
          else
            if 0 ≤ (r1 * r2) then
              some (0, h46)
            else
              if 0 ≤ (r3 * r4) then
                some (0, h46)
              else
                some (1, h46)
      else
        some (1, h46)
    else
      if r3 = 0 then
        bnd (f_M_isBetween x3 x4 x1 h4) fun r66 h66 =>
        if r66 = 0 then
          if r4 = 0 then
            bnd (f_M_isBetween x3 x4 x2 h66) fun r69 h69 =>
            if r69 = 0 then
              if 0 ≤ (r1 * r2) then
                some (0, h69)
              else
                if 0 ≤ (r3 * r4) then
                  some (0, h69)
                else
                  some (1, h69)
            else
              some (1, h69)
          else
            if 0 ≤ (r1 * r2) then
              some (0, h66)
            else
              if 0 ≤ (r3 * r4) then
                some (0, h66)
              else
                some (1, h66)
        else
          some (1, h66)
      else
        if r4 = 0 then
          bnd (f_M_isBetween x3 x4 x2 h4) fun r76 h76 =>
          if r76 = 0 then
            if 0 ≤ (r1 * r2) then
              some (0, h76)
            else
              if 0 ≤ (r3 * r4) then
                some (0, h76)
              else
                some (1, h76)
          else
            some (1, h76)
        else
          if 0 ≤ (r1 * r2) then
            some (0, h4)
          else
            if 0 ≤ (r3 * r4) then
              some (0, h4)
            else
              some (1, h4)
def l_M_crossesOf_43 (K26 : Int32 → Int32 → Hp → Option (Int32 × Hp)) : Nat → Int32 → Int32 → Int32 → Hp → Option (Int32 × Hp)
  | 0, _, _, _, _ => none
  | n + 1, x3, x4, x5, h =>
    if (h 31 10) ≤ (x5 + 1) then
      K26 x3 (x4 + 1) h
    else
      chk 11 x4 <|
      chk 11 (x4 + 1) <|
      chk 11 x5 <|
      chk 11 (x5 + 1) <|
      bnd (f_M_doMeet (h 35 (ix x4)) (h 35 (ix (x4 + 1))) (h 35 (ix x5)) (h 35 (ix (x5 + 1))) h) fun r6 h6 =>
      if r6 = 0 then
        (l_M_crossesOf_43 K26 n) (x3 + 0) x4 (x5 + 1) h6
      else
        (l_M_crossesOf_43 K26 n) (x3 + 1) x4 (x5 + 1) h6
def l_M_crossesOf_26 : Nat → Int32 → Int32 → Hp → Option (Int32 × Hp)
  | 0, _, _, _ => none
  | n + 1, x3, x4, h =>
    if (h 31 10) ≤ (x4 + 1) then
      some (x3, h)
    else
      l_M_crossesOf_43 (l_M_crossesOf_26 n) FUEL x3 x4 (x4 + 2) h
def f_M_crossesOf (x1 : Int32) (x2 : Int32) (h : Hp) : Option (Int32 × Hp) :=
  bnd (f_M_isHidden x1 h) fun r1 h1 =>
  if r1 = 0 then
    bnd (f_M_lays x1 x2 (h1 31 5) h1) fun _ h3 =>
    l_M_crossesOf_26 FUEL 0 0 h3
  else
    some ((-3), h1)
def f_M_crosses (x1 : Int32) (x2 : Int32) (h : Hp) : Option (Int32 × Hp) :=
  bnd (f_M_isWeb x1 x2 h) fun r1 h1 =>
  if r1 = 0 then
    some ((-2), h1)
  else
    bnd (f_M_crossesOf x1 x2 h1) fun r3 h3 =>
    some (r3, h3)
def l_M_indexOf_2 : Nat → Int32 → Int32 → Hp → Option (Int32 × Hp)
  | 0, _, _, _ => none
  | n + 1, x1, x2, h =>
    if (h 31 10) ≤ x2 then
      some ((-1), h)
    else
      chk 11 x2 <|
      if (h 35 (ix x2)) = x1 then
        some (x2, h)
      else
        (l_M_indexOf_2 n) x1 (x2 + 1) h
def f_M_indexOf (x1 : Int32) (h : Hp) : Option (Int32 × Hp) :=
  l_M_indexOf_2 FUEL x1 0 h
def f_M_hangsOf (x1 : Int32) (x2 : Int32) (x3 : Int32) (h : Hp) : Option (Int32 × Hp) :=
  bnd (f_M_isHidden x1 h) fun r1 h1 =>
  if r1 = 0 then
    bnd (f_M_lays x1 x2 (h1 31 5) h1) fun _ h3 =>
    bnd (f_M_indexOf x3 h3) fun r4 h4 =>
    if r4 = (-1) then
      some (0, h4)
    else
      if r4 ≤ 0 then
        if (h4 31 10) ≤ (r4 + 1) then
          some (0 + 0, h4)
        else
          some (0 + 1, h4)
      else
        if (h4 31 10) ≤ (r4 + 1) then
          some (1 + 0, h4)
        else
          some (1 + 1, h4)
  else
    some ((-3), h1)
def f_M_hangs (x1 : Int32) (x2 : Int32) (x3 : Int32) (h : Hp) : Option (Int32 × Hp) :=
  bnd (f_M_isWeb x1 x2 h) fun r1 h1 =>
  if r1 = 0 then
    some ((-2), h1)
  else
    bnd (f_M_isPeg x3 h1) fun r3 h3 =>
    if r3 = 0 then
      some ((-2), h3)
    else
      bnd (f_M_hangsOf x1 x2 x3 h3) fun r5 h5 =>
      some (r5, h5)
def f_M_piecesOf (x1 : Int32) (x2 : Int32) (x3 : Int32) (h : Hp) : Option (Int32 × Hp) :=
  bnd (f_M_hangsOf x1 x2 x3 h) fun r1 h1 =>
  if r1 = (-3) then
    some (r1, h1)
  else
    bnd (f_M_indexOf x3 h1) fun r3 h3 =>
    if r3 = (-1) then
      some (1, h3)
    else
      some (r1, h3)
def f_M_pieces (x1 : Int32) (x2 : Int32) (x3 : Int32) (h : Hp) : Option (Int32 × Hp) :=
  bnd (f_M_isWeb x1 x2 h) fun r1 h1 =>
  if r1 = 0 then
    some ((-2), h1)
  else
    bnd (f_M_isPeg x3 h1) fun r3 h3 =>
    if r3 = 0 then
      some ((-2), h3)
    else
      bnd (f_M_piecesOf x1 x2 x3 h3) fun r5 h5 =>
      some (r5, h5)
def l_M_turns_9 (K2 : Int32 → Int32 → Hp → Option (Unit × Hp)) : Nat → Int32 → Int32 → Int32 → Hp → Option (Unit × Hp)
  | 0, _, _, _, _ => none
  | n + 1, x1, x2, x3, h =>
    if (h 31 2) ≤ x3 then
      K2 x1 (x2 + 1) h
    else
      chk 11 x3 <|
      chk 11 x3 <|
      chk 11 x3 <|
      chk 11 x3 <|
      (l_M_turns_9 K2 n) x1 x2 (x3 + 1) (hset (hset h 33 (ix x3) (9 - (h 34 (ix x3)))) 34 (ix x3) (h 33 (ix x3)))
def l_M_turns_2 : Nat → Int32 → Int32 → Hp → Option (Unit × Hp)
  | 0, _, _, _ => none
  | n + 1, x1, x2, h =>
    if x1 ≤ x2 then
      some ((), h)
    else
      l_M_turns_9 (l_M_turns_2 n) FUEL x1 x2 0 h
def f_M_turns (x1 : Int32) (h : Hp) : Option (Unit × Hp) :=
  l_M_turns_2 FUEL x1 0 h
def l_M_turnedOf_93 : Nat → Int32 → Int32 → Int32 → Hp → Option (Int32 × Hp)
  | 0, _, _, _, _ => none
  | n + 1, x3, x4, x5, h =>
    if x3 ≤ x5 then
      if x4 = 0 then
        some (0, h)
      else
        some (1, h)
    else
      if x4 = 0 then
        some (0, h)
      else
        chk 11 x5 <|
        chk 11 x5 <|
        if (h 35 (ix x5)) = (h 36 (ix x5)) then
          (l_M_turnedOf_93 n) x3 1 (x5 + 1) h
        else
          (l_M_turnedOf_93 n) x3 0 (x5 + 1) h
def l_M_turnedOf_29 : Nat → Int32 → Int32 → Int32 → Int32 → Hp → Option (Int32 × Hp)
  | 0, _, _, _, _, _ => none
  | n + 1, x1, x2, x3, x4, h =>
    if x3 ≤ x4 then
      bnd (f_M_turns 1 h) fun _ h5 =>
      bnd (f_M_lays x1 x2 (h5 31 5) h5) fun _ h6 =>
      bnd (f_M_turns 3 h6) fun _ h7 =>
      if (h7 31 10) = x3 then
        l_M_turnedOf_93 FUEL x3 1 0 h7
      else
        l_M_turnedOf_93 FUEL x3 0 0 h7
    else
      chk 11 x4 <|
      chk 11 x4 <|
      (l_M_turnedOf_29 n) x1 x2 x3 (x4 + 1) (hset h 36 (ix x4) (h 35 (ix x4)))
def f_M_turnedOf (x1 : Int32) (x2 : Int32) (h : Hp) : Option (Int32 × Hp) :=
  bnd (f_M_isHidden x1 h) fun r1 h1 =>
  if r1 = 0 then
    bnd (f_M_lays x1 x2 (h1 31 5) h1) fun _ h3 =>
    l_M_turnedOf_29 FUEL x1 x2 (h3 31 10) 0 h3
  else
    some ((-3), h1)
def f_M_turned (x1 : Int32) (x2 : Int32) (h : Hp) : Option (Int32 × Hp) :=
  bnd (f_M_isWeb x1 x2 h) fun r1 h1 =>
  if r1 = 0 then
    some ((-2), h1)
  else
    bnd (f_M_turnedOf x1 x2 h1) fun r3 h3 =>
    some (r3, h3)
def f_M_moreOf (x1 : Int32) (x2 : Int32) (x3 : Int32) (x4 : Int32) (h : Hp) : Option (Int32 × Hp) :=
  bnd (f_M_isHidden x1 h) fun r1 h1 =>
  if r1 = 0 then
    if (h1 31 2) = 10 then
      some ((-3), h1)
    else
      bnd (f_M_isTaken x3 x4 (h1 31 2) h1) fun r4 h4 =>
      if r4 = 0 then
        chk 11 (h4 31 2) <|
        chk 11 ((hset h4 33 (ix (h4 31 2)) x3) 31 2) <|
        bnd (f_M_lays x1 x2 ((hset (hset (hset h4 33 (ix (h4 31 2)) x3) 34 (ix ((hset h4 33 (ix (h4 31 2)) x3) 31 2)) x4) 31 2 (((hset (hset h4 33 (ix (h4 31 2)) x3) 34 (ix ((hset h4 33 (ix (h4 31 2)) x3) 31 2)) x4) 31 2) + 1)) 31 5) (hset (hset (hset h4 33 (ix (h4 31 2)) x3) 34 (ix ((hset h4 33 (ix (h4 31 2)) x3) 31 2)) x4) 31 2 (((hset (hset h4 33 (ix (h4 31 2)) x3) 34 (ix ((hset h4 33 (ix (h4 31 2)) x3) 31 2)) x4) 31 2) + 1))) fun _ h6 =>
        some ((hset h6 31 2 ((h6 31 2) - 1)) 31 11, hset h6 31 2 ((h6 31 2) - 1))
      else
        some ((-3), h4)
  else
    some ((-3), h1)
def f_M_more (x1 : Int32) (x2 : Int32) (x3 : Int32) (x4 : Int32) (h : Hp) : Option (Int32 × Hp) :=
  bnd (f_M_isWeb x1 x2 h) fun r1 h1 =>
  if r1 = 0 then
    some ((-2), h1)
  else
    bnd (f_M_isTen x3 h1) fun r3 h3 =>
    if r3 = 0 then
      some ((-2), h3)
    else
      bnd (f_M_isTen x4 h3) fun r5 h5 =>
      if r5 = 0 then
        some ((-2), h5)
      else
        bnd (f_M_moreOf x1 x2 x3 x4 h5) fun r7 h7 =>
        some (r7, h7)
def l_M_beginOf_16 : Nat → Int32 → Int32 → Int32 → Int32 → Int32 → Hp → Option (Int32 × Hp)
  | 0, _, _, _, _, _, _ => none
  | n + 1, x1, x3, x4, x5, x6, h =>
    if (h 31 2) ≤ x6 then
      some (x3, h)
    else
      bnd (f_M_isHidden x6 h) fun r3 h3 =>
      if r3 = 0 then
        bnd (f_M_lays x6 x1 (h3 31 5) h3) fun _ h5 =>
        if x4 < (h5 31 10) then
          (l_M_beginOf_16 n) x1 x6 (h5 31 10) (h5 31 11) (x6 + 1) h5
        else
          if (h5 31 10) = x4 then
            if x5 ≤ (h5 31 11) then
              (l_M_beginOf_16 n) x1 x3 x4 x5 (x6 + 1) h5
            else
              (l_M_beginOf_16 n) x1 x6 (h5 31 10) (h5 31 11) (x6 + 1) h5
          else
            (l_M_beginOf_16 n) x1 x3 x4 x5 (x6 + 1) h5
      else
        (l_M_beginOf_16 n) x1 x3 x4 x5 (x6 + 1) h3
def f_M_beginOf (x1 : Int32) (h : Hp) : Option (Int32 × Hp) :=
  bnd (f_M_faultNow h) fun r1 h1 =>
  l_M_beginOf_16 FUEL x1 (-1) 0 0 0 h1
def f_M_begin (x1 : Int32) (h : Hp) : Option (Int32 × Hp) :=
  bnd (f_M_isLaw x1 h) fun r1 h1 =>
  if r1 = 0 then
    some ((-2), h1)
  else
    bnd (f_M_beginOf x1 h1) fun r3 h3 =>
    some (r3, h3)
def l_M_ones_4 : Nat → Int32 → Int32 → Int32 → Hp → Option (Int32 × Hp)
  | 0, _, _, _, _ => none
  | n + 1, x0, x1, x2, h =>
    if 10 ≤ x2 then
      some (x1, h)
    else
      (l_M_ones_4 n) x0 (x1 + ((x0 >>> (x2 &&& 31)) &&& 1)) (x2 + 1) h
def f_M_ones (x0 : Int32) (h : Hp) : Option (Int32 × Hp) :=
  l_M_ones_4 FUEL x0 0 0 h
def l_M_lastOf_54 : Nat → Int32 → Int32 → Int32 → Int32 → Int32 → Int32 → Int32 → Hp → Option (Int32 × Hp)
  | 0, _, _, _, _, _, _, _, _ => none
  | n + 1, x1, x2, x3, x4, x5, x6, x7, h =>
    if ((1 : Int32) <<< ((h 31 2) &&& 31)) ≤ x7 then
      if x6 = (-1) then
        some (x6, h)
      else
        if x4 = 1 then
          some (x6, h)
        else
          bnd (f_M_ones x6 h) fun r8 h8 =>
          some (r8, h8)
    else
      if (x7 &&& (x5 ^^^ (-1))) = 0 then
        if x6 = (-1) then
          bnd (f_M_lays x1 x2 ((h 31 5) ||| x7) h) fun _ h11 =>
          chk 11 ((h11 31 10) - 1) <|
          if (h11 35 (ix ((h11 31 10) - 1))) = x3 then
            (l_M_lastOf_54 n) x1 x2 x3 x4 x5 x7 (x7 + 1) h11
          else
            (l_M_lastOf_54 n) x1 x2 x3 x4 x5 x6 (x7 + 1) h11
        else
          bnd (f_M_ones x7 h) fun r13 h13 =>
          bnd (f_M_ones x6 h13) fun r14 h14 =>
          if r14 ≤ r13 then
            (l_M_lastOf_54 n) x1 x2 x3 x4 x5 x6 (x7 + 1) h14
          else
            bnd (f_M_lays x1 x2 ((h14 31 5) ||| x7) h14) fun _ h16 =>
            chk 11 ((h16 31 10) - 1) <|
            if (h16 35 (ix ((h16 31 10) - 1))) = x3 then
              (l_M_lastOf_54 n) x1 x2 x3 x4 x5 x7 (x7 + 1) h16
            else
              (l_M_lastOf_54 n) x1 x2 x3 x4 x5 x6 (x7 + 1) h16
      else
        (l_M_lastOf_54 n) x1 x2 x3 x4 x5 x6 (x7 + 1) h
def f_M_lastOf (x1 : Int32) (x2 : Int32) (x3 : Int32) (x4 : Int32) (h : Hp) : Option (Int32 × Hp) :=
  bnd (f_M_isHidden x1 h) fun r1 h1 =>
  if r1 = 0 then
    bnd (f_M_isHidden x3 h1) fun r3 h3 =>
    if r3 = 0 then
      l_M_lastOf_54 FUEL x1 x2 x3 x4 ((((((1 : Int32) <<< ((h3 31 2) &&& 31)) - 1) &&& ((h3 31 5) ^^^ (-1))) &&& (((1 : Int32) <<< (x1 &&& 31)) ^^^ (-1))) &&& (((1 : Int32) <<< (x3 &&& 31)) ^^^ (-1))) (-1) 0 h3
    else
      some ((-3), h3)
  else
    some ((-3), h1)
def f_M_last (x1 : Int32) (x2 : Int32) (x3 : Int32) (x4 : Int32) (h : Hp) : Option (Int32 × Hp) :=
  bnd (f_M_isWeb x1 x2 h) fun r1 h1 =>
  if r1 = 0 then
    some ((-2), h1)
  else
    bnd (f_M_isPeg x3 h1) fun r3 h3 =>
    if r3 = 0 then
      some ((-2), h3)
    else
      if x1 = x3 then
        some ((-2), h3)
      else
        bnd (f_M_in x4 0 1 h3) fun r6 h6 =>
        if r6 = 0 then
          some ((-2), h6)
        else
          bnd (f_M_lastOf x1 x2 x3 x4 h6) fun r8 h8 =>
          some (r8, h8)
def l_M_twoOf_81 : Nat → Int32 → Int32 → Int32 → Int32 → Int32 → Int32 → Int32 → Int32 → Int32 → Int32 → Int32 → Int32 → Int32 → Hp → Option (Int32 × Hp)
  | 0, _, _, _, _, _, _, _, _, _, _, _, _, _, _ => none
  | n + 1, x2, x4, x5, x6, x7, x8, x9, x10, x11, x12, x13, x14, x15, h =>
    if 2 ≤ x14 then
      if x5 = 0 then
        some (x11, h)
      else
        if x5 = 1 then
          some (x12, h)
        else
          some (x13, h)
    else
      if x15 = 0 then
        bnd (f_M_nextOf x8 x4 x6 h) fun r9 h9 =>
        if r9 = (-1) then
          (l_M_twoOf_81 n) x2 x4 x5 x6 x7 x8 x9 x10 x11 x12 x13 (x14 + 1) 1 h9
        else
          bnd (f_M_farOf x8 r9 h9) fun r11 h11 =>
          if (r11 + (h11 31 7)) ≤ x10 then
            bnd (f_M_farOf x8 r9 h11) fun r13 h13 =>
            (l_M_twoOf_81 n) x2 x4 x5 (x6 &&& (((1 : Int32) <<< (r9 &&& 31)) ^^^ (-1))) x7 r9 x9 (x10 - (r13 + (h13 31 7))) (x11 + 0) (x12 + 1) r9 0 1 h13
          else
            (l_M_twoOf_81 n) x2 x4 x5 x6 x7 x8 x9 x10 x11 x12 x13 (x14 + 1) 1 h11
      else
        bnd (f_M_nextOf x7 x2 x6 h) fun r14 h14 =>
        if r14 = (-1) then
          (l_M_twoOf_81 n) x2 x4 x5 x6 x7 x8 x9 x10 x11 x12 x13 (x14 + 1) 0 h14
        else
          bnd (f_M_farOf x7 r14 h14) fun r16 h16 =>
          if (r16 + (h16 31 7)) ≤ x9 then
            bnd (f_M_farOf x7 r14 h16) fun r18 h18 =>
            (l_M_twoOf_81 n) x2 x4 x5 (x6 &&& (((1 : Int32) <<< (r14 &&& 31)) ^^^ (-1))) r14 x8 (x9 - (r18 + (h18 31 7))) x10 (x11 + 1) (x12 + 0) r14 0 0 h18
          else
            (l_M_twoOf_81 n) x2 x4 x5 x6 x7 x8 x9 x10 x11 x12 x13 (x14 + 1) 0 h16
def f_M_twoOf (x1 : Int32) (x2 : Int32) (x3 : Int32) (x4 : Int32) (x5 : Int32) (h : Hp) : Option (Int32 × Hp) :=
  bnd (f_M_isHidden x1 h) fun r1 h1 =>
  if r1 = 0 then
    bnd (f_M_isHidden x3 h1) fun r3 h3 =>
    if r3 = 0 then
      l_M_twoOf_81 FUEL x2 x4 x5 ((((((1 : Int32) <<< ((h3 31 2) &&& 31)) - 1) &&& ((h3 31 5) ^^^ (-1))) &&& (((1 : Int32) <<< (x1 &&& 31)) ^^^ (-1))) &&& (((1 : Int32) <<< (x3 &&& 31)) ^^^ (-1))) x1 x3 (h3 31 6) (h3 31 6) 1 1 (-1) 0 1 h3
    else
      some ((-3), h3)
  else
    some ((-3), h1)
def f_M_two (x1 : Int32) (x2 : Int32) (x3 : Int32) (x4 : Int32) (x5 : Int32) (h : Hp) : Option (Int32 × Hp) :=
  bnd (f_M_isWeb x1 x2 h) fun r1 h1 =>
  if r1 = 0 then
    some ((-2), h1)
  else
    bnd (f_M_isWeb x3 x4 h1) fun r3 h3 =>
    if r3 = 0 then
      some ((-2), h3)
    else
      if x1 = x3 then
        some ((-2), h3)
      else
        bnd (f_M_in x5 0 2 h3) fun r6 h6 =>
        if r6 = 0 then
          some ((-2), h6)
        else
          bnd (f_M_twoOf x1 x2 x3 x4 x5 h6) fun r8 h8 =>
          some (r8, h8)
def f_M_seen (x1 : Int32) (x2 : Int32) (x3 : Int32) (h : Hp) : Option (Int32 × Hp) :=
  bnd (f_M_isTen x1 h) fun r1 h1 =>
  if r1 = 0 then
    some ((-2), h1)
  else
    bnd (f_M_in x2 1 9 h1) fun r3 h3 =>
    if r3 = 0 then
      some ((-2), h3)
    else
      bnd (f_M_isTen x3 h3) fun r5 h5 =>
      if r5 = 0 then
        some ((-2), h5)
      else
        if (h5 31 14) = 8 then
          some ((-4), h5)
        else
          chk 8 (h5 31 14) <|
          chk 8 ((hset h5 37 (ix (h5 31 14)) x1) 31 14) <|
          chk 8 ((hset (hset h5 37 (ix (h5 31 14)) x1) 38 (ix ((hset h5 37 (ix (h5 31 14)) x1) 31 14)) x2) 31 14) <|
          some ((hset (hset (hset (hset h5 37 (ix (h5 31 14)) x1) 38 (ix ((hset h5 37 (ix (h5 31 14)) x1) 31 14)) x2) 39 (ix ((hset (hset h5 37 (ix (h5 31 14)) x1) 38 (ix ((hset h5 37 (ix (h5 31 14)) x1) 31 14)) x2) 31 14)) x3) 31 14 (((hset (hset (hset h5 37 (ix (h5 31 14)) x1) 38 (ix ((hset h5 37 (ix (h5 31 14)) x1) 31 14)) x2) 39 (ix ((hset (hset h5 37 (ix (h5 31 14)) x1) 38 (ix ((hset h5 37 (ix (h5 31 14)) x1) 31 14)) x2) 31 14)) x3) 31 14) + 1)) 31 14, hset (hset (hset (hset h5 37 (ix (h5 31 14)) x1) 38 (ix ((hset h5 37 (ix (h5 31 14)) x1) 31 14)) x2) 39 (ix ((hset (hset h5 37 (ix (h5 31 14)) x1) 38 (ix ((hset h5 37 (ix (h5 31 14)) x1) 31 14)) x2) 31 14)) x3) 31 14 (((hset (hset (hset h5 37 (ix (h5 31 14)) x1) 38 (ix ((hset h5 37 (ix (h5 31 14)) x1) 31 14)) x2) 39 (ix ((hset (hset h5 37 (ix (h5 31 14)) x1) 38 (ix ((hset h5 37 (ix (h5 31 14)) x1) 31 14)) x2) 31 14)) x3) 31 14) + 1))
def f_M_forget (h : Hp) : Option (Int32 × Hp) :=
  some (h 31 14, hset h 31 14 0)
def l_M_fitsNow_20 (K9 : Int32 → Int32 → Hp → Option (Int32 × Hp)) : Nat → Int32 → Int32 → Int32 → Int32 → Hp → Option (Int32 × Hp)
  | 0, _, _, _, _, _ => none
  | n + 1, x2, x3, x4, x5, h =>
    if (h 31 14) ≤ x5 then
      if x4 = 0 then
        K9 (x2 ||| 0) (x3 + 1) h
      else
        K9 (x2 ||| ((1 : Int32) <<< (x3 &&& 31))) (x3 + 1) h
    else
      if x4 = 0 then
        K9 (x2 ||| 0) (x3 + 1) h
      else
        chk 8 x5 <|
        if (h 31 2) ≤ (h 37 (ix x5)) then
          (l_M_fitsNow_20 K9 n) x2 x3 0 (x5 + 1) h
        else
          chk 8 x5 <|
          bnd (f_M_isHidden (h 37 (ix x5)) h) fun r7 h7 =>
          if r7 = 0 then
            chk 8 x5 <|
            bnd (f_M_lays (h7 37 (ix x5)) x3 (h7 31 5) h7) fun _ h9 =>
            chk 8 x5 <|
            if (h9 31 10) ≤ (h9 38 (ix x5)) then
              (l_M_fitsNow_20 K9 n) x2 x3 0 (x5 + 1) h9
            else
              chk 8 x5 <|
              chk 11 (h9 38 (ix x5)) <|
              chk 8 x5 <|
              if (h9 35 (ix (h9 38 (ix x5)))) = (h9 39 (ix x5)) then
                (l_M_fitsNow_20 K9 n) x2 x3 1 (x5 + 1) h9
              else
                (l_M_fitsNow_20 K9 n) x2 x3 0 (x5 + 1) h9
          else
            (l_M_fitsNow_20 K9 n) x2 x3 0 (x5 + 1) h7
def l_M_fitsNow_9 : Nat → Int32 → Int32 → Hp → Option (Int32 × Hp)
  | 0, _, _, _ => none
  | n + 1, x2, x3, h =>
    if 4 ≤ x3 then
      some (x2, h)
    else
      l_M_fitsNow_20 (l_M_fitsNow_9 n) FUEL x2 x3 1 0 h
def f_M_fitsNow (h : Hp) : Option (Int32 × Hp) :=
  bnd (f_M_faultNow h) fun r1 h1 =>
  l_M_fitsNow_9 FUEL 0 0 h1
def f_M_fits (h : Hp) : Option (Int32 × Hp) :=
  bnd (f_M_fitsNow h) fun r1 h1 =>
  some (r1, h1)
def l_M_areAlike_5 : Nat → Int32 → Int32 → Int32 → Int32 → Hp → Option (Int32 × Hp)
  | 0, _, _, _, _, _ => none
  | n + 1, x1, x2, x3, x4, h =>
    chk 44 (11 * x1) <|
    if (h 40 (ix (11 * x1))) < x4 then
      zret x3 h
    else
      if x3 = 0 then
        (l_M_areAlike_5 n) x1 x2 0 (x4 + 1) h
      else
        chk 44 ((11 * x1) + x4) <|
        chk 44 ((11 * x2) + x4) <|
        if (h 40 (ix ((11 * x1) + x4))) = (h 40 (ix ((11 * x2) + x4))) then
          (l_M_areAlike_5 n) x1 x2 1 (x4 + 1) h
        else
          (l_M_areAlike_5 n) x1 x2 0 (x4 + 1) h
def f_M_areAlike (x1 : Int32) (x2 : Int32) (h : Hp) : Option (Int32 × Hp) :=
  l_M_areAlike_5 FUEL x1 x2 1 0 h
def l_M_unlikeFrom_87 (K5 : Int32 → Int32 → Int32 → Int32 → Hp → Option (Int32 × Hp)) : Nat → Int32 → Int32 → Int32 → Int32 → Int32 → Int32 → Hp → Option (Int32 × Hp)
  | 0, _, _, _, _, _, _, _ => none
  | n + 1, x1, x2, x3, x4, x5, x6, h =>
    if x4 ≤ x6 then
      if x5 = 0 then
        K5 x1 x2 (x3 + 0) (x4 + 1) h
      else
        K5 x1 x2 (x3 + 1) (x4 + 1) h
    else
      if x5 = 0 then
        K5 x1 x2 (x3 + 0) (x4 + 1) h
      else
        bnd (f_M_isIn x2 x6 h) fun r8 h8 =>
        if r8 = 0 then
          (l_M_unlikeFrom_87 K5 n) x1 x2 x3 x4 1 (x6 + 1) h8
        else
          bnd (f_M_areAlike x4 x6 h8) fun r10 h10 =>
          if r10 = 0 then
            (l_M_unlikeFrom_87 K5 n) x1 x2 x3 x4 1 (x6 + 1) h10
          else
            (l_M_unlikeFrom_87 K5 n) x1 x2 x3 x4 0 (x6 + 1) h10
def l_M_unlikeFrom_39 (K5 : Int32 → Int32 → Int32 → Int32 → Hp → Option (Int32 × Hp)) : Nat → Int32 → Int32 → Int32 → Int32 → Int32 → Hp → Option (Int32 × Hp)
  | 0, _, _, _, _, _, _ => none
  | n + 1, x1, x2, x3, x4, x5, h =>
    if (h 31 10) ≤ x5 then
      bnd (f_M_isIn x2 x4 h) fun r4 h4 =>
      l_M_unlikeFrom_87 K5 FUEL x1 x2 x3 x4 r4 0 h4
    else
      chk 11 x5 <|
      chk 44 (((11 * x4) + 1) + x5) <|
      (l_M_unlikeFrom_39 K5 n) x1 x2 x3 x4 (x5 + 1) (hset h 40 (ix (((11 * x4) + 1) + x5)) (h 35 (ix x5)))
def l_M_unlikeFrom_5 : Nat → Int32 → Int32 → Int32 → Int32 → Hp → Option (Int32 × Hp)
  | 0, _, _, _, _, _ => none
  | n + 1, x1, x2, x3, x4, h =>
    if 4 ≤ x4 then
      some (x3, h)
    else
      bnd (f_M_lays x1 x4 (h 31 5) h) fun _ h2 =>
      chk 44 (11 * x4) <|
      l_M_unlikeFrom_39 (l_M_unlikeFrom_5 n) FUEL x1 x2 x3 x4 0 (hset h2 40 (ix (11 * x4)) (h2 31 10))
def f_M_unlikeFrom (x1 : Int32) (x2 : Int32) (h : Hp) : Option (Int32 × Hp) :=
  l_M_unlikeFrom_5 FUEL x1 x2 0 0 h
def l_M_tellsNow_12 : Nat → Int32 → Int32 → Int32 → Int32 → Hp → Option (Int32 × Hp)
  | 0, _, _, _, _, _ => none
  | n + 1, x1, x2, x3, x4, h =>
    if (h 31 2) ≤ x4 then
      some (x2, h)
    else
      bnd (f_M_isHidden x4 h) fun r3 h3 =>
      if r3 = 0 then
        bnd (f_M_unlikeFrom x4 x1 h3) fun r5 h5 =>
        if r5 ≤ x3 then
          (l_M_tellsNow_12 n) x1 x2 x3 (x4 + 1) h5
        else
          (l_M_tellsNow_12 n) x1 x4 r5 (x4 + 1) h5
      else
        if (-1) ≤ x3 then
          (l_M_tellsNow_12 n) x1 x2 x3 (x4 + 1) h3
        else
          (l_M_tellsNow_12 n) x1 x4 (-1) (x4 + 1) h3
def f_M_tellsNow (h : Hp) : Option (Int32 × Hp) :=
  bnd (f_M_fitsNow h) fun r1 h1 =>
  l_M_tellsNow_12 FUEL r1 (-1) (-1) 0 h1
def f_M_tells (h : Hp) : Option (Int32 × Hp) :=
  bnd (f_M_tellsNow h) fun r1 h1 =>
  some (r1, h1)
def l_M_fliesOf_85 (K30 : Int32 → Int32 → Int32 → Int32 → Hp → Option (Int32 × Hp)) : Nat → Int32 → Int32 → Int32 → Int32 → Int32 → Int32 → Int32 → Int32 → Hp → Option (Int32 × Hp)
  | 0, _, _, _, _, _, _, _, _, _ => none
  | n + 1, x4, x5, x6, x7, x8, x9, x10, x11, h =>
    if (h 31 10) ≤ x11 then
      if x10 = 0 then
        K30 x4 x5 (x6 + 0) (x7 + 1) h
      else
        K30 x4 x5 (x6 + 1) (x7 + 1) h
    else
      if x10 = 0 then
        chk 11 x11 <|
        chk 11 (h 35 (ix x11)) <|
        bnd (f_M_apart x8 (h 33 (ix (h 35 (ix x11)))) h) fun r8 h8 =>
        chk 11 x11 <|
        chk 11 (h8 35 (ix x11)) <|
        bnd (f_M_apart x9 (h8 34 (ix (h8 35 (ix x11)))) h8) fun r9 h9 =>
        if (h9 31 8) < (r8 + r9) then
          (l_M_fliesOf_85 K30 n) x4 x5 x6 x7 x8 x9 0 (x11 + 1) h9
        else
          (l_M_fliesOf_85 K30 n) x4 x5 x6 x7 x8 x9 1 (x11 + 1) h9
      else
        (l_M_fliesOf_85 K30 n) x4 x5 x6 x7 x8 x9 1 (x11 + 1) h
def l_M_fliesOf_30 : Nat → Int32 → Int32 → Int32 → Int32 → Hp → Option (Int32 × Hp)
  | 0, _, _, _, _, _ => none
  | n + 1, x4, x5, x6, x7, h =>
    if x4 ≤ x7 then
      some (x6, h)
    else
      l_M_fliesOf_85 (l_M_fliesOf_30 n) FUEL x4 ((1103515245 * ((1103515245 * x5) + 12345)) + 12345) x6 x7 (((Int32.toUInt32 ((1103515245 * x5) + 12345) >>> (Int32.toUInt32 16 &&& Int32.toUInt32 31)).toInt32) - ((Int32.toUInt32 ((1103515245 * x5) + 12345) >>> (Int32.toUInt32 16 &&& Int32.toUInt32 31)).toInt32) / 10 * 10) (((Int32.toUInt32 ((1103515245 * ((1103515245 * x5) + 12345)) + 12345) >>> (Int32.toUInt32 16 &&& Int32.toUInt32 31)).toInt32) - ((Int32.toUInt32 ((1103515245 * ((1103515245 * x5) + 12345)) + 12345) >>> (Int32.toUInt32 16 &&& Int32.toUInt32 31)).toInt32) / 10 * 10) 0 0 h
def f_M_fliesOf (x1 : Int32) (x2 : Int32) (x3 : Int32) (x4 : Int32) (h : Hp) : Option (Int32 × Hp) :=
  bnd (f_M_isHidden x1 h) fun r1 h1 =>
  if r1 = 0 then
    bnd (f_M_lays x1 x2 (h1 31 5) h1) fun _ h3 =>
    l_M_fliesOf_30 FUEL x4 x3 0 0 h3
  else
    some ((-3), h1)
def f_M_flies (x1 : Int32) (x2 : Int32) (x3 : Int32) (x4 : Int32) (h : Hp) : Option (Int32 × Hp) :=
  bnd (f_M_isWeb x1 x2 h) fun r1 h1 =>
  if r1 = 0 then
    some ((-2), h1)
  else
    bnd (f_M_in x4 0 99 h1) fun r3 h3 =>
    if r3 = 0 then
      some ((-2), h3)
    else
      bnd (f_M_fliesOf x1 x2 x3 x4 h3) fun r5 h5 =>
      some (r5, h5)
def l_M_dewOf_24 : Nat → Int32 → Int32 → Hp → Option (Int32 × Hp)
  | 0, _, _, _ => none
  | n + 1, x3, x4, h =>
    if (h 31 10) ≤ (x4 + 1) then
      some ((-1), h)
    else
      chk 4 x3 <|
      if (h 43 (ix x3)) ≤ x4 then
        some ((-1), h)
      else
        chk 192 ((48 * x3) + x4) <|
        chk 11 x4 <|
        chk 11 (x4 + 1) <|
        bnd (f_M_farOf (h 35 (ix x4)) (h 35 (ix (x4 + 1))) h) fun r6 h6 =>
        if (h 44 (ix ((48 * x3) + x4))) ≤ r6 then
          (l_M_dewOf_24 n) x3 (x4 + 1) h6
        else
          some (x4, h6)
def f_M_dewOf (x1 : Int32) (x2 : Int32) (x3 : Int32) (h : Hp) : Option (Int32 × Hp) :=
  bnd (f_M_isHidden x1 h) fun r1 h1 =>
  if r1 = 0 then
    bnd (f_M_lays x1 x2 (h1 31 5) h1) fun _ h3 =>
    l_M_dewOf_24 FUEL x3 0 h3
  else
    some ((-3), h1)
def f_M_dew (x1 : Int32) (x2 : Int32) (x3 : Int32) (h : Hp) : Option (Int32 × Hp) :=
  bnd (f_M_isWeb x1 x2 h) fun r1 h1 =>
  if r1 = 0 then
    some ((-2), h1)
  else
    bnd (f_M_isSheet x3 h1) fun r3 h3 =>
    if r3 = 0 then
      some ((-2), h3)
    else
      chk 4 x3 <|
      if (h3 41 (ix x3)) = 0 then
        bnd (f_M_meets 1 h3) fun r6 h6 =>
        some (r6, h6)
      else
        bnd (f_M_dewOf x1 x2 x3 h3) fun r7 h7 =>
        some (r7, h7)
def l_M_sheet_59 : Nat → Int32 → Int32 → Int32 → Hp → Option (Int32 × Hp)
  | 0, _, _, _, _ => none
  | n + 1, x1, x3, x4, h =>
    if 48 ≤ x4 then
      some (x3, h)
    else
      chk 192 ((48 * x1) + x4) <|
      (l_M_sheet_59 n) x1 x3 (x4 + 1) (hset h 44 (ix ((48 * x1) + x4)) 0)
def f_M_sheet (x1 : Int32) (x2 : Int32) (x3 : Int32) (h : Hp) : Option (Int32 × Hp) :=
  bnd (f_M_isSheet x1 h) fun r1 h1 =>
  if r1 = 0 then
    some ((-2), h1)
  else
    bnd (f_M_in x2 0 2 h1) fun r3 h3 =>
    if r3 = 0 then
      some ((-2), h3)
    else
      if x3 ≤ 48 then
        if 0 ≤ x3 then
          chk 4 x1 <|
          chk 4 x1 <|
          chk 4 x1 <|
          l_M_sheet_59 FUEL x1 x3 0 (hset (hset (hset h3 41 (ix x1) 1) 42 (ix x1) x2) 43 (ix x1) x3)
        else
          bnd (f_M_meets 5 h3) fun r8 h8 =>
          some (r8, h8)
      else
        some ((-2), h3)
def f_M_lose (x1 : Int32) (h : Hp) : Option (Int32 × Hp) :=
  bnd (f_M_isSheet x1 h) fun r1 h1 =>
  if r1 = 0 then
    some ((-2), h1)
  else
    chk 4 x1 <|
    if (h1 41 (ix x1)) = 0 then
      bnd (f_M_meets 1 h1) fun r4 h4 =>
      some (r4, h4)
    else
      chk 4 x1 <|
      chk 4 x1 <|
      some ((hset h1 41 (ix x1) 0) 43 (ix x1), hset h1 41 (ix x1) 0)
def f_M_lacks (x1 : Int32) (x2 : Int32) (x3 : Int32) (h : Hp) : Option (Int32 × Hp) :=
  chk 4 x1 <|
  if (h 41 (ix x1)) = 0 then
    some (1, h)
  else
    chk 4 x1 <|
    if (h 42 (ix x1)) = x2 then
      chk 4 x1 <|
      bnd (f_M_in x3 0 ((h 43 (ix x1)) - 1) h) fun r3 h3 =>
      if r3 = 0 then
        some (2, h3)
      else
        some (0, h3)
    else
      some (3, h)
def f_M_keep (x1 : Int32) (x2 : Int32) (x3 : Int32) (h : Hp) : Option (Unit × Hp) :=
  chk 4 x1 <|
  if (h 42 (ix x1)) = 0 then
    chk 192 ((48 * x1) + x2) <|
    some ((), hset h 44 (ix ((48 * x1) + x2)) ((Int32.toInt8 x3).toInt32))
  else
    chk 4 x1 <|
    if (h 42 (ix x1)) = 1 then
      chk 192 ((48 * x1) + x2) <|
      some ((), hset h 44 (ix ((48 * x1) + x2)) ((Int32.toInt16 x3).toInt32))
    else
      chk 192 ((48 * x1) + x2) <|
      some ((), hset h 44 (ix ((48 * x1) + x2)) x3)
def f_M_put (x1 : Int32) (x2 : Int32) (x3 : Int32) (x4 : Int32) (h : Hp) : Option (Int32 × Hp) :=
  bnd (f_M_isSheet x1 h) fun r1 h1 =>
  if r1 = 0 then
    some ((-2), h1)
  else
    bnd (f_M_in x2 0 2 h1) fun r3 h3 =>
    if r3 = 0 then
      some ((-2), h3)
    else
      bnd (f_M_lacks x1 x2 x3 h3) fun r5 h5 =>
      if r5 ≤ 0 then
        bnd (f_M_keep x1 x3 x4 h5) fun _ h7 =>
        some (1, h7)
      else
        bnd (f_M_meets r5 h5) fun r8 h8 =>
        some (r8, h8)
def f_M_get (x1 : Int32) (x2 : Int32) (x3 : Int32) (h : Hp) : Option (Int32 × Hp) :=
  bnd (f_M_isSheet x1 h) fun r1 h1 =>
  if r1 = 0 then
    some ((-2147483648), h1)
  else
    bnd (f_M_in x2 0 2 h1) fun r3 h3 =>
    if r3 = 0 then
      some ((-2147483648), h3)
    else
      bnd (f_M_lacks x1 x2 x3 h3) fun r5 h5 =>
      if r5 ≤ 0 then
        chk 192 ((48 * x1) + x3) <|
        some (h5 44 (ix ((48 * x1) + x3)), h5)
      else
        some ((-2147483648), hset h5 31 24 r5)
def l_M_copy_157 : Nat → Int32 → Int32 → Int32 → Int32 → Hp → Option (Int32 × Hp)
  | 0, _, _, _, _, _ => none
  | n + 1, x3, x4, x5, x6, h =>
    if x5 ≤ x6 then
      some (1, h)
    else
      chk 48 x6 <|
      chk 192 (((48 * x3) + x4) + x6) <|
      (l_M_copy_157 n) x3 x4 x5 (x6 + 1) (hset h 44 (ix (((48 * x3) + x4) + x6)) (h 45 (ix x6)))
def l_M_copy_120 : Nat → Int32 → Int32 → Int32 → Int32 → Int32 → Int32 → Hp → Option (Int32 × Hp)
  | 0, _, _, _, _, _, _, _ => none
  | n + 1, x1, x2, x3, x4, x5, x6, h =>
    if x5 ≤ x6 then
      l_M_copy_157 FUEL x3 x4 x5 0 h
    else
      chk 192 (((48 * x1) + x2) + x6) <|
      chk 48 x6 <|
      (l_M_copy_120 n) x1 x2 x3 x4 x5 (x6 + 1) (hset h 45 (ix x6) (h 44 (ix (((48 * x1) + x2) + x6))))
def f_M_copy (x1 : Int32) (x2 : Int32) (x3 : Int32) (x4 : Int32) (x5 : Int32) (h : Hp) : Option (Int32 × Hp) :=
  bnd (f_M_isSheet x1 h) fun r1 h1 =>
  if r1 = 0 then
    some ((-2), h1)
  else
    bnd (f_M_isSheet x3 h1) fun r3 h3 =>
    if r3 = 0 then
      some ((-2), h3)
    else
      chk 4 x1 <|
      if (h3 41 (ix x1)) = 0 then
        bnd (f_M_meets 1 h3) fun r6 h6 =>
        some (r6, h6)
      else
        chk 4 x3 <|
        if (h3 41 (ix x3)) = 0 then
          bnd (f_M_meets 1 h3) fun r8 h8 =>
          some (r8, h8)
        else
          chk 4 x1 <|
          chk 4 x3 <|
          if (h3 42 (ix x1)) = (h3 42 (ix x3)) then
            if x2 < 0 then
              bnd (f_M_meets 2 h3) fun r11 h11 =>
              some (r11, h11)
            else
              if x4 < 0 then
                bnd (f_M_meets 2 h3) fun r13 h13 =>
                some (r13, h13)
              else
                if x5 < 0 then
                  bnd (f_M_meets 2 h3) fun r15 h15 =>
                  some (r15, h15)
                else
                  chk 4 x1 <|
                  if 0 < (lg_cmp ((Int32.toInt64 x2) + (Int32.toInt64 x5)) (Int32.toInt64 (h3 43 (ix x1)))) then
                    bnd (f_M_meets 2 h3) fun r17 h17 =>
                    some (r17, h17)
                  else
                    chk 4 x3 <|
                    if (lg_cmp ((Int32.toInt64 x4) + (Int32.toInt64 x5)) (Int32.toInt64 (h3 43 (ix x3)))) ≤ 0 then
                      l_M_copy_120 FUEL x1 x2 x3 x4 x5 0 h3
                    else
                      bnd (f_M_meets 2 h3) fun r21 h21 =>
                      some (r21, h21)
          else
            bnd (f_M_meets 4 h3) fun r22 h22 =>
            some (r22, h22)
def l_M_write_58 : Nat → Int32 → Int32 → Hp → Option (Int32 × Hp)
  | 0, _, _, _ => none
  | n + 1, x3, x4, h =>
    chk 4 x3 <|
    if (h 43 (ix x3)) ≤ x4 then
      some (x4, h)
    else
      if (h 31 10) ≤ x4 then
        some (x4, h)
      else
        chk 11 x4 <|
        bnd (f_M_keep x3 x4 (h 35 (ix x4)) h) fun _ h12 =>
        (l_M_write_58 n) x3 (x4 + 1) h12
def f_M_write (x1 : Int32) (x2 : Int32) (x3 : Int32) (h : Hp) : Option (Int32 × Hp) :=
  bnd (f_M_isWeb x1 x2 h) fun r1 h1 =>
  if r1 = 0 then
    some ((-2), h1)
  else
    bnd (f_M_isSheet x3 h1) fun r3 h3 =>
    if r3 = 0 then
      some ((-2), h3)
    else
      chk 4 x3 <|
      if (h3 41 (ix x3)) = 0 then
        bnd (f_M_meets 1 h3) fun r6 h6 =>
        some (r6, h6)
      else
        bnd (f_M_isHidden x1 h3) fun r7 h7 =>
        if r7 = 0 then
          bnd (f_M_lays x1 x2 (h7 31 5) h7) fun _ h9 =>
          l_M_write_58 FUEL x3 0 h9
        else
          some ((-3), h7)
def l_M_sumOf_43 (K10 : Int32 → Int32 → Int32 → Hp → Option (Int32 × Hp)) : Nat → Int32 → Int32 → Int32 → Int32 → Hp → Option (Int32 × Hp)
  | 0, _, _, _, _, _ => none
  | n + 1, x1, x3, x4, x5, h =>
    if x4 ≤ x5 then
      K10 x1 x3 (x4 + 1) h
    else
      if x1 = 7 then
        bnd (f_M_farOf x4 x5 h) fun r7 h7 =>
        (l_M_sumOf_43 K10 n) x1 (x3 + r7) x4 (x5 + 1) h7
      else
        K10 x1 x3 (x4 + 1) h
def l_M_sumOf_10 : Nat → Int32 → Int32 → Int32 → Hp → Option (Int32 × Hp)
  | 0, _, _, _, _ => none
  | n + 1, x1, x3, x4, h =>
    if (h 31 2) ≤ x4 then
      if x1 = 0 then
        some (h 31 2, h)
      else
        some (x3, h)
    else
      if x1 = 2 then
        l_M_sumOf_43 (l_M_sumOf_10 n) FUEL x1 (x3 + (((h 31 5) >>> (x4 &&& 31)) &&& 1)) x4 0 h
      else
        l_M_sumOf_43 (l_M_sumOf_10 n) FUEL x1 (x3 + 0) x4 0 h
def f_M_sumOf (x1 : Int32) (h : Hp) : Option (Int32 × Hp) :=
  bnd (f_M_faultNow h) fun r1 h1 =>
  l_M_sumOf_10 FUEL x1 0 0 h1
def f_M_count (x1 : Int32) (h : Hp) : Option (Int32 × Hp) :=
  if x1 = 0 then
    bnd (f_M_sumOf x1 h) fun r2 h2 =>
    some (r2, h2)
  else
    if x1 = 1 then
      some (h 31 1, h)
    else
      if x1 = 2 then
        bnd (f_M_sumOf x1 h) fun r5 h5 =>
        some (r5, h5)
      else
        if x1 = 3 then
          some (h 31 6, h)
        else
          if x1 = 4 then
            some (h 31 7, h)
          else
            if x1 = 5 then
              some (h 31 8, h)
            else
              if x1 = 6 then
                some (h 31 14, h)
              else
                if x1 = 7 then
                  bnd (f_M_sumOf x1 h) fun r11 h11 =>
                  some (r11, h11)
                else
                  if x1 = 8 then
                    some (h 31 24, h)
                  else
                    some ((-2), h)
def l_M_digest_263 : Nat → Int64 → Int32 → Hp → Option (Int64 × Hp)
  | 0, _, _, _ => none
  | n + 1, l1, x3, h =>
    if 3 ≤ x3 then
      bnd (f_M_more 0 0 5 5 h) fun r8 h8 =>
      bnd (f_M_fitsNow h8) fun r9 h9 =>
      bnd (f_M_tellsNow h9) fun r10 h10 =>
      some ((31 * ((31 * ((31 * l1) + (Int32.toInt64 r8))) + (Int32.toInt64 r9))) + (Int32.toInt64 r10), h10)
    else
      bnd (f_M_two 0 0 1 1 x3 h) fun r11 h11 =>
      (l_M_digest_263 n) ((31 * l1) + (Int32.toInt64 r11)) (x3 + 1) h11
def l_M_digest_205 : Nat → Int64 → Int32 → Hp → Option (Int64 × Hp)
  | 0, _, _, _ => none
  | n + 1, l1, x3, h =>
    if 4 ≤ x3 then
      bnd (f_M_last 0 0 1 0 h) fun r5 h5 =>
      bnd (f_M_last 0 0 1 1 h5) fun r6 h6 =>
      l_M_digest_263 FUEL ((31 * ((31 * l1) + (Int32.toInt64 r5))) + (Int32.toInt64 r6)) 0 h6
    else
      bnd (f_M_beginOf x3 h) fun r12 h12 =>
      (l_M_digest_205 n) ((31 * l1) + (Int32.toInt64 r12)) (x3 + 1) h12
def l_M_digest_65 (K45 : Int64 → Int32 → Hp → Option (Int64 × Hp)) (K56 : Int64 → Int32 → Int32 → Hp → Option (Int64 × Hp)) : Nat → Int64 → Int32 → Int32 → Int32 → Hp → Option (Int64 × Hp)
  | 0, _, _, _, _, _ => none
  | n + 1, l1, x3, x4, x5, h =>
    if 3 ≤ x5 then
      bnd (f_M_crossesOf x3 x4 h) fun r15 h15 =>
      bnd (f_M_turnedOf x3 x4 h15) fun r16 h16 =>
      bnd (f_M_webOf x3 x4 1 h16) fun r17 h17 =>
      bnd (f_M_hangsOf x3 x4 0 h17) fun r18 h18 =>
      bnd (f_M_pieces x3 x4 1 h18) fun r19 h19 =>
      bnd (f_M_fliesOf x3 x4 7 9 h19) fun r20 h20 =>
      K56 ((31 * ((31 * ((31 * ((31 * ((31 * ((31 * l1) + (Int32.toInt64 r15))) + (Int32.toInt64 r16))) + (Int32.toInt64 r17))) + (Int32.toInt64 r18))) + (Int32.toInt64 r19))) + (Int32.toInt64 r20)) x3 (x4 + 1) h20
    else
      bnd (f_M_lengthOf x3 x4 x5 h) fun r21 h21 =>
      (l_M_digest_65 K45 K56 n) ((31 * l1) + (Int32.toInt64 r21)) x3 x4 (x5 + 1) h21
def l_M_digest_56 (K45 : Int64 → Int32 → Hp → Option (Int64 × Hp)) : Nat → Int64 → Int32 → Int32 → Hp → Option (Int64 × Hp)
  | 0, _, _, _, _ => none
  | n + 1, l1, x3, x4, h =>
    if 4 ≤ x4 then
      K45 l1 (x3 + 1) h
    else
      l_M_digest_65 K45 (l_M_digest_56 K45 n) FUEL l1 x3 x4 0 h
def l_M_digest_45 : Nat → Int64 → Int32 → Hp → Option (Int64 × Hp)
  | 0, _, _, _ => none
  | n + 1, l1, x3, h =>
    if (h 31 2) ≤ x3 then
      l_M_digest_205 FUEL l1 0 h
    else
      l_M_digest_56 (l_M_digest_45 n) FUEL l1 x3 0 h
def l_M_digest_6 : Nat → Int64 → Int32 → Hp → Option (Int64 × Hp)
  | 0, _, _, _ => none
  | n + 1, l1, x3, h =>
    if 8 ≤ x3 then
      bnd (f_M_faultNow h) fun r2 h2 =>
      l_M_digest_45 FUEL ((31 * l1) + (Int32.toInt64 r2)) 0 h2
    else
      bnd (f_M_count x3 h) fun r22 h22 =>
      (l_M_digest_6 n) ((31 * l1) + (Int32.toInt64 r22)) (x3 + 1) h22
def f_M_digest (h : Hp) : Option (Int64 × Hp) :=
  l_M_digest_6 FUEL 17 0 h
