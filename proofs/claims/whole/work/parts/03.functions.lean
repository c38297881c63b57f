def Tcl : List (Nat × Nat) := [(0, 10), (0, 5), (0, 6), (2, 7), (0, 6), (2, 7), (0, 3), (3, 6), (1, 5), (1, 5), (1, 5), (1, 5), (1, 5), (1, 5), (0, 1), (0, 5), (0, 6), (2, 7), (0, 6), (2, 7), (0, 5), (0, 6), (2, 7), (0, 6), (2, 7), (0, 5), (0, 6), (2, 7), (0, 6), (2, 7), (0, 9), (0, 3), (3, 6), (1, 5), (1, 5), (1, 5), (1, 5), (1, 5), (1, 5), (0, 5), (0, 6), (2, 7), (0, 6), (2, 7), (0, 5), (0, 6), (2, 7), (0, 6), (2, 7), (0, 6), (2, 7), (0, 2), (0, 2), (1, 3), (1, 3), (1, 3), (0, 0), (3, 6), (1, 4), (1, 4), (1, 4), (1, 4), (1, 4), (1, 4), (0, 4), (3, 12), (1, 15), (1, 15), (1, 15), (1, 15), (1, 15), (1, 15), (1, 15), (1, 15), (1, 15), (1, 15), (1, 15), (1, 15), (0, 5), (0, 6), (2, 7), (0, 6), (2, 7), (0, 8), (4, 3), (2, 40), (2, 40), (2, 40), (1, 3), (0, 7), (0, 6), (2, 7), (0, 2)]
def Tc : HT := fun a => Tcl.getD a (9, 0)
abbrev nC : Nat := 93
def Tml : List (Nat × Nat) := [(0, 11), (1, 3), (2, 120), (2, 40), (1, 14), (1, 30), (1, 40), (2, 7), (2, 7), (2, 7), (2, 7), (2, 7), (2, 7), (1, 120), (1, 120), (2, 7), (2, 14), (2, 14), (2, 3), (2, 3), (2, 14), (2, 14), (1, 168), (1, 12), (1, 14)]
def Tm : HT := fun a => Tml.getD a (9, 0)
abbrev nM : Nat := 25
def La_item_32 (I : HI) (N : HN) (a0 : Nat) (p1 : Int32) (p2 : Int32) (s0 : Int32) : Option (Int32) :=
  if s0 = 0 then
    some (0 : Int32)
  else
    ra Tc nC (N a0 0) 3 fun b2 =>
    gd (inb p1 (Tc b2).2) <|
    ra Tc nC (N b2 p1.toNatClampNeg) 1 fun b4 =>
    gd (inb p2 (Tc b4).2) <|
    some (I b4 p2.toNatClampNeg)
def La_item_31 (I : HI) (N : HN) (a0 : Nat) (p1 : Int32) (p2 : Int32) : Option (Int32) :=
  La_item_32 I N a0 p1 p2 (0 : Int32)
def La_item_0 (I : HI) (N : HN) (a0 : Nat) (p1 : Int32) (p2 : Int32) : Option (Int32) :=
  if p1 < 0 then
    La_item_31 I N a0 p1 p2
  else
    if (I a0 1) ≤ p1 then
      La_item_31 I N a0 p1 p2
    else
      if (6 : Int32) ≤ p1 then
        La_item_31 I N a0 p1 p2
      else
        if p2 < 0 then
          La_item_31 I N a0 p1 p2
        else
          if (5 : Int32) ≤ p2 then
            La_item_31 I N a0 p1 p2
          else
            La_item_32 I N a0 p1 p2 (1 : Int32)
def La_item (I : HI) (N : HN) (a0 : Nat) (p1 : Int32) (p2 : Int32) : Option (Int32) := La_item_0 I N a0 p1 p2
def Bi_addPart_72 (N : HN) (a0 : Nat) (p1 : Int32) (p2 : Int32) (p3 : Int32) (I : HI) : Option (HI) :=
  if (6 : Int32) ≤ (I a0 1) then
    some I
  else
    ra Tc nC (N a0 0) 3 fun b2 =>
    gd (inb (I a0 1) (Tc b2).2) <|
    ra Tc nC (N b2 (I a0 1).toNatClampNeg) 1 fun b4 =>
    gd (inb (0 : Int32) (Tc b4).2) <|
    bd (up2 I b4 (0 : Int32).toNatClampNeg p1) fun I6 =>
    gd (inb (1 : Int32) (Tc b4).2) <|
    bd (up2 I6 b4 (1 : Int32).toNatClampNeg p2) fun I8 =>
    gd (inb (2 : Int32) (Tc b4).2) <|
    bd (up2 I8 b4 (2 : Int32).toNatClampNeg p3) fun I10 =>
    gd (inb (3 : Int32) (Tc b4).2) <|
    bd (up2 I10 b4 (3 : Int32).toNatClampNeg (1 : Int32)) fun I12 =>
    bd (up2 I12 a0 1 ((I12 a0 1) + (1 : Int32))) fun I13 =>
    some I13
def Bi_addPart_66 (N : HN) (a0 : Nat) (p1 : Int32) (p2 : Int32) (p3 : Int32) (k8 : HI → Int32 → Option (HI)) (I : HI) (x4 : Int32) : Option (HI) :=
  k8 I (x4 + 1)
def Bi_addPart_8b (N : HN) (a0 : Nat) (p1 : Int32) (p2 : Int32) (p3 : Int32) (k8 : HI → Int32 → Option (HI)) (I : HI) (x4 : Int32) : Option (HI) :=
  if (I a0 1) ≤ x4 then
    Bi_addPart_72 N a0 p1 p2 p3 I
  else
    if (6 : Int32) ≤ x4 then
      Bi_addPart_72 N a0 p1 p2 p3 I
    else
      ra Tc nC (N a0 0) 3 fun b3 =>
      gd (inb x4 (Tc b3).2) <|
      ra Tc nC (N b3 x4.toNatClampNeg) 1 fun b5 =>
      gd (inb (0 : Int32) (Tc b5).2) <|
      if (I b5 (0 : Int32).toNatClampNeg) = p1 then
        gd (inb (1 : Int32) (Tc b5).2) <|
        if (I b5 (1 : Int32).toNatClampNeg) = p2 then
          gd (inb (2 : Int32) (Tc b5).2) <|
          if (I b5 (2 : Int32).toNatClampNeg) = p3 then
            gd (inb (3 : Int32) (Tc b5).2) <|
            gd (inb (3 : Int32) (Tc b5).2) <|
            bd (up2 I b5 (3 : Int32).toNatClampNeg ((I b5 (3 : Int32).toNatClampNeg) + (1 : Int32))) fun I14 =>
            some I14
          else
            Bi_addPart_66 N a0 p1 p2 p3 k8 I x4
        else
          Bi_addPart_66 N a0 p1 p2 p3 k8 I x4
      else
        Bi_addPart_66 N a0 p1 p2 p3 k8 I x4
def Bi_addPart_8 (N : HN) (a0 : Nat) (p1 : Int32) (p2 : Int32) (p3 : Int32) : Nat → HI → Int32 → Option (HI)
  | 0 => fun _ _ => none
  | n + 1 => Bi_addPart_8b N a0 p1 p2 p3 (Bi_addPart_8 N a0 p1 p2 p3 n)
def Bi_addPart_0 (N : HN) (a0 : Nat) (p1 : Int32) (p2 : Int32) (p3 : Int32) (I : HI) : Option (HI) :=
  if p2 = 0 then
    some I
  else
    Bi_addPart_8 N a0 p1 p2 p3 256 I (0 : Int32)
def Bi_addPart (N : HN) (a0 : Nat) (p1 : Int32) (p2 : Int32) (p3 : Int32) (I : HI) : Option (HI) := Bi_addPart_0 N a0 p1 p2 p3 I
def Bi_countUp_7b (N : HN) (a0 : Nat) (a1 : Nat) (k7 : HI → Int32 → Option (HI)) (I : HI) (x2 : Int32) : Option (HI) :=
  if (I a1 1) ≤ x2 then
    some I
  else
    bn1 (La_item I N a1 x2 (1 : Int32)) fun r2 =>
    bn1 (La_item I N a1 x2 (2 : Int32)) fun r4 =>
    bn1 (Bi_addPart N a0 (0 : Int32) r2 r4 I) fun I6 =>
    bn1 (La_item I6 N a1 x2 (3 : Int32)) fun r8 =>
    bn1 (La_item I6 N a1 x2 (4 : Int32)) fun r10 =>
    bn1 (Bi_addPart N a0 (1 : Int32) r8 r10 I6) fun I12 =>
    k7 I12 (x2 + 1)
def Bi_countUp_7 (N : HN) (a0 : Nat) (a1 : Nat) : Nat → HI → Int32 → Option (HI)
  | 0 => fun _ _ => none
  | n + 1 => Bi_countUp_7b N a0 a1 (Bi_countUp_7 N a0 a1 n)
def Bi_countUp_0 (N : HN) (a0 : Nat) (a1 : Nat) (I : HI) : Option (HI) :=
  bd (up2 I a0 1 (0 : Int32)) fun I1 =>
  Bi_countUp_7 N a0 a1 256 I1 (0 : Int32)
def Bi_countUp (N : HN) (a0 : Nat) (a1 : Nat) (I : HI) : Option (HI) := Bi_countUp_0 N a0 a1 I
def Bi_item_32 (I : HI) (N : HN) (a0 : Nat) (p1 : Int32) (p2 : Int32) (s0 : Int32) : Option (Int32) :=
  if s0 = 0 then
    some (0 : Int32)
  else
    ra Tc nC (N a0 0) 3 fun b2 =>
    gd (inb p1 (Tc b2).2) <|
    ra Tc nC (N b2 p1.toNatClampNeg) 1 fun b4 =>
    gd (inb p2 (Tc b4).2) <|
    some (I b4 p2.toNatClampNeg)
def Bi_item_31 (I : HI) (N : HN) (a0 : Nat) (p1 : Int32) (p2 : Int32) : Option (Int32) :=
  Bi_item_32 I N a0 p1 p2 (0 : Int32)
def Bi_item_0 (I : HI) (N : HN) (a0 : Nat) (p1 : Int32) (p2 : Int32) : Option (Int32) :=
  if p1 < 0 then
    Bi_item_31 I N a0 p1 p2
  else
    if (I a0 1) ≤ p1 then
      Bi_item_31 I N a0 p1 p2
    else
      if (6 : Int32) ≤ p1 then
        Bi_item_31 I N a0 p1 p2
      else
        if p2 < 0 then
          Bi_item_31 I N a0 p1 p2
        else
          if (4 : Int32) ≤ p2 then
            Bi_item_31 I N a0 p1 p2
          else
            Bi_item_32 I N a0 p1 p2 (1 : Int32)
def Bi_item (I : HI) (N : HN) (a0 : Nat) (p1 : Int32) (p2 : Int32) : Option (Int32) := Bi_item_0 I N a0 p1 p2
def Bi_differentValues_81 (I : HI) (N : HN) (a0 : Nat) (k4 : Int32 → Int32 → Option (Int32)) (x2 : Int32) (s0 : Int32) (s1 : Int32) : Option (Int32) :=
  bd (s0 + s1) fun v1 =>
  k4 v1 (x2 + 1)
def Bi_differentValues_71 (I : HI) (N : HN) (a0 : Nat) (k4 : Int32 → Int32 → Option (Int32)) (x1 : Int32) (x2 : Int32) (x3 : Int32) : Option (Int32) :=
  if x3 = 0 then
    Bi_differentValues_81 I N a0 k4 x2 x1 (0 : Int32)
  else
    Bi_differentValues_81 I N a0 k4 x2 x1 (1 : Int32)
def Bi_differentValues_64 (I : HI) (N : HN) (a0 : Nat) (k4 : Int32 → Int32 → Option (Int32)) (k17 : Int32 → Int32 → Int32 → Int32 → Option (Int32)) (x1 : Int32) (x2 : Int32) (x4 : Int32) (s0 : Int32) : Option (Int32) :=
  k17 x1 x2 s0 (x4 + 1)
def Bi_differentValues_59 (I : HI) (N : HN) (a0 : Nat) (k4 : Int32 → Int32 → Option (Int32)) (k17 : Int32 → Int32 → Int32 → Int32 → Option (Int32)) (x1 : Int32) (x2 : Int32) (x4 : Int32) : Option (Int32) :=
  Bi_differentValues_64 I N a0 k4 k17 x1 x2 x4 (1 : Int32)
def Bi_differentValues_17b (I : HI) (N : HN) (a0 : Nat) (k4 : Int32 → Int32 → Option (Int32)) (k17 : Int32 → Int32 → Int32 → Int32 → Option (Int32)) (x1 : Int32) (x2 : Int32) (x3 : Int32) (x4 : Int32) : Option (Int32) :=
  if x2 ≤ x4 then
    Bi_differentValues_71 I N a0 k4 x1 x2 x3
  else
    if x3 = 0 then
      Bi_differentValues_71 I N a0 k4 x1 x2 x3
    else
      bn1 (Bi_item I N a0 x4 (1 : Int32)) fun r3 =>
      bn1 (Bi_item I N a0 x2 (1 : Int32)) fun r5 =>
      if r3 = r5 then
        bn1 (Bi_item I N a0 x4 (2 : Int32)) fun r8 =>
        bn1 (Bi_item I N a0 x2 (2 : Int32)) fun r10 =>
        if r8 = r10 then
          Bi_differentValues_64 I N a0 k4 k17 x1 x2 x4 (0 : Int32)
        else
          Bi_differentValues_59 I N a0 k4 k17 x1 x2 x4
      else
        Bi_differentValues_59 I N a0 k4 k17 x1 x2 x4
def Bi_differentValues_17 (I : HI) (N : HN) (a0 : Nat) (k4 : Int32 → Int32 → Option (Int32)) : Nat → Int32 → Int32 → Int32 → Int32 → Option (Int32)
  | 0 => fun _ _ _ _ => none
  | n + 1 => Bi_differentValues_17b I N a0 k4 (Bi_differentValues_17 I N a0 k4 n)
def Bi_differentValues_4b (I : HI) (N : HN) (a0 : Nat) (k4 : Int32 → Int32 → Option (Int32)) (x1 : Int32) (x2 : Int32) : Option (Int32) :=
  if (I a0 1) ≤ x2 then
    some x1
  else
    Bi_differentValues_17 I N a0 k4 256 x1 x2 (1 : Int32) (0 : Int32)
def Bi_differentValues_4 (I : HI) (N : HN) (a0 : Nat) : Nat → Int32 → Int32 → Option (Int32)
  | 0 => fun _ _ => none
  | n + 1 => Bi_differentValues_4b I N a0 (Bi_differentValues_4 I N a0 n)
def Bi_differentValues_0 (I : HI) (N : HN) (a0 : Nat) : Option (Int32) :=
  Bi_differentValues_4 I N a0 256 (0 : Int32) (0 : Int32)
def Bi_differentValues (I : HI) (N : HN) (a0 : Nat) : Option (Int32) := Bi_differentValues_0 I N a0
def Po_clear_2b (N : HN) (a0 : Nat) (k2 : HJ → Int32 → Option (HJ)) (J : HJ) (x1 : Int32) : Option (HJ) :=
  if (7 : Int32) ≤ x1 then
    some J
  else
    ra Tc nC (N a0 0) 2 fun b2 =>
    gd (inb x1 (Tc b2).2) <|
    bd (up2 J b2 x1.toNatClampNeg (0 : Int64)) fun J4 =>
    k2 J4 (x1 + 1)
def Po_clear_2 (N : HN) (a0 : Nat) : Nat → HJ → Int32 → Option (HJ)
  | 0 => fun _ _ => none
  | n + 1 => Po_clear_2b N a0 (Po_clear_2 N a0 n)
def Po_clear_0 (N : HN) (a0 : Nat) (J : HJ) : Option (HJ) :=
  Po_clear_2 N a0 256 J (0 : Int32)
def Po_clear (N : HN) (a0 : Nat) (J : HJ) : Option (HJ) := Po_clear_0 N a0 J
def Pa_side_0 (N : HN) (a0 : Nat) (p1 : Int32) : Option (Nat) :=
  if p1 = 0 then
    rq Tc nC (N a0 0) (0, 6) fun b3 =>
    some b3
  else
    rq Tc nC (N a0 1) (0, 6) fun b2 =>
    some b2
def Pa_side (N : HN) (a0 : Nat) (p1 : Int32) : Option (Nat) := Pa_side_0 N a0 p1
def Po_put_0 (N : HN) (a0 : Nat) (p1 : Int32) (p2 : Int64) (J : HJ) : Option (HJ) :=
  if p1 < 0 then
    some J
  else
    if (7 : Int32) ≤ p1 then
      some J
    else
      ra Tc nC (N a0 0) 2 fun b3 =>
      gd (inb p1 (Tc b3).2) <|
      bd (up2 J b3 p1.toNatClampNeg p2) fun J5 =>
      some J5
def Po_put (N : HN) (a0 : Nat) (p1 : Int32) (p2 : Int64) (J : HJ) : Option (HJ) := Po_put_0 N a0 p1 p2 J
def Fo_loadArm_14 (I : HI) (N : HN) (a0 : Nat) (a1 : Nat) (p2 : Int32) (J : HJ) (s0 : Int32) : Option (HJ) :=
  bd ((4 : Int32) - s0) fun v1 =>
  bn1 (La_item I N a1 p2 s0) fun r2 =>
  bn1 (La_item I N a1 p2 (s0 + (1 : Int32))) fun r4 =>
  bn1 (La_item I N a1 p2 v1) fun r6 =>
  bn1 (La_item I N a1 p2 (v1 + (1 : Int32))) fun r8 =>
  rq Tc nC (N a0 1) (0, 5) fun b10 =>
  rq Tc nC (N b10 0) (0, 6) fun b11 =>
  bn1 (Po_clear N b11 J) fun J12 =>
  rq Tc nC (N a0 1) (0, 5) fun b14 =>
  rq Tc nC (N b14 1) (0, 6) fun b15 =>
  bn1 (Po_clear N b15 J12) fun J16 =>
  if r6.toInt64 = (0 : Int64) then
    rq Tc nC (N a0 1) (0, 5) fun b40 =>
    rq Tc nC (N b40 0) (0, 6) fun b41 =>
    bn1 (Po_put N b41 (1 : Int32) r2.toInt64 J16) fun J42 =>
    rq Tc nC (N a0 1) (0, 5) fun b44 =>
    rq Tc nC (N b44 1) (0, 6) fun b45 =>
    bn1 (Po_put N b45 (0 : Int32) r4.toInt64 J42) fun J46 =>
    some J46
  else
    if r2.toInt64 = (0 : Int64) then
      rq Tc nC (N a0 1) (0, 5) fun b32 =>
      rq Tc nC (N b32 0) (0, 6) fun b33 =>
      bn1 (Po_put N b33 (0 : Int32) r8.toInt64 J16) fun J34 =>
      rq Tc nC (N a0 1) (0, 5) fun b36 =>
      rq Tc nC (N b36 1) (0, 6) fun b37 =>
      bn1 (Po_put N b37 (1 : Int32) r6.toInt64 J34) fun J38 =>
      some J38
    else
      rq Tc nC (N a0 1) (0, 5) fun b20 =>
      rq Tc nC (N b20 0) (0, 6) fun b21 =>
      bn1 (Po_put N b21 (1 : Int32) (r2.toInt64 * r8.toInt64) J16) fun J22 =>
      rq Tc nC (N a0 1) (0, 5) fun b24 =>
      rq Tc nC (N b24 1) (0, 6) fun b25 =>
      bn1 (Po_put N b25 (0 : Int32) (r4.toInt64 * r8.toInt64) J22) fun J26 =>
      rq Tc nC (N a0 1) (0, 5) fun b28 =>
      rq Tc nC (N b28 1) (0, 6) fun b29 =>
      bn1 (Po_put N b29 (2 : Int32) (r2.toInt64 * r6.toInt64) J26) fun J30 =>
      some J30
def Fo_loadArm_0 (I : HI) (N : HN) (a0 : Nat) (a1 : Nat) (p2 : Int32) (J : HJ) : Option (HJ) :=
  bn1 (La_item I N a1 p2 (0 : Int32)) fun r1 =>
  if r1 = 0 then
    Fo_loadArm_14 I N a0 a1 p2 J (1 : Int32)
  else
    Fo_loadArm_14 I N a0 a1 p2 J (3 : Int32)
def Fo_loadArm (I : HI) (N : HN) (a0 : Nat) (a1 : Nat) (p2 : Int32) (J : HJ) : Option (HJ) := Fo_loadArm_0 I N a0 a1 p2 J
def Pa_swap_0  (a0 : Nat) (N : HN) : Option (HN) :=
  rq Tc nC (N a0 0) (0, 6) fun b1 =>
  rq Tc nC (N a0 1) (0, 6) fun b2 =>
  bd (up2 N a0 0 (some b2)) fun N3 =>
  bd (up2 N3 a0 1 (some b1)) fun N4 =>
  some N4
def Pa_swap  (a0 : Nat) (N : HN) : Option (HN) := Pa_swap_0 a0 N
def Po_addProduct_11b (N : HN) (a0 : Nat) (a1 : Nat) (a2 : Nat) (k2 : HJ → Int32 → Option (HJ)) (k11 : HJ → Int32 → Int32 → Option (HJ)) (J : HJ) (x3 : Int32) (x4 : Int32) : Option (HJ) :=
  if (7 : Int32) ≤ (x4 + x3) then
    k2 J (x3 + 1)
  else
    ra Tc nC (N a0 0) 2 fun b2 =>
    gd (inb (x4 + x3) (Tc b2).2) <|
    ra Tc nC (N a1 0) 2 fun b4 =>
    gd (inb x3 (Tc b4).2) <|
    ra Tc nC (N a2 0) 2 fun b6 =>
    gd (inb x4 (Tc b6).2) <|
    gd (inb (x4 + x3) (Tc b2).2) <|
    bd (up2 J b2 (x4 + x3).toNatClampNeg ((J b2 (x4 + x3).toNatClampNeg) + ((J b4 x3.toNatClampNeg) * (J b6 x4.toNatClampNeg)))) fun J9 =>
    k11 J9 x3 (x4 + 1)
def Po_addProduct_11 (N : HN) (a0 : Nat) (a1 : Nat) (a2 : Nat) (k2 : HJ → Int32 → Option (HJ)) : Nat → HJ → Int32 → Int32 → Option (HJ)
  | 0 => fun _ _ _ => none
  | n + 1 => Po_addProduct_11b N a0 a1 a2 k2 (Po_addProduct_11 N a0 a1 a2 k2 n)
def Po_addProduct_2b (N : HN) (a0 : Nat) (a1 : Nat) (a2 : Nat) (k2 : HJ → Int32 → Option (HJ)) (J : HJ) (x3 : Int32) : Option (HJ) :=
  if (7 : Int32) ≤ x3 then
    some J
  else
    Po_addProduct_11 N a0 a1 a2 k2 256 J x3 (0 : Int32)
def Po_addProduct_2 (N : HN) (a0 : Nat) (a1 : Nat) (a2 : Nat) : Nat → HJ → Int32 → Option (HJ)
  | 0 => fun _ _ => none
  | n + 1 => Po_addProduct_2b N a0 a1 a2 (Po_addProduct_2 N a0 a1 a2 n)
def Po_addProduct_0 (N : HN) (a0 : Nat) (a1 : Nat) (a2 : Nat) (J : HJ) : Option (HJ) :=
  Po_addProduct_2 N a0 a1 a2 256 J (0 : Int32)
def Po_addProduct (N : HN) (a0 : Nat) (a1 : Nat) (a2 : Nat) (J : HJ) : Option (HJ) := Po_addProduct_0 N a0 a1 a2 J
def Po_load_2b (N : HN) (a0 : Nat) (a1 : Nat) (k2 : HJ → Int32 → Option (HJ)) (J : HJ) (x2 : Int32) : Option (HJ) :=
  if (7 : Int32) ≤ x2 then
    some J
  else
    ra Tc nC (N a0 0) 2 fun b2 =>
    ra Tc nC (N a1 0) 2 fun b3 =>
    gd (inb x2 (Tc b3).2) <|
    gd (inb x2 (Tc b2).2) <|
    bd (up2 J b2 x2.toNatClampNeg (J b3 x2.toNatClampNeg)) fun J6 =>
    k2 J6 (x2 + 1)
def Po_load_2 (N : HN) (a0 : Nat) (a1 : Nat) : Nat → HJ → Int32 → Option (HJ)
  | 0 => fun _ _ => none
  | n + 1 => Po_load_2b N a0 a1 (Po_load_2 N a0 a1 n)
def Po_load_0 (N : HN) (a0 : Nat) (a1 : Nat) (J : HJ) : Option (HJ) :=
  Po_load_2 N a0 a1 256 J (0 : Int32)
def Po_load (N : HN) (a0 : Nat) (a1 : Nat) (J : HJ) : Option (HJ) := Po_load_0 N a0 a1 J
def Pa_load_0 (N : HN) (a0 : Nat) (a1 : Nat) (J : HJ) : Option (HJ) :=
  rq Tc nC (N a0 0) (0, 6) fun b1 =>
  rq Tc nC (N a1 0) (0, 6) fun b2 =>
  bn1 (Po_load N b1 b2 J) fun J3 =>
  rq Tc nC (N a0 1) (0, 6) fun b5 =>
  rq Tc nC (N a1 1) (0, 6) fun b6 =>
  bn1 (Po_load N b5 b6 J3) fun J7 =>
  some J7
def Pa_load (N : HN) (a0 : Nat) (a1 : Nat) (J : HJ) : Option (HJ) := Pa_load_0 N a0 a1 J
def Fo_addArm_0 (N : HN) (a0 : Nat) (J : HJ) : Option (HJ) :=
  rq Tc nC (N a0 2) (0, 5) fun b1 =>
  rq Tc nC (N b1 0) (0, 6) fun b2 =>
  bn1 (Po_clear N b2 J) fun J3 =>
  rq Tc nC (N a0 2) (0, 5) fun b5 =>
  rq Tc nC (N b5 0) (0, 6) fun b6 =>
  rq Tc nC (N a0 0) (0, 5) fun b7 =>
  rq Tc nC (N b7 0) (0, 6) fun b8 =>
  rq Tc nC (N a0 1) (0, 5) fun b9 =>
  rq Tc nC (N b9 1) (0, 6) fun b10 =>
  bn1 (Po_addProduct N b6 b8 b10 J3) fun J11 =>
  rq Tc nC (N a0 2) (0, 5) fun b13 =>
  rq Tc nC (N b13 0) (0, 6) fun b14 =>
  rq Tc nC (N a0 1) (0, 5) fun b15 =>
  rq Tc nC (N b15 0) (0, 6) fun b16 =>
  rq Tc nC (N a0 0) (0, 5) fun b17 =>
  rq Tc nC (N b17 1) (0, 6) fun b18 =>
  bn1 (Po_addProduct N b14 b16 b18 J11) fun J19 =>
  rq Tc nC (N a0 2) (0, 5) fun b21 =>
  rq Tc nC (N b21 1) (0, 6) fun b22 =>
  bn1 (Po_clear N b22 J19) fun J23 =>
  rq Tc nC (N a0 2) (0, 5) fun b25 =>
  rq Tc nC (N b25 1) (0, 6) fun b26 =>
  rq Tc nC (N a0 0) (0, 5) fun b27 =>
  rq Tc nC (N b27 1) (0, 6) fun b28 =>
  rq Tc nC (N a0 1) (0, 5) fun b29 =>
  rq Tc nC (N b29 1) (0, 6) fun b30 =>
  bn1 (Po_addProduct N b26 b28 b30 J23) fun J31 =>
  rq Tc nC (N a0 0) (0, 5) fun b33 =>
  rq Tc nC (N a0 2) (0, 5) fun b34 =>
  bn1 (Pa_load N b33 b34 J31) fun J35 =>
  some J35
def Fo_addArm (N : HN) (a0 : Nat) (J : HJ) : Option (HJ) := Fo_addArm_0 N a0 J
def Po_at_0 (J : HJ) (N : HN) (a0 : Nat) (p1 : Int32) : Option (Int64) :=
  if p1 < 0 then
    some (0 : Int64)
  else
    if (7 : Int32) ≤ p1 then
      some (0 : Int64)
    else
      ra Tc nC (N a0 0) 2 fun b3 =>
      gd (inb p1 (Tc b3).2) <|
      some (J b3 p1.toNatClampNeg)
def Po_at (J : HJ) (N : HN) (a0 : Nat) (p1 : Int32) : Option (Int64) := Po_at_0 J N a0 p1
def Pa_number_0 (J : HJ) (N : HN) (a0 : Nat) (p1 : Int32) : Option (Int64) :=
  if (7 : Int32) ≤ p1 then
    rq Tc nC (N a0 1) (0, 6) fun b2 =>
    bn1 (Po_at J N b2 (p1 - (7 : Int32))) fun r3 =>
    some r3
  else
    rq Tc nC (N a0 0) (0, 6) fun b5 =>
    bn1 (Po_at J N b5 p1) fun r6 =>
    some r6
def Pa_number (J : HJ) (N : HN) (a0 : Nat) (p1 : Int32) : Option (Int64) := Pa_number_0 J N a0 p1
def Lm_commonDivisor_15b  (p0 : Int64) (p2 : Int64) (k15 : Int64 → Int64 → Int32 → Option (Int64)) (x4 : Int64) (x6 : Int64) (x8 : Int32) : Option (Int64) :=
  if (200 : Int32) ≤ x8 then
    some x4
  else
    if x6 = (0 : Int64) then
      some x4
    else
      gd (decide (¬ x6 = 0)) <|
      bd (x4 - x4 / x6 * x6) fun v4 =>
      k15 x6 v4 (x8 + 1)
def Lm_commonDivisor_15  (p0 : Int64) (p2 : Int64) : Nat → Int64 → Int64 → Int32 → Option (Int64)
  | 0 => fun _ _ _ => none
  | n + 1 => Lm_commonDivisor_15b p0 p2 (Lm_commonDivisor_15 p0 p2 n)
def Lm_commonDivisor_0  (p0 : Int64) (p2 : Int64) : Option (Int64) :=
  bd (if 0 < p0 then p0 else -p0) fun v1 =>
  bd (if 0 < p2 then p2 else -p2) fun v2 =>
  Lm_commonDivisor_15 p0 p2 256 v1 v2 (0 : Int32)
def Lm_commonDivisor  (p0 : Int64) (p2 : Int64) : Option (Int64) := Lm_commonDivisor_0 p0 p2
def Po_degree_3b (J : HJ) (N : HN) (a0 : Nat) (k3 : Int32 → Option (Int32)) (x1 : Int32) : Option (Int32) :=
  if x1 < 0 then
    some (-1 : Int32)
  else
    ra Tc nC (N a0 0) 2 fun b2 =>
    gd (inb x1 (Tc b2).2) <|
    if (J b2 x1.toNatClampNeg) = (0 : Int64) then
      k3 (x1 + (-1))
    else
      some x1
def Po_degree_3 (J : HJ) (N : HN) (a0 : Nat) : Nat → Int32 → Option (Int32)
  | 0 => fun _ => none
  | n + 1 => Po_degree_3b J N a0 (Po_degree_3 J N a0 n)
def Po_degree_0 (J : HJ) (N : HN) (a0 : Nat) : Option (Int32) :=
  Po_degree_3 J N a0 256 (6 : Int32)
def Po_degree (J : HJ) (N : HN) (a0 : Nat) : Option (Int32) := Po_degree_0 J N a0
def Po_divideBy_2b (N : HN) (a0 : Nat) (p1 : Int64) (k2 : HJ → Int32 → Option (HJ)) (J : HJ) (x3 : Int32) : Option (HJ) :=
  if (7 : Int32) ≤ x3 then
    some J
  else
    if p1 = (0 : Int64) then
      some J
    else
      ra Tc nC (N a0 0) 2 fun b3 =>
      gd (inb x3 (Tc b3).2) <|
      gd (decide (¬ p1 = 0)) <|
      gd (inb x3 (Tc b3).2) <|
      bd (up2 J b3 x3.toNatClampNeg ((J b3 x3.toNatClampNeg) / p1)) fun J7 =>
      k2 J7 (x3 + 1)
def Po_divideBy_2 (N : HN) (a0 : Nat) (p1 : Int64) : Nat → HJ → Int32 → Option (HJ)
  | 0 => fun _ _ => none
  | n + 1 => Po_divideBy_2b N a0 p1 (Po_divideBy_2 N a0 p1 n)
def Po_divideBy_0 (N : HN) (a0 : Nat) (p1 : Int64) (J : HJ) : Option (HJ) :=
  Po_divideBy_2 N a0 p1 256 J (0 : Int32)
def Po_divideBy (N : HN) (a0 : Nat) (p1 : Int64) (J : HJ) : Option (HJ) := Po_divideBy_0 N a0 p1 J
def Pa_becomeAsPair_82 (N : HN) (a0 : Nat) (J : HJ) (x1 : Int64) : Option (HJ) :=
  if x1 = (1 : Int64) then
    some J
  else
    rq Tc nC (N a0 0) (0, 6) fun b2 =>
    bn1 (Po_divideBy N b2 x1 J) fun J3 =>
    rq Tc nC (N a0 1) (0, 6) fun b5 =>
    bn1 (Po_divideBy N b5 x1 J3) fun J6 =>
    some J6
def Pa_becomeAsPair_70 (N : HN) (a0 : Nat) (J : HJ) (x1 : Int64) (s0 : Int64) : Option (HJ) :=
  if (0 : Int64) ≤ s0 then
    Pa_becomeAsPair_82 N a0 J x1
  else
    Pa_becomeAsPair_82 N a0 J (-x1)
def Pa_becomeAsPair_32 (N : HN) (a0 : Nat) (J : HJ) (x1 : Int64) : Option (HJ) :=
  rq Tc nC (N a0 1) (0, 6) fun b1 =>
  bn1 (Po_degree J N b1) fun r2 =>
  if r2 = (-1 : Int32) then
    rq Tc nC (N a0 0) (0, 6) fun b8 =>
    rq Tc nC (N a0 0) (0, 6) fun b9 =>
    bn1 (Po_degree J N b9) fun r10 =>
    bn1 (Po_at J N b8 r10) fun r12 =>
    Pa_becomeAsPair_70 N a0 J x1 r12
  else
    rq Tc nC (N a0 1) (0, 6) fun b5 =>
    bn1 (Po_at J N b5 r2) fun r6 =>
    Pa_becomeAsPair_70 N a0 J x1 r6
def Pa_becomeAsPair_4b (N : HN) (a0 : Nat) (k4 : HJ → Int64 → Int32 → Option (HJ)) (J : HJ) (x1 : Int64) (x3 : Int32) : Option (HJ) :=
  if (14 : Int32) ≤ x3 then
    Pa_becomeAsPair_32 N a0 J x1
  else
    if x1 = (1 : Int64) then
      Pa_becomeAsPair_32 N a0 J x1
    else
      bn1 (Pa_number J N a0 x3) fun r3 =>
      bn1 (Lm_commonDivisor x1 r3) fun r5 =>
      k4 J r5 (x3 + 1)
def Pa_becomeAsPair_4 (N : HN) (a0 : Nat) : Nat → HJ → Int64 → Int32 → Option (HJ)
  | 0 => fun _ _ _ => none
  | n + 1 => Pa_becomeAsPair_4b N a0 (Pa_becomeAsPair_4 N a0 n)
def Pa_becomeAsPair_0 (N : HN) (a0 : Nat) (J : HJ) : Option (HJ) :=
  Pa_becomeAsPair_4 N a0 256 J (0 : Int64) (0 : Int32)
def Pa_becomeAsPair (N : HN) (a0 : Nat) (J : HJ) : Option (HJ) := Pa_becomeAsPair_0 N a0 J
def Fo_foldUp_116 (I : HI) (a0 : Nat) (a1 : Nat) (k58 : HJ → HN → Int32 → Option (HJ × HN)) (J : HJ) (N : HN) (x4 : Int32) : Option (HJ × HN) :=
  rq Tc nC (N a0 0) (0, 5) fun b1 =>
  bn1 (Pa_becomeAsPair N b1 J) fun J2 =>
  k58 J2 N (x4 + (-1))
def Fo_foldUp_100 (I : HI) (a0 : Nat) (a1 : Nat) (k58 : HJ → HN → Int32 → Option (HJ × HN)) (J : HJ) (N : HN) (x4 : Int32) (x5 : Int32) : Option (HJ × HN) :=
  bn1 (Fo_addArm N a0 J) fun J1 =>
  if x5 = 0 then
    Fo_foldUp_116 I a0 a1 k58 J1 N x4
  else
    rq Tc nC (N a0 0) (0, 5) fun b4 =>
    bn1 (Pa_swap b4 N) fun N5 =>
    Fo_foldUp_116 I a0 a1 k58 J1 N5 x4
def Fo_foldUp_86 (I : HI) (a0 : Nat) (a1 : Nat) (k58 : HJ → HN → Int32 → Option (HJ × HN)) (J : HJ) (N : HN) (x4 : Int32) (s0 : Int32) : Option (HJ × HN) :=
  if s0 = 0 then
    Fo_foldUp_100 I a0 a1 k58 J N x4 s0
  else
    rq Tc nC (N a0 0) (0, 5) fun b2 =>
    bn1 (Pa_swap b2 N) fun N3 =>
    Fo_foldUp_100 I a0 a1 k58 J N3 x4 s0
def Fo_foldUp_58b (I : HI) (a0 : Nat) (a1 : Nat) (k58 : HJ → HN → Int32 → Option (HJ × HN)) (J : HJ) (N : HN) (x4 : Int32) : Option (HJ × HN) :=
  if x4 < 0 then
    some (J, N)
  else
    bn1 (Fo_loadArm I N a0 a1 x4 J) fun J2 =>
    bn1 (La_item I N a1 x4 (0 : Int32)) fun r4 =>
    if r4 = (1 : Int32) then
      Fo_foldUp_86 I a0 a1 k58 J2 N x4 (1 : Int32)
    else
      Fo_foldUp_86 I a0 a1 k58 J2 N x4 (0 : Int32)
def Fo_foldUp_58 (I : HI) (a0 : Nat) (a1 : Nat) : Nat → HJ → HN → Int32 → Option (HJ × HN)
  | 0 => fun _ _ _ => none
  | n + 1 => Fo_foldUp_58b I a0 a1 (Fo_foldUp_58 I a0 a1 n)
def Fo_foldUp_47 (I : HI) (a0 : Nat) (a1 : Nat) (J : HJ) (N : HN) (x2 : Int32) (bs0 : Nat) (s1 : Int32) : Option (HJ × HN) :=
  bn1 (Pa_side N bs0 s1) fun b1 =>
  gd (decide (b1 < nC ∧ Tc b1 = (0, 6))) <|
  bn1 (Po_put N b1 (0 : Int32) (1 : Int64) J) fun J3 =>
  Fo_foldUp_58 I a0 a1 256 J3 N x2
def Fo_foldUp_0 (I : HI) (a0 : Nat) (a1 : Nat) (J : HJ) (N : HN) : Option (HJ × HN) :=
  bd ((I a1 1) - (1 : Int32)) fun v1 =>
  bn1 (La_item I N a1 v1 (0 : Int32)) fun r2 =>
  rq Tc nC (N a0 0) (0, 5) fun b4 =>
  rq Tc nC (N b4 0) (0, 6) fun b5 =>
  bn1 (Po_clear N b5 J) fun J6 =>
  rq Tc nC (N a0 0) (0, 5) fun b8 =>
  rq Tc nC (N b8 1) (0, 6) fun b9 =>
  bn1 (Po_clear N b9 J6) fun J10 =>
  rq Tc nC (N a0 0) (0, 5) fun b12 =>
  if r2 = 0 then
    Fo_foldUp_47 I a0 a1 J10 N v1 b12 (1 : Int32)
  else
    Fo_foldUp_47 I a0 a1 J10 N v1 b12 (0 : Int32)
def Fo_foldUp (I : HI) (a0 : Nat) (a1 : Nat) (J : HJ) (N : HN) : Option (HJ × HN) := Fo_foldUp_0 I a0 a1 J N
def Fr_put_50  (a0 : Nat) (p1 : Int64) (p3 : Int64) (J : HJ) (x5 : Int64) (bs0 : Nat) (s1 : Int64) : Option (HJ) :=
  bd (up2 J bs0 0 s1) fun J1 =>
  gd (decide (¬ x5 = 0)) <|
  bd (up2 J1 a0 1 (if 0 < (p3 / x5) then (p3 / x5) else -(p3 / x5))) fun J3 =>
  some J3
def Fr_put_20  (a0 : Nat) (p1 : Int64) (p3 : Int64) (J : HJ) : Option (HJ) :=
  bd (up2 J a0 0 (0 : Int64)) fun J1 =>
  bd (up2 J1 a0 1 (1 : Int64)) fun J2 =>
  some J2
def Fr_put_0  (a0 : Nat) (p1 : Int64) (p3 : Int64) (J : HJ) : Option (HJ) :=
  bn1 (Lm_commonDivisor p1 p3) fun r1 =>
  if p3 = (0 : Int64) then
    Fr_put_20 a0 p1 p3 J
  else
    if r1 = (0 : Int64) then
      Fr_put_20 a0 p1 p3 J
    else
      if (0 : Int64) ≤ p3 then
        gd (decide (¬ r1 = 0)) <|
        Fr_put_50 a0 p1 p3 J r1 a0 (p1 / r1)
      else
        gd (decide (¬ r1 = 0)) <|
        Fr_put_50 a0 p1 p3 J r1 a0 (-(p1 / r1))
def Fr_put  (a0 : Nat) (p1 : Int64) (p3 : Int64) (J : HJ) : Option (HJ) := Fr_put_0 a0 p1 p3 J
def Fr_isHandy_0 (J : HJ) (a0 : Nat) : Option (Int32) :=
  if (J a0 0) ≤ (0 : Int64) then
    some (0 : Int32)
  else
    if (99 : Int64) < (J a0 0) then
      some (0 : Int32)
    else
      if (99 : Int64) < (J a0 1) then
        some (0 : Int32)
      else
        some (1 : Int32)
def Fr_isHandy (J : HJ) (a0 : Nat) : Option (Int32) := Fr_isHandy_0 J a0
def La_valueCount_51 (I : HI) (N : HN) (a0 : Nat) (k4 : Int32 → Int32 → Option (Int32)) (x2 : Int32) (s0 : Int32) (s1 : Int32) (s2 : Int32) : Option (Int32) :=
  bd (s0 + (s1 + s2)) fun v1 =>
  k4 v1 (x2 + 1)
def La_valueCount_35 (I : HI) (N : HN) (a0 : Nat) (k4 : Int32 → Int32 → Option (Int32)) (x2 : Int32) (s0 : Int32) (s1 : Int32) : Option (Int32) :=
  ra Tc nC (N a0 0) 3 fun b1 =>
  gd (inb x2 (Tc b1).2) <|
  ra Tc nC (N b1 x2.toNatClampNeg) 1 fun b3 =>
  gd (inb (3 : Int32) (Tc b3).2) <|
  if (I b3 (3 : Int32).toNatClampNeg) = 0 then
    La_valueCount_51 I N a0 k4 x2 s0 s1 (0 : Int32)
  else
    La_valueCount_51 I N a0 k4 x2 s0 s1 (1 : Int32)
def La_valueCount_4b (I : HI) (N : HN) (a0 : Nat) (k4 : Int32 → Int32 → Option (Int32)) (x1 : Int32) (x2 : Int32) : Option (Int32) :=
  if (I a0 1) ≤ x2 then
    some x1
  else
    if (6 : Int32) ≤ x2 then
      some x1
    else
      ra Tc nC (N a0 0) 3 fun b3 =>
      gd (inb x2 (Tc b3).2) <|
      ra Tc nC (N b3 x2.toNatClampNeg) 1 fun b5 =>
      gd (inb (1 : Int32) (Tc b5).2) <|
      if (I b5 (1 : Int32).toNatClampNeg) = 0 then
        La_valueCount_35 I N a0 k4 x2 x1 (0 : Int32)
      else
        La_valueCount_35 I N a0 k4 x2 x1 (1 : Int32)
def La_valueCount_4 (I : HI) (N : HN) (a0 : Nat) : Nat → Int32 → Int32 → Option (Int32)
  | 0 => fun _ _ => none
  | n + 1 => La_valueCount_4b I N a0 (La_valueCount_4 I N a0 n)
def La_valueCount_0 (I : HI) (N : HN) (a0 : Nat) : Option (Int32) :=
  La_valueCount_4 I N a0 256 (0 : Int32) (0 : Int32)
def La_valueCount (I : HI) (N : HN) (a0 : Nat) : Option (Int32) := La_valueCount_0 I N a0
def La_add_19 (N : HN) (a0 : Nat) (p1 : Int32) (p2 : Int32) (p3 : Int32) (p4 : Int32) (p5 : Int32) (I : HI) (s0 : Int32) (s1 : Int32) : Option (HI × Int32) :=
  bd (s0 + s1) fun v1 =>
  if (6 : Int32) ≤ (I a0 1) then
    some (I, (0 : Int32))
  else
    bn1 (La_valueCount I N a0) fun r3 =>
    if (r3 + v1) ≤ (6 : Int32) then
      ra Tc nC (N a0 0) 3 fun b6 =>
      gd (inb (I a0 1) (Tc b6).2) <|
      ra Tc nC (N b6 (I a0 1).toNatClampNeg) 1 fun b8 =>
      gd (inb (0 : Int32) (Tc b8).2) <|
      bd (up2 I b8 (0 : Int32).toNatClampNeg p1) fun I10 =>
      gd (inb (1 : Int32) (Tc b8).2) <|
      bd (up2 I10 b8 (1 : Int32).toNatClampNeg p2) fun I12 =>
      gd (inb (2 : Int32) (Tc b8).2) <|
      bd (up2 I12 b8 (2 : Int32).toNatClampNeg p3) fun I14 =>
      gd (inb (3 : Int32) (Tc b8).2) <|
      bd (up2 I14 b8 (3 : Int32).toNatClampNeg p4) fun I16 =>
      gd (inb (4 : Int32) (Tc b8).2) <|
      bd (up2 I16 b8 (4 : Int32).toNatClampNeg p5) fun I18 =>
      bd (up2 I18 a0 1 ((I18 a0 1) + (1 : Int32))) fun I19 =>
      some (I19, (1 : Int32))
    else
      some (I, (0 : Int32))
def La_add_9 (N : HN) (a0 : Nat) (p1 : Int32) (p2 : Int32) (p3 : Int32) (p4 : Int32) (p5 : Int32) (I : HI) (s0 : Int32) : Option (HI × Int32) :=
  if p4 = 0 then
    La_add_19 N a0 p1 p2 p3 p4 p5 I s0 (0 : Int32)
  else
    La_add_19 N a0 p1 p2 p3 p4 p5 I s0 (1 : Int32)
def La_add_0 (N : HN) (a0 : Nat) (p1 : Int32) (p2 : Int32) (p3 : Int32) (p4 : Int32) (p5 : Int32) (I : HI) : Option (HI × Int32) :=
  if p2 = 0 then
    La_add_9 N a0 p1 p2 p3 p4 p5 I (0 : Int32)
  else
    La_add_9 N a0 p1 p2 p3 p4 p5 I (1 : Int32)
def La_add (N : HN) (a0 : Nat) (p1 : Int32) (p2 : Int32) (p3 : Int32) (p4 : Int32) (p5 : Int32) (I : HI) : Option (HI × Int32) := La_add_0 N a0 p1 p2 p3 p4 p5 I
def La_dropLast_0  (a0 : Nat) (I : HI) : Option (HI) :=
  if (I a0 1) ≤ 0 then
    some I
  else
    bd (up2 I a0 1 ((I a0 1) - (1 : Int32))) fun I2 =>
    some I2
def La_dropLast  (a0 : Nat) (I : HI) : Option (HI) := La_dropLast_0 a0 I
def La_clear_0  (a0 : Nat) (I : HI) : Option (HI) :=
  bd (up2 I a0 1 (0 : Int32)) fun I1 =>
  some I1
def La_clear  (a0 : Nat) (I : HI) : Option (HI) := La_clear_0 a0 I
def La_load_26b (N : HN) (a0 : Nat) (a1 : Nat) (k10 : HI → Int32 → Option (HI)) (k26 : HI → Int32 → Int32 → Option (HI)) (I : HI) (x2 : Int32) (x3 : Int32) : Option (HI) :=
  if (5 : Int32) ≤ x3 then
    k10 I (x2 + 1)
  else
    ra Tc nC (N a0 0) 3 fun b2 =>
    gd (inb x2 (Tc b2).2) <|
    ra Tc nC (N b2 x2.toNatClampNeg) 1 fun b4 =>
    bn1 (La_item I N a1 x2 x3) fun r5 =>
    gd (inb x3 (Tc b4).2) <|
    bd (up2 I b4 x3.toNatClampNeg r5) fun I8 =>
    k26 I8 x2 (x3 + 1)
def La_load_26 (N : HN) (a0 : Nat) (a1 : Nat) (k10 : HI → Int32 → Option (HI)) : Nat → HI → Int32 → Int32 → Option (HI)
  | 0 => fun _ _ _ => none
  | n + 1 => La_load_26b N a0 a1 k10 (La_load_26 N a0 a1 k10 n)
def La_load_10b (N : HN) (a0 : Nat) (a1 : Nat) (k10 : HI → Int32 → Option (HI)) (I : HI) (x2 : Int32) : Option (HI) :=
  if (I a0 1) ≤ x2 then
    some I
  else
    if (6 : Int32) ≤ x2 then
      some I
    else
      La_load_26 N a0 a1 k10 256 I x2 (0 : Int32)
def La_load_10 (N : HN) (a0 : Nat) (a1 : Nat) : Nat → HI → Int32 → Option (HI)
  | 0 => fun _ _ => none
  | n + 1 => La_load_10b N a0 a1 (La_load_10 N a0 a1 n)
def La_load_0 (N : HN) (a0 : Nat) (a1 : Nat) (I : HI) : Option (HI) :=
  bd (up2 I a0 1 (I a1 1)) fun I1 =>
  La_load_10 N a0 a1 256 I1 (0 : Int32)
def La_load (N : HN) (a0 : Nat) (a1 : Nat) (I : HI) : Option (HI) := La_load_0 N a0 a1 I
def Me_holds_0 (I : HI) (a0 : Nat) (p1 : Int32) : Option (Int32) :=
  if p1 < 0 then
    some (0 : Int32)
  else
    if (I a0 2) ≤ p1 then
      some (0 : Int32)
    else
      some (1 : Int32)
def Me_holds (I : HI) (a0 : Nat) (p1 : Int32) : Option (Int32) := Me_holds_0 I a0 p1
def Me_item_29 (I : HI) (N : HN) (a0 : Nat) (p1 : Int32) (p2 : Int32) (s0 : Int32) : Option (Int32) :=
  if s0 = 0 then
    some (0 : Int32)
  else
    ra Tc nC (N a0 0) 3 fun b2 =>
    gd (inb p1 (Tc b2).2) <|
    ra Tc nC (N b2 p1.toNatClampNeg) 1 fun b4 =>
    gd (inb p2 (Tc b4).2) <|
    some (I b4 p2.toNatClampNeg)
def Me_item_28 (I : HI) (N : HN) (a0 : Nat) (p1 : Int32) (p2 : Int32) : Option (Int32) :=
  Me_item_29 I N a0 p1 p2 (0 : Int32)
def Me_item_0 (I : HI) (N : HN) (a0 : Nat) (p1 : Int32) (p2 : Int32) : Option (Int32) :=
  bn1 (Me_holds I a0 p1) fun r1 =>
  if r1 = 0 then
    Me_item_28 I N a0 p1 p2
  else
    if (12 : Int32) ≤ p1 then
      Me_item_28 I N a0 p1 p2
    else
      if p2 < 0 then
        Me_item_28 I N a0 p1 p2
      else
        if (15 : Int32) ≤ p2 then
          Me_item_28 I N a0 p1 p2
        else
          Me_item_29 I N a0 p1 p2 (1 : Int32)
def Me_item (I : HI) (N : HN) (a0 : Nat) (p1 : Int32) (p2 : Int32) : Option (Int32) := Me_item_0 I N a0 p1 p2
def Me_isSought_2b (I : HI) (J : HJ) (N : HN) (a0 : Nat) (p1 : Int32) (k2 : Int32 → Option (Int32)) (x2 : Int32) : Option (Int32) :=
  if (14 : Int32) ≤ x2 then
    some (1 : Int32)
  else
    bn1 (Me_item I N a0 p1 ((1 : Int32) + x2)) fun r2 =>
    rq Tc nC (N a0 1) (0, 5) fun b4 =>
    bn1 (Pa_number J N b4 x2) fun r5 =>
    if r2.toInt64 = r5 then
      k2 (x2 + 1)
    else
      some (0 : Int32)
def Me_isSought_2 (I : HI) (J : HJ) (N : HN) (a0 : Nat) (p1 : Int32) : Nat → Int32 → Option (Int32)
  | 0 => fun _ => none
  | n + 1 => Me_isSought_2b I J N a0 p1 (Me_isSought_2 I J N a0 p1 n)
def Me_isSought_0 (I : HI) (J : HJ) (N : HN) (a0 : Nat) (p1 : Int32) : Option (Int32) :=
  Me_isSought_2 I J N a0 p1 256 (0 : Int32)
def Me_isSought (I : HI) (J : HJ) (N : HN) (a0 : Nat) (p1 : Int32) : Option (Int32) := Me_isSought_0 I J N a0 p1
def Me_numberOf_17b (I : HI) (N : HN) (a0 : Nat) (a1 : Nat) (k17 : HJ → Int32 → Option (HJ × Int32)) (J : HJ) (x2 : Int32) : Option (HJ × Int32) :=
  if (I a0 2) ≤ x2 then
    some (J, (-1 : Int32))
  else
    bn1 (Me_isSought I J N a0 x2) fun r2 =>
    if r2 = 0 then
      k17 J (x2 + 1)
    else
      some (J, x2)
def Me_numberOf_17 (I : HI) (N : HN) (a0 : Nat) (a1 : Nat) : Nat → HJ → Int32 → Option (HJ × Int32)
  | 0 => fun _ _ => none
  | n + 1 => Me_numberOf_17b I N a0 a1 (Me_numberOf_17 I N a0 a1 n)
def Me_numberOf_0 (I : HI) (N : HN) (a0 : Nat) (a1 : Nat) (J : HJ) : Option (HJ × Int32) :=
  rq Tc nC (N a0 1) (0, 5) fun b1 =>
  bn1 (Pa_load N b1 a1 J) fun J2 =>
  rq Tc nC (N a0 1) (0, 5) fun b4 =>
  bn1 (Pa_becomeAsPair N b4 J2) fun J5 =>
  Me_numberOf_17 I N a0 a1 256 J5 (0 : Int32)
def Me_numberOf (I : HI) (N : HN) (a0 : Nat) (a1 : Nat) (J : HJ) : Option (HJ × Int32) := Me_numberOf_0 I N a0 a1 J
def Me_keepOnce_80 (N : HN) (a0 : Nat) (a1 : Nat) (I : HI) (J : HJ) (x2 : Int32) : Option (HI × HJ × Int32) :=
  if x2 < 0 then
    some (I, J, x2)
  else
    if (12 : Int32) ≤ x2 then
      some (I, J, x2)
    else
      ra Tc nC (N a0 0) 3 fun b3 =>
      gd (inb x2 (Tc b3).2) <|
      ra Tc nC (N b3 x2.toNatClampNeg) 1 fun b5 =>
      gd (inb (0 : Int32) (Tc b5).2) <|
      gd (inb (0 : Int32) (Tc b5).2) <|
      bd (up2 I b5 (0 : Int32).toNatClampNeg ((I b5 (0 : Int32).toNatClampNeg) + (1 : Int32))) fun I8 =>
      some (I8, J, x2)
def Me_keepOnce_39b (N : HN) (a0 : Nat) (a1 : Nat) (k39 : HI → HJ → Int32 → Int32 → Option (HI × HJ × Int32)) (I : HI) (J : HJ) (x2 : Int32) (x3 : Int32) : Option (HI × HJ × Int32) :=
  if (14 : Int32) ≤ x3 then
    bd (up2 I a0 2 ((I a0 2) + (1 : Int32))) fun I2 =>
    Me_keepOnce_80 N a0 a1 I2 J x2
  else
    ra Tc nC (N a0 0) 3 fun b3 =>
    gd (inb x2 (Tc b3).2) <|
    ra Tc nC (N b3 x2.toNatClampNeg) 1 fun b5 =>
    rq Tc nC (N a0 1) (0, 5) fun b6 =>
    bn1 (Pa_number J N b6 x3) fun r7 =>
    gd (inb ((1 : Int32) + x3) (Tc b5).2) <|
    bd (up2 I b5 ((1 : Int32) + x3).toNatClampNeg r7.toInt32) fun I10 =>
    k39 I10 J x2 (x3 + 1)
def Me_keepOnce_39 (N : HN) (a0 : Nat) (a1 : Nat) : Nat → HI → HJ → Int32 → Int32 → Option (HI × HJ × Int32)
  | 0 => fun _ _ _ _ => none
  | n + 1 => Me_keepOnce_39b N a0 a1 (Me_keepOnce_39 N a0 a1 n)
def Me_keepOnce_0 (N : HN) (a0 : Nat) (a1 : Nat) (I : HI) (J : HJ) : Option (HI × HJ × Int32) :=
  bn2 (Me_numberOf I N a0 a1 J) fun J1 r2 =>
  if r2 = (-1 : Int32) then
    if (I a0 2) < (12 : Int32) then
      bd (I a0 2) fun v6 =>
      ra Tc nC (N a0 0) 3 fun b7 =>
      gd (inb v6 (Tc b7).2) <|
      ra Tc nC (N b7 v6.toNatClampNeg) 1 fun b9 =>
      gd (inb (0 : Int32) (Tc b9).2) <|
      bd (up2 I b9 (0 : Int32).toNatClampNeg (0 : Int32)) fun I11 =>
      Me_keepOnce_39 N a0 a1 256 I11 J1 v6 (0 : Int32)
    else
      some (I, J1, (-4 : Int32))
  else
    Me_keepOnce_80 N a0 a1 I J1 r2
def Me_keepOnce (N : HN) (a0 : Nat) (a1 : Nat) (I : HI) (J : HJ) : Option (HI × HJ × Int32) := Me_keepOnce_0 N a0 a1 I J
def Me_timesOfAll_4b (I : HI) (N : HN) (a0 : Nat) (k4 : Int32 → Int32 → Option (Int32)) (x1 : Int32) (x2 : Int32) : Option (Int32) :=
  if (I a0 2) ≤ x2 then
    some x1
  else
    bn1 (Me_item I N a0 x2 (0 : Int32)) fun r2 =>
    bd (x1 + r2) fun v4 =>
    k4 v4 (x2 + 1)
def Me_timesOfAll_4 (I : HI) (N : HN) (a0 : Nat) : Nat → Int32 → Int32 → Option (Int32)
  | 0 => fun _ _ => none
  | n + 1 => Me_timesOfAll_4b I N a0 (Me_timesOfAll_4 I N a0 n)
def Me_timesOfAll_0 (I : HI) (N : HN) (a0 : Nat) : Option (Int32) :=
  Me_timesOfAll_4 I N a0 256 (0 : Int32) (0 : Int32)
def Me_timesOfAll (I : HI) (N : HN) (a0 : Nat) : Option (Int32) := Me_timesOfAll_0 I N a0
def Pa_putNumber_0 (N : HN) (a0 : Nat) (p1 : Int32) (p2 : Int64) (J : HJ) : Option (HJ) :=
  if (7 : Int32) ≤ p1 then
    rq Tc nC (N a0 1) (0, 6) fun b2 =>
    bn1 (Po_put N b2 (p1 - (7 : Int32)) p2 J) fun J3 =>
    some J3
  else
    rq Tc nC (N a0 0) (0, 6) fun b5 =>
    bn1 (Po_put N b5 p1 p2 J) fun J6 =>
    some J6
def Pa_putNumber (N : HN) (a0 : Nat) (p1 : Int32) (p2 : Int64) (J : HJ) : Option (HJ) := Pa_putNumber_0 N a0 p1 p2 J
def Po_isOfParity_32 (J : HJ) (N : HN) (a0 : Nat) (p1 : Int32) (k4 : Int32 → Int32 → Option (Int32)) (x2 : Int32) (x3 : Int32) : Option (Int32) :=
  k4 x2 (x3 + 1)
def Po_isOfParity_4b (J : HJ) (N : HN) (a0 : Nat) (p1 : Int32) (k4 : Int32 → Int32 → Option (Int32)) (x2 : Int32) (x3 : Int32) : Option (Int32) :=
  if (7 : Int32) ≤ x3 then
    gd (isB x2) <|
    some x2
  else
    ra Tc nC (N a0 0) 2 fun b3 =>
    gd (inb x3 (Tc b3).2) <|
    if (J b3 x3.toNatClampNeg) = (0 : Int64) then
      Po_isOfParity_32 J N a0 p1 k4 x2 x3
    else
      if (x3 - x3 / (2 : Int32) * (2 : Int32)) = p1 then
        Po_isOfParity_32 J N a0 p1 k4 (1 : Int32) x3
      else
        some (0 : Int32)
def Po_isOfParity_4 (J : HJ) (N : HN) (a0 : Nat) (p1 : Int32) : Nat → Int32 → Int32 → Option (Int32)
  | 0 => fun _ _ => none
  | n + 1 => Po_isOfParity_4b J N a0 p1 (Po_isOfParity_4 J N a0 p1 n)
def Po_isOfParity_0 (J : HJ) (N : HN) (a0 : Nat) (p1 : Int32) : Option (Int32) :=
  Po_isOfParity_4 J N a0 p1 256 (0 : Int32) (0 : Int32)
def Po_isOfParity (J : HJ) (N : HN) (a0 : Nat) (p1 : Int32) : Option (Int32) := Po_isOfParity_0 J N a0 p1
def Pa_isLawful_22 (J : HJ) (N : HN) (a0 : Nat) : Option (Int32) :=
  rq Tc nC (N a0 0) (0, 6) fun b1 =>
  bn1 (Po_isOfParity J N b1 (1 : Int32)) fun r2 =>
  if r2 = 0 then
    some (0 : Int32)
  else
    rq Tc nC (N a0 1) (0, 6) fun b5 =>
    bn1 (Po_isOfParity J N b5 (0 : Int32)) fun r6 =>
    if r6 = 0 then
      some (0 : Int32)
    else
      some (1 : Int32)
def Pa_isLawful_0 (J : HJ) (N : HN) (a0 : Nat) : Option (Int32) :=
  rq Tc nC (N a0 0) (0, 6) fun b1 =>
  bn1 (Po_isOfParity J N b1 (0 : Int32)) fun r2 =>
  if r2 = 0 then
    Pa_isLawful_22 J N a0
  else
    rq Tc nC (N a0 1) (0, 6) fun b5 =>
    bn1 (Po_isOfParity J N b5 (1 : Int32)) fun r6 =>
    if r6 = 0 then
      Pa_isLawful_22 J N a0
    else
      some (1 : Int32)
def Pa_isLawful (J : HJ) (N : HN) (a0 : Nat) : Option (Int32) := Pa_isLawful_0 J N a0
def Pa_greaterDegree_0 (J : HJ) (N : HN) (a0 : Nat) : Option (Int32) :=
  rq Tc nC (N a0 0) (0, 6) fun b1 =>
  bn1 (Po_degree J N b1) fun r2 =>
  rq Tc nC (N a0 1) (0, 6) fun b4 =>
  bn1 (Po_degree J N b4) fun r5 =>
  some (if r2 < r5 then r5 else r2)
def Pa_greaterDegree (J : HJ) (N : HN) (a0 : Nat) : Option (Int32) := Pa_greaterDegree_0 J N a0
def Pa_isFractionOf_13b (J : HJ) (N : HN) (a0 : Nat) (a1 : Nat) (k2 : Int32 → Option (Int32)) (k13 : Int32 → Int64 → Int32 → Option (Int32)) (x2 : Int32) (x3 : Int64) (x5 : Int32) : Option (Int32) :=
  if (7 : Int32) ≤ x5 then
    if x3 = (0 : Int64) then
      k2 (x2 + 1)
    else
      some (0 : Int32)
  else
    rq Tc nC (N a0 0) (0, 6) fun b3 =>
    bn1 (Po_at J N b3 x5) fun r4 =>
    rq Tc nC (N a1 1) (0, 6) fun b6 =>
    bn1 (Po_at J N b6 (x2 - x5)) fun r7 =>
    bd (x3 + (r4 * r7)) fun v9 =>
    rq Tc nC (N a1 0) (0, 6) fun b10 =>
    bn1 (Po_at J N b10 x5) fun r11 =>
    rq Tc nC (N a0 1) (0, 6) fun b13 =>
    bn1 (Po_at J N b13 (x2 - x5)) fun r14 =>
    bd (v9 - (r11 * r14)) fun v16 =>
    k13 x2 v16 (x5 + 1)
def Pa_isFractionOf_13 (J : HJ) (N : HN) (a0 : Nat) (a1 : Nat) (k2 : Int32 → Option (Int32)) : Nat → Int32 → Int64 → Int32 → Option (Int32)
  | 0 => fun _ _ _ => none
  | n + 1 => Pa_isFractionOf_13b J N a0 a1 k2 (Pa_isFractionOf_13 J N a0 a1 k2 n)
def Pa_isFractionOf_2b (J : HJ) (N : HN) (a0 : Nat) (a1 : Nat) (k2 : Int32 → Option (Int32)) (x2 : Int32) : Option (Int32) :=
  if (12 : Int32) < x2 then
    some (1 : Int32)
  else
    Pa_isFractionOf_13 J N a0 a1 k2 256 x2 (0 : Int64) (0 : Int32)
def Pa_isFractionOf_2 (J : HJ) (N : HN) (a0 : Nat) (a1 : Nat) : Nat → Int32 → Option (Int32)
  | 0 => fun _ => none
  | n + 1 => Pa_isFractionOf_2b J N a0 a1 (Pa_isFractionOf_2 J N a0 a1 n)
def Pa_isFractionOf_0 (J : HJ) (N : HN) (a0 : Nat) (a1 : Nat) : Option (Int32) :=
  Pa_isFractionOf_2 J N a0 a1 256 (0 : Int32)
def Pa_isFractionOf (J : HJ) (N : HN) (a0 : Nat) (a1 : Nat) : Option (Int32) := Pa_isFractionOf_0 J N a0 a1
def Po_multiplyBy_2b (N : HN) (a0 : Nat) (p1 : Int64) (k2 : HJ → Int32 → Option (HJ)) (J : HJ) (x3 : Int32) : Option (HJ) :=
  if (7 : Int32) ≤ x3 then
    some J
  else
    ra Tc nC (N a0 0) 2 fun b2 =>
    gd (inb x3 (Tc b2).2) <|
    gd (inb x3 (Tc b2).2) <|
    bd (up2 J b2 x3.toNatClampNeg ((J b2 x3.toNatClampNeg) * p1)) fun J5 =>
    k2 J5 (x3 + 1)
def Po_multiplyBy_2 (N : HN) (a0 : Nat) (p1 : Int64) : Nat → HJ → Int32 → Option (HJ)
  | 0 => fun _ _ => none
  | n + 1 => Po_multiplyBy_2b N a0 p1 (Po_multiplyBy_2 N a0 p1 n)
def Po_multiplyBy_0 (N : HN) (a0 : Nat) (p1 : Int64) (J : HJ) : Option (HJ) :=
  Po_multiplyBy_2 N a0 p1 256 J (0 : Int32)
def Po_multiplyBy (N : HN) (a0 : Nat) (p1 : Int64) (J : HJ) : Option (HJ) := Po_multiplyBy_0 N a0 p1 J
def Pa_goOn_13b  (a0 : Nat) (a1 : Nat) (p2 : Int32) (k13 : HJ → HN → Int32 → Option (HJ × HN)) (J : HJ) (N : HN) (x3 : Int32) : Option (HJ × HN) :=
  if (7 : Int32) ≤ x3 then
    rq Tc nC (N a0 1) (0, 6) fun b2 =>
    bn1 (Po_multiplyBy N b2 (J a1 1) J) fun J3 =>
    bn1 (Pa_swap a0 N) fun N5 =>
    some (J3, N5)
  else
    rq Tc nC (N a0 0) (0, 6) fun b7 =>
    rq Tc nC (N a0 0) (0, 6) fun b8 =>
    bn1 (Po_at J N b8 x3) fun r9 =>
    rq Tc nC (N a0 1) (0, 6) fun b11 =>
    bn1 (Po_at J N b11 (x3 - p2)) fun r12 =>
    bn1 (Po_put N b7 x3 (r9 - ((J a1 0) * r12)) J) fun J14 =>
    k13 J14 N (x3 + 1)
def Pa_goOn_13  (a0 : Nat) (a1 : Nat) (p2 : Int32) : Nat → HJ → HN → Int32 → Option (HJ × HN)
  | 0 => fun _ _ _ => none
  | n + 1 => Pa_goOn_13b a0 a1 p2 (Pa_goOn_13 a0 a1 p2 n)
def Pa_goOn_0  (a0 : Nat) (a1 : Nat) (p2 : Int32) (J : HJ) (N : HN) : Option (HJ × HN) :=
  rq Tc nC (N a0 0) (0, 6) fun b1 =>
  bn1 (Po_multiplyBy N b1 (J a1 1) J) fun J2 =>
  Pa_goOn_13 a0 a1 p2 256 J2 N (0 : Int32)
def Pa_goOn  (a0 : Nat) (a1 : Nat) (p2 : Int32) (J : HJ) (N : HN) : Option (HJ × HN) := Pa_goOn_0 a0 a1 p2 J N
def Po_loadEveryOther_2b (N : HN) (a0 : Nat) (a1 : Nat) (p2 : Int32) (k2 : HJ → Int32 → Option (HJ)) (J : HJ) (x3 : Int32) : Option (HJ) :=
  if (7 : Int32) ≤ x3 then
    some J
  else
    ra Tc nC (N a0 0) 2 fun b2 =>
    bn1 (Po_at J N a1 (p2 + ((2 : Int32) * x3))) fun r3 =>
    gd (inb x3 (Tc b2).2) <|
    bd (up2 J b2 x3.toNatClampNeg r3) fun J6 =>
    k2 J6 (x3 + 1)
def Po_loadEveryOther_2 (N : HN) (a0 : Nat) (a1 : Nat) (p2 : Int32) : Nat → HJ → Int32 → Option (HJ)
  | 0 => fun _ _ => none
  | n + 1 => Po_loadEveryOther_2b N a0 a1 p2 (Po_loadEveryOther_2 N a0 a1 p2 n)
def Po_loadEveryOther_0 (N : HN) (a0 : Nat) (a1 : Nat) (p2 : Int32) (J : HJ) : Option (HJ) :=
  Po_loadEveryOther_2 N a0 a1 p2 256 J (0 : Int32)
def Po_loadEveryOther (N : HN) (a0 : Nat) (a1 : Nat) (p2 : Int32) (J : HJ) : Option (HJ) := Po_loadEveryOther_0 N a0 a1 p2 J
def Po_leastPower_2b (J : HJ) (N : HN) (a0 : Nat) (k2 : Int32 → Option (Int32)) (x1 : Int32) : Option (Int32) :=
  if (7 : Int32) ≤ x1 then
    some (-1 : Int32)
  else
    ra Tc nC (N a0 0) 2 fun b2 =>
    gd (inb x1 (Tc b2).2) <|
    if (J b2 x1.toNatClampNeg) = (0 : Int64) then
      k2 (x1 + 1)
    else
      some x1
def Po_leastPower_2 (J : HJ) (N : HN) (a0 : Nat) : Nat → Int32 → Option (Int32)
  | 0 => fun _ => none
  | n + 1 => Po_leastPower_2b J N a0 (Po_leastPower_2 J N a0 n)
def Po_leastPower_0 (J : HJ) (N : HN) (a0 : Nat) : Option (Int32) :=
  Po_leastPower_2 J N a0 256 (0 : Int32)
def Po_leastPower (J : HJ) (N : HN) (a0 : Nat) : Option (Int32) := Po_leastPower_0 J N a0
def Po_runBackwards_2b (N : HN) (a0 : Nat) (p1 : Int32) (k2 : HJ → Int32 → Option (HJ)) (J : HJ) (x2 : Int32) : Option (HJ) :=
  if (7 : Int32) ≤ x2 then
    some J
  else
    if (p1 - x2) ≤ x2 then
      some J
    else
      bn1 (Po_at J N a0 x2) fun r3 =>
      bn1 (Po_at J N a0 (p1 - x2)) fun r5 =>
      bn1 (Po_put N a0 x2 r5 J) fun J7 =>
      bn1 (Po_put N a0 (p1 - x2) r3 J7) fun J9 =>
      k2 J9 (x2 + 1)
def Po_runBackwards_2 (N : HN) (a0 : Nat) (p1 : Int32) : Nat → HJ → Int32 → Option (HJ)
  | 0 => fun _ _ => none
  | n + 1 => Po_runBackwards_2b N a0 p1 (Po_runBackwards_2 N a0 p1 n)
def Po_runBackwards_0 (N : HN) (a0 : Nat) (p1 : Int32) (J : HJ) : Option (HJ) :=
  Po_runBackwards_2 N a0 p1 256 J (0 : Int32)
def Po_runBackwards (N : HN) (a0 : Nat) (p1 : Int32) (J : HJ) : Option (HJ) := Po_runBackwards_0 N a0 p1 J
def Po_valueAtMinus_9b (J : HJ) (N : HN) (a0 : Nat) (p1 : Int64) (p3 : Int64) (k9 : Int64 → Int64 → Int32 → Option (Int64)) (x5 : Int64) (x7 : Int64) (x9 : Int32) : Option (Int64) :=
  if x9 < 0 then
    some x5
  else
    ra Tc nC (N a0 0) 2 fun b2 =>
    gd (inb x9 (Tc b2).2) <|
    bd (((-p1) * x5) + (x7 * (J b2 x9.toNatClampNeg))) fun v4 =>
    bd (x7 * p3) fun v5 =>
    k9 v4 v5 (x9 + (-1))
def Po_valueAtMinus_9 (J : HJ) (N : HN) (a0 : Nat) (p1 : Int64) (p3 : Int64) : Nat → Int64 → Int64 → Int32 → Option (Int64)
  | 0 => fun _ _ _ => none
  | n + 1 => Po_valueAtMinus_9b J N a0 p1 p3 (Po_valueAtMinus_9 J N a0 p1 p3 n)
def Po_valueAtMinus_0 (J : HJ) (N : HN) (a0 : Nat) (p1 : Int64) (p3 : Int64) : Option (Int64) :=
  Po_valueAtMinus_9 J N a0 p1 p3 256 (0 : Int64) (1 : Int64) (3 : Int32)
def Po_valueAtMinus (J : HJ) (N : HN) (a0 : Nat) (p1 : Int64) (p3 : Int64) : Option (Int64) := Po_valueAtMinus_0 J N a0 p1 p3
def Po_divideByRoot_7b (N : HN) (a0 : Nat) (p1 : Int64) (p3 : Int64) (k7 : HJ → Int64 → Int32 → Option (HJ)) (J : HJ) (x5 : Int64) (x7 : Int32) : Option (HJ) :=
  if x7 < 0 then
    some J
  else
    if p3 = (0 : Int64) then
      some J
    else
      ra Tc nC (N a0 0) 2 fun b3 =>
      gd (inb x7 (Tc b3).2) <|
      gd (decide (¬ p3 = 0)) <|
      bd (((J b3 x7.toNatClampNeg) - (p1 * x5)) / p3) fun v6 =>
      ra Tc nC (N a0 0) 2 fun b7 =>
      gd (inb x7 (Tc b7).2) <|
      bd (up2 J b7 x7.toNatClampNeg x5) fun J9 =>
      k7 J9 v6 (x7 + (-1))
def Po_divideByRoot_7 (N : HN) (a0 : Nat) (p1 : Int64) (p3 : Int64) : Nat → HJ → Int64 → Int32 → Option (HJ)
  | 0 => fun _ _ _ => none
  | n + 1 => Po_divideByRoot_7b N a0 p1 p3 (Po_divideByRoot_7 N a0 p1 p3 n)
def Po_divideByRoot_0 (N : HN) (a0 : Nat) (p1 : Int64) (p3 : Int64) (J : HJ) : Option (HJ) :=
  Po_divideByRoot_7 N a0 p1 p3 256 J (0 : Int64) (6 : Int32)
def Po_divideByRoot (N : HN) (a0 : Nat) (p1 : Int64) (p3 : Int64) (J : HJ) : Option (HJ) := Po_divideByRoot_0 N a0 p1 p3 J
def Re_halfValue_0 (N : HN) (a0 : Nat) (a1 : Nat) (p2 : Int32) (p3 : Int32) (p4 : Int32) (J : HJ) : Option (HJ × Int64) :=
  rq Tc nC (N a0 0) (0, 6) fun b1 =>
  bn1 (Po_loadEveryOther N b1 a1 p2 J) fun J2 =>
  rq Tc nC (N a0 0) (0, 6) fun b4 =>
  bn1 (Po_valueAtMinus J2 N b4 ((p3 * p3).toInt64) ((p4 * p4).toInt64)) fun r5 =>
  some (J2, r5)
def Re_halfValue (N : HN) (a0 : Nat) (a1 : Nat) (p2 : Int32) (p3 : Int32) (p4 : Int32) (J : HJ) : Option (HJ × Int64) := Re_halfValue_0 N a0 a1 p2 p3 p4 J
def Re_workOut_78 (N : HN) (a0 : Nat) (a1 : Nat) (p2 : Int32) (p3 : Int32) (J : HJ) (x4 : Int32) (x5 : Int64) (x7 : Int64) (s0 : Int64) : Option (HJ × Int32) :=
  if s0 = (0 : Int64) then
    some (J, (0 : Int32))
  else
    if x4 = 0 then
      rq Tc nC (N a0 1) (0, 2) fun b3 =>
      bn1 (Fr_put b3 x7 x5 J) fun J4 =>
      some (J4, (1 : Int32))
    else
      rq Tc nC (N a0 1) (0, 2) fun b6 =>
      bn1 (Fr_put b6 (-x5) x7 J) fun J7 =>
      some (J7, (1 : Int32))
def Re_workOut_55 (N : HN) (a0 : Nat) (a1 : Nat) (p2 : Int32) (p3 : Int32) (J : HJ) (x4 : Int32) (x5 : Int64) (bs0 : Nat) (bs1 : Nat) : Option (HJ × Int32) :=
  bn2 (Re_halfValue N bs0 bs1 (1 : Int32) p2 p3 J) fun J1 r2 =>
  bd (r2 * p2.toInt64) fun v4 =>
  if x4 = 0 then
    Re_workOut_78 N a0 a1 p2 p3 J1 x4 x5 v4 x5
  else
    Re_workOut_78 N a0 a1 p2 p3 J1 x4 x5 v4 v4
def Re_workOut_27 (N : HN) (a0 : Nat) (a1 : Nat) (p2 : Int32) (p3 : Int32) (J : HJ) (x4 : Int32) (bs0 : Nat) (bs1 : Nat) : Option (HJ × Int32) :=
  bn2 (Re_halfValue N bs0 bs1 (0 : Int32) p2 p3 J) fun J1 r2 =>
  bd (r2 * p3.toInt64) fun v4 =>
  if x4 = 0 then
    rq Tc nC (N a1 0) (0, 6) fun b6 =>
    Re_workOut_55 N a0 a1 p2 p3 J1 x4 v4 a0 b6
  else
    rq Tc nC (N a1 1) (0, 6) fun b7 =>
    Re_workOut_55 N a0 a1 p2 p3 J1 x4 v4 a0 b7
def Re_workOut_0 (N : HN) (a0 : Nat) (a1 : Nat) (p2 : Int32) (p3 : Int32) (J : HJ) : Option (HJ × Int32) :=
  rq Tc nC (N a1 1) (0, 6) fun b1 =>
  bn1 (Po_isOfParity J N b1 (1 : Int32)) fun r2 =>
  if r2 = 0 then
    rq Tc nC (N a1 1) (0, 6) fun b5 =>
    Re_workOut_27 N a0 a1 p2 p3 J r2 a0 b5
  else
    rq Tc nC (N a1 0) (0, 6) fun b6 =>
    Re_workOut_27 N a0 a1 p2 p3 J r2 a0 b6
def Re_workOut (N : HN) (a0 : Nat) (a1 : Nat) (p2 : Int32) (p3 : Int32) (J : HJ) : Option (HJ × Int32) := Re_workOut_0 N a0 a1 p2 p3 J
def Sh_isSheet_0  (a0 : Nat) (p1 : Int32) : Option (Int32) :=
  if p1 < 0 then
    some (0 : Int32)
  else
    if (3 : Int32) ≤ p1 then
      some (0 : Int32)
    else
      some (1 : Int32)
def Sh_isSheet  (a0 : Nat) (p1 : Int32) : Option (Int32) := Sh_isSheet_0 a0 p1
def Sh_size_0 (I : HI) (N : HN) (a0 : Nat) (p1 : Int32) : Option (Int32) :=
  bn1 (Sh_isSheet a0 p1) fun r1 =>
  if r1 = 0 then
    some (-1 : Int32)
  else
    ra Tc nC (N a0 1) 1 fun b4 =>
    gd (inb p1 (Tc b4).2) <|
    some (I b4 p1.toNatClampNeg)
def Sh_size (I : HI) (N : HN) (a0 : Nat) (p1 : Int32) : Option (Int32) := Sh_size_0 I N a0 p1
def Sh_isLost_0 (I : HI) (N : HN) (a0 : Nat) (p1 : Int32) : Option (Int32) :=
  bn1 (Sh_size I N a0 p1) fun r1 =>
  if r1 = (-1 : Int32) then
    some (1 : Int32)
  else
    some (0 : Int32)
def Sh_isLost (I : HI) (N : HN) (a0 : Nat) (p1 : Int32) : Option (Int32) := Sh_isLost_0 I N a0 p1
def Sh_notLost_23 (I : HI) (N : HN) (a0 : Nat) (k4 : Int32 → Int32 → Option (Int32)) (x2 : Int32) (s0 : Int32) (s1 : Int32) : Option (Int32) :=
  bd (s0 + s1) fun v1 =>
  k4 v1 (x2 + 1)
def Sh_notLost_4b (I : HI) (N : HN) (a0 : Nat) (k4 : Int32 → Int32 → Option (Int32)) (x1 : Int32) (x2 : Int32) : Option (Int32) :=
  if (3 : Int32) ≤ x2 then
    some x1
  else
    bn1 (Sh_isLost I N a0 x2) fun r2 =>
    if r2 = 0 then
      Sh_notLost_23 I N a0 k4 x2 x1 (1 : Int32)
    else
      Sh_notLost_23 I N a0 k4 x2 x1 (0 : Int32)
def Sh_notLost_4 (I : HI) (N : HN) (a0 : Nat) : Nat → Int32 → Int32 → Option (Int32)
  | 0 => fun _ _ => none
  | n + 1 => Sh_notLost_4b I N a0 (Sh_notLost_4 I N a0 n)
def Sh_notLost_0 (I : HI) (N : HN) (a0 : Nat) : Option (Int32) :=
  Sh_notLost_4 I N a0 256 (0 : Int32) (0 : Int32)
def Sh_notLost (I : HI) (N : HN) (a0 : Nat) : Option (Int32) := Sh_notLost_0 I N a0
def Sh_renew_27b (N : HN) (a0 : Nat) (p1 : Int32) (p2 : Int32) (k27 : HI → HJ → Int32 → Option (HI × HJ)) (I : HI) (J : HJ) (x3 : Int32) : Option (HI × HJ) :=
  if (40 : Int32) ≤ x3 then
    some (I, J)
  else
    ra Tc nC (N a0 0) 4 fun b2 =>
    gd (inb p1 (Tc b2).2) <|
    ra Tc nC (N b2 p1.toNatClampNeg) 2 fun b4 =>
    gd (inb x3 (Tc b4).2) <|
    bd (up2 J b4 x3.toNatClampNeg (0 : Int64)) fun J6 =>
    k27 I J6 (x3 + 1)
def Sh_renew_27 (N : HN) (a0 : Nat) (p1 : Int32) (p2 : Int32) : Nat → HI → HJ → Int32 → Option (HI × HJ)
  | 0 => fun _ _ _ => none
  | n + 1 => Sh_renew_27b N a0 p1 p2 (Sh_renew_27 N a0 p1 p2 n)
def Sh_renew_0 (N : HN) (a0 : Nat) (p1 : Int32) (p2 : Int32) (I : HI) (J : HJ) : Option (HI × HJ) :=
  bn1 (Sh_isSheet a0 p1) fun r1 =>
  if r1 = 0 then
    some (I, J)
  else
    if p2 < 0 then
      some (I, J)
    else
      if (40 : Int32) < p2 then
        some (I, J)
      else
        ra Tc nC (N a0 1) 1 fun b6 =>
        gd (inb p1 (Tc b6).2) <|
        bd (up2 I b6 p1.toNatClampNeg p2) fun I8 =>
        Sh_renew_27 N a0 p1 p2 256 I8 J (0 : Int32)
def Sh_renew (N : HN) (a0 : Nat) (p1 : Int32) (p2 : Int32) (I : HI) (J : HJ) : Option (HI × HJ) := Sh_renew_0 N a0 p1 p2 I J
def Sh_forget_0 (N : HN) (a0 : Nat) (p1 : Int32) (I : HI) : Option (HI) :=
  bn1 (Sh_isSheet a0 p1) fun r1 =>
  if r1 = 0 then
    some I
  else
    ra Tc nC (N a0 1) 1 fun b4 =>
    gd (inb p1 (Tc b4).2) <|
    bd (up2 I b4 p1.toNatClampNeg (-1 : Int32)) fun I6 =>
    some I6
def Sh_forget (N : HN) (a0 : Nat) (p1 : Int32) (I : HI) : Option (HI) := Sh_forget_0 N a0 p1 I
def Sh_hasRun_0 (I : HI) (N : HN) (a0 : Nat) (p1 : Int32) (p2 : Int32) (p3 : Int32) : Option (Int32) :=
  if p2 < 0 then
    some (0 : Int32)
  else
    if p3 < 0 then
      some (0 : Int32)
    else
      if (40 : Int32) < p3 then
        some (0 : Int32)
      else
        bn1 (Sh_size I N a0 p1) fun r4 =>
        if (r4 - p3) < p2 then
          some (0 : Int32)
        else
          some (1 : Int32)
def Sh_hasRun (I : HI) (N : HN) (a0 : Nat) (p1 : Int32) (p2 : Int32) (p3 : Int32) : Option (Int32) := Sh_hasRun_0 I N a0 p1 p2 p3
def Sh_item_0 (I : HI) (J : HJ) (N : HN) (a0 : Nat) (p1 : Int32) (p2 : Int32) : Option (Int64) :=
  bn1 (Sh_isSheet a0 p1) fun r1 =>
  if r1 = 0 then
    some (0 : Int64)
  else
    bn1 (Sh_hasRun I N a0 p1 p2 (1 : Int32)) fun r4 =>
    if r4 = 0 then
      some (0 : Int64)
    else
      if (40 : Int32) ≤ p2 then
        some (0 : Int64)
      else
        ra Tc nC (N a0 0) 4 fun b8 =>
        gd (inb p1 (Tc b8).2) <|
        ra Tc nC (N b8 p1.toNatClampNeg) 2 fun b10 =>
        gd (inb p2 (Tc b10).2) <|
        some (J b10 p2.toNatClampNeg)
def Sh_item (I : HI) (J : HJ) (N : HN) (a0 : Nat) (p1 : Int32) (p2 : Int32) : Option (Int64) := Sh_item_0 I J N a0 p1 p2
def Sh_put_0 (I : HI) (N : HN) (a0 : Nat) (p1 : Int32) (p2 : Int32) (p3 : Int64) (J : HJ) : Option (HJ) :=
  bn1 (Sh_isSheet a0 p1) fun r1 =>
  if r1 = 0 then
    some J
  else
    bn1 (Sh_hasRun I N a0 p1 p2 (1 : Int32)) fun r4 =>
    if r4 = 0 then
      some J
    else
      if (40 : Int32) ≤ p2 then
        some J
      else
        ra Tc nC (N a0 0) 4 fun b8 =>
        gd (inb p1 (Tc b8).2) <|
        ra Tc nC (N b8 p1.toNatClampNeg) 2 fun b10 =>
        gd (inb p2 (Tc b10).2) <|
        bd (up2 J b10 p2.toNatClampNeg p3) fun J12 =>
        some J12
def Sh_put (I : HI) (N : HN) (a0 : Nat) (p1 : Int32) (p2 : Int32) (p3 : Int64) (J : HJ) : Option (HJ) := Sh_put_0 I N a0 p1 p2 p3 J
def Sh_move_0 (I : HI) (N : HN) (a0 : Nat) (p1 : Int32) (p2 : Int32) (p3 : Int32) (p4 : Int32) (p5 : Int32) (J : HJ) : Option (HJ) :=
  bn1 (Sh_isSheet a0 p1) fun r1 =>
  if r1 = 0 then
    some J
  else
    bn1 (Sh_isSheet a0 p3) fun r4 =>
    if r4 = 0 then
      some J
    else
      bn1 (Sh_hasRun I N a0 p1 p2 p5) fun r7 =>
      if r7 = 0 then
        some J
      else
        bn1 (Sh_hasRun I N a0 p3 p4 p5) fun r10 =>
        if r10 = 0 then
          some J
        else
          ra Tc nC (N a0 0) 4 fun b13 =>
          gd (inb p1 (Tc b13).2) <|
          ra Tc nC (N b13 p1.toNatClampNeg) 2 fun b15 =>
          ra Tc nC (N a0 0) 4 fun b16 =>
          gd (inb p3 (Tc b16).2) <|
          ra Tc nC (N b16 p3.toNatClampNeg) 2 fun b18 =>
          gd (cpb p2 p4 p5 (Tc b15).2 (Tc b18).2) <|
          bd (va_up J b18 (va_cpy (J b15) (J b18) p2.toNatClampNeg p4.toNatClampNeg p5.toNatClampNeg)) fun J20 =>
          some J20
def Sh_move (I : HI) (N : HN) (a0 : Nat) (p1 : Int32) (p2 : Int32) (p3 : Int32) (p4 : Int32) (p5 : Int32) (J : HJ) : Option (HJ) := Sh_move_0 I N a0 p1 p2 p3 p4 p5 J
def Un_begin_0 (N : HN) (a0 : Nat) (a1 : Nat) (I : HI) (J : HJ) : Option (HI × HJ) :=
  rq Tc nC (N a0 0) (0, 3) fun b1 =>
  bn1 (La_clear b1 I) fun I2 =>
  rq Tc nC (N a0 1) (0, 5) fun b4 =>
  bn1 (Pa_load N b4 a1 J) fun J5 =>
  some (I2, J5)
def Un_begin (N : HN) (a0 : Nat) (a1 : Nat) (I : HI) (J : HJ) : Option (HI × HJ) := Un_begin_0 N a0 a1 I J
def Un_endOf_0 (J : HJ) (N : HN) (a0 : Nat) (p1 : Int32) : Option (Int32) :=
  if p1 = 0 then
    bn1 (Po_leastPower J N a0) fun r2 =>
    some r2
  else
    bn1 (Po_degree J N a0) fun r4 =>
    some r4
def Un_endOf (J : HJ) (N : HN) (a0 : Nat) (p1 : Int32) : Option (Int32) := Un_endOf_0 J N a0 p1
def Un_unlawful_0  (p0 : Int32) : Option (Int32) :=
  some ((-100 : Int32) - p0)
def Un_unlawful  (p0 : Int32) : Option (Int32) := Un_unlawful_0 p0
def Un_addRising_0 (J : HJ) (N : HN) (a0 : Nat) (p1 : Int32) (I : HI) : Option (HI) :=
  rq Tc nC (N a0 4) (0, 2) fun b1 =>
  bd ((J b1 0).toInt32) fun v2 =>
  rq Tc nC (N a0 4) (0, 2) fun b3 =>
  bd ((J b3 1).toInt32) fun v4 =>
  if p1 = 0 then
    rq Tc nC (N a0 0) (0, 3) fun b10 =>
    bn2 (La_add N b10 p1 v2 v4 (0 : Int32) (0 : Int32) I) fun I11 r12 =>
    some I11
  else
    rq Tc nC (N a0 0) (0, 3) fun b6 =>
    bn2 (La_add N b6 p1 (0 : Int32) (0 : Int32) v2 v4 I) fun I7 r8 =>
    some I7
def Un_addRising (J : HJ) (N : HN) (a0 : Nat) (p1 : Int32) (I : HI) : Option (HI) := Un_addRising_0 J N a0 p1 I
def Un_addFalling_0 (J : HJ) (N : HN) (a0 : Nat) (p1 : Int32) (I : HI) : Option (HI) :=
  rq Tc nC (N a0 4) (0, 2) fun b1 =>
  bd ((J b1 1).toInt32) fun v2 =>
  rq Tc nC (N a0 4) (0, 2) fun b3 =>
  bd ((J b3 0).toInt32) fun v4 =>
  if p1 = 0 then
    rq Tc nC (N a0 0) (0, 3) fun b10 =>
    bn2 (La_add N b10 p1 (0 : Int32) (0 : Int32) v2 v4 I) fun I11 r12 =>
    some I11
  else
    rq Tc nC (N a0 0) (0, 3) fun b6 =>
    bn2 (La_add N b6 p1 v2 v4 (0 : Int32) (0 : Int32) I) fun I7 r8 =>
    some I7
def Un_addFalling (J : HJ) (N : HN) (a0 : Nat) (p1 : Int32) (I : HI) : Option (HI) := Un_addFalling_0 J N a0 p1 I
def Un_divideOn_231  (a0 : Nat) (a1 : Nat) (p2 : Int32) (I : HI) (J : HJ) (N : HN) : Option (HI × HJ × HN × Int32) :=
  rq Tc nC (N a0 0) (0, 3) fun b1 =>
  bn1 (La_valueCount I N b1) fun r2 =>
  some (I, J, N, r2)
def Un_divideOn_200  (a0 : Nat) (a1 : Nat) (p2 : Int32) (k65 : HI → HJ → HN → Int32 → Int32 → Int32 → Option (HI × HJ × HN × Int32)) (I : HI) (J : HJ) (N : HN) (x3 : Int32) (x4 : Int32) (x5 : Int32) : Option (HI × HJ × HN × Int32) :=
  rq Tc nC (N a0 1) (0, 5) fun b1 =>
  rq Tc nC (N a0 4) (0, 2) fun b2 =>
  bn2 (Pa_goOn b1 b2 x3 J N) fun J3 N4 =>
  rq Tc nC (N4 a0 1) (0, 5) fun b6 =>
  bn1 (Pa_becomeAsPair N4 b6 J3) fun J7 =>
  bd ((1 : Int32) - x4) fun v9 =>
  k65 I J7 N4 x3 v9 (x5 + 1)
def Un_divideOn_162  (a0 : Nat) (a1 : Nat) (p2 : Int32) (I : HI) (J : HJ) (N : HN) (x5 : Int32) : Option (HI × HJ × HN × Int32) :=
  bn1 (Un_unlawful x5) fun r1 =>
  some (I, J, N, r1)
def Un_divideOn_65b  (a0 : Nat) (a1 : Nat) (p2 : Int32) (k65 : HI → HJ → HN → Int32 → Int32 → Int32 → Option (HI × HJ × HN × Int32)) (I : HI) (J : HJ) (N : HN) (x3 : Int32) (x4 : Int32) (x5 : Int32) : Option (HI × HJ × HN × Int32) :=
  if (6 : Int32) < x5 then
    Un_divideOn_231 a0 a1 p2 I J N
  else
    rq Tc nC (N a0 1) (0, 5) fun b2 =>
    rq Tc nC (N b2 1) (0, 6) fun b3 =>
    bn1 (Po_degree J N b3) fun r4 =>
    if r4 = (-1 : Int32) then
      Un_divideOn_231 a0 a1 p2 I J N
    else
      rq Tc nC (N a0 1) (0, 5) fun b7 =>
      rq Tc nC (N b7 1) (0, 6) fun b8 =>
      bn1 (Un_endOf J N b8 p2) fun r9 =>
      rq Tc nC (N a0 4) (0, 2) fun b11 =>
      rq Tc nC (N a0 1) (0, 5) fun b12 =>
      rq Tc nC (N b12 0) (0, 6) fun b13 =>
      bn1 (Po_at J N b13 (r9 + x3)) fun r14 =>
      rq Tc nC (N a0 1) (0, 5) fun b16 =>
      rq Tc nC (N b16 1) (0, 6) fun b17 =>
      bn1 (Po_at J N b17 r9) fun r18 =>
      bn1 (Fr_put b11 r14 r18 J) fun J20 =>
      rq Tc nC (N a0 1) (0, 5) fun b22 =>
      rq Tc nC (N b22 0) (0, 6) fun b23 =>
      bn1 (Un_endOf J20 N b23 p2) fun r24 =>
      if r24 = (r9 + x3) then
        rq Tc nC (N a0 4) (0, 2) fun b27 =>
        if (0 : Int64) < (J20 b27 0) then
          rq Tc nC (N a0 4) (0, 2) fun b29 =>
          bn1 (Fr_isHandy J20 b29) fun r30 =>
          if r30 = 0 then
            some (I, J20, N, (-5 : Int32))
          else
            if p2 = 0 then
              bn1 (Un_addFalling J20 N a0 x4 I) fun I34 =>
              Un_divideOn_200 a0 a1 p2 k65 I34 J20 N x3 x4 x5
            else
              bn1 (Un_addRising J20 N a0 x4 I) fun I36 =>
              Un_divideOn_200 a0 a1 p2 k65 I36 J20 N x3 x4 x5
        else
          Un_divideOn_162 a0 a1 p2 I J20 N x5
      else
        Un_divideOn_162 a0 a1 p2 I J20 N x5
def Un_divideOn_65  (a0 : Nat) (a1 : Nat) (p2 : Int32) : Nat → HI → HJ → HN → Int32 → Int32 → Int32 → Option (HI × HJ × HN × Int32)
  | 0 => fun _ _ _ _ _ _ => none
  | n + 1 => Un_divideOn_65b a0 a1 p2 (Un_divideOn_65 a0 a1 p2 n)
def Un_divideOn_62  (a0 : Nat) (a1 : Nat) (p2 : Int32) (I : HI) (J : HJ) (N : HN) (x3 : Int32) (x4 : Int32) : Option (HI × HJ × HN × Int32) :=
  Un_divideOn_65 a0 a1 p2 256 I J N x3 x4 (0 : Int32)
def Un_divideOn_48  (a0 : Nat) (a1 : Nat) (p2 : Int32) (I : HI) (J : HJ) (N : HN) (x3 : Int32) (x4 : Int32) (s0 : Int32) : Option (HI × HJ × HN × Int32) :=
  if s0 = p2 then
    Un_divideOn_62 a0 a1 p2 I J N x3 x4
  else
    rq Tc nC (N a0 1) (0, 5) fun b2 =>
    bn1 (Pa_swap b2 N) fun N3 =>
    Un_divideOn_62 a0 a1 p2 I J N3 x3 (1 : Int32)
def Un_divideOn_14  (a0 : Nat) (a1 : Nat) (p2 : Int32) (I : HI) (J : HJ) (N : HN) (s0 : Int32) : Option (HI × HJ × HN × Int32) :=
  rq Tc nC (N a0 1) (0, 5) fun b1 =>
  rq Tc nC (N b1 0) (0, 6) fun b2 =>
  bn1 (Un_endOf J N b2 p2) fun r3 =>
  rq Tc nC (N a0 1) (0, 5) fun b5 =>
  rq Tc nC (N b5 1) (0, 6) fun b6 =>
  bn1 (Un_endOf J N b6 p2) fun r7 =>
  if r3 ≤ r7 then
    Un_divideOn_48 a0 a1 p2 I J N s0 (0 : Int32) (0 : Int32)
  else
    Un_divideOn_48 a0 a1 p2 I J N s0 (0 : Int32) (1 : Int32)
def Un_divideOn_0  (a0 : Nat) (a1 : Nat) (p2 : Int32) (I : HI) (J : HJ) (N : HN) : Option (HI × HJ × HN × Int32) :=
  bn2 (Un_begin N a0 a1 I J) fun I1 J2 =>
  if p2 = 0 then
    Un_divideOn_14 a0 a1 p2 I1 J2 N (-1 : Int32)
  else
    Un_divideOn_14 a0 a1 p2 I1 J2 N (1 : Int32)
def Un_divideOn  (a0 : Nat) (a1 : Nat) (p2 : Int32) (I : HI) (J : HJ) (N : HN) : Option (HI × HJ × HN × Int32) := Un_divideOn_0 a0 a1 p2 I J N
def Un_loadInX_19 (N : HN) (a0 : Nat) (J : HJ) (s0 : Int32) : Option (HJ) :=
  rq Tc nC (N a0 2) (0, 5) fun b1 =>
  rq Tc nC (N b1 0) (0, 6) fun b2 =>
  rq Tc nC (N a0 1) (0, 5) fun b3 =>
  rq Tc nC (N b3 0) (0, 6) fun b4 =>
  bn1 (Po_loadEveryOther N b2 b4 s0 J) fun J5 =>
  rq Tc nC (N a0 2) (0, 5) fun b7 =>
  rq Tc nC (N b7 1) (0, 6) fun b8 =>
  rq Tc nC (N a0 1) (0, 5) fun b9 =>
  rq Tc nC (N b9 1) (0, 6) fun b10 =>
  bn1 (Po_loadEveryOther N b8 b10 (s0 + (1 : Int32)) J5) fun J11 =>
  rq Tc nC (N a0 2) (0, 5) fun b13 =>
  rq Tc nC (N b13 0) (0, 6) fun b14 =>
  bn1 (Po_leastPower J11 N b14) fun r15 =>
  rq Tc nC (N a0 2) (0, 5) fun b17 =>
  rq Tc nC (N b17 1) (0, 6) fun b18 =>
  bn1 (Po_leastPower J11 N b18) fun r19 =>
  bd (if r19 < r15 then r19 else r15) fun v21 =>
  if v21 ≤ 0 then
    some J11
  else
    rq Tc nC (N a0 2) (0, 5) fun b23 =>
    rq Tc nC (N b23 0) (0, 6) fun b24 =>
    rq Tc nC (N a0 1) (0, 5) fun b25 =>
    rq Tc nC (N b25 0) (0, 6) fun b26 =>
    bn1 (Po_loadEveryOther N b24 b26 (s0 + ((2 : Int32) * v21)) J11) fun J27 =>
    rq Tc nC (N a0 2) (0, 5) fun b29 =>
    rq Tc nC (N b29 1) (0, 6) fun b30 =>
    rq Tc nC (N a0 1) (0, 5) fun b31 =>
    rq Tc nC (N b31 1) (0, 6) fun b32 =>
    bn1 (Po_loadEveryOther N b30 b32 ((s0 + (1 : Int32)) + ((2 : Int32) * v21)) J27) fun J33 =>
    some J33
def Un_loadInX_0 (N : HN) (a0 : Nat) (J : HJ) : Option (HJ) :=
  rq Tc nC (N a0 1) (0, 5) fun b1 =>
  rq Tc nC (N b1 0) (0, 6) fun b2 =>
  bn1 (Po_isOfParity J N b2 (0 : Int32)) fun r3 =>
  if r3 = 0 then
    Un_loadInX_19 N a0 J (-1 : Int32)
  else
    Un_loadInX_19 N a0 J (0 : Int32)
def Un_loadInX (N : HN) (a0 : Nat) (J : HJ) : Option (HJ) := Un_loadInX_0 N a0 J
def Un_timesInRest_2b (N : HN) (a0 : Nat) (p1 : Int32) (p2 : Int32) (k2 : HJ → Int32 → Option (HJ × Int32)) (J : HJ) (x3 : Int32) : Option (HJ × Int32) :=
  if (3 : Int32) ≤ x3 then
    some (J, x3)
  else
    rq Tc nC (N a0 3) (0, 6) fun b2 =>
    bn1 (Po_valueAtMinus J N b2 p1.toInt64 p2.toInt64) fun r3 =>
    if r3 = (0 : Int64) then
      rq Tc nC (N a0 3) (0, 6) fun b6 =>
      bn1 (Po_divideByRoot N b6 p1.toInt64 p2.toInt64 J) fun J7 =>
      k2 J7 (x3 + 1)
    else
      some (J, x3)
def Un_timesInRest_2 (N : HN) (a0 : Nat) (p1 : Int32) (p2 : Int32) : Nat → HJ → Int32 → Option (HJ × Int32)
  | 0 => fun _ _ => none
  | n + 1 => Un_timesInRest_2b N a0 p1 p2 (Un_timesInRest_2 N a0 p1 p2 n)
def Un_timesInRest_0 (N : HN) (a0 : Nat) (p1 : Int32) (p2 : Int32) (J : HJ) : Option (HJ × Int32) :=
  Un_timesInRest_2 N a0 p1 p2 256 J (0 : Int32)
def Un_timesInRest (N : HN) (a0 : Nat) (p1 : Int32) (p2 : Int32) (J : HJ) : Option (HJ × Int32) := Un_timesInRest_0 N a0 p1 p2 J
def Un_addRoot_99 (N : HN) (a0 : Nat) (p1 : Int32) (p2 : Int32) (p3 : Int32) (I : HI) (x4 : Int32) : Option (HI) :=
  ra Tc nC (N a0 6) 1 fun b1 =>
  gd (inb x4 (Tc b1).2) <|
  bd (up2 I b1 x4.toNatClampNeg p1) fun I3 =>
  ra Tc nC (N a0 7) 1 fun b4 =>
  gd (inb x4 (Tc b4).2) <|
  bd (up2 I3 b4 x4.toNatClampNeg p2) fun I6 =>
  ra Tc nC (N a0 8) 1 fun b7 =>
  gd (inb x4 (Tc b7).2) <|
  bd (up2 I6 b7 x4.toNatClampNeg p3) fun I9 =>
  bd (up2 I9 a0 9 ((I9 a0 9) + (1 : Int32))) fun I10 =>
  some I10
def Un_addRoot_15b (N : HN) (a0 : Nat) (p1 : Int32) (p2 : Int32) (p3 : Int32) (k15 : HI → Int32 → Option (HI)) (I : HI) (x4 : Int32) : Option (HI) :=
  if x4 ≤ 0 then
    Un_addRoot_99 N a0 p1 p2 p3 I x4
  else
    ra Tc nC (N a0 7) 1 fun b2 =>
    gd (inb (x4 - (1 : Int32)) (Tc b2).2) <|
    ra Tc nC (N a0 6) 1 fun b4 =>
    gd (inb (x4 - (1 : Int32)) (Tc b4).2) <|
    if ((I b4 (x4 - (1 : Int32)).toNatClampNeg) * p2) ≤ (p1 * (I b2 (x4 - (1 : Int32)).toNatClampNeg)) then
      Un_addRoot_99 N a0 p1 p2 p3 I x4
    else
      ra Tc nC (N a0 6) 1 fun b7 =>
      ra Tc nC (N a0 6) 1 fun b8 =>
      gd (inb (x4 - (1 : Int32)) (Tc b8).2) <|
      gd (inb x4 (Tc b7).2) <|
      bd (up2 I b7 x4.toNatClampNeg (I b8 (x4 - (1 : Int32)).toNatClampNeg)) fun I11 =>
      ra Tc nC (N a0 7) 1 fun b12 =>
      ra Tc nC (N a0 7) 1 fun b13 =>
      gd (inb (x4 - (1 : Int32)) (Tc b13).2) <|
      gd (inb x4 (Tc b12).2) <|
      bd (up2 I11 b12 x4.toNatClampNeg (I11 b13 (x4 - (1 : Int32)).toNatClampNeg)) fun I16 =>
      ra Tc nC (N a0 8) 1 fun b17 =>
      ra Tc nC (N a0 8) 1 fun b18 =>
      gd (inb (x4 - (1 : Int32)) (Tc b18).2) <|
      gd (inb x4 (Tc b17).2) <|
      bd (up2 I16 b17 x4.toNatClampNeg (I16 b18 (x4 - (1 : Int32)).toNatClampNeg)) fun I21 =>
      k15 I21 (x4 + (-1))
def Un_addRoot_15 (N : HN) (a0 : Nat) (p1 : Int32) (p2 : Int32) (p3 : Int32) : Nat → HI → Int32 → Option (HI)
  | 0 => fun _ _ => none
  | n + 1 => Un_addRoot_15b N a0 p1 p2 p3 (Un_addRoot_15 N a0 p1 p2 p3 n)
def Un_addRoot_0 (N : HN) (a0 : Nat) (p1 : Int32) (p2 : Int32) (p3 : Int32) (I : HI) : Option (HI) :=
  if (I a0 9) < (3 : Int32) then
    bd (I a0 9) fun v2 =>
    Un_addRoot_15 N a0 p1 p2 p3 256 I v2
  else
    some I
def Un_addRoot (N : HN) (a0 : Nat) (p1 : Int32) (p2 : Int32) (p3 : Int32) (I : HI) : Option (HI) := Un_addRoot_0 N a0 p1 p2 p3 I
def Un_findRoots_83 (N : HN) (a0 : Nat) (k22 : HI → HJ → Int32 → Option (HI × HJ)) (k30 : HI → HJ → Int32 → Int32 → Option (HI × HJ)) (I : HI) (J : HJ) (x1 : Int32) (x2 : Int32) : Option (HI × HJ) :=
  k30 I J x1 (x2 + 1)
def Un_findRoots_30b (N : HN) (a0 : Nat) (k22 : HI → HJ → Int32 → Option (HI × HJ)) (k30 : HI → HJ → Int32 → Int32 → Option (HI × HJ)) (I : HI) (J : HJ) (x1 : Int32) (x2 : Int32) : Option (HI × HJ) :=
  if (9 : Int32) < x2 then
    k22 I J (x1 + 1)
  else
    if x1 = 0 then
      Un_findRoots_83 N a0 k22 k30 I J x1 x2
    else
      rq Tc nC (N a0 2) (0, 5) fun b3 =>
      rq Tc nC (N b3 1) (0, 6) fun b4 =>
      bn1 (Po_valueAtMinus J N b4 x1.toInt64 x2.toInt64) fun r5 =>
      if r5 = (0 : Int64) then
        bn1 (Lm_commonDivisor x1.toInt64 x2.toInt64) fun r8 =>
        if r8 = (1 : Int64) then
          bn2 (Un_timesInRest N a0 x1 x2 J) fun J11 r12 =>
          bn1 (Un_addRoot N a0 x1 x2 r12 I) fun I14 =>
          Un_findRoots_83 N a0 k22 k30 I14 J11 x1 x2
        else
          Un_findRoots_83 N a0 k22 k30 I J x1 x2
      else
        Un_findRoots_83 N a0 k22 k30 I J x1 x2
def Un_findRoots_30 (N : HN) (a0 : Nat) (k22 : HI → HJ → Int32 → Option (HI × HJ)) : Nat → HI → HJ → Int32 → Int32 → Option (HI × HJ)
  | 0 => fun _ _ _ _ => none
  | n + 1 => Un_findRoots_30b N a0 k22 (Un_findRoots_30 N a0 k22 n)
def Un_findRoots_22b (N : HN) (a0 : Nat) (k22 : HI → HJ → Int32 → Option (HI × HJ)) (I : HI) (J : HJ) (x1 : Int32) : Option (HI × HJ) :=
  if (9 : Int32) < x1 then
    some (I, J)
  else
    Un_findRoots_30 N a0 k22 256 I J x1 (1 : Int32)
def Un_findRoots_22 (N : HN) (a0 : Nat) : Nat → HI → HJ → Int32 → Option (HI × HJ)
  | 0 => fun _ _ _ => none
  | n + 1 => Un_findRoots_22b N a0 (Un_findRoots_22 N a0 n)
def Un_findRoots_0 (N : HN) (a0 : Nat) (I : HI) (J : HJ) : Option (HI × HJ) :=
  bd (up2 I a0 9 (0 : Int32)) fun I1 =>
  rq Tc nC (N a0 3) (0, 6) fun b2 =>
  rq Tc nC (N a0 2) (0, 5) fun b3 =>
  rq Tc nC (N b3 1) (0, 6) fun b4 =>
  bn1 (Po_load N b2 b4 J) fun J5 =>
  Un_findRoots_22 N a0 256 I1 J5 (-9 : Int32)
def Un_findRoots (N : HN) (a0 : Nat) (I : HI) (J : HJ) : Option (HI × HJ) := Un_findRoots_0 N a0 I J
def Un_poleAtGreatest_77 (N : HN) (a0 : Nat) (p1 : Int32) (I : HI) (J : HJ) : Option (HI × HJ × Int32) :=
  bn1 (Un_unlawful (0 : Int32)) fun r1 =>
  some (I, J, r1)
def Un_poleAtGreatest_0 (N : HN) (a0 : Nat) (p1 : Int32) (I : HI) (J : HJ) : Option (HI × HJ × Int32) :=
  rq Tc nC (N a0 2) (0, 5) fun b1 =>
  rq Tc nC (N b1 0) (0, 6) fun b2 =>
  bn1 (Po_degree J N b2) fun r3 =>
  rq Tc nC (N a0 2) (0, 5) fun b5 =>
  rq Tc nC (N b5 1) (0, 6) fun b6 =>
  bn1 (Po_degree J N b6) fun r7 =>
  if r7 < r3 then
    rq Tc nC (N a0 4) (0, 2) fun b10 =>
    rq Tc nC (N a0 2) (0, 5) fun b11 =>
    rq Tc nC (N b11 0) (0, 6) fun b12 =>
    bn1 (Po_at J N b12 r3) fun r13 =>
    rq Tc nC (N a0 2) (0, 5) fun b15 =>
    rq Tc nC (N b15 1) (0, 6) fun b16 =>
    bn1 (Po_at J N b16 r7) fun r17 =>
    bn1 (Fr_put b10 r13 r17 J) fun J19 =>
    if (r7 + (1 : Int32)) < r3 then
      Un_poleAtGreatest_77 N a0 p1 I J19
    else
      rq Tc nC (N a0 4) (0, 2) fun b22 =>
      if (0 : Int64) < (J19 b22 0) then
        rq Tc nC (N a0 4) (0, 2) fun b24 =>
        bn1 (Fr_isHandy J19 b24) fun r25 =>
        if r25 = 0 then
          some (I, J19, (-5 : Int32))
        else
          bn1 (Un_addRising J19 N a0 p1 I) fun I28 =>
          some (I28, J19, (0 : Int32))
      else
        Un_poleAtGreatest_77 N a0 p1 I J19
  else
    some (I, J, (0 : Int32))
def Un_poleAtGreatest (N : HN) (a0 : Nat) (p1 : Int32) (I : HI) (J : HJ) : Option (HI × HJ × Int32) := Un_poleAtGreatest_0 N a0 p1 I J
def Un_poleAtZero_0 (N : HN) (a0 : Nat) (p1 : Int32) (I : HI) (J : HJ) : Option (HI × HJ × Int32) :=
  rq Tc nC (N a0 2) (0, 5) fun b1 =>
  rq Tc nC (N b1 1) (0, 6) fun b2 =>
  bn1 (Po_at J N b2 (0 : Int32)) fun r3 =>
  if r3 = (0 : Int64) then
    bn1 (Un_unlawful (1 : Int32)) fun r32 =>
    some (I, J, r32)
  else
    rq Tc nC (N a0 2) (0, 5) fun b6 =>
    rq Tc nC (N b6 0) (0, 6) fun b7 =>
    bn1 (Po_at J N b7 (0 : Int32)) fun r8 =>
    if r8 = (0 : Int64) then
      some (I, J, (0 : Int32))
    else
      rq Tc nC (N a0 4) (0, 2) fun b11 =>
      rq Tc nC (N a0 2) (0, 5) fun b12 =>
      rq Tc nC (N b12 0) (0, 6) fun b13 =>
      bn1 (Po_at J N b13 (0 : Int32)) fun r14 =>
      rq Tc nC (N a0 2) (0, 5) fun b16 =>
      rq Tc nC (N b16 1) (0, 6) fun b17 =>
      bn1 (Po_at J N b17 (0 : Int32)) fun r18 =>
      bn1 (Fr_put b11 r14 r18 J) fun J20 =>
      rq Tc nC (N a0 4) (0, 2) fun b22 =>
      if (0 : Int64) < (J20 b22 0) then
        rq Tc nC (N a0 4) (0, 2) fun b24 =>
        bn1 (Fr_isHandy J20 b24) fun r25 =>
        if r25 = 0 then
          some (I, J20, (-5 : Int32))
        else
          bn1 (Un_addFalling J20 N a0 p1 I) fun I28 =>
          some (I28, J20, (0 : Int32))
      else
        bn1 (Un_unlawful (1 : Int32)) fun r30 =>
        some (I, J20, r30)
def Un_poleAtZero (N : HN) (a0 : Nat) (p1 : Int32) (I : HI) (J : HJ) : Option (HI × HJ × Int32) := Un_poleAtZero_0 N a0 p1 I J
def Un_addBoth_0 (J : HJ) (N : HN) (a0 : Nat) (p1 : Int32) (I : HI) : Option (HI) :=
  rq Tc nC (N a0 5) (0, 2) fun b1 =>
  bd ((J b1 0).toInt32) fun v2 =>
  rq Tc nC (N a0 5) (0, 2) fun b3 =>
  bd ((J b3 1).toInt32) fun v4 =>
  rq Tc nC (N a0 4) (0, 2) fun b5 =>
  bd ((J b5 1).toInt32) fun v6 =>
  rq Tc nC (N a0 4) (0, 2) fun b7 =>
  bd ((J b7 0).toInt32) fun v8 =>
  if p1 = 0 then
    rq Tc nC (N a0 0) (0, 3) fun b14 =>
    bn2 (La_add N b14 p1 v2 v4 v6 v8 I) fun I15 r16 =>
    some I15
  else
    rq Tc nC (N a0 0) (0, 3) fun b10 =>
    bn2 (La_add N b10 p1 v6 v8 v2 v4 I) fun I11 r12 =>
    some I11
def Un_addBoth (J : HJ) (N : HN) (a0 : Nat) (p1 : Int32) (I : HI) : Option (HI) := Un_addBoth_0 J N a0 p1 I
def Un_poleAtRoot_28 (N : HN) (a0 : Nat) (p1 : Int32) (p2 : Int32) (I : HI) (J : HJ) : Option (HI × HJ × Int32) :=
  bn1 (Un_unlawful ((2 : Int32) + p2)) fun r1 =>
  some (I, J, r1)
def Un_poleAtRoot_0 (N : HN) (a0 : Nat) (p1 : Int32) (p2 : Int32) (I : HI) (J : HJ) : Option (HI × HJ × Int32) :=
  if p2 < 0 then
    Un_poleAtRoot_28 N a0 p1 p2 I J
  else
    if (3 : Int32) ≤ p2 then
      Un_poleAtRoot_28 N a0 p1 p2 I J
    else
      ra Tc nC (N a0 6) 1 fun b3 =>
      gd (inb p2 (Tc b3).2) <|
      if (I b3 p2.toNatClampNeg) ≤ 0 then
        Un_poleAtRoot_28 N a0 p1 p2 I J
      else
        ra Tc nC (N a0 8) 1 fun b6 =>
        gd (inb p2 (Tc b6).2) <|
        if (I b6 p2.toNatClampNeg) ≤ (1 : Int32) then
          ra Tc nC (N a0 6) 1 fun b9 =>
          gd (inb p2 (Tc b9).2) <|
          bd (I b9 p2.toNatClampNeg) fun v11 =>
          ra Tc nC (N a0 7) 1 fun b12 =>
          gd (inb p2 (Tc b12).2) <|
          bd (I b12 p2.toNatClampNeg) fun v14 =>
          rq Tc nC (N a0 3) (0, 6) fun b15 =>
          rq Tc nC (N a0 2) (0, 5) fun b16 =>
          rq Tc nC (N b16 1) (0, 6) fun b17 =>
          bn1 (Po_load N b15 b17 J) fun J18 =>
          rq Tc nC (N a0 3) (0, 6) fun b20 =>
          bn1 (Po_divideByRoot N b20 v11.toInt64 v14.toInt64 J18) fun J21 =>
          rq Tc nC (N a0 4) (0, 2) fun b23 =>
          rq Tc nC (N a0 2) (0, 5) fun b24 =>
          rq Tc nC (N b24 0) (0, 6) fun b25 =>
          bn1 (Po_valueAtMinus J21 N b25 v11.toInt64 v14.toInt64) fun r26 =>
          rq Tc nC (N a0 3) (0, 6) fun b28 =>
          bn1 (Po_valueAtMinus J21 N b28 v11.toInt64 v14.toInt64) fun r29 =>
          bn1 (Fr_put b23 r26 ((-v11).toInt64 * r29) J21) fun J31 =>
          rq Tc nC (N a0 4) (0, 2) fun b33 =>
          if (J31 b33 0) = (0 : Int64) then
            some (I, J31, (0 : Int32))
          else
            rq Tc nC (N a0 4) (0, 2) fun b35 =>
            if (0 : Int64) ≤ (J31 b35 0) then
              rq Tc nC (N a0 5) (0, 2) fun b37 =>
              rq Tc nC (N a0 4) (0, 2) fun b38 =>
              rq Tc nC (N a0 4) (0, 2) fun b39 =>
              bn1 (Fr_put b37 ((J31 b38 0) * v14.toInt64) ((J31 b39 1) * v11.toInt64) J31) fun J40 =>
              rq Tc nC (N a0 4) (0, 2) fun b42 =>
              bn1 (Fr_isHandy J40 b42) fun r43 =>
              if r43 = 0 then
                some (I, J40, (-5 : Int32))
              else
                rq Tc nC (N a0 5) (0, 2) fun b46 =>
                bn1 (Fr_isHandy J40 b46) fun r47 =>
                if r47 = 0 then
                  some (I, J40, (-5 : Int32))
                else
                  bn1 (Un_addBoth J40 N a0 p1 I) fun I50 =>
                  some (I50, J40, (0 : Int32))
            else
              bn1 (Un_unlawful ((2 : Int32) + p2)) fun r52 =>
              some (I, J31, r52)
        else
          Un_poleAtRoot_28 N a0 p1 p2 I J
def Un_poleAtRoot (N : HN) (a0 : Nat) (p1 : Int32) (p2 : Int32) (I : HI) (J : HJ) : Option (HI × HJ × Int32) := Un_poleAtRoot_0 N a0 p1 p2 I J
def Un_divideByPoles_91  (a0 : Nat) (a1 : Nat) (p2 : Int32) (I : HI) (J : HJ) (N : HN) (x3 : Int32) : Option (HI × HJ × HN × Int32) :=
  if x3 = 0 then
    rq Tc nC (N a0 0) (0, 3) fun b2 =>
    bn1 (La_valueCount I N b2) fun r3 =>
    some (I, J, N, r3)
  else
    some (I, J, N, x3)
def Un_divideByPoles_64b  (a0 : Nat) (a1 : Nat) (p2 : Int32) (k64 : HI → HJ → HN → Int32 → Int32 → Option (HI × HJ × HN × Int32)) (I : HI) (J : HJ) (N : HN) (x3 : Int32) (x4 : Int32) : Option (HI × HJ × HN × Int32) :=
  if (I a0 9) ≤ x4 then
    Un_divideByPoles_91 a0 a1 p2 I J N x3
  else
    if x3 = 0 then
      bn3 (Un_poleAtRoot N a0 p2 x4 I J) fun I3 J4 r5 =>
      k64 I3 J4 N r5 (x4 + 1)
    else
      Un_divideByPoles_91 a0 a1 p2 I J N x3
def Un_divideByPoles_64  (a0 : Nat) (a1 : Nat) (p2 : Int32) : Nat → HI → HJ → HN → Int32 → Int32 → Option (HI × HJ × HN × Int32)
  | 0 => fun _ _ _ _ _ => none
  | n + 1 => Un_divideByPoles_64b a0 a1 p2 (Un_divideByPoles_64 a0 a1 p2 n)
def Un_divideByPoles_61  (a0 : Nat) (a1 : Nat) (p2 : Int32) (I : HI) (J : HJ) (N : HN) (x3 : Int32) : Option (HI × HJ × HN × Int32) :=
  Un_divideByPoles_64 a0 a1 p2 256 I J N x3 (0 : Int32)
def Un_divideByPoles_17  (a0 : Nat) (a1 : Nat) (p2 : Int32) (I : HI) (J : HJ) (N : HN) : Option (HI × HJ × HN × Int32) :=
  bn1 (Un_loadInX N a0 J) fun J1 =>
  bn2 (Un_findRoots N a0 I J1) fun I3 J4 =>
  rq Tc nC (N a0 3) (0, 6) fun b6 =>
  bn1 (Po_degree J4 N b6) fun r7 =>
  rq Tc nC (N a0 3) (0, 6) fun b9 =>
  bn1 (Po_leastPower J4 N b9) fun r10 =>
  if r7 = r10 then
    bn3 (Un_poleAtGreatest N a0 p2 I3 J4) fun I13 J14 r15 =>
    if r15 = 0 then
      bn3 (Un_poleAtZero N a0 p2 I13 J14) fun I18 J19 r20 =>
      Un_divideByPoles_61 a0 a1 p2 I18 J19 N r20
    else
      Un_divideByPoles_61 a0 a1 p2 I13 J14 N r15
  else
    some (I3, J4, N, (-6 : Int32))
def Un_divideByPoles_0  (a0 : Nat) (a1 : Nat) (p2 : Int32) (I : HI) (J : HJ) (N : HN) : Option (HI × HJ × HN × Int32) :=
  bn2 (Un_begin N a0 a1 I J) fun I1 J2 =>
  if p2 = (1 : Int32) then
    rq Tc nC (N a0 1) (0, 5) fun b5 =>
    bn1 (Pa_swap b5 N) fun N6 =>
    Un_divideByPoles_17 a0 a1 p2 I1 J2 N6
  else
    Un_divideByPoles_17 a0 a1 p2 I1 J2 N
def Un_divideByPoles  (a0 : Nat) (a1 : Nat) (p2 : Int32) (I : HI) (J : HJ) (N : HN) : Option (HI × HJ × HN × Int32) := Un_divideByPoles_0 a0 a1 p2 I J N
def Lm_isPlace_0  (p0 : Int32) : Option (Int32) :=
  if p0 = 0 then
    some (1 : Int32)
  else
    if p0 = (1 : Int32) then
      some (1 : Int32)
    else
      some (0 : Int32)
def Lm_isPlace  (p0 : Int32) : Option (Int32) := Lm_isPlace_0 p0
def Lm_isPower_0  (p0 : Int32) : Option (Int32) :=
  if p0 < 0 then
    some (0 : Int32)
  else
    if (7 : Int32) ≤ p0 then
      some (0 : Int32)
    else
      some (1 : Int32)
def Lm_isPower  (p0 : Int32) : Option (Int32) := Lm_isPower_0 p0
def Lm_isWishNumber_0  (p0 : Int64) : Option (Int32) :=
  if p0 < (-9 : Int64) then
    some (0 : Int32)
  else
    if (9 : Int64) < p0 then
      some (0 : Int32)
    else
      some (1 : Int32)
def Lm_isWishNumber  (p0 : Int64) : Option (Int32) := Lm_isWishNumber_0 p0
def Lm_tell_0 (N : HN) (a0 : Nat) (p1 : Int32) (p2 : Int32) (p3 : Int32) (J : HJ) : Option (HJ × Int32) :=
  bn1 (Lm_isPlace p1) fun r1 =>
  if r1 = 0 then
    some (J, (-2147483648 : Int32))
  else
    bn1 (Lm_isPower p2) fun r4 =>
    if r4 = 0 then
      some (J, (-2147483648 : Int32))
    else
      bn1 (Lm_isWishNumber p3.toInt64) fun r7 =>
      if r7 = 0 then
        some (J, (-2147483648 : Int32))
      else
        rq Tc nC (N a0 0) (0, 5) fun b10 =>
        bn1 (Pa_side N b10 p1) fun b11 =>
        gd (decide (b11 < nC ∧ Tc b11 = (0, 6))) <|
        bn1 (Po_at J N b11 p2) fun r13 =>
        bn1 (Po_put N b11 p2 p3.toInt64 J) fun J15 =>
        some (J15, r13.toInt32)
def Lm_tell (N : HN) (a0 : Nat) (p1 : Int32) (p2 : Int32) (p3 : Int32) (J : HJ) : Option (HJ × Int32) := Lm_tell_0 N a0 p1 p2 p3 J
def Lm_told_0 (J : HJ) (N : HN) (a0 : Nat) (p1 : Int32) (p2 : Int32) : Option (Int32) :=
  bn1 (Lm_isPlace p1) fun r1 =>
  if r1 = 0 then
    some (-2147483648 : Int32)
  else
    bn1 (Lm_isPower p2) fun r4 =>
    if r4 = 0 then
      some (-2147483648 : Int32)
    else
      rq Tc nC (N a0 0) (0, 5) fun b7 =>
      bn1 (Pa_side N b7 p1) fun b8 =>
      gd (decide (b8 < nC ∧ Tc b8 = (0, 6))) <|
      bn1 (Po_at J N b8 p2) fun r10 =>
      some r10.toInt32
def Lm_told (J : HJ) (N : HN) (a0 : Nat) (p1 : Int32) (p2 : Int32) : Option (Int32) := Lm_told_0 J N a0 p1 p2
def Lm_turn_0 (J : HJ) (a0 : Nat) (N : HN) : Option (HN × Int32) :=
  rq Tc nC (N a0 0) (0, 5) fun b1 =>
  bn1 (Pa_swap b1 N) fun N2 =>
  rq Tc nC (N2 a0 0) (0, 5) fun b4 =>
  bn1 (Pa_isLawful J N2 b4) fun r5 =>
  if r5 = 0 then
    some (N2, (0 : Int32))
  else
    some (N2, (1 : Int32))
def Lm_turn (J : HJ) (a0 : Nat) (N : HN) : Option (HN × Int32) := Lm_turn_0 J a0 N
def Lm_reverse_0 (N : HN) (a0 : Nat) (J : HJ) : Option (HJ × Int32) :=
  rq Tc nC (N a0 0) (0, 5) fun b1 =>
  bn1 (Pa_greaterDegree J N b1) fun r2 =>
  if r2 = (-1 : Int32) then
    some (J, (-3 : Int32))
  else
    rq Tc nC (N a0 0) (0, 5) fun b5 =>
    bn1 (Pa_side N b5 (0 : Int32)) fun b6 =>
    gd (decide (b6 < nC ∧ Tc b6 = (0, 6))) <|
    bn1 (Po_runBackwards N b6 r2 J) fun J8 =>
    rq Tc nC (N a0 0) (0, 5) fun b10 =>
    bn1 (Pa_side N b10 (1 : Int32)) fun b11 =>
    gd (decide (b11 < nC ∧ Tc b11 = (0, 6))) <|
    bn1 (Po_runBackwards N b11 r2 J8) fun J13 =>
    some (J13, r2)
def Lm_reverse (N : HN) (a0 : Nat) (J : HJ) : Option (HJ × Int32) := Lm_reverse_0 N a0 J
def Lm_finding_0  (a0 : Nat) (p1 : Int32) (I : HI) : Option (HI × Int32) :=
  bd (up2 I a0 8 p1) fun I1 =>
  some (I1, (-10 : Int32) - p1)
def Lm_finding  (a0 : Nat) (p1 : Int32) (I : HI) : Option (HI × Int32) := Lm_finding_0 a0 p1 I
def Lm_sheetRefusal_0 (N : HN) (a0 : Nat) (p1 : Int32) (I : HI) : Option (HI × Int32) :=
  rq Tc nC (N a0 6) (0, 8) fun b1 =>
  bn1 (Sh_isSheet b1 p1) fun r2 =>
  if r2 = 0 then
    some (I, (-2 : Int32))
  else
    rq Tc nC (N a0 6) (0, 8) fun b5 =>
    bn1 (Sh_isLost I N b5 p1) fun r6 =>
    if r6 = 0 then
      some (I, (0 : Int32))
    else
      bn2 (Lm_finding a0 (1 : Int32) I) fun I9 r10 =>
      some (I9, r10)
def Lm_sheetRefusal (N : HN) (a0 : Nat) (p1 : Int32) (I : HI) : Option (HI × Int32) := Lm_sheetRefusal_0 N a0 p1 I
def Lm_read_72b (N : HN) (a0 : Nat) (p1 : Int32) (p2 : Int32) (k72 : HI → HJ → Int32 → Option (HI × HJ × Int32)) (I : HI) (J : HJ) (x4 : Int32) : Option (HI × HJ × Int32) :=
  if (14 : Int32) ≤ x4 then
    some (I, J, (14 : Int32))
  else
    rq Tc nC (N a0 0) (0, 5) fun b2 =>
    rq Tc nC (N a0 6) (0, 8) fun b3 =>
    bn1 (Sh_item I J N b3 p1 (p2 + x4)) fun r4 =>
    bn1 (Pa_putNumber N b2 x4 r4 J) fun J6 =>
    k72 I J6 (x4 + 1)
def Lm_read_72 (N : HN) (a0 : Nat) (p1 : Int32) (p2 : Int32) : Nat → HI → HJ → Int32 → Option (HI × HJ × Int32)
  | 0 => fun _ _ _ => none
  | n + 1 => Lm_read_72b N a0 p1 p2 (Lm_read_72 N a0 p1 p2 n)
def Lm_read_35b (N : HN) (a0 : Nat) (p1 : Int32) (p2 : Int32) (k35 : HI → HJ → Int32 → Option (HI × HJ × Int32)) (I : HI) (J : HJ) (x4 : Int32) : Option (HI × HJ × Int32) :=
  if (14 : Int32) ≤ x4 then
    Lm_read_72 N a0 p1 p2 256 I J (0 : Int32)
  else
    rq Tc nC (N a0 6) (0, 8) fun b2 =>
    bn1 (Sh_item I J N b2 p1 (p2 + x4)) fun r3 =>
    bn1 (Lm_isWishNumber r3) fun r5 =>
    if r5 = 0 then
      some (I, J, (-2 : Int32))
    else
      k35 I J (x4 + 1)
def Lm_read_35 (N : HN) (a0 : Nat) (p1 : Int32) (p2 : Int32) : Nat → HI → HJ → Int32 → Option (HI × HJ × Int32)
  | 0 => fun _ _ _ => none
  | n + 1 => Lm_read_35b N a0 p1 p2 (Lm_read_35 N a0 p1 p2 n)
def Lm_read_0 (N : HN) (a0 : Nat) (p1 : Int32) (p2 : Int32) (I : HI) (J : HJ) : Option (HI × HJ × Int32) :=
  bn2 (Lm_sheetRefusal N a0 p1 I) fun I1 r2 =>
  if r2 = 0 then
    rq Tc nC (N a0 6) (0, 8) fun b5 =>
    bn1 (Sh_hasRun I1 N b5 p1 p2 (14 : Int32)) fun r6 =>
    if r6 = 0 then
      bn2 (Lm_finding a0 (2 : Int32) I1) fun I9 r10 =>
      some (I9, J, r10)
    else
      Lm_read_35 N a0 p1 p2 256 I1 J (0 : Int32)
  else
    some (I1, J, r2)
def Lm_read (N : HN) (a0 : Nat) (p1 : Int32) (p2 : Int32) (I : HI) (J : HJ) : Option (HI × HJ × Int32) := Lm_read_0 N a0 p1 p2 I J
def Lm_info_0 (J : HJ) (N : HN) (a0 : Nat) (p1 : Int32) : Option (Int32) :=
  if p1 = (0 : Int32) then
    rq Tc nC (N a0 0) (0, 5) fun b2 =>
    bn1 (Pa_side N b2 (0 : Int32)) fun b3 =>
    gd (decide (b3 < nC ∧ Tc b3 = (0, 6))) <|
    bn1 (Po_degree J N b3) fun r5 =>
    some r5
  else
  if p1 = (1 : Int32) then
    rq Tc nC (N a0 0) (0, 5) fun b8 =>
    bn1 (Pa_side N b8 (1 : Int32)) fun b9 =>
    gd (decide (b9 < nC ∧ Tc b9 = (0, 6))) <|
    bn1 (Po_degree J N b9) fun r11 =>
    some r11
  else
  if p1 = (2 : Int32) then
    rq Tc nC (N a0 0) (0, 5) fun b14 =>
    bn1 (Pa_isLawful J N b14) fun r15 =>
    if r15 = 0 then
      some (0 : Int32)
    else
      some (1 : Int32)
  else
  if p1 = (3 : Int32) then
    rq Tc nC (N a0 0) (0, 5) fun b19 =>
    bn1 (Pa_side N b19 (0 : Int32)) fun b20 =>
    gd (decide (b20 < nC ∧ Tc b20 = (0, 6))) <|
    bn1 (Po_leastPower J N b20) fun r22 =>
    some r22
  else
  if p1 = (4 : Int32) then
    rq Tc nC (N a0 0) (0, 5) fun b25 =>
    bn1 (Pa_side N b25 (1 : Int32)) fun b26 =>
    gd (decide (b26 < nC ∧ Tc b26 = (0, 6))) <|
    bn1 (Po_leastPower J N b26) fun r28 =>
    some r28
  else
  some (-9 : Int32)
def Lm_info (J : HJ) (N : HN) (a0 : Nat) (p1 : Int32) : Option (Int32) := Lm_info_0 J N a0 p1
def Lm_asLong_0  (p0 : Int32) : Option (Int64) :=
  some ((-9223372036854775808 : Int64) - p0.toInt64)
def Lm_asLong  (p0 : Int32) : Option (Int64) := Lm_asLong_0 p0
def Lm_reactance_63 (N : HN) (a0 : Nat) (p1 : Int32) (p2 : Int32) (p3 : Int32) (J : HJ) : Option (HJ × Int64) :=
  bn1 (Lm_asLong (-3 : Int32)) fun r1 =>
  some (J, r1)
def Lm_reactance_31 (N : HN) (a0 : Nat) (p1 : Int32) (p2 : Int32) (p3 : Int32) (J : HJ) : Option (HJ × Int64) :=
  bn1 (Lm_asLong (-2 : Int32)) fun r1 =>
  some (J, r1)
def Lm_reactance_0 (N : HN) (a0 : Nat) (p1 : Int32) (p2 : Int32) (p3 : Int32) (J : HJ) : Option (HJ × Int64) :=
  if p1 < (1 : Int32) then
    Lm_reactance_31 N a0 p1 p2 p3 J
  else
    if (9 : Int32) < p1 then
      Lm_reactance_31 N a0 p1 p2 p3 J
    else
      if p2 < (1 : Int32) then
        Lm_reactance_31 N a0 p1 p2 p3 J
      else
        if (9 : Int32) < p2 then
          Lm_reactance_31 N a0 p1 p2 p3 J
        else
          if p3 < 0 then
            Lm_reactance_31 N a0 p1 p2 p3 J
          else
            if p3 ≤ (1 : Int32) then
              rq Tc nC (N a0 0) (0, 5) fun b7 =>
              bn1 (Pa_isLawful J N b7) fun r8 =>
              if r8 = 0 then
                Lm_reactance_63 N a0 p1 p2 p3 J
              else
                rq Tc nC (N a0 7) (0, 7) fun b11 =>
                rq Tc nC (N a0 0) (0, 5) fun b12 =>
                bn2 (Re_workOut N b11 b12 p1 p2 J) fun J13 r14 =>
                if r14 = 0 then
                  Lm_reactance_63 N a0 p1 p2 p3 J13
                else
                  if p3 = 0 then
                    rq Tc nC (N a0 7) (0, 7) fun b20 =>
                    rq Tc nC (N b20 1) (0, 2) fun b21 =>
                    some (J13, J13 b21 0)
                  else
                    rq Tc nC (N a0 7) (0, 7) fun b18 =>
                    rq Tc nC (N b18 1) (0, 2) fun b19 =>
                    some (J13, J13 b19 1)
            else
              Lm_reactance_31 N a0 p1 p2 p3 J
def Lm_reactance (N : HN) (a0 : Nat) (p1 : Int32) (p2 : Int32) (p3 : Int32) (J : HJ) : Option (HJ × Int64) := Lm_reactance_0 N a0 p1 p2 p3 J
def Lm_ladderChanged_0  (a0 : Nat) (I : HI) (J : HJ) (N : HN) : Option (HI × HJ × HN) :=
  rq Tc nC (N a0 2) (0, 1) fun b1 =>
  rq Tc nC (N a0 1) (0, 3) fun b2 =>
  bn2 (Fo_foldUp I b1 b2 J N) fun J3 N4 =>
  rq Tc nC (N4 a0 4) (0, 0) fun b6 =>
  rq Tc nC (N4 a0 1) (0, 3) fun b7 =>
  bn1 (Bi_countUp N4 b6 b7 I) fun I8 =>
  some (I8, J3, N4)
def Lm_ladderChanged  (a0 : Nat) (I : HI) (J : HJ) (N : HN) : Option (HI × HJ × HN) := Lm_ladderChanged_0 a0 I J N
def Lm_arm_61  (a0 : Nat) (p1 : Int32) (p2 : Int32) (p3 : Int32) (I : HI) (J : HJ) (N : HN) (x4 : Int32) (s0 : Int32) : Option (HI × HJ × HN × Int32) :=
  rq Tc nC (N a0 1) (0, 3) fun b1 =>
  bn2 (La_add N b1 p1 p2 x4 p3 s0 I) fun I2 r3 =>
  if r3 = 0 then
    some (I2, J, N, (-4 : Int32))
  else
    bn3 (Lm_ladderChanged a0 I2 J N) fun I6 J7 N8 =>
    rq Tc nC (N8 a0 1) (0, 3) fun b10 =>
    some (I6, J7, N8, (I6 b10 1) - (1 : Int32))
def Lm_arm_50  (a0 : Nat) (p1 : Int32) (p2 : Int32) (p3 : Int32) (I : HI) (J : HJ) (N : HN) (s0 : Int32) : Option (HI × HJ × HN × Int32) :=
  if p3 = 0 then
    Lm_arm_61 a0 p1 p2 p3 I J N s0 (0 : Int32)
  else
    Lm_arm_61 a0 p1 p2 p3 I J N s0 (1 : Int32)
def Lm_arm_41  (a0 : Nat) (p1 : Int32) (p2 : Int32) (p3 : Int32) (I : HI) (J : HJ) (N : HN) : Option (HI × HJ × HN × Int32) :=
  if p2 = 0 then
    Lm_arm_50 a0 p1 p2 p3 I J N (0 : Int32)
  else
    Lm_arm_50 a0 p1 p2 p3 I J N (1 : Int32)
def Lm_arm_0  (a0 : Nat) (p1 : Int32) (p2 : Int32) (p3 : Int32) (I : HI) (J : HJ) (N : HN) : Option (HI × HJ × HN × Int32) :=
  bn1 (Lm_isPlace p1) fun r1 =>
  if r1 = 0 then
    some (I, J, N, (-2 : Int32))
  else
    if p2 < 0 then
      some (I, J, N, (-2 : Int32))
    else
      if (9 : Int32) < p2 then
        some (I, J, N, (-2 : Int32))
      else
        if p3 < 0 then
          some (I, J, N, (-2 : Int32))
        else
          if p3 ≤ (9 : Int32) then
            if p2 = 0 then
              if p3 = 0 then
                some (I, J, N, (-2 : Int32))
              else
                Lm_arm_41 a0 p1 p2 p3 I J N
            else
              Lm_arm_41 a0 p1 p2 p3 I J N
          else
            some (I, J, N, (-2 : Int32))
def Lm_arm  (a0 : Nat) (p1 : Int32) (p2 : Int32) (p3 : Int32) (I : HI) (J : HJ) (N : HN) : Option (HI × HJ × HN × Int32) := Lm_arm_0 a0 p1 p2 p3 I J N
def Lm_back_0  (a0 : Nat) (I : HI) (J : HJ) (N : HN) : Option (HI × HJ × HN × Int32) :=
  rq Tc nC (N a0 1) (0, 3) fun b1 =>
  if (I b1 1) = 0 then
    some (I, J, N, (-3 : Int32))
  else
    rq Tc nC (N a0 1) (0, 3) fun b3 =>
    bn1 (La_dropLast b3 I) fun I4 =>
    bn3 (Lm_ladderChanged a0 I4 J N) fun I6 J7 N8 =>
    rq Tc nC (N8 a0 1) (0, 3) fun b10 =>
    some (I6, J7, N8, I6 b10 1)
def Lm_back  (a0 : Nat) (I : HI) (J : HJ) (N : HN) : Option (HI × HJ × HN × Int32) := Lm_back_0 a0 I J N
def Lm_would_69  (a0 : Nat) (p1 : Int32) (I : HI) (J : HJ) (N : HN) (bs0 : Nat) (bs1 : Nat) (s2 : Int32) : Option (HI × HJ × HN × Int32) :=
  bn4 (Un_divideByPoles bs0 bs1 s2 I J N) fun I1 J2 N3 r4 =>
  some (I1, J2, N3, r4)
def Lm_would_47  (a0 : Nat) (p1 : Int32) (I : HI) (J : HJ) (N : HN) (bs0 : Nat) (bs1 : Nat) (s2 : Int32) : Option (HI × HJ × HN × Int32) :=
  bn4 (Un_divideOn bs0 bs1 s2 I J N) fun I1 J2 N3 r4 =>
  some (I1, J2, N3, r4)
def Lm_would_0  (a0 : Nat) (p1 : Int32) (I : HI) (J : HJ) (N : HN) : Option (HI × HJ × HN × Int32) :=
  if p1 < 0 then
    some (I, J, N, (-2 : Int32))
  else
    if p1 < (4 : Int32) then
      rq Tc nC (N a0 0) (0, 5) fun b3 =>
      bn1 (Pa_isLawful J N b3) fun r4 =>
      if r4 = 0 then
        some (I, J, N, (-3 : Int32))
      else
        if (1 : Int32) < p1 then
          rq Tc nC (N a0 3) (0, 9) fun b8 =>
          rq Tc nC (N a0 0) (0, 5) fun b9 =>
          if p1 = (2 : Int32) then
            Lm_would_69 a0 p1 I J N b8 b9 (0 : Int32)
          else
            Lm_would_69 a0 p1 I J N b8 b9 (1 : Int32)
        else
          rq Tc nC (N a0 3) (0, 9) fun b11 =>
          rq Tc nC (N a0 0) (0, 5) fun b12 =>
          if p1 = 0 then
            Lm_would_47 a0 p1 I J N b11 b12 (1 : Int32)
          else
            Lm_would_47 a0 p1 I J N b11 b12 (0 : Int32)
    else
      some (I, J, N, (-2 : Int32))
def Lm_would  (a0 : Nat) (p1 : Int32) (I : HI) (J : HJ) (N : HN) : Option (HI × HJ × HN × Int32) := Lm_would_0 a0 p1 I J N
def Lm_unfold_0  (a0 : Nat) (p1 : Int32) (I : HI) (J : HJ) (N : HN) : Option (HI × HJ × HN × Int32) :=
  bn4 (Lm_would a0 p1 I J N) fun I1 J2 N3 r4 =>
  if r4 < 0 then
    some (I1, J2, N3, r4)
  else
    rq Tc nC (N3 a0 1) (0, 3) fun b7 =>
    rq Tc nC (N3 a0 3) (0, 9) fun b8 =>
    rq Tc nC (N3 b8 0) (0, 3) fun b9 =>
    bn1 (La_load N3 b7 b9 I1) fun I10 =>
    bn3 (Lm_ladderChanged a0 I10 J2 N3) fun I12 J13 N14 =>
    some (I12, J13, N14, r4)
def Lm_unfold  (a0 : Nat) (p1 : Int32) (I : HI) (J : HJ) (N : HN) : Option (HI × HJ × HN × Int32) := Lm_unfold_0 a0 p1 I J N
def Lm_element_0 (I : HI) (N : HN) (a0 : Nat) (p1 : Int32) (p2 : Int32) : Option (Int32) :=
  if p1 < 0 then
    some (-2 : Int32)
  else
    rq Tc nC (N a0 1) (0, 3) fun b2 =>
    if (I b2 1) ≤ p1 then
      some (-2 : Int32)
    else
      if p2 < 0 then
        some (-2 : Int32)
      else
        if p2 < (5 : Int32) then
          rq Tc nC (N a0 1) (0, 3) fun b6 =>
          bn1 (La_item I N b6 p1 p2) fun r7 =>
          some r7
        else
          some (-2 : Int32)
def Lm_element (I : HI) (N : HN) (a0 : Nat) (p1 : Int32) (p2 : Int32) : Option (Int32) := Lm_element_0 I N a0 p1 p2
def Lm_fold_0 (I : HI) (J : HJ) (N : HN) (a0 : Nat) (p1 : Int32) (p2 : Int32) : Option (Int64) :=
  bn1 (Lm_isPlace p1) fun r1 =>
  if r1 = 0 then
    some (0 : Int64)
  else
    bn1 (Lm_isPower p2) fun r4 =>
    if r4 = 0 then
      some (0 : Int64)
    else
      rq Tc nC (N a0 1) (0, 3) fun b7 =>
      if (I b7 1) = 0 then
        some (0 : Int64)
      else
        rq Tc nC (N a0 2) (0, 1) fun b9 =>
        rq Tc nC (N b9 0) (0, 5) fun b10 =>
        bn1 (Pa_side N b10 p1) fun b11 =>
        gd (decide (b11 < nC ∧ Tc b11 = (0, 6))) <|
        bn1 (Po_at J N b11 p2) fun r13 =>
        some r13
def Lm_fold (I : HI) (J : HJ) (N : HN) (a0 : Nat) (p1 : Int32) (p2 : Int32) : Option (Int64) := Lm_fold_0 I J N a0 p1 p2
def Lm_alike_0 (I : HI) (J : HJ) (N : HN) (a0 : Nat) : Option (Int32) :=
  rq Tc nC (N a0 1) (0, 3) fun b1 =>
  if (I b1 1) = 0 then
    some (-3 : Int32)
  else
    rq Tc nC (N a0 0) (0, 5) fun b3 =>
    bn1 (Pa_side N b3 (1 : Int32)) fun b4 =>
    gd (decide (b4 < nC ∧ Tc b4 = (0, 6))) <|
    bn1 (Po_degree J N b4) fun r6 =>
    if r6 = (-1 : Int32) then
      some (-3 : Int32)
    else
      rq Tc nC (N a0 2) (0, 1) fun b9 =>
      rq Tc nC (N b9 0) (0, 5) fun b10 =>
      rq Tc nC (N a0 0) (0, 5) fun b11 =>
      bn1 (Pa_isFractionOf J N b10 b11) fun r12 =>
      if r12 = 0 then
        some (0 : Int32)
      else
        some (1 : Int32)
def Lm_alike (I : HI) (J : HJ) (N : HN) (a0 : Nat) : Option (Int32) := Lm_alike_0 I J N a0
def Lm_take_15b (I : HI) (N : HN) (a0 : Nat) (k15 : HJ → Int32 → Option (HJ × Int32)) (J : HJ) (x1 : Int32) : Option (HJ × Int32) :=
  if (14 : Int32) ≤ x1 then
    rq Tc nC (N a0 0) (0, 5) fun b2 =>
    rq Tc nC (N a0 2) (0, 1) fun b3 =>
    rq Tc nC (N b3 0) (0, 5) fun b4 =>
    bn1 (Pa_load N b2 b4 J) fun J5 =>
    rq Tc nC (N a0 0) (0, 5) fun b7 =>
    bn1 (Pa_greaterDegree J5 N b7) fun r8 =>
    some (J5, r8)
  else
    rq Tc nC (N a0 2) (0, 1) fun b10 =>
    rq Tc nC (N b10 0) (0, 5) fun b11 =>
    bn1 (Pa_number J N b11 x1) fun r12 =>
    bn1 (Lm_isWishNumber r12) fun r14 =>
    if r14 = 0 then
      some (J, (-5 : Int32))
    else
      k15 J (x1 + 1)
def Lm_take_15 (I : HI) (N : HN) (a0 : Nat) : Nat → HJ → Int32 → Option (HJ × Int32)
  | 0 => fun _ _ => none
  | n + 1 => Lm_take_15b I N a0 (Lm_take_15 I N a0 n)
def Lm_take_0 (I : HI) (N : HN) (a0 : Nat) (J : HJ) : Option (HJ × Int32) :=
  rq Tc nC (N a0 1) (0, 3) fun b1 =>
  if (I b1 1) = 0 then
    some (J, (-3 : Int32))
  else
    Lm_take_15 I N a0 256 J (0 : Int32)
def Lm_take (I : HI) (N : HN) (a0 : Nat) (J : HJ) : Option (HJ × Int32) := Lm_take_0 I N a0 J
def Lm_bill_0 (I : HI) (N : HN) (a0 : Nat) (p1 : Int32) (p2 : Int32) : Option (Int32) :=
  if p1 < 0 then
    some (-2 : Int32)
  else
    rq Tc nC (N a0 4) (0, 0) fun b2 =>
    if (I b2 1) ≤ p1 then
      some (-2 : Int32)
    else
      if p2 < 0 then
        some (-2 : Int32)
      else
        if p2 < (4 : Int32) then
          rq Tc nC (N a0 4) (0, 0) fun b6 =>
          bn1 (Bi_item I N b6 p1 p2) fun r7 =>
          some r7
        else
          some (-2 : Int32)
def Lm_bill (I : HI) (N : HN) (a0 : Nat) (p1 : Int32) (p2 : Int32) : Option (Int32) := Lm_bill_0 I N a0 p1 p2
def Lm_values_0 (I : HI) (N : HN) (a0 : Nat) : Option (Int32) :=
  rq Tc nC (N a0 4) (0, 0) fun b1 =>
  bn1 (Bi_differentValues I N b1) fun r2 =>
  some r2
def Lm_values (I : HI) (N : HN) (a0 : Nat) : Option (Int32) := Lm_values_0 I N a0
def Lm_keep_0 (N : HN) (a0 : Nat) (I : HI) (J : HJ) : Option (HI × HJ × Int32) :=
  rq Tc nC (N a0 5) (0, 4) fun b1 =>
  rq Tc nC (N a0 0) (0, 5) fun b2 =>
  bn3 (Me_keepOnce N b1 b2 I J) fun I3 J4 r5 =>
  some (I3, J4, r5)
def Lm_keep (N : HN) (a0 : Nat) (I : HI) (J : HJ) : Option (HI × HJ × Int32) := Lm_keep_0 N a0 I J
def Lm_find_0 (I : HI) (N : HN) (a0 : Nat) (J : HJ) : Option (HJ × Int32) :=
  rq Tc nC (N a0 5) (0, 4) fun b1 =>
  rq Tc nC (N a0 0) (0, 5) fun b2 =>
  bn2 (Me_numberOf I N b1 b2 J) fun J3 r4 =>
  some (J3, r4)
def Lm_find (I : HI) (N : HN) (a0 : Nat) (J : HJ) : Option (HJ × Int32) := Lm_find_0 I N a0 J
def Lm_kept_0 (I : HI) (N : HN) (a0 : Nat) (p1 : Int32) (p2 : Int32) : Option (Int32) :=
  rq Tc nC (N a0 5) (0, 4) fun b1 =>
  bn1 (Me_holds I b1 p1) fun r2 =>
  if r2 = 0 then
    some (-2147483648 : Int32)
  else
    if p2 < 0 then
      some (-2147483648 : Int32)
    else
      if p2 < (15 : Int32) then
        rq Tc nC (N a0 5) (0, 4) fun b7 =>
        bn1 (Me_item I N b7 p1 p2) fun r8 =>
        some r8
      else
        some (-2147483648 : Int32)
def Lm_kept (I : HI) (N : HN) (a0 : Nat) (p1 : Int32) (p2 : Int32) : Option (Int32) := Lm_kept_0 I N a0 p1 p2
def Lm_recall_16b (I : HI) (N : HN) (a0 : Nat) (p1 : Int32) (k16 : HJ → Int32 → Option (HJ × Int32)) (J : HJ) (x2 : Int32) : Option (HJ × Int32) :=
  if (14 : Int32) ≤ x2 then
    rq Tc nC (N a0 5) (0, 4) fun b2 =>
    bn1 (Me_item I N b2 p1 (0 : Int32)) fun r3 =>
    some (J, r3)
  else
    rq Tc nC (N a0 0) (0, 5) fun b5 =>
    rq Tc nC (N a0 5) (0, 4) fun b6 =>
    bn1 (Me_item I N b6 p1 ((1 : Int32) + x2)) fun r7 =>
    bn1 (Pa_putNumber N b5 x2 r7.toInt64 J) fun J9 =>
    k16 J9 (x2 + 1)
def Lm_recall_16 (I : HI) (N : HN) (a0 : Nat) (p1 : Int32) : Nat → HJ → Int32 → Option (HJ × Int32)
  | 0 => fun _ _ => none
  | n + 1 => Lm_recall_16b I N a0 p1 (Lm_recall_16 I N a0 p1 n)
def Lm_recall_0 (I : HI) (N : HN) (a0 : Nat) (p1 : Int32) (J : HJ) : Option (HJ × Int32) :=
  rq Tc nC (N a0 5) (0, 4) fun b1 =>
  bn1 (Me_holds I b1 p1) fun r2 =>
  if r2 = 0 then
    some (J, (-2 : Int32))
  else
    Lm_recall_16 I N a0 p1 256 J (0 : Int32)
def Lm_recall (I : HI) (N : HN) (a0 : Nat) (p1 : Int32) (J : HJ) : Option (HJ × Int32) := Lm_recall_0 I N a0 p1 J
def Lm_sheet_0 (N : HN) (a0 : Nat) (p1 : Int32) (p2 : Int32) (I : HI) (J : HJ) : Option (HI × HJ × Int32) :=
  rq Tc nC (N a0 6) (0, 8) fun b1 =>
  bn1 (Sh_isSheet b1 p1) fun r2 =>
  if r2 = 0 then
    some (I, J, (-2 : Int32))
  else
    if p2 ≤ (40 : Int32) then
      if 0 ≤ p2 then
        rq Tc nC (N a0 6) (0, 8) fun b7 =>
        bn2 (Sh_renew N b7 p1 p2 I J) fun I8 J9 =>
        some (I8, J9, p2)
      else
        bn2 (Lm_finding a0 (3 : Int32) I) fun I11 r12 =>
        some (I11, J, r12)
    else
      some (I, J, (-2 : Int32))
def Lm_sheet (N : HN) (a0 : Nat) (p1 : Int32) (p2 : Int32) (I : HI) (J : HJ) : Option (HI × HJ × Int32) := Lm_sheet_0 N a0 p1 p2 I J
def Lm_lose_0 (N : HN) (a0 : Nat) (p1 : Int32) (I : HI) : Option (HI × Int32) :=
  bn2 (Lm_sheetRefusal N a0 p1 I) fun I1 r2 =>
  if r2 = 0 then
    rq Tc nC (N a0 6) (0, 8) fun b5 =>
    bn1 (Sh_size I1 N b5 p1) fun r6 =>
    rq Tc nC (N a0 6) (0, 8) fun b8 =>
    bn1 (Sh_forget N b8 p1 I1) fun I9 =>
    some (I9, r6)
  else
    some (I1, r2)
def Lm_lose (N : HN) (a0 : Nat) (p1 : Int32) (I : HI) : Option (HI × Int32) := Lm_lose_0 N a0 p1 I
def Lm_itemRefusal_0 (N : HN) (a0 : Nat) (p1 : Int32) (p2 : Int32) (I : HI) : Option (HI × Int32) :=
  bn2 (Lm_sheetRefusal N a0 p1 I) fun I1 r2 =>
  if r2 = 0 then
    rq Tc nC (N a0 6) (0, 8) fun b5 =>
    bn1 (Sh_hasRun I1 N b5 p1 p2 (1 : Int32)) fun r6 =>
    if r6 = 0 then
      bn2 (Lm_finding a0 (2 : Int32) I1) fun I9 r10 =>
      some (I9, r10)
    else
      some (I1, (0 : Int32))
  else
    some (I1, r2)
def Lm_itemRefusal (N : HN) (a0 : Nat) (p1 : Int32) (p2 : Int32) (I : HI) : Option (HI × Int32) := Lm_itemRefusal_0 N a0 p1 p2 I
def Lm_lay_0 (N : HN) (a0 : Nat) (p1 : Int32) (p2 : Int32) (p3 : Int32) (I : HI) (J : HJ) : Option (HI × HJ × Int32) :=
  bn2 (Lm_itemRefusal N a0 p1 p2 I) fun I1 r2 =>
  if r2 = 0 then
    rq Tc nC (N a0 6) (0, 8) fun b5 =>
    bn1 (Sh_put I1 N b5 p1 p2 p3.toInt64 J) fun J6 =>
    some (I1, J6, (1 : Int32))
  else
    some (I1, J, r2)
def Lm_lay (N : HN) (a0 : Nat) (p1 : Int32) (p2 : Int32) (p3 : Int32) (I : HI) (J : HJ) : Option (HI × HJ × Int32) := Lm_lay_0 N a0 p1 p2 p3 I J
def Lm_get_0 (J : HJ) (N : HN) (a0 : Nat) (p1 : Int32) (p2 : Int32) (I : HI) : Option (HI × Int64) :=
  bn2 (Lm_itemRefusal N a0 p1 p2 I) fun I1 r2 =>
  if r2 = 0 then
    rq Tc nC (N a0 6) (0, 8) fun b5 =>
    bn1 (Sh_item I1 J N b5 p1 p2) fun r6 =>
    some (I1, r6)
  else
    bn1 (Lm_asLong r2) fun r8 =>
    some (I1, r8)
def Lm_get (J : HJ) (N : HN) (a0 : Nat) (p1 : Int32) (p2 : Int32) (I : HI) : Option (HI × Int64) := Lm_get_0 J N a0 p1 p2 I
def Lm_copy_82 (N : HN) (a0 : Nat) (p1 : Int32) (p2 : Int32) (p3 : Int32) (p4 : Int32) (p5 : Int32) (I : HI) (J : HJ) : Option (HI × HJ × Int32) :=
  bn2 (Lm_finding a0 (2 : Int32) I) fun I1 r2 =>
  some (I1, J, r2)
def Lm_copy_47 (N : HN) (a0 : Nat) (p1 : Int32) (p2 : Int32) (p3 : Int32) (p4 : Int32) (p5 : Int32) (I : HI) (J : HJ) : Option (HI × HJ × Int32) :=
  bn2 (Lm_finding a0 (1 : Int32) I) fun I1 r2 =>
  some (I1, J, r2)
def Lm_copy_0 (N : HN) (a0 : Nat) (p1 : Int32) (p2 : Int32) (p3 : Int32) (p4 : Int32) (p5 : Int32) (I : HI) (J : HJ) : Option (HI × HJ × Int32) :=
  rq Tc nC (N a0 6) (0, 8) fun b1 =>
  bn1 (Sh_isSheet b1 p1) fun r2 =>
  if r2 = 0 then
    some (I, J, (-2 : Int32))
  else
    rq Tc nC (N a0 6) (0, 8) fun b5 =>
    bn1 (Sh_isSheet b5 p3) fun r6 =>
    if r6 = 0 then
      some (I, J, (-2 : Int32))
    else
      rq Tc nC (N a0 6) (0, 8) fun b9 =>
      bn1 (Sh_isLost I N b9 p1) fun r10 =>
      if r10 = 0 then
        rq Tc nC (N a0 6) (0, 8) fun b13 =>
        bn1 (Sh_isLost I N b13 p3) fun r14 =>
        if r14 = 0 then
          rq Tc nC (N a0 6) (0, 8) fun b17 =>
          bn1 (Sh_hasRun I N b17 p1 p2 p5) fun r18 =>
          if r18 = 0 then
            Lm_copy_82 N a0 p1 p2 p3 p4 p5 I J
          else
            rq Tc nC (N a0 6) (0, 8) fun b21 =>
            bn1 (Sh_hasRun I N b21 p3 p4 p5) fun r22 =>
            if r22 = 0 then
              Lm_copy_82 N a0 p1 p2 p3 p4 p5 I J
            else
              rq Tc nC (N a0 6) (0, 8) fun b25 =>
              bn1 (Sh_move I N b25 p1 p2 p3 p4 p5 J) fun J26 =>
              some (I, J26, (1 : Int32))
        else
          Lm_copy_47 N a0 p1 p2 p3 p4 p5 I J
      else
        Lm_copy_47 N a0 p1 p2 p3 p4 p5 I J
def Lm_copy (N : HN) (a0 : Nat) (p1 : Int32) (p2 : Int32) (p3 : Int32) (p4 : Int32) (p5 : Int32) (I : HI) (J : HJ) : Option (HI × HJ × Int32) := Lm_copy_0 N a0 p1 p2 p3 p4 p5 I J
def Lm_write_36b (N : HN) (a0 : Nat) (p1 : Int32) (k36 : HI → HJ → Int32 → Int32 → Option (HI × HJ × Int32)) (I : HI) (J : HJ) (x3 : Int32) (x4 : Int32) : Option (HI × HJ × Int32) :=
  if x3 ≤ x4 then
    some (I, J, x3)
  else
    rq Tc nC (N a0 6) (0, 8) fun b2 =>
    rq Tc nC (N a0 1) (0, 3) fun b3 =>
    bn1 (La_item I N b3 (x4 / (5 : Int32)) (x4 - x4 / (5 : Int32) * (5 : Int32))) fun r4 =>
    bn1 (Sh_put I N b2 p1 x4 r4.toInt64 J) fun J6 =>
    k36 I J6 x3 (x4 + 1)
def Lm_write_36 (N : HN) (a0 : Nat) (p1 : Int32) : Nat → HI → HJ → Int32 → Int32 → Option (HI × HJ × Int32)
  | 0 => fun _ _ _ _ => none
  | n + 1 => Lm_write_36b N a0 p1 (Lm_write_36 N a0 p1 n)
def Lm_write_0 (N : HN) (a0 : Nat) (p1 : Int32) (I : HI) (J : HJ) : Option (HI × HJ × Int32) :=
  bn2 (Lm_sheetRefusal N a0 p1 I) fun I1 r2 =>
  if r2 = 0 then
    rq Tc nC (N a0 6) (0, 8) fun b5 =>
    bn1 (Sh_size I1 N b5 p1) fun r6 =>
    rq Tc nC (N a0 1) (0, 3) fun b8 =>
    bd (if ((I1 b8 1) * (5 : Int32)) < r6 then ((I1 b8 1) * (5 : Int32)) else r6) fun v9 =>
    Lm_write_36 N a0 p1 256 I1 J v9 (0 : Int32)
  else
    some (I1, J, r2)
def Lm_write (N : HN) (a0 : Nat) (p1 : Int32) (I : HI) (J : HJ) : Option (HI × HJ × Int32) := Lm_write_0 N a0 p1 I J
def Lm_count_0 (I : HI) (J : HJ) (N : HN) (a0 : Nat) (p1 : Int32) : Option (Int32) :=
  if p1 = (0 : Int32) then
    rq Tc nC (N a0 1) (0, 3) fun b2 =>
    some (I b2 1)
  else
  if p1 = (1 : Int32) then
    rq Tc nC (N a0 1) (0, 3) fun b4 =>
    bn1 (La_valueCount I N b4) fun r5 =>
    some r5
  else
  if p1 = (2 : Int32) then
    rq Tc nC (N a0 0) (0, 5) fun b8 =>
    bn1 (Pa_isLawful J N b8) fun r9 =>
    if r9 = 0 then
      some (0 : Int32)
    else
      some (1 : Int32)
  else
  if p1 = (3 : Int32) then
    rq Tc nC (N a0 4) (0, 0) fun b13 =>
    some (I b13 1)
  else
  if p1 = (4 : Int32) then
    rq Tc nC (N a0 5) (0, 4) fun b15 =>
    some (I b15 2)
  else
  if p1 = (5 : Int32) then
    rq Tc nC (N a0 5) (0, 4) fun b17 =>
    bn1 (Me_timesOfAll I N b17) fun r18 =>
    some r18
  else
  if p1 = (6 : Int32) then
    bn1 (Lm_alike I J N a0) fun r21 =>
    some r21
  else
  if p1 = (7 : Int32) then
    rq Tc nC (N a0 6) (0, 8) fun b24 =>
    bn1 (Sh_notLost I N b24) fun r25 =>
    some r25
  else
  if p1 = (8 : Int32) then
    some (I a0 8)
  else
  some (-2 : Int32)
def Lm_count (I : HI) (J : HJ) (N : HN) (a0 : Nat) (p1 : Int32) : Option (Int32) := Lm_count_0 I J N a0 p1
def Lm_digestOfRows_148b (I : HI) (N : HN) (a0 : Nat) (p1 : Int64) (k133 : HJ → Int64 → Int32 → Option (HJ × Int64)) (k148 : HJ → Int64 → Int32 → Int32 → Option (HJ × Int64)) (J : HJ) (x3 : Int64) (x5 : Int32) (x6 : Int32) : Option (HJ × Int64) :=
  if (15 : Int32) ≤ x6 then
    k133 J x3 (x5 + 1)
  else
    bn1 (Lm_kept I N a0 x5 x6) fun r2 =>
    bd (((31 : Int64) * x3) + r2.toInt64) fun v4 =>
    k148 J v4 x5 (x6 + 1)
def Lm_digestOfRows_148 (I : HI) (N : HN) (a0 : Nat) (p1 : Int64) (k133 : HJ → Int64 → Int32 → Option (HJ × Int64)) : Nat → HJ → Int64 → Int32 → Int32 → Option (HJ × Int64)
  | 0 => fun _ _ _ _ => none
  | n + 1 => Lm_digestOfRows_148b I N a0 p1 k133 (Lm_digestOfRows_148 I N a0 p1 k133 n)
def Lm_digestOfRows_133b (I : HI) (N : HN) (a0 : Nat) (p1 : Int64) (k133 : HJ → Int64 → Int32 → Option (HJ × Int64)) (J : HJ) (x3 : Int64) (x5 : Int32) : Option (HJ × Int64) :=
  rq Tc nC (N a0 5) (0, 4) fun b1 =>
  if (I b1 2) ≤ x5 then
    some (J, x3)
  else
    Lm_digestOfRows_148 I N a0 p1 k133 256 J x3 x5 (0 : Int32)
def Lm_digestOfRows_133 (I : HI) (N : HN) (a0 : Nat) (p1 : Int64) : Nat → HJ → Int64 → Int32 → Option (HJ × Int64)
  | 0 => fun _ _ _ => none
  | n + 1 => Lm_digestOfRows_133b I N a0 p1 (Lm_digestOfRows_133 I N a0 p1 n)
def Lm_digestOfRows_72b (I : HI) (N : HN) (a0 : Nat) (p1 : Int64) (k57 : HJ → Int64 → Int32 → Option (HJ × Int64)) (k72 : HJ → Int64 → Int32 → Int32 → Option (HJ × Int64)) (J : HJ) (x3 : Int64) (x5 : Int32) (x6 : Int32) : Option (HJ × Int64) :=
  if (4 : Int32) ≤ x6 then
    k57 J x3 (x5 + 1)
  else
    bn1 (Lm_bill I N a0 x5 x6) fun r2 =>
    bd (((31 : Int64) * x3) + r2.toInt64) fun v4 =>
    k72 J v4 x5 (x6 + 1)
def Lm_digestOfRows_72 (I : HI) (N : HN) (a0 : Nat) (p1 : Int64) (k57 : HJ → Int64 → Int32 → Option (HJ × Int64)) : Nat → HJ → Int64 → Int32 → Int32 → Option (HJ × Int64)
  | 0 => fun _ _ _ _ => none
  | n + 1 => Lm_digestOfRows_72b I N a0 p1 k57 (Lm_digestOfRows_72 I N a0 p1 k57 n)
def Lm_digestOfRows_57b (I : HI) (N : HN) (a0 : Nat) (p1 : Int64) (k57 : HJ → Int64 → Int32 → Option (HJ × Int64)) (J : HJ) (x3 : Int64) (x5 : Int32) : Option (HJ × Int64) :=
  rq Tc nC (N a0 4) (0, 0) fun b1 =>
  if (I b1 1) ≤ x5 then
    bn1 (Lm_values I N a0) fun r3 =>
    bd (((31 : Int64) * x3) + r3.toInt64) fun v5 =>
    bn2 (Lm_find I N a0 J) fun J6 r7 =>
    bd (((31 : Int64) * v5) + r7.toInt64) fun v9 =>
    Lm_digestOfRows_133 I N a0 p1 256 J6 v9 (0 : Int32)
  else
    Lm_digestOfRows_72 I N a0 p1 k57 256 J x3 x5 (0 : Int32)
def Lm_digestOfRows_57 (I : HI) (N : HN) (a0 : Nat) (p1 : Int64) : Nat → HJ → Int64 → Int32 → Option (HJ × Int64)
  | 0 => fun _ _ _ => none
  | n + 1 => Lm_digestOfRows_57b I N a0 p1 (Lm_digestOfRows_57 I N a0 p1 n)
def Lm_digestOfRows_20b (I : HI) (N : HN) (a0 : Nat) (p1 : Int64) (k5 : HJ → Int64 → Int32 → Option (HJ × Int64)) (k20 : HJ → Int64 → Int32 → Int32 → Option (HJ × Int64)) (J : HJ) (x3 : Int64) (x5 : Int32) (x6 : Int32) : Option (HJ × Int64) :=
  if (5 : Int32) ≤ x6 then
    k5 J x3 (x5 + 1)
  else
    bn1 (Lm_element I N a0 x5 x6) fun r2 =>
    bd (((31 : Int64) * x3) + r2.toInt64) fun v4 =>
    k20 J v4 x5 (x6 + 1)
def Lm_digestOfRows_20 (I : HI) (N : HN) (a0 : Nat) (p1 : Int64) (k5 : HJ → Int64 → Int32 → Option (HJ × Int64)) : Nat → HJ → Int64 → Int32 → Int32 → Option (HJ × Int64)
  | 0 => fun _ _ _ _ => none
  | n + 1 => Lm_digestOfRows_20b I N a0 p1 k5 (Lm_digestOfRows_20 I N a0 p1 k5 n)
def Lm_digestOfRows_5b (I : HI) (N : HN) (a0 : Nat) (p1 : Int64) (k5 : HJ → Int64 → Int32 → Option (HJ × Int64)) (J : HJ) (x3 : Int64) (x5 : Int32) : Option (HJ × Int64) :=
  rq Tc nC (N a0 1) (0, 3) fun b1 =>
  if (I b1 1) ≤ x5 then
    Lm_digestOfRows_57 I N a0 p1 256 J x3 (0 : Int32)
  else
    Lm_digestOfRows_20 I N a0 p1 k5 256 J x3 x5 (0 : Int32)
def Lm_digestOfRows_5 (I : HI) (N : HN) (a0 : Nat) (p1 : Int64) : Nat → HJ → Int64 → Int32 → Option (HJ × Int64)
  | 0 => fun _ _ _ => none
  | n + 1 => Lm_digestOfRows_5b I N a0 p1 (Lm_digestOfRows_5 I N a0 p1 n)
def Lm_digestOfRows_0 (I : HI) (N : HN) (a0 : Nat) (p1 : Int64) (J : HJ) : Option (HJ × Int64) :=
  Lm_digestOfRows_5 I N a0 p1 256 J p1 (0 : Int32)
def Lm_digestOfRows (I : HI) (N : HN) (a0 : Nat) (p1 : Int64) (J : HJ) : Option (HJ × Int64) := Lm_digestOfRows_0 I N a0 p1 J
def Lm_digest_127b  (a0 : Nat) (k127 : HI → HJ → HN → Int64 → Int32 → Option (HI × HJ × HN × Int64)) (I : HI) (J : HJ) (N : HN) (x1 : Int64) (x3 : Int32) : Option (HI × HJ × HN × Int64) :=
  if (4 : Int32) ≤ x3 then
    bn2 (Lm_reactance N a0 (1 : Int32) (1 : Int32) (0 : Int32) J) fun J2 r3 =>
    bd (((31 : Int64) * x1) + r3) fun v5 =>
    bn2 (Lm_reactance N a0 (1 : Int32) (1 : Int32) (1 : Int32) J2) fun J6 r7 =>
    bd (((31 : Int64) * v5) + r7) fun v9 =>
    bn2 (Lm_reactance N a0 (3 : Int32) (2 : Int32) (0 : Int32) J6) fun J10 r11 =>
    bd (((31 : Int64) * v9) + r11) fun v13 =>
    bn2 (Lm_reactance N a0 (3 : Int32) (2 : Int32) (1 : Int32) J10) fun J14 r15 =>
    bd (((31 : Int64) * v13) + r15) fun v17 =>
    bn2 (Lm_digestOfRows I N a0 v17 J14) fun J18 r19 =>
    some (I, J18, N, r19)
  else
    bn4 (Lm_would a0 x3 I J N) fun I21 J22 N23 r24 =>
    bd (((31 : Int64) * x1) + r24.toInt64) fun v26 =>
    k127 I21 J22 N23 v26 (x3 + 1)
def Lm_digest_127  (a0 : Nat) : Nat → HI → HJ → HN → Int64 → Int32 → Option (HI × HJ × HN × Int64)
  | 0 => fun _ _ _ _ _ => none
  | n + 1 => Lm_digest_127b a0 (Lm_digest_127 a0 n)
def Lm_digest_101b  (a0 : Nat) (k101 : HI → HJ → HN → Int64 → Int32 → Option (HI × HJ × HN × Int64)) (I : HI) (J : HJ) (N : HN) (x1 : Int64) (x3 : Int32) : Option (HI × HJ × HN × Int64) :=
  if (4 : Int32) < x3 then
    Lm_digest_127 a0 256 I J N x1 (0 : Int32)
  else
    bn1 (Lm_info J N a0 x3) fun r2 =>
    bd (((31 : Int64) * x1) + r2.toInt64) fun v4 =>
    k101 I J N v4 (x3 + 1)
def Lm_digest_101  (a0 : Nat) : Nat → HI → HJ → HN → Int64 → Int32 → Option (HI × HJ × HN × Int64)
  | 0 => fun _ _ _ _ _ => none
  | n + 1 => Lm_digest_101b a0 (Lm_digest_101 a0 n)
def Lm_digest_33b  (a0 : Nat) (k33 : HI → HJ → HN → Int64 → Int32 → Option (HI × HJ × HN × Int64)) (I : HI) (J : HJ) (N : HN) (x1 : Int64) (x3 : Int32) : Option (HI × HJ × HN × Int64) :=
  if (7 : Int32) ≤ x3 then
    Lm_digest_101 a0 256 I J N x1 (0 : Int32)
  else
    bn1 (Lm_told J N a0 (0 : Int32) x3) fun r2 =>
    bd (((31 : Int64) * x1) + r2.toInt64) fun v4 =>
    bn1 (Lm_told J N a0 (1 : Int32) x3) fun r5 =>
    bd (((31 : Int64) * v4) + r5.toInt64) fun v7 =>
    bn1 (Lm_fold I J N a0 (0 : Int32) x3) fun r8 =>
    bd (((31 : Int64) * v7) + r8) fun v10 =>
    bn1 (Lm_fold I J N a0 (1 : Int32) x3) fun r11 =>
    bd (((31 : Int64) * v10) + r11) fun v13 =>
    k33 I J N v13 (x3 + 1)
def Lm_digest_33  (a0 : Nat) : Nat → HI → HJ → HN → Int64 → Int32 → Option (HI × HJ × HN × Int64)
  | 0 => fun _ _ _ _ _ => none
  | n + 1 => Lm_digest_33b a0 (Lm_digest_33 a0 n)
def Lm_digest_6b  (a0 : Nat) (k6 : HI → HJ → HN → Int64 → Int32 → Option (HI × HJ × HN × Int64)) (I : HI) (J : HJ) (N : HN) (x1 : Int64) (x3 : Int32) : Option (HI × HJ × HN × Int64) :=
  if (7 : Int32) < x3 then
    Lm_digest_33 a0 256 I J N x1 (0 : Int32)
  else
    bn1 (Lm_count I J N a0 x3) fun r2 =>
    bd (((31 : Int64) * x1) + r2.toInt64) fun v4 =>
    k6 I J N v4 (x3 + 1)
def Lm_digest_6  (a0 : Nat) : Nat → HI → HJ → HN → Int64 → Int32 → Option (HI × HJ × HN × Int64)
  | 0 => fun _ _ _ _ _ => none
  | n + 1 => Lm_digest_6b a0 (Lm_digest_6 a0 n)
def Lm_digest_0  (a0 : Nat) (I : HI) (J : HJ) (N : HN) : Option (HI × HJ × HN × Int64) :=
  Lm_digest_6 a0 256 I J N (17 : Int64) (0 : Int32)
def Lm_digest  (a0 : Nat) (I : HI) (J : HJ) (N : HN) : Option (HI × HJ × HN × Int64) := Lm_digest_0 a0 I J N
def Mo_in_0  (p0 : Int64) (p2 : Int64) (p4 : Int64) : Option (Int32) :=
  if p0 < p2 then
    some (0 : Int32)
  else
    if p4 < p0 then
      some (0 : Int32)
    else
      some (1 : Int32)
def Mo_in  (p0 : Int64) (p2 : Int64) (p4 : Int64) : Option (Int32) := Mo_in_0 p0 p2 p4
def Mo_isTwo_0  (p0 : Int32) : Option (Int32) :=
  bn1 (Mo_in p0.toInt64 (0 : Int64) (1 : Int64)) fun r1 =>
  gd (isB r1) <|
  some r1
def Mo_isTwo  (p0 : Int32) : Option (Int32) := Mo_isTwo_0 p0
def Mo_no_0  (p0 : Int32) : Option (Int64) :=
  some ((-9223372036854775808 : Int64) - p0.toInt64)
def Mo_no  (p0 : Int32) : Option (Int64) := Mo_no_0 p0
def Mo_greater_0  (p0 : Int32) (p1 : Int32) : Option (Int32) :=
  if p0 ≤ p1 then
    some p1
  else
    some p0
def Mo_greater  (p0 : Int32) (p1 : Int32) : Option (Int32) := Mo_greater_0 p0 p1
def Mo_lesser_0  (p0 : Int32) (p1 : Int32) : Option (Int32) :=
  if p1 ≤ p0 then
    some p1
  else
    some p0
def Mo_lesser  (p0 : Int32) (p1 : Int32) : Option (Int32) := Mo_lesser_0 p0 p1
def Mo_divisor_33b  (p0 : Int64) (p2 : Int64) (k33 : Int64 → Int64 → Int32 → Option (Int64)) (x4 : Int64) (x6 : Int64) (x8 : Int32) : Option (Int64) :=
  if (200 : Int32) ≤ x8 then
    some x4
  else
    if x6 = (0 : Int64) then
      some x4
    else
      gd (decide (¬ x6 = 0)) <|
      bd (x4 - x4 / x6 * x6) fun v4 =>
      k33 x6 v4 (x8 + 1)
def Mo_divisor_33  (p0 : Int64) (p2 : Int64) : Nat → Int64 → Int64 → Int32 → Option (Int64)
  | 0 => fun _ _ _ => none
  | n + 1 => Mo_divisor_33b p0 p2 (Mo_divisor_33 p0 p2 n)
def Mo_divisor_28  (p0 : Int64) (p2 : Int64) (x4 : Int64) (s0 : Int64) : Option (Int64) :=
  Mo_divisor_33 p0 p2 256 x4 s0 (0 : Int32)
def Mo_divisor_13  (p0 : Int64) (p2 : Int64) (s0 : Int64) : Option (Int64) :=
  if (0 : Int64) ≤ p2 then
    Mo_divisor_28 p0 p2 s0 p2
  else
    Mo_divisor_28 p0 p2 s0 ((0 : Int64) - p2)
def Mo_divisor_0  (p0 : Int64) (p2 : Int64) : Option (Int64) :=
  if (0 : Int64) ≤ p0 then
    Mo_divisor_13 p0 p2 p0
  else
    Mo_divisor_13 p0 p2 ((0 : Int64) - p0)
def Mo_divisor  (p0 : Int64) (p2 : Int64) : Option (Int64) := Mo_divisor_0 p0 p2
def Mo_finds_0  (a0 : Nat) (p1 : Int32) (I : HI) : Option (HI × Int32) :=
  bd (up2 I a0 0 p1) fun I1 =>
  some (I1, (-10 : Int32) - p1)
def Mo_finds  (a0 : Nat) (p1 : Int32) (I : HI) : Option (HI × Int32) := Mo_finds_0 a0 p1 I
def Mo_isSheet_0  (p0 : Int32) : Option (Int32) :=
  bn1 (Mo_in p0.toInt64 (0 : Int64) (2 : Int64)) fun r1 =>
  gd (isB r1) <|
  some r1
def Mo_isSheet  (p0 : Int32) : Option (Int32) := Mo_isSheet_0 p0
def Mo_sheet_35b (N : HN) (a0 : Nat) (p1 : Int32) (p2 : Int32) (k35 : HI → HJ → Int32 → Option (HI × HJ × Int32)) (I : HI) (J : HJ) (x3 : Int32) : Option (HI × HJ × Int32) :=
  if p2 ≤ x3 then
    some (I, J, p2)
  else
    ra Tm nM (N a0 2) 2 fun b2 =>
    gd (inb (((40 : Int32) * p1) + x3) (Tm b2).2) <|
    bd (up2 J b2 (((40 : Int32) * p1) + x3).toNatClampNeg (0 : Int64)) fun J4 =>
    k35 I J4 (x3 + 1)
def Mo_sheet_35 (N : HN) (a0 : Nat) (p1 : Int32) (p2 : Int32) : Nat → HI → HJ → Int32 → Option (HI × HJ × Int32)
  | 0 => fun _ _ _ => none
  | n + 1 => Mo_sheet_35b N a0 p1 p2 (Mo_sheet_35 N a0 p1 p2 n)
def Mo_sheet_0 (N : HN) (a0 : Nat) (p1 : Int32) (p2 : Int32) (I : HI) (J : HJ) : Option (HI × HJ × Int32) :=
  bn1 (Mo_isSheet p1) fun r1 =>
  if r1 = 0 then
    some (I, J, (-2 : Int32))
  else
    if p2 ≤ (40 : Int32) then
      if 0 ≤ p2 then
        ra Tm nM (N a0 1) 1 fun b6 =>
        gd (inb p1 (Tm b6).2) <|
        bd (up2 I b6 p1.toNatClampNeg p2) fun I8 =>
        Mo_sheet_35 N a0 p1 p2 256 I8 J (0 : Int32)
      else
        bn2 (Mo_finds a0 (3 : Int32) I) fun I9 r10 =>
        some (I9, J, r10)
    else
      some (I, J, (-2 : Int32))
def Mo_sheet (N : HN) (a0 : Nat) (p1 : Int32) (p2 : Int32) (I : HI) (J : HJ) : Option (HI × HJ × Int32) := Mo_sheet_0 N a0 p1 p2 I J
def Mo_lose_0 (N : HN) (a0 : Nat) (p1 : Int32) (I : HI) : Option (HI × Int32) :=
  bn1 (Mo_isSheet p1) fun r1 =>
  if r1 = 0 then
    some (I, (-2 : Int32))
  else
    ra Tm nM (N a0 1) 1 fun b4 =>
    gd (inb p1 (Tm b4).2) <|
    if (I b4 p1.toNatClampNeg) = (-1 : Int32) then
      bn2 (Mo_finds a0 (1 : Int32) I) fun I13 r14 =>
      some (I13, r14)
    else
      ra Tm nM (N a0 1) 1 fun b7 =>
      gd (inb p1 (Tm b7).2) <|
      bd (I b7 p1.toNatClampNeg) fun v9 =>
      ra Tm nM (N a0 1) 1 fun b10 =>
      gd (inb p1 (Tm b10).2) <|
      bd (up2 I b10 p1.toNatClampNeg (-1 : Int32)) fun I12 =>
      some (I12, v9)
def Mo_lose (N : HN) (a0 : Nat) (p1 : Int32) (I : HI) : Option (HI × Int32) := Mo_lose_0 N a0 p1 I
def Mo_lacks_0 (N : HN) (a0 : Nat) (p1 : Int32) (p2 : Int32) (I : HI) : Option (HI × Int32) :=
  ra Tm nM (N a0 1) 1 fun b1 =>
  gd (inb p1 (Tm b1).2) <|
  if (I b1 p1.toNatClampNeg) = (-1 : Int32) then
    bn2 (Mo_finds a0 (1 : Int32) I) fun I12 r13 =>
    some (I12, r13)
  else
    ra Tm nM (N a0 1) 1 fun b4 =>
    gd (inb p1 (Tm b4).2) <|
    bn1 (Mo_in p2.toInt64 (0 : Int64) (((I b4 p1.toNatClampNeg) - (1 : Int32)).toInt64)) fun r6 =>
    if r6 = 0 then
      bn2 (Mo_finds a0 (2 : Int32) I) fun I9 r10 =>
      some (I9, r10)
    else
      some (I, (0 : Int32))
def Mo_lacks (N : HN) (a0 : Nat) (p1 : Int32) (p2 : Int32) (I : HI) : Option (HI × Int32) := Mo_lacks_0 N a0 p1 p2 I
def Mo_lay_0 (N : HN) (a0 : Nat) (p1 : Int32) (p2 : Int32) (p3 : Int32) (I : HI) (J : HJ) : Option (HI × HJ × Int32) :=
  bn1 (Mo_isSheet p1) fun r1 =>
  if r1 = 0 then
    some (I, J, (-2 : Int32))
  else
    bn2 (Mo_lacks N a0 p1 p2 I) fun I4 r5 =>
    if r5 = 0 then
      ra Tm nM (N a0 2) 2 fun b8 =>
      gd (inb (((40 : Int32) * p1) + p2) (Tm b8).2) <|
      bd (up2 J b8 (((40 : Int32) * p1) + p2).toNatClampNeg p3.toInt64) fun J10 =>
      some (I4, J10, (1 : Int32))
    else
      some (I4, J, r5)
def Mo_lay (N : HN) (a0 : Nat) (p1 : Int32) (p2 : Int32) (p3 : Int32) (I : HI) (J : HJ) : Option (HI × HJ × Int32) := Mo_lay_0 N a0 p1 p2 p3 I J
def Mo_get_0 (J : HJ) (N : HN) (a0 : Nat) (p1 : Int32) (p2 : Int32) (I : HI) : Option (HI × Int64) :=
  bn1 (Mo_isSheet p1) fun r1 =>
  if r1 = 0 then
    bn1 (Mo_no (-2 : Int32)) fun r12 =>
    some (I, r12)
  else
    bn2 (Mo_lacks N a0 p1 p2 I) fun I4 r5 =>
    if r5 = 0 then
      ra Tm nM (N a0 2) 2 fun b8 =>
      gd (inb (((40 : Int32) * p1) + p2) (Tm b8).2) <|
      some (I4, J b8 (((40 : Int32) * p1) + p2).toNatClampNeg)
    else
      bn1 (Mo_no r5) fun r10 =>
      some (I4, r10)
def Mo_get (J : HJ) (N : HN) (a0 : Nat) (p1 : Int32) (p2 : Int32) (I : HI) : Option (HI × Int64) := Mo_get_0 J N a0 p1 p2 I
def Mo_copy_138b (N : HN) (a0 : Nat) (p1 : Int32) (p2 : Int32) (p3 : Int32) (p4 : Int32) (p5 : Int32) (k138 : HI → HJ → Int32 → Option (HI × HJ × Int32)) (I : HI) (J : HJ) (x6 : Int32) : Option (HI × HJ × Int32) :=
  if p5 ≤ x6 then
    some (I, J, (1 : Int32))
  else
    ra Tm nM (N a0 2) 2 fun b2 =>
    ra Tm nM (N a0 3) 2 fun b3 =>
    gd (inb x6 (Tm b3).2) <|
    gd (inb ((((40 : Int32) * p3) + p4) + x6) (Tm b2).2) <|
    bd (up2 J b2 ((((40 : Int32) * p3) + p4) + x6).toNatClampNeg (J b3 x6.toNatClampNeg)) fun J6 =>
    k138 I J6 (x6 + 1)
def Mo_copy_138 (N : HN) (a0 : Nat) (p1 : Int32) (p2 : Int32) (p3 : Int32) (p4 : Int32) (p5 : Int32) : Nat → HI → HJ → Int32 → Option (HI × HJ × Int32)
  | 0 => fun _ _ _ => none
  | n + 1 => Mo_copy_138b N a0 p1 p2 p3 p4 p5 (Mo_copy_138 N a0 p1 p2 p3 p4 p5 n)
def Mo_copy_101b (N : HN) (a0 : Nat) (p1 : Int32) (p2 : Int32) (p3 : Int32) (p4 : Int32) (p5 : Int32) (k101 : HI → HJ → Int32 → Option (HI × HJ × Int32)) (I : HI) (J : HJ) (x6 : Int32) : Option (HI × HJ × Int32) :=
  if p5 ≤ x6 then
    Mo_copy_138 N a0 p1 p2 p3 p4 p5 256 I J (0 : Int32)
  else
    ra Tm nM (N a0 3) 2 fun b2 =>
    ra Tm nM (N a0 2) 2 fun b3 =>
    gd (inb ((((40 : Int32) * p1) + p2) + x6) (Tm b3).2) <|
    gd (inb x6 (Tm b2).2) <|
    bd (up2 J b2 x6.toNatClampNeg (J b3 ((((40 : Int32) * p1) + p2) + x6).toNatClampNeg)) fun J6 =>
    k101 I J6 (x6 + 1)
def Mo_copy_101 (N : HN) (a0 : Nat) (p1 : Int32) (p2 : Int32) (p3 : Int32) (p4 : Int32) (p5 : Int32) : Nat → HI → HJ → Int32 → Option (HI × HJ × Int32)
  | 0 => fun _ _ _ => none
  | n + 1 => Mo_copy_101b N a0 p1 p2 p3 p4 p5 (Mo_copy_101 N a0 p1 p2 p3 p4 p5 n)
def Mo_copy_92 (N : HN) (a0 : Nat) (p1 : Int32) (p2 : Int32) (p3 : Int32) (p4 : Int32) (p5 : Int32) (I : HI) (J : HJ) : Option (HI × HJ × Int32) :=
  bn2 (Mo_finds a0 (2 : Int32) I) fun I1 r2 =>
  some (I1, J, r2)
def Mo_copy_37 (N : HN) (a0 : Nat) (p1 : Int32) (p2 : Int32) (p3 : Int32) (p4 : Int32) (p5 : Int32) (I : HI) (J : HJ) : Option (HI × HJ × Int32) :=
  bn2 (Mo_finds a0 (1 : Int32) I) fun I1 r2 =>
  some (I1, J, r2)
def Mo_copy_0 (N : HN) (a0 : Nat) (p1 : Int32) (p2 : Int32) (p3 : Int32) (p4 : Int32) (p5 : Int32) (I : HI) (J : HJ) : Option (HI × HJ × Int32) :=
  bn1 (Mo_isSheet p1) fun r1 =>
  if r1 = 0 then
    some (I, J, (-2 : Int32))
  else
    bn1 (Mo_isSheet p3) fun r4 =>
    if r4 = 0 then
      some (I, J, (-2 : Int32))
    else
      ra Tm nM (N a0 1) 1 fun b7 =>
      gd (inb p1 (Tm b7).2) <|
      if (I b7 p1.toNatClampNeg) = (-1 : Int32) then
        Mo_copy_37 N a0 p1 p2 p3 p4 p5 I J
      else
        ra Tm nM (N a0 1) 1 fun b10 =>
        gd (inb p3 (Tm b10).2) <|
        if (I b10 p3.toNatClampNeg) = (-1 : Int32) then
          Mo_copy_37 N a0 p1 p2 p3 p4 p5 I J
        else
          if p2 < 0 then
            Mo_copy_92 N a0 p1 p2 p3 p4 p5 I J
          else
            if p4 < 0 then
              Mo_copy_92 N a0 p1 p2 p3 p4 p5 I J
            else
              if p5 < 0 then
                Mo_copy_92 N a0 p1 p2 p3 p4 p5 I J
              else
                ra Tm nM (N a0 1) 1 fun b16 =>
                gd (inb p1 (Tm b16).2) <|
                if ((I b16 p1.toNatClampNeg).toInt64) < (p2.toInt64 + p5.toInt64) then
                  Mo_copy_92 N a0 p1 p2 p3 p4 p5 I J
                else
                  ra Tm nM (N a0 1) 1 fun b19 =>
                  gd (inb p3 (Tm b19).2) <|
                  if (p4.toInt64 + p5.toInt64) ≤ ((I b19 p3.toNatClampNeg).toInt64) then
                    Mo_copy_101 N a0 p1 p2 p3 p4 p5 256 I J (0 : Int32)
                  else
                    Mo_copy_92 N a0 p1 p2 p3 p4 p5 I J
def Mo_copy (N : HN) (a0 : Nat) (p1 : Int32) (p2 : Int32) (p3 : Int32) (p4 : Int32) (p5 : Int32) (I : HI) (J : HJ) : Option (HI × HJ × Int32) := Mo_copy_0 N a0 p1 p2 p3 p4 p5 I J
def Mo_tell_0 (N : HN) (a0 : Nat) (p1 : Int32) (p2 : Int32) (p3 : Int32) (I : HI) : Option (HI × Int32) :=
  bn1 (Mo_isTwo p1) fun r1 =>
  if r1 = 0 then
    some (I, (-2147483648 : Int32))
  else
    bn1 (Mo_in p2.toInt64 (0 : Int64) (6 : Int64)) fun r4 =>
    if r4 = 0 then
      some (I, (-2147483648 : Int32))
    else
      bn1 (Mo_in p3.toInt64 (-9 : Int64) (9 : Int64)) fun r7 =>
      if r7 = 0 then
        some (I, (-2147483648 : Int32))
      else
        ra Tm nM (N a0 4) 1 fun b10 =>
        gd (inb (((7 : Int32) * p1) + p2) (Tm b10).2) <|
        bd (I b10 (((7 : Int32) * p1) + p2).toNatClampNeg) fun v12 =>
        ra Tm nM (N a0 4) 1 fun b13 =>
        gd (inb (((7 : Int32) * p1) + p2) (Tm b13).2) <|
        bd (up2 I b13 (((7 : Int32) * p1) + p2).toNatClampNeg p3) fun I15 =>
        some (I15, v12)
def Mo_tell (N : HN) (a0 : Nat) (p1 : Int32) (p2 : Int32) (p3 : Int32) (I : HI) : Option (HI × Int32) := Mo_tell_0 N a0 p1 p2 p3 I
def Mo_told_0 (I : HI) (N : HN) (a0 : Nat) (p1 : Int32) (p2 : Int32) : Option (Int32) :=
  bn1 (Mo_isTwo p1) fun r1 =>
  if r1 = 0 then
    some (-2147483648 : Int32)
  else
    bn1 (Mo_in p2.toInt64 (0 : Int64) (6 : Int64)) fun r4 =>
    if r4 = 0 then
      some (-2147483648 : Int32)
    else
      ra Tm nM (N a0 4) 1 fun b7 =>
      gd (inb (((7 : Int32) * p1) + p2) (Tm b7).2) <|
      some (I b7 (((7 : Int32) * p1) + p2).toNatClampNeg)
def Mo_told (I : HI) (N : HN) (a0 : Nat) (p1 : Int32) (p2 : Int32) : Option (Int32) := Mo_told_0 I N a0 p1 p2
def Mo_degree_29 (I : HI) (N : HN) (a0 : Nat) (p1 : Int32) (k4 : Int32 → Int32 → Option (Int32)) (x3 : Int32) (s0 : Int32) : Option (Int32) :=
  k4 s0 (x3 + 1)
def Mo_degree_4b (I : HI) (N : HN) (a0 : Nat) (p1 : Int32) (k4 : Int32 → Int32 → Option (Int32)) (x2 : Int32) (x3 : Int32) : Option (Int32) :=
  if (7 : Int32) ≤ x3 then
    some x2
  else
    ra Tm nM (N a0 4) 1 fun b2 =>
    gd (inb (((7 : Int32) * p1) + x3) (Tm b2).2) <|
    if (I b2 (((7 : Int32) * p1) + x3).toNatClampNeg) = 0 then
      Mo_degree_29 I N a0 p1 k4 x3 x2
    else
      Mo_degree_29 I N a0 p1 k4 x3 x3
def Mo_degree_4 (I : HI) (N : HN) (a0 : Nat) (p1 : Int32) : Nat → Int32 → Int32 → Option (Int32)
  | 0 => fun _ _ => none
  | n + 1 => Mo_degree_4b I N a0 p1 (Mo_degree_4 I N a0 p1 n)
def Mo_degree_0 (I : HI) (N : HN) (a0 : Nat) (p1 : Int32) : Option (Int32) :=
  Mo_degree_4 I N a0 p1 256 (-1 : Int32) (0 : Int32)
def Mo_degree (I : HI) (N : HN) (a0 : Nat) (p1 : Int32) : Option (Int32) := Mo_degree_0 I N a0 p1
def Mo_lowest_28 (I : HI) (N : HN) (a0 : Nat) (p1 : Int32) (k5 : Int32 → Int32 → Option (Int32)) (x3 : Int32) (s0 : Int32) : Option (Int32) :=
  k5 s0 (x3 + (-1))
def Mo_lowest_5b (I : HI) (N : HN) (a0 : Nat) (p1 : Int32) (k5 : Int32 → Int32 → Option (Int32)) (x2 : Int32) (x3 : Int32) : Option (Int32) :=
  if x3 < 0 then
    some x2
  else
    ra Tm nM (N a0 4) 1 fun b2 =>
    gd (inb (((7 : Int32) * p1) + x3) (Tm b2).2) <|
    if (I b2 (((7 : Int32) * p1) + x3).toNatClampNeg) = 0 then
      Mo_lowest_28 I N a0 p1 k5 x3 x2
    else
      Mo_lowest_28 I N a0 p1 k5 x3 x3
def Mo_lowest_5 (I : HI) (N : HN) (a0 : Nat) (p1 : Int32) : Nat → Int32 → Int32 → Option (Int32)
  | 0 => fun _ _ => none
  | n + 1 => Mo_lowest_5b I N a0 p1 (Mo_lowest_5 I N a0 p1 n)
def Mo_lowest_0 (I : HI) (N : HN) (a0 : Nat) (p1 : Int32) : Option (Int32) :=
  Mo_lowest_5 I N a0 p1 256 (-1 : Int32) (6 : Int32)
def Mo_lowest (I : HI) (N : HN) (a0 : Nat) (p1 : Int32) : Option (Int32) := Mo_lowest_0 I N a0 p1
def Mo_sort_78 (I : HI) (N : HN) (a0 : Nat) (p1 : Int32) (k7 : Int32 → Int32 → Int32 → Option (Int32)) (x2 : Int32) (x4 : Int32) (s0 : Int32) : Option (Int32) :=
  k7 x2 s0 (x4 + 1)
def Mo_sort_77 (I : HI) (N : HN) (a0 : Nat) (p1 : Int32) (k7 : Int32 → Int32 → Int32 → Option (Int32)) (x2 : Int32) (x4 : Int32) : Option (Int32) :=
  Mo_sort_78 I N a0 p1 k7 x2 x4 (0 : Int32)
def Mo_sort_73 (I : HI) (N : HN) (a0 : Nat) (p1 : Int32) (k7 : Int32 → Int32 → Int32 → Option (Int32)) (x2 : Int32) (x4 : Int32) : Option (Int32) :=
  Mo_sort_78 I N a0 p1 k7 x2 x4 (1 : Int32)
def Mo_sort_45 (I : HI) (N : HN) (a0 : Nat) (p1 : Int32) (k7 : Int32 → Int32 → Int32 → Option (Int32)) (x3 : Int32) (x4 : Int32) (s0 : Int32) : Option (Int32) :=
  if x3 = 0 then
    ra Tm nM (N a0 4) 1 fun b2 =>
    gd (inb (((7 : Int32) * p1) + x4) (Tm b2).2) <|
    if (I b2 (((7 : Int32) * p1) + x4).toNatClampNeg) = 0 then
      Mo_sort_77 I N a0 p1 k7 s0 x4
    else
      if (x4 - x4 / (2 : Int32) * (2 : Int32)) = (1 : Int32) then
        Mo_sort_73 I N a0 p1 k7 s0 x4
      else
        Mo_sort_77 I N a0 p1 k7 s0 x4
  else
    Mo_sort_73 I N a0 p1 k7 s0 x4
def Mo_sort_44 (I : HI) (N : HN) (a0 : Nat) (p1 : Int32) (k7 : Int32 → Int32 → Int32 → Option (Int32)) (x3 : Int32) (x4 : Int32) : Option (Int32) :=
  Mo_sort_45 I N a0 p1 k7 x3 x4 (0 : Int32)
def Mo_sort_40 (I : HI) (N : HN) (a0 : Nat) (p1 : Int32) (k7 : Int32 → Int32 → Int32 → Option (Int32)) (x3 : Int32) (x4 : Int32) : Option (Int32) :=
  Mo_sort_45 I N a0 p1 k7 x3 x4 (1 : Int32)
def Mo_sort_7b (I : HI) (N : HN) (a0 : Nat) (p1 : Int32) (k7 : Int32 → Int32 → Int32 → Option (Int32)) (x2 : Int32) (x3 : Int32) (x4 : Int32) : Option (Int32) :=
  if (7 : Int32) ≤ x4 then
    if x2 = x3 then
      some (2 : Int32)
    else
      if x2 = 0 then
        some (1 : Int32)
      else
        some (0 : Int32)
  else
    if x2 = 0 then
      ra Tm nM (N a0 4) 1 fun b5 =>
      gd (inb (((7 : Int32) * p1) + x4) (Tm b5).2) <|
      if (I b5 (((7 : Int32) * p1) + x4).toNatClampNeg) = 0 then
        Mo_sort_44 I N a0 p1 k7 x3 x4
      else
        if (x4 - x4 / (2 : Int32) * (2 : Int32)) = 0 then
          Mo_sort_40 I N a0 p1 k7 x3 x4
        else
          Mo_sort_44 I N a0 p1 k7 x3 x4
    else
      Mo_sort_40 I N a0 p1 k7 x3 x4
def Mo_sort_7 (I : HI) (N : HN) (a0 : Nat) (p1 : Int32) : Nat → Int32 → Int32 → Int32 → Option (Int32)
  | 0 => fun _ _ _ => none
  | n + 1 => Mo_sort_7b I N a0 p1 (Mo_sort_7 I N a0 p1 n)
def Mo_sort_0 (I : HI) (N : HN) (a0 : Nat) (p1 : Int32) : Option (Int32) :=
  Mo_sort_7 I N a0 p1 256 (0 : Int32) (0 : Int32) (0 : Int32)
def Mo_sort (I : HI) (N : HN) (a0 : Nat) (p1 : Int32) : Option (Int32) := Mo_sort_0 I N a0 p1
def Mo_isLawful_0 (I : HI) (N : HN) (a0 : Nat) : Option (Int32) :=
  bn1 (Mo_sort I N a0 (0 : Int32)) fun r1 =>
  bn1 (Mo_sort I N a0 (1 : Int32)) fun r3 =>
  if (r1 + r3) = (1 : Int32) then
    some (1 : Int32)
  else
    some (0 : Int32)
def Mo_isLawful (I : HI) (N : HN) (a0 : Nat) : Option (Int32) := Mo_isLawful_0 I N a0
def Mo_turn_2b (N : HN) (a0 : Nat) (k2 : HI → Int32 → Option (HI × Int32)) (I : HI) (x1 : Int32) : Option (HI × Int32) :=
  if (7 : Int32) ≤ x1 then
    bn1 (Mo_isLawful I N a0) fun r2 =>
    if r2 = 0 then
      some (I, (0 : Int32))
    else
      some (I, (1 : Int32))
  else
    ra Tm nM (N a0 4) 1 fun b5 =>
    gd (inb x1 (Tm b5).2) <|
    bd (I b5 x1.toNatClampNeg) fun v7 =>
    ra Tm nM (N a0 4) 1 fun b8 =>
    ra Tm nM (N a0 4) 1 fun b9 =>
    gd (inb ((7 : Int32) + x1) (Tm b9).2) <|
    gd (inb x1 (Tm b8).2) <|
    bd (up2 I b8 x1.toNatClampNeg (I b9 ((7 : Int32) + x1).toNatClampNeg)) fun I12 =>
    ra Tm nM (N a0 4) 1 fun b13 =>
    gd (inb ((7 : Int32) + x1) (Tm b13).2) <|
    bd (up2 I12 b13 ((7 : Int32) + x1).toNatClampNeg v7) fun I15 =>
    k2 I15 (x1 + 1)
def Mo_turn_2 (N : HN) (a0 : Nat) : Nat → HI → Int32 → Option (HI × Int32)
  | 0 => fun _ _ => none
  | n + 1 => Mo_turn_2b N a0 (Mo_turn_2 N a0 n)
def Mo_turn_0 (N : HN) (a0 : Nat) (I : HI) : Option (HI × Int32) :=
  Mo_turn_2 N a0 256 I (0 : Int32)
def Mo_turn (N : HN) (a0 : Nat) (I : HI) : Option (HI × Int32) := Mo_turn_0 N a0 I
def Mo_reverse_31b (N : HN) (a0 : Nat) (k24 : HI → Int32 → Int32 → Option (HI × Int32)) (k31 : HI → Int32 → Int32 → Int32 → Option (HI × Int32)) (I : HI) (x1 : Int32) (x2 : Int32) (x3 : Int32) : Option (HI × Int32) :=
  if (x1 - x3) ≤ x3 then
    k24 I x1 (x2 + 1)
  else
    ra Tm nM (N a0 4) 1 fun b2 =>
    gd (inb (((7 : Int32) * x2) + x3) (Tm b2).2) <|
    bd (I b2 (((7 : Int32) * x2) + x3).toNatClampNeg) fun v4 =>
    ra Tm nM (N a0 4) 1 fun b5 =>
    ra Tm nM (N a0 4) 1 fun b6 =>
    gd (inb ((((7 : Int32) * x2) + x1) - x3) (Tm b6).2) <|
    gd (inb (((7 : Int32) * x2) + x3) (Tm b5).2) <|
    bd (up2 I b5 (((7 : Int32) * x2) + x3).toNatClampNeg (I b6 ((((7 : Int32) * x2) + x1) - x3).toNatClampNeg)) fun I9 =>
    ra Tm nM (N a0 4) 1 fun b10 =>
    gd (inb ((((7 : Int32) * x2) + x1) - x3) (Tm b10).2) <|
    bd (up2 I9 b10 ((((7 : Int32) * x2) + x1) - x3).toNatClampNeg v4) fun I12 =>
    k31 I12 x1 x2 (x3 + 1)
def Mo_reverse_31 (N : HN) (a0 : Nat) (k24 : HI → Int32 → Int32 → Option (HI × Int32)) : Nat → HI → Int32 → Int32 → Int32 → Option (HI × Int32)
  | 0 => fun _ _ _ _ => none
  | n + 1 => Mo_reverse_31b N a0 k24 (Mo_reverse_31 N a0 k24 n)
def Mo_reverse_24b (N : HN) (a0 : Nat) (k24 : HI → Int32 → Int32 → Option (HI × Int32)) (I : HI) (x1 : Int32) (x2 : Int32) : Option (HI × Int32) :=
  if (2 : Int32) ≤ x2 then
    some (I, x1)
  else
    Mo_reverse_31 N a0 k24 256 I x1 x2 (0 : Int32)
def Mo_reverse_24 (N : HN) (a0 : Nat) : Nat → HI → Int32 → Int32 → Option (HI × Int32)
  | 0 => fun _ _ _ => none
  | n + 1 => Mo_reverse_24b N a0 (Mo_reverse_24 N a0 n)
def Mo_reverse_0 (N : HN) (a0 : Nat) (I : HI) : Option (HI × Int32) :=
  bn1 (Mo_degree I N a0 (0 : Int32)) fun r1 =>
  bn1 (Mo_degree I N a0 (1 : Int32)) fun r3 =>
  bn1 (Mo_greater r1 r3) fun r5 =>
  if r5 = (-1 : Int32) then
    some (I, (-3 : Int32))
  else
    Mo_reverse_24 N a0 256 I r5 (0 : Int32)
def Mo_reverse (N : HN) (a0 : Nat) (I : HI) : Option (HI × Int32) := Mo_reverse_0 N a0 I
def Mo_read_97b (J : HJ) (N : HN) (a0 : Nat) (p1 : Int32) (p2 : Int32) (k97 : HI → Int32 → Option (HI × Int32)) (I : HI) (x3 : Int32) : Option (HI × Int32) :=
  if (14 : Int32) ≤ x3 then
    some (I, (14 : Int32))
  else
    ra Tm nM (N a0 4) 1 fun b2 =>
    ra Tm nM (N a0 2) 2 fun b3 =>
    gd (inb ((((40 : Int32) * p1) + p2) + x3) (Tm b3).2) <|
    gd (inb x3 (Tm b2).2) <|
    bd (up2 I b2 x3.toNatClampNeg ((J b3 ((((40 : Int32) * p1) + p2) + x3).toNatClampNeg).toInt32)) fun I6 =>
    k97 I6 (x3 + 1)
def Mo_read_97 (J : HJ) (N : HN) (a0 : Nat) (p1 : Int32) (p2 : Int32) : Nat → HI → Int32 → Option (HI × Int32)
  | 0 => fun _ _ => none
  | n + 1 => Mo_read_97b J N a0 p1 p2 (Mo_read_97 J N a0 p1 p2 n)
def Mo_read_55b (J : HJ) (N : HN) (a0 : Nat) (p1 : Int32) (p2 : Int32) (k55 : HI → Int32 → Option (HI × Int32)) (I : HI) (x3 : Int32) : Option (HI × Int32) :=
  if (14 : Int32) ≤ x3 then
    Mo_read_97 J N a0 p1 p2 256 I (0 : Int32)
  else
    ra Tm nM (N a0 2) 2 fun b2 =>
    gd (inb ((((40 : Int32) * p1) + p2) + x3) (Tm b2).2) <|
    bn1 (Mo_in (J b2 ((((40 : Int32) * p1) + p2) + x3).toNatClampNeg) (-9 : Int64) (9 : Int64)) fun r4 =>
    if r4 = 0 then
      some (I, (-2 : Int32))
    else
      k55 I (x3 + 1)
def Mo_read_55 (J : HJ) (N : HN) (a0 : Nat) (p1 : Int32) (p2 : Int32) : Nat → HI → Int32 → Option (HI × Int32)
  | 0 => fun _ _ => none
  | n + 1 => Mo_read_55b J N a0 p1 p2 (Mo_read_55 J N a0 p1 p2 n)
def Mo_read_47 (J : HJ) (N : HN) (a0 : Nat) (p1 : Int32) (p2 : Int32) (I : HI) : Option (HI × Int32) :=
  bn2 (Mo_finds a0 (2 : Int32) I) fun I1 r2 =>
  some (I1, r2)
def Mo_read_0 (J : HJ) (N : HN) (a0 : Nat) (p1 : Int32) (p2 : Int32) (I : HI) : Option (HI × Int32) :=
  bn1 (Mo_isSheet p1) fun r1 =>
  if r1 = 0 then
    some (I, (-2 : Int32))
  else
    ra Tm nM (N a0 1) 1 fun b4 =>
    gd (inb p1 (Tm b4).2) <|
    if (I b4 p1.toNatClampNeg) = (-1 : Int32) then
      bn2 (Mo_finds a0 (1 : Int32) I) fun I11 r12 =>
      some (I11, r12)
    else
      if p2 < 0 then
        Mo_read_47 J N a0 p1 p2 I
      else
        ra Tm nM (N a0 1) 1 fun b8 =>
        gd (inb p1 (Tm b8).2) <|
        if (p2.toInt64 + (14 : Int64)) ≤ ((I b8 p1.toNatClampNeg).toInt64) then
          Mo_read_55 J N a0 p1 p2 256 I (0 : Int32)
        else
          Mo_read_47 J N a0 p1 p2 I
def Mo_read (J : HJ) (N : HN) (a0 : Nat) (p1 : Int32) (p2 : Int32) (I : HI) : Option (HI × Int32) := Mo_read_0 J N a0 p1 p2 I
def Mo_infoBy_0 (I : HI) (N : HN) (a0 : Nat) (p1 : Int32) : Option (Int32) :=
  if p1 = (0 : Int32) then
    bn1 (Mo_degree I N a0 p1) fun r2 =>
    some r2
  else
  if p1 = (1 : Int32) then
    bn1 (Mo_degree I N a0 p1) fun r5 =>
    some r5
  else
  if p1 = (2 : Int32) then
    bn1 (Mo_isLawful I N a0) fun r8 =>
    if r8 = 0 then
      some (0 : Int32)
    else
      some (1 : Int32)
  else
  bn1 (Mo_lowest I N a0 (p1 - (3 : Int32))) fun r11 =>
  some r11
def Mo_infoBy (I : HI) (N : HN) (a0 : Nat) (p1 : Int32) : Option (Int32) := Mo_infoBy_0 I N a0 p1
def Mo_info_0 (I : HI) (N : HN) (a0 : Nat) (p1 : Int32) : Option (Int32) :=
  bn1 (Mo_in p1.toInt64 (0 : Int64) (4 : Int64)) fun r1 =>
  if r1 = 0 then
    some (-9 : Int32)
  else
    bn1 (Mo_infoBy I N a0 p1) fun r4 =>
    some r4
def Mo_info (I : HI) (N : HN) (a0 : Nat) (p1 : Int32) : Option (Int32) := Mo_info_0 I N a0 p1
def Mo_power_5b  (p0 : Int64) (p2 : Int32) (k5 : Int64 → Int32 → Option (Int64)) (x3 : Int64) (x5 : Int32) : Option (Int64) :=
  if p2 ≤ x5 then
    some x3
  else
    bd (x3 * p0) fun v2 =>
    k5 v2 (x5 + 1)
def Mo_power_5  (p0 : Int64) (p2 : Int32) : Nat → Int64 → Int32 → Option (Int64)
  | 0 => fun _ _ => none
  | n + 1 => Mo_power_5b p0 p2 (Mo_power_5 p0 p2 n)
def Mo_power_0  (p0 : Int64) (p2 : Int32) : Option (Int64) :=
  Mo_power_5 p0 p2 256 (1 : Int64) (0 : Int32)
def Mo_power  (p0 : Int64) (p2 : Int32) : Option (Int64) := Mo_power_0 p0 p2
def Mo_turnedValue_67 (I : HI) (N : HN) (a0 : Nat) (p1 : Int32) (p2 : Int32) (p3 : Int32) (k6 : Int64 → Int32 → Option (Int64)) (x6 : Int32) (s0 : Int64) (s1 : Int64) : Option (Int64) :=
  bd (s0 + s1) fun v1 =>
  k6 v1 (x6 + 1)
def Mo_turnedValue_6b (I : HI) (N : HN) (a0 : Nat) (p1 : Int32) (p2 : Int32) (p3 : Int32) (k6 : Int64 → Int32 → Option (Int64)) (x4 : Int64) (x6 : Int32) : Option (Int64) :=
  if (7 : Int32) ≤ x6 then
    some x4
  else
    ra Tm nM (N a0 4) 1 fun b2 =>
    gd (inb (((7 : Int32) * p1) + x6) (Tm b2).2) <|
    bn1 (Mo_power p2.toInt64 x6) fun r4 =>
    bn1 (Mo_power p3.toInt64 ((6 : Int32) - x6)) fun r6 =>
    bd ((((I b2 (((7 : Int32) * p1) + x6).toNatClampNeg).toInt64) * r4) * r6) fun v8 =>
    if ((x6 / (2 : Int32)) - (x6 / (2 : Int32)) / (2 : Int32) * (2 : Int32)) = 0 then
      Mo_turnedValue_67 I N a0 p1 p2 p3 k6 x6 x4 v8
    else
      Mo_turnedValue_67 I N a0 p1 p2 p3 k6 x6 x4 ((0 : Int64) - v8)
def Mo_turnedValue_6 (I : HI) (N : HN) (a0 : Nat) (p1 : Int32) (p2 : Int32) (p3 : Int32) : Nat → Int64 → Int32 → Option (Int64)
  | 0 => fun _ _ => none
  | n + 1 => Mo_turnedValue_6b I N a0 p1 p2 p3 (Mo_turnedValue_6 I N a0 p1 p2 p3 n)
def Mo_turnedValue_0 (I : HI) (N : HN) (a0 : Nat) (p1 : Int32) (p2 : Int32) (p3 : Int32) : Option (Int64) :=
  Mo_turnedValue_6 I N a0 p1 p2 p3 256 (0 : Int64) (0 : Int32)
def Mo_turnedValue (I : HI) (N : HN) (a0 : Nat) (p1 : Int32) (p2 : Int32) (p3 : Int32) : Option (Int64) := Mo_turnedValue_0 I N a0 p1 p2 p3
def Mo_reactanceBy_89 (I : HI) (N : HN) (a0 : Nat) (p1 : Int32) (p2 : Int32) (p3 : Int32) (x4 : Int64) (x6 : Int64) (s0 : Int64) : Option (Int64) :=
  if p3 = 0 then
    gd (decide (¬ s0 = 0)) <|
    some (x4 / s0)
  else
    gd (decide (¬ s0 = 0)) <|
    some (x6 / s0)
def Mo_reactanceBy_62 (I : HI) (N : HN) (a0 : Nat) (p1 : Int32) (p2 : Int32) (p3 : Int32) (x6 : Int64) (s0 : Int64) : Option (Int64) :=
  bn1 (Mo_divisor s0 x6) fun r1 =>
  if (0 : Int64) ≤ x6 then
    Mo_reactanceBy_89 I N a0 p1 p2 p3 s0 x6 r1
  else
    Mo_reactanceBy_89 I N a0 p1 p2 p3 s0 x6 ((0 : Int64) - r1)
def Mo_reactanceBy_0 (I : HI) (N : HN) (a0 : Nat) (p1 : Int32) (p2 : Int32) (p3 : Int32) : Option (Int64) :=
  bn1 (Mo_isLawful I N a0) fun r1 =>
  if r1 = 0 then
    bn1 (Mo_no (-3 : Int32)) fun r14 =>
    some r14
  else
    bn1 (Mo_turnedValue I N a0 (0 : Int32) p1 p2) fun r4 =>
    bn1 (Mo_turnedValue I N a0 (1 : Int32) p1 p2) fun r6 =>
    if r6 = (0 : Int64) then
      bn1 (Mo_no (-3 : Int32)) fun r12 =>
      some r12
    else
      bn1 (Mo_sort I N a0 (1 : Int32)) fun r9 =>
      if r9 = (1 : Int32) then
        Mo_reactanceBy_62 I N a0 p1 p2 p3 r6 ((0 : Int64) - r4)
      else
        Mo_reactanceBy_62 I N a0 p1 p2 p3 r6 r4
def Mo_reactanceBy (I : HI) (N : HN) (a0 : Nat) (p1 : Int32) (p2 : Int32) (p3 : Int32) : Option (Int64) := Mo_reactanceBy_0 I N a0 p1 p2 p3
def Mo_reactance_41 (I : HI) (N : HN) (a0 : Nat) (p1 : Int32) (p2 : Int32) (p3 : Int32) : Option (Int64) :=
  bn1 (Mo_no (-2 : Int32)) fun r1 =>
  some r1
def Mo_reactance_0 (I : HI) (N : HN) (a0 : Nat) (p1 : Int32) (p2 : Int32) (p3 : Int32) : Option (Int64) :=
  bn1 (Mo_in p1.toInt64 (1 : Int64) (9 : Int64)) fun r1 =>
  if r1 = 0 then
    Mo_reactance_41 I N a0 p1 p2 p3
  else
    bn1 (Mo_in p2.toInt64 (1 : Int64) (9 : Int64)) fun r4 =>
    if r4 = 0 then
      Mo_reactance_41 I N a0 p1 p2 p3
    else
      bn1 (Mo_isTwo p3) fun r7 =>
      if r7 = 0 then
        Mo_reactance_41 I N a0 p1 p2 p3
      else
        bn1 (Mo_reactanceBy I N a0 p1 p2 p3) fun r10 =>
        some r10
def Mo_reactance (I : HI) (N : HN) (a0 : Nat) (p1 : Int32) (p2 : Int32) (p3 : Int32) : Option (Int64) := Mo_reactance_0 I N a0 p1 p2 p3
def Mo_valuesIn_40 (I : HI) (a0 : Nat) (p1 : Int32) (k4 : Int32 → Int32 → Option (Int32)) (x3 : Int32) (s0 : Int32) (s1 : Int32) (s2 : Int32) : Option (Int32) :=
  bd (s0 + (s1 + s2)) fun v1 =>
  k4 v1 (x3 + 1)
def Mo_valuesIn_25 (I : HI) (a0 : Nat) (p1 : Int32) (k4 : Int32 → Int32 → Option (Int32)) (x3 : Int32) (s0 : Int32) (s1 : Int32) : Option (Int32) :=
  gd (inb (((5 : Int32) * x3) + (3 : Int32)) (Tm a0).2) <|
  if (I a0 (((5 : Int32) * x3) + (3 : Int32)).toNatClampNeg) ≤ 0 then
    Mo_valuesIn_40 I a0 p1 k4 x3 s0 s1 (0 : Int32)
  else
    Mo_valuesIn_40 I a0 p1 k4 x3 s0 s1 (1 : Int32)
def Mo_valuesIn_4b (I : HI) (a0 : Nat) (p1 : Int32) (k4 : Int32 → Int32 → Option (Int32)) (x2 : Int32) (x3 : Int32) : Option (Int32) :=
  if p1 ≤ x3 then
    some x2
  else
    gd (inb (((5 : Int32) * x3) + (1 : Int32)) (Tm a0).2) <|
    if (I a0 (((5 : Int32) * x3) + (1 : Int32)).toNatClampNeg) ≤ 0 then
      Mo_valuesIn_25 I a0 p1 k4 x3 x2 (0 : Int32)
    else
      Mo_valuesIn_25 I a0 p1 k4 x3 x2 (1 : Int32)
def Mo_valuesIn_4 (I : HI) (a0 : Nat) (p1 : Int32) : Nat → Int32 → Int32 → Option (Int32)
  | 0 => fun _ _ => none
  | n + 1 => Mo_valuesIn_4b I a0 p1 (Mo_valuesIn_4 I a0 p1 n)
def Mo_valuesIn_0 (I : HI) (a0 : Nat) (p1 : Int32) : Option (Int32) :=
  Mo_valuesIn_4 I a0 p1 256 (0 : Int32) (0 : Int32)
def Mo_valuesIn (I : HI) (a0 : Nat) (p1 : Int32) : Option (Int32) := Mo_valuesIn_0 I a0 p1
def Mo_arm_162 (N : HN) (a0 : Nat) (p1 : Int32) (p2 : Int32) (p3 : Int32) (I : HI) (bs0 : Nat) (s1 : Int32) (s2 : Int32) : Option (HI × Int32) :=
  gd (inb s1 (Tm bs0).2) <|
  bd (up2 I bs0 s1.toNatClampNeg s2) fun I2 =>
  bd (up2 I2 a0 6 ((I2 a0 6) + (1 : Int32))) fun I3 =>
  some (I3, (I3 a0 6) - (1 : Int32))
def Mo_arm_126 (N : HN) (a0 : Nat) (p1 : Int32) (p2 : Int32) (p3 : Int32) (I : HI) (bs0 : Nat) (s1 : Int32) (s2 : Int32) : Option (HI × Int32) :=
  gd (inb s1 (Tm bs0).2) <|
  bd (up2 I bs0 s1.toNatClampNeg s2) fun I2 =>
  ra Tm nM (N a0 5) 1 fun b3 =>
  gd (inb (((5 : Int32) * (I2 a0 6)) + (3 : Int32)) (Tm b3).2) <|
  bd (up2 I2 b3 (((5 : Int32) * (I2 a0 6)) + (3 : Int32)).toNatClampNeg p3) fun I5 =>
  ra Tm nM (N a0 5) 1 fun b6 =>
  if p3 ≤ 0 then
    Mo_arm_162 N a0 p1 p2 p3 I5 b6 (((5 : Int32) * (I5 a0 6)) + (4 : Int32)) (0 : Int32)
  else
    Mo_arm_162 N a0 p1 p2 p3 I5 b6 (((5 : Int32) * (I5 a0 6)) + (4 : Int32)) (1 : Int32)
def Mo_arm_70 (N : HN) (a0 : Nat) (p1 : Int32) (p2 : Int32) (p3 : Int32) (I : HI) (s0 : Int32) (s1 : Int32) : Option (HI × Int32) :=
  if (s0 + s1) ≤ (6 : Int32) then
    ra Tm nM (N a0 5) 1 fun b2 =>
    gd (inb ((5 : Int32) * (I a0 6)) (Tm b2).2) <|
    bd (up2 I b2 ((5 : Int32) * (I a0 6)).toNatClampNeg p1) fun I4 =>
    ra Tm nM (N a0 5) 1 fun b5 =>
    gd (inb (((5 : Int32) * (I4 a0 6)) + (1 : Int32)) (Tm b5).2) <|
    bd (up2 I4 b5 (((5 : Int32) * (I4 a0 6)) + (1 : Int32)).toNatClampNeg p2) fun I7 =>
    ra Tm nM (N a0 5) 1 fun b8 =>
    if p2 ≤ 0 then
      Mo_arm_126 N a0 p1 p2 p3 I7 b8 (((5 : Int32) * (I7 a0 6)) + (2 : Int32)) (0 : Int32)
    else
      Mo_arm_126 N a0 p1 p2 p3 I7 b8 (((5 : Int32) * (I7 a0 6)) + (2 : Int32)) (1 : Int32)
  else
    some (I, (-4 : Int32))
def Mo_arm_60 (N : HN) (a0 : Nat) (p1 : Int32) (p2 : Int32) (p3 : Int32) (I : HI) (s0 : Int32) (s1 : Int32) : Option (HI × Int32) :=
  if p3 ≤ 0 then
    Mo_arm_70 N a0 p1 p2 p3 I (s0 + s1) (0 : Int32)
  else
    Mo_arm_70 N a0 p1 p2 p3 I (s0 + s1) (1 : Int32)
def Mo_arm_0 (N : HN) (a0 : Nat) (p1 : Int32) (p2 : Int32) (p3 : Int32) (I : HI) : Option (HI × Int32) :=
  bn1 (Mo_isTwo p1) fun r1 =>
  if r1 = 0 then
    some (I, (-2 : Int32))
  else
    bn1 (Mo_in p2.toInt64 (0 : Int64) (9 : Int64)) fun r4 =>
    if r4 = 0 then
      some (I, (-2 : Int32))
    else
      bn1 (Mo_in p3.toInt64 (0 : Int64) (9 : Int64)) fun r7 =>
      if r7 = 0 then
        some (I, (-2 : Int32))
      else
        if (p2 + p3) = 0 then
          some (I, (-2 : Int32))
        else
          ra Tm nM (N a0 5) 1 fun b11 =>
          bn1 (Mo_valuesIn I b11 (I a0 6)) fun r12 =>
          if p2 ≤ 0 then
            Mo_arm_60 N a0 p1 p2 p3 I r12 (0 : Int32)
          else
            Mo_arm_60 N a0 p1 p2 p3 I r12 (1 : Int32)
def Mo_arm (N : HN) (a0 : Nat) (p1 : Int32) (p2 : Int32) (p3 : Int32) (I : HI) : Option (HI × Int32) := Mo_arm_0 N a0 p1 p2 p3 I
def Mo_back_0  (a0 : Nat) (I : HI) : Option (HI × Int32) :=
  if (I a0 6) = 0 then
    some (I, (-3 : Int32))
  else
    bd (up2 I a0 6 ((I a0 6) - (1 : Int32))) fun I2 =>
    some (I2, I2 a0 6)
def Mo_back  (a0 : Nat) (I : HI) : Option (HI × Int32) := Mo_back_0 a0 I
def Mo_element_0 (I : HI) (N : HN) (a0 : Nat) (p1 : Int32) (p2 : Int32) : Option (Int32) :=
  bn1 (Mo_in p1.toInt64 (0 : Int64) (((I a0 6) - (1 : Int32)).toInt64)) fun r1 =>
  if r1 = 0 then
    some (-2 : Int32)
  else
    bn1 (Mo_in p2.toInt64 (0 : Int64) (4 : Int64)) fun r4 =>
    if r4 = 0 then
      some (-2 : Int32)
    else
      ra Tm nM (N a0 5) 1 fun b7 =>
      gd (inb (((5 : Int32) * p1) + p2) (Tm b7).2) <|
      some (I b7 (((5 : Int32) * p1) + p2).toNatClampNeg)
def Mo_element (I : HI) (N : HN) (a0 : Nat) (p1 : Int32) (p2 : Int32) : Option (Int32) := Mo_element_0 I N a0 p1 p2
def Mo_takes_22  (a0 : Nat) (p1 : Int64) (p3 : Int64) (J : HJ) (s0 : Int64) : Option (HJ) :=
  gd (decide (¬ s0 = 0)) <|
  bd (up2 J a0 9 (p1 / s0)) fun J2 =>
  gd (decide (¬ s0 = 0)) <|
  bd (up2 J2 a0 10 (p3 / s0)) fun J4 =>
  some J4
def Mo_takes_0  (a0 : Nat) (p1 : Int64) (p3 : Int64) (J : HJ) : Option (HJ) :=
  bn1 (Mo_divisor p1 p3) fun r1 =>
  if (0 : Int64) ≤ p3 then
    Mo_takes_22 a0 p1 p3 J r1
  else
    Mo_takes_22 a0 p1 p3 J ((0 : Int64) - r1)
def Mo_takes  (a0 : Nat) (p1 : Int64) (p3 : Int64) (J : HJ) : Option (HJ) := Mo_takes_0 a0 p1 p3 J
def Mo_isHandy_0 (J : HJ) (a0 : Nat) : Option (Int32) :=
  if (99 : Int64) < (J a0 9) then
    some (0 : Int32)
  else
    if (99 : Int64) < (J a0 10) then
      some (0 : Int32)
    else
      some (1 : Int32)
def Mo_isHandy (J : HJ) (a0 : Nat) : Option (Int32) := Mo_isHandy_0 J a0
def Mo_makes_14b (N : HN) (a0 : Nat) (p1 : Int32) (k14 : HI → Int32 → Option (HI)) (I : HI) (x2 : Int32) : Option (HI) :=
  if (5 : Int32) ≤ x2 then
    some I
  else
    ra Tm nM (N a0 7) 1 fun b2 =>
    gd (inb (((5 : Int32) * (I a0 8)) + x2) (Tm b2).2) <|
    bd (up2 I b2 (((5 : Int32) * (I a0 8)) + x2).toNatClampNeg (0 : Int32)) fun I4 =>
    k14 I4 (x2 + 1)
def Mo_makes_14 (N : HN) (a0 : Nat) (p1 : Int32) : Nat → HI → Int32 → Option (HI)
  | 0 => fun _ _ => none
  | n + 1 => Mo_makes_14b N a0 p1 (Mo_makes_14 N a0 p1 n)
def Mo_makes_0 (N : HN) (a0 : Nat) (p1 : Int32) (I : HI) : Option (HI) :=
  ra Tm nM (N a0 7) 1 fun b1 =>
  gd (inb ((5 : Int32) * (I a0 8)) (Tm b1).2) <|
  bd (up2 I b1 ((5 : Int32) * (I a0 8)).toNatClampNeg p1) fun I3 =>
  Mo_makes_14 N a0 p1 256 I3 (1 : Int32)
def Mo_makes (N : HN) (a0 : Nat) (p1 : Int32) (I : HI) : Option (HI) := Mo_makes_0 N a0 p1 I
def Mo_lays_0 (J : HJ) (N : HN) (a0 : Nat) (p1 : Int32) (I : HI) : Option (HI) :=
  ra Tm nM (N a0 7) 1 fun b1 =>
  gd (inb (((5 : Int32) * (I a0 8)) + p1) (Tm b1).2) <|
  bd (up2 I b1 (((5 : Int32) * (I a0 8)) + p1).toNatClampNeg ((J a0 9).toInt32)) fun I3 =>
  ra Tm nM (N a0 7) 1 fun b4 =>
  gd (inb ((((5 : Int32) * (I3 a0 8)) + p1) + (1 : Int32)) (Tm b4).2) <|
  bd (up2 I3 b4 ((((5 : Int32) * (I3 a0 8)) + p1) + (1 : Int32)).toNatClampNeg ((J a0 10).toInt32)) fun I6 =>
  some I6
def Mo_lays (J : HJ) (N : HN) (a0 : Nat) (p1 : Int32) (I : HI) : Option (HI) := Mo_lays_0 J N a0 p1 I
def Mo_top_23 (J : HJ) (a0 : Nat) (k4 : Int32 → Int32 → Option (Int32)) (x2 : Int32) (s0 : Int32) : Option (Int32) :=
  k4 s0 (x2 + 1)
def Mo_top_4b (J : HJ) (a0 : Nat) (k4 : Int32 → Int32 → Option (Int32)) (x1 : Int32) (x2 : Int32) : Option (Int32) :=
  if (7 : Int32) ≤ x2 then
    some x1
  else
    gd (inb x2 (Tm a0).2) <|
    if (J a0 x2.toNatClampNeg) = (0 : Int64) then
      Mo_top_23 J a0 k4 x2 x1
    else
      Mo_top_23 J a0 k4 x2 x2
def Mo_top_4 (J : HJ) (a0 : Nat) : Nat → Int32 → Int32 → Option (Int32)
  | 0 => fun _ _ => none
  | n + 1 => Mo_top_4b J a0 (Mo_top_4 J a0 n)
def Mo_top_0 (J : HJ) (a0 : Nat) : Option (Int32) :=
  Mo_top_4 J a0 256 (-1 : Int32) (0 : Int32)
def Mo_top (J : HJ) (a0 : Nat) : Option (Int32) := Mo_top_0 J a0
def Mo_content_26b  (a0 : Nat) (k26 : HJ → Int64 → Int32 → Option (HJ × Int64)) (J : HJ) (x1 : Int64) (x3 : Int32) : Option (HJ × Int64) :=
  if (7 : Int32) ≤ x3 then
    some (J, x1)
  else
    if x1 ≤ (1 : Int64) then
      some (J, x1)
    else
      gd (inb x3 (Tm a0).2) <|
      gd (decide (¬ x1 = 0)) <|
      gd (inb x3 (Tm a0).2) <|
      bd (up2 J a0 x3.toNatClampNeg ((J a0 x3.toNatClampNeg) / x1)) fun J6 =>
      k26 J6 x1 (x3 + 1)
def Mo_content_26  (a0 : Nat) : Nat → HJ → Int64 → Int32 → Option (HJ × Int64)
  | 0 => fun _ _ _ => none
  | n + 1 => Mo_content_26b a0 (Mo_content_26 a0 n)
def Mo_content_4b  (a0 : Nat) (k4 : HJ → Int64 → Int32 → Option (HJ × Int64)) (J : HJ) (x1 : Int64) (x3 : Int32) : Option (HJ × Int64) :=
  if (7 : Int32) ≤ x3 then
    Mo_content_26 a0 256 J x1 (0 : Int32)
  else
    gd (inb x3 (Tm a0).2) <|
    bn1 (Mo_divisor x1 (J a0 x3.toNatClampNeg)) fun r3 =>
    k4 J r3 (x3 + 1)
def Mo_content_4  (a0 : Nat) : Nat → HJ → Int64 → Int32 → Option (HJ × Int64)
  | 0 => fun _ _ _ => none
  | n + 1 => Mo_content_4b a0 (Mo_content_4 a0 n)
def Mo_content_0  (a0 : Nat) (J : HJ) : Option (HJ × Int64) :=
  Mo_content_4 a0 256 J (0 : Int64) (0 : Int32)
def Mo_content  (a0 : Nat) (J : HJ) : Option (HJ × Int64) := Mo_content_0 a0 J
def Mo_scales_0  (a0 : Nat) (p1 : Int64) (p3 : Int64) (p5 : Int64) (p7 : Int64) (J : HJ) : Option (HJ) :=
  bn1 (Mo_divisor p1 p7) fun r1 =>
  bn1 (Mo_divisor p5 p3) fun r3 =>
  gd (decide (¬ r1 = 0)) <|
  gd (decide (¬ r3 = 0)) <|
  bd (up2 J a0 13 ((p1 / r1) * (p5 / r3))) fun J7 =>
  gd (decide (¬ r3 = 0)) <|
  gd (decide (¬ r1 = 0)) <|
  bd (up2 J7 a0 14 ((p3 / r3) * (p7 / r1))) fun J10 =>
  if (0 : Int64) ≤ (J10 a0 14) then
    some J10
  else
    bd (up2 J10 a0 13 ((0 : Int64) - (J10 a0 13))) fun J12 =>
    bd (up2 J12 a0 14 ((0 : Int64) - (J12 a0 14))) fun J13 =>
    some J13
def Mo_scales  (a0 : Nat) (p1 : Int64) (p3 : Int64) (p5 : Int64) (p7 : Int64) (J : HJ) : Option (HJ) := Mo_scales_0 a0 p1 p3 p5 p7 J
def Mo_swaps_2b (N : HN) (a0 : Nat) (k2 : HJ → Int32 → Option (HJ)) (J : HJ) (x1 : Int32) : Option (HJ) :=
  if (7 : Int32) ≤ x1 then
    some J
  else
    ra Tm nM (N a0 11) 2 fun b2 =>
    gd (inb x1 (Tm b2).2) <|
    bd (J b2 x1.toNatClampNeg) fun v4 =>
    ra Tm nM (N a0 11) 2 fun b5 =>
    ra Tm nM (N a0 12) 2 fun b6 =>
    gd (inb x1 (Tm b6).2) <|
    gd (inb x1 (Tm b5).2) <|
    bd (up2 J b5 x1.toNatClampNeg (J b6 x1.toNatClampNeg)) fun J9 =>
    ra Tm nM (N a0 12) 2 fun b10 =>
    gd (inb x1 (Tm b10).2) <|
    bd (up2 J9 b10 x1.toNatClampNeg v4) fun J12 =>
    k2 J12 (x1 + 1)
def Mo_swaps_2 (N : HN) (a0 : Nat) : Nat → HJ → Int32 → Option (HJ)
  | 0 => fun _ _ => none
  | n + 1 => Mo_swaps_2b N a0 (Mo_swaps_2 N a0 n)
def Mo_swaps_0 (N : HN) (a0 : Nat) (J : HJ) : Option (HJ) :=
  Mo_swaps_2 N a0 256 J (0 : Int32)
def Mo_swaps (N : HN) (a0 : Nat) (J : HJ) : Option (HJ) := Mo_swaps_0 N a0 J
def Mo_dividesOnce_223 (N : HN) (a0 : Nat) (p1 : Int32) (p2 : Int32) (p3 : Int32) (k181 : HI → HJ → Int64 → Int64 → Int64 → Int64 → Int32 → Option (HI × HJ × Int32)) (I : HI) (J : HJ) (x5 : Int64) (x7 : Int64) (x9 : Int64) (x11 : Int64) (x17 : Int32) (bs0 : Nat) (s1 : Int32) (s2 : Int64) (s3 : Int64) : Option (HI × HJ × Int32) :=
  gd (inb s1 (Tm bs0).2) <|
  bd (up2 J bs0 s1.toNatClampNeg (s2 - s3)) fun J2 =>
  k181 I J2 x5 x7 x9 x11 (x17 + (-1))
def Mo_dividesOnce_181b (N : HN) (a0 : Nat) (p1 : Int32) (p2 : Int32) (p3 : Int32) (k181 : HI → HJ → Int64 → Int64 → Int64 → Int64 → Int32 → Option (HI × HJ × Int32)) (I : HI) (J : HJ) (x5 : Int64) (x7 : Int64) (x9 : Int64) (x11 : Int64) (x17 : Int32) : Option (HI × HJ × Int32) :=
  if x17 < 0 then
    ra Tm nM (N a0 11) 2 fun b2 =>
    bn2 (Mo_content b2 J) fun J3 r4 =>
    bn1 (Mo_swaps N a0 J3) fun J6 =>
    if r4 ≤ (0 : Int64) then
      some (I, J6, (0 : Int32))
    else
      bn1 (Mo_scales a0 x11 x9 x7 r4 J6) fun J9 =>
      some (I, J9, (0 : Int32))
  else
    ra Tm nM (N a0 11) 2 fun b11 =>
    ra Tm nM (N a0 11) 2 fun b12 =>
    gd (inb x17 (Tm b12).2) <|
    if x17 ≤ 0 then
      Mo_dividesOnce_223 N a0 p1 p2 p3 k181 I J x5 x7 x9 x11 x17 b11 x17 (x7 * (J b12 x17.toNatClampNeg)) (0 : Int64)
    else
      ra Tm nM (N a0 12) 2 fun b15 =>
      gd (inb (x17 - (1 : Int32)) (Tm b15).2) <|
      Mo_dividesOnce_223 N a0 p1 p2 p3 k181 I J x5 x7 x9 x11 x17 b11 x17 (x7 * (J b12 x17.toNatClampNeg)) (x5 * (J b15 (x17 - (1 : Int32)).toNatClampNeg))
def Mo_dividesOnce_181 (N : HN) (a0 : Nat) (p1 : Int32) (p2 : Int32) (p3 : Int32) : Nat → HI → HJ → Int64 → Int64 → Int64 → Int64 → Int32 → Option (HI × HJ × Int32)
  | 0 => fun _ _ _ _ _ _ _ => none
  | n + 1 => Mo_dividesOnce_181b N a0 p1 p2 p3 (Mo_dividesOnce_181 N a0 p1 p2 p3 n)
def Mo_dividesOnce_164 (N : HN) (a0 : Nat) (p1 : Int32) (p2 : Int32) (p3 : Int32) (I : HI) (J : HJ) (x5 : Int64) (x7 : Int64) (x9 : Int64) (x11 : Int64) (bs0 : Nat) (s1 : Int32) : Option (HI × HJ × Int32) :=
  bn1 (Mo_lays J N bs0 s1 I) fun I1 =>
  bd (up2 I1 a0 8 ((I1 a0 8) + (1 : Int32))) fun I3 =>
  Mo_dividesOnce_181 N a0 p1 p2 p3 256 I3 J x5 x7 x9 x11 (6 : Int32)
def Mo_dividesOnce_156 (N : HN) (a0 : Nat) (p1 : Int32) (p2 : Int32) (p3 : Int32) (I : HI) (J : HJ) (x5 : Int64) (x7 : Int64) (x9 : Int64) (x11 : Int64) (bs0 : Nat) (s1 : Int32) (s2 : Int32) : Option (HI × HJ × Int32) :=
  if s1 = s2 then
    Mo_dividesOnce_164 N a0 p1 p2 p3 I J x5 x7 x9 x11 bs0 (1 : Int32)
  else
    Mo_dividesOnce_164 N a0 p1 p2 p3 I J x5 x7 x9 x11 bs0 (3 : Int32)
def Mo_dividesOnce_147 (N : HN) (a0 : Nat) (p1 : Int32) (p2 : Int32) (p3 : Int32) (I : HI) (J : HJ) (x5 : Int64) (x7 : Int64) (x9 : Int64) (x11 : Int64) (bs0 : Nat) (s1 : Int32) : Option (HI × HJ × Int32) :=
  if p2 = 0 then
    Mo_dividesOnce_156 N a0 p1 p2 p3 I J x5 x7 x9 x11 bs0 s1 (1 : Int32)
  else
    Mo_dividesOnce_156 N a0 p1 p2 p3 I J x5 x7 x9 x11 bs0 s1 (0 : Int32)
def Mo_dividesOnce_119 (N : HN) (a0 : Nat) (p1 : Int32) (p2 : Int32) (p3 : Int32) (I : HI) (J : HJ) (x5 : Int64) (x7 : Int64) (x9 : Int64) (x11 : Int64) (bs0 : Nat) (s1 : Int64) (s2 : Int64) : Option (HI × HJ × Int32) :=
  bn1 (Mo_takes bs0 s1 s2 J) fun J1 =>
  bn1 (Mo_isHandy J1 a0) fun r3 =>
  if r3 = 0 then
    some (I, J1, (-5 : Int32))
  else
    bn1 (Mo_makes N a0 p2 I) fun I6 =>
    if p1 = 0 then
      Mo_dividesOnce_147 N a0 p1 p2 p3 I6 J1 x5 x7 x9 x11 a0 (1 : Int32)
    else
      Mo_dividesOnce_147 N a0 p1 p2 p3 I6 J1 x5 x7 x9 x11 a0 (0 : Int32)
def Mo_dividesOnce_108 (N : HN) (a0 : Nat) (p1 : Int32) (p2 : Int32) (p3 : Int32) (I : HI) (J : HJ) (x5 : Int64) (x7 : Int64) (x9 : Int64) (x11 : Int64) (x13 : Int64) (x15 : Int64) (bs0 : Nat) (s1 : Int64) : Option (HI × HJ × Int32) :=
  if p1 = 0 then
    Mo_dividesOnce_119 N a0 p1 p2 p3 I J x5 x7 x9 x11 bs0 s1 x15
  else
    Mo_dividesOnce_119 N a0 p1 p2 p3 I J x5 x7 x9 x11 bs0 s1 x13
def Mo_dividesOnce_0 (N : HN) (a0 : Nat) (p1 : Int32) (p2 : Int32) (p3 : Int32) (I : HI) (J : HJ) : Option (HI × HJ × Int32) :=
  ra Tm nM (N a0 12) 2 fun b1 =>
  bn1 (Mo_top J b1) fun r2 =>
  ra Tm nM (N a0 11) 2 fun b4 =>
  bn1 (Mo_top J b4) fun r5 =>
  if r5 = (r2 + (1 : Int32)) then
    ra Tm nM (N a0 11) 2 fun b8 =>
    gd (inb (r2 + (1 : Int32)) (Tm b8).2) <|
    bd (J b8 (r2 + (1 : Int32)).toNatClampNeg) fun v10 =>
    ra Tm nM (N a0 12) 2 fun b11 =>
    gd (inb r2 (Tm b11).2) <|
    bd (J b11 r2.toNatClampNeg) fun v13 =>
    bd (J a0 13) fun v14 =>
    bd (J a0 14) fun v15 =>
    bn1 (Mo_scales a0 v14 v15 v10 v13 J) fun J16 =>
    bd (J16 a0 13) fun v18 =>
    bd (J16 a0 14) fun v19 =>
    if (0 : Int64) < v18 then
      if p1 = 0 then
        Mo_dividesOnce_108 N a0 p1 p2 p3 I J16 v10 v13 v14 v15 v18 v19 a0 v18
      else
        Mo_dividesOnce_108 N a0 p1 p2 p3 I J16 v10 v13 v14 v15 v18 v19 a0 v19
    else
      some (I, J16, (-100 : Int32) - p3)
  else
    some (I, J, (-100 : Int32) - p3)
def Mo_dividesOnce (N : HN) (a0 : Nat) (p1 : Int32) (p2 : Int32) (p3 : Int32) (I : HI) (J : HJ) : Option (HI × HJ × Int32) := Mo_dividesOnce_0 N a0 p1 p2 p3 I J
def Mo_divides_168 (N : HN) (a0 : Nat) (p1 : Int32) (I : HI) (J : HJ) : Option (HI × HJ × Int32) :=
  ra Tm nM (N a0 7) 1 fun b1 =>
  bn1 (Mo_valuesIn I b1 (I a0 8)) fun r2 =>
  some (I, J, r2)
def Mo_divides_122b (N : HN) (a0 : Nat) (p1 : Int32) (k122 : HI → HJ → Int32 → Int32 → Option (HI × HJ × Int32)) (I : HI) (J : HJ) (x2 : Int32) (x7 : Int32) : Option (HI × HJ × Int32) :=
  if (8 : Int32) ≤ x7 then
    Mo_divides_168 N a0 p1 I J
  else
    ra Tm nM (N a0 12) 2 fun b2 =>
    bn1 (Mo_top J b2) fun r3 =>
    if r3 = (-1 : Int32) then
      Mo_divides_168 N a0 p1 I J
    else
      bn3 (Mo_dividesOnce N a0 p1 x2 x7 I J) fun I6 J7 r8 =>
      if r8 = 0 then
        bd ((1 : Int32) - x2) fun v11 =>
        k122 I6 J7 v11 (x7 + 1)
      else
        some (I6, J7, r8)
def Mo_divides_122 (N : HN) (a0 : Nat) (p1 : Int32) : Nat → HI → HJ → Int32 → Int32 → Option (HI × HJ × Int32)
  | 0 => fun _ _ _ _ => none
  | n + 1 => Mo_divides_122b N a0 p1 (Mo_divides_122 N a0 p1 n)
def Mo_divides_88 (N : HN) (a0 : Nat) (p1 : Int32) (I : HI) (J : HJ) (x2 : Int32) : Option (HI × HJ × Int32) :=
  ra Tm nM (N a0 11) 2 fun b1 =>
  bn2 (Mo_content b1 J) fun J2 r3 =>
  ra Tm nM (N a0 12) 2 fun b5 =>
  bn2 (Mo_content b5 J2) fun J6 r7 =>
  bn1 (Mo_scales a0 r3 r7 (1 : Int64) (1 : Int64) J6) fun J9 =>
  bd (up2 I a0 8 (0 : Int32)) fun I11 =>
  Mo_divides_122 N a0 p1 256 I11 J9 x2 (0 : Int32)
def Mo_divides_78 (N : HN) (a0 : Nat) (p1 : Int32) (I : HI) (J : HJ) (s0 : Int32) : Option (HI × HJ × Int32) :=
  if s0 = (1 : Int32) then
    bn1 (Mo_swaps N a0 J) fun J2 =>
    Mo_divides_88 N a0 p1 I J2 s0
  else
    Mo_divides_88 N a0 p1 I J s0
def Mo_divides_20 (N : HN) (a0 : Nat) (p1 : Int32) (k2 : HI → HJ → Int32 → Option (HI × HJ × Int32)) (I : HI) (J : HJ) (x2 : Int32) (s0 : Int32) : Option (HI × HJ × Int32) :=
  ra Tm nM (N a0 11) 2 fun b1 =>
  ra Tm nM (N a0 4) 1 fun b2 =>
  gd (inb s0 (Tm b2).2) <|
  gd (inb x2 (Tm b1).2) <|
  bd (up2 J b1 x2.toNatClampNeg ((I b2 s0.toNatClampNeg).toInt64)) fun J5 =>
  ra Tm nM (N a0 12) 2 fun b6 =>
  ra Tm nM (N a0 4) 1 fun b7 =>
  gd (inb ((7 : Int32) + s0) (Tm b7).2) <|
  gd (inb x2 (Tm b6).2) <|
  bd (up2 J5 b6 x2.toNatClampNeg ((I b7 ((7 : Int32) + s0).toNatClampNeg).toInt64)) fun J10 =>
  k2 I J10 (x2 + 1)
def Mo_divides_2b (N : HN) (a0 : Nat) (p1 : Int32) (k2 : HI → HJ → Int32 → Option (HI × HJ × Int32)) (I : HI) (J : HJ) (x2 : Int32) : Option (HI × HJ × Int32) :=
  if (7 : Int32) ≤ x2 then
    ra Tm nM (N a0 11) 2 fun b2 =>
    bn1 (Mo_top J b2) fun r3 =>
    ra Tm nM (N a0 12) 2 fun b5 =>
    bn1 (Mo_top J b5) fun r6 =>
    if r3 ≤ r6 then
      Mo_divides_78 N a0 p1 I J (1 : Int32)
    else
      Mo_divides_78 N a0 p1 I J (0 : Int32)
  else
    if p1 = 0 then
      Mo_divides_20 N a0 p1 k2 I J x2 x2
    else
      Mo_divides_20 N a0 p1 k2 I J x2 ((6 : Int32) - x2)
def Mo_divides_2 (N : HN) (a0 : Nat) (p1 : Int32) : Nat → HI → HJ → Int32 → Option (HI × HJ × Int32)
  | 0 => fun _ _ _ => none
  | n + 1 => Mo_divides_2b N a0 p1 (Mo_divides_2 N a0 p1 n)
def Mo_divides_0 (N : HN) (a0 : Nat) (p1 : Int32) (I : HI) (J : HJ) : Option (HI × HJ × Int32) :=
  Mo_divides_2 N a0 p1 256 I J (0 : Int32)
def Mo_divides (N : HN) (a0 : Nat) (p1 : Int32) (I : HI) (J : HJ) : Option (HI × HJ × Int32) := Mo_divides_0 N a0 p1 I J
def Mo_squares_62 (I : HI) (N : HN) (a0 : Nat) (p1 : Int32) (p2 : Int32) (a3 : Nat) (k24 : HJ → Int32 → Option (HJ)) (J : HJ) (x4 : Int32) (s0 : Int32) : Option (HJ) :=
  gd (inb s0 (Tm a3).2) <|
  ra Tm nM (N a0 4) 1 fun b2 =>
  gd (inb (((7 : Int32) * p1) + x4) (Tm b2).2) <|
  gd (inb s0 (Tm a3).2) <|
  bd (up2 J a3 s0.toNatClampNeg ((J a3 s0.toNatClampNeg) + ((I b2 (((7 : Int32) * p1) + x4).toNatClampNeg).toInt64))) fun J5 =>
  k24 J5 (x4 + 1)
def Mo_squares_24b (I : HI) (N : HN) (a0 : Nat) (p1 : Int32) (p2 : Int32) (a3 : Nat) (k24 : HJ → Int32 → Option (HJ)) (J : HJ) (x4 : Int32) : Option (HJ) :=
  if (7 : Int32) ≤ x4 then
    some J
  else
    if (x4 - x4 / (2 : Int32) * (2 : Int32)) = 0 then
      Mo_squares_62 I N a0 p1 p2 a3 k24 J x4 (x4 / (2 : Int32))
    else
      if p2 = 0 then
        Mo_squares_62 I N a0 p1 p2 a3 k24 J x4 (x4 / (2 : Int32))
      else
        Mo_squares_62 I N a0 p1 p2 a3 k24 J x4 ((x4 + (1 : Int32)) / (2 : Int32))
def Mo_squares_24 (I : HI) (N : HN) (a0 : Nat) (p1 : Int32) (p2 : Int32) (a3 : Nat) : Nat → HJ → Int32 → Option (HJ)
  | 0 => fun _ _ => none
  | n + 1 => Mo_squares_24b I N a0 p1 p2 a3 (Mo_squares_24 I N a0 p1 p2 a3 n)
def Mo_squares_3b (I : HI) (N : HN) (a0 : Nat) (p1 : Int32) (p2 : Int32) (a3 : Nat) (k3 : HJ → Int32 → Option (HJ)) (J : HJ) (x4 : Int32) : Option (HJ) :=
  if (7 : Int32) ≤ x4 then
    Mo_squares_24 I N a0 p1 p2 a3 256 J (0 : Int32)
  else
    gd (inb x4 (Tm a3).2) <|
    bd (up2 J a3 x4.toNatClampNeg (0 : Int64)) fun J3 =>
    k3 J3 (x4 + 1)
def Mo_squares_3 (I : HI) (N : HN) (a0 : Nat) (p1 : Int32) (p2 : Int32) (a3 : Nat) : Nat → HJ → Int32 → Option (HJ)
  | 0 => fun _ _ => none
  | n + 1 => Mo_squares_3b I N a0 p1 p2 a3 (Mo_squares_3 I N a0 p1 p2 a3 n)
def Mo_squares_0 (I : HI) (N : HN) (a0 : Nat) (p1 : Int32) (p2 : Int32) (a3 : Nat) (J : HJ) : Option (HJ) :=
  Mo_squares_3 I N a0 p1 p2 a3 256 J (0 : Int32)
def Mo_squares (I : HI) (N : HN) (a0 : Nat) (p1 : Int32) (p2 : Int32) (a3 : Nat) (J : HJ) : Option (HJ) := Mo_squares_0 I N a0 p1 p2 a3 J
def Mo_downs_2b  (a0 : Nat) (k2 : HJ → Int32 → Option (HJ)) (J : HJ) (x1 : Int32) : Option (HJ) :=
  if (6 : Int32) ≤ x1 then
    gd (inb (6 : Int32) (Tm a0).2) <|
    bd (up2 J a0 (6 : Int32).toNatClampNeg (0 : Int64)) fun J3 =>
    some J3
  else
    gd (inb (x1 + (1 : Int32)) (Tm a0).2) <|
    gd (inb x1 (Tm a0).2) <|
    bd (up2 J a0 x1.toNatClampNeg (J a0 (x1 + (1 : Int32)).toNatClampNeg)) fun J6 =>
    k2 J6 (x1 + 1)
def Mo_downs_2  (a0 : Nat) : Nat → HJ → Int32 → Option (HJ)
  | 0 => fun _ _ => none
  | n + 1 => Mo_downs_2b a0 (Mo_downs_2 a0 n)
def Mo_downs_0  (a0 : Nat) (J : HJ) : Option (HJ) :=
  Mo_downs_2 a0 256 J (0 : Int32)
def Mo_downs  (a0 : Nat) (J : HJ) : Option (HJ) := Mo_downs_0 a0 J
def Mo_valueAt_12b (J : HJ) (a0 : Nat) (p1 : Int64) (p3 : Int64) (k12 : Int32 → Int64 → Int32 → Option (Int64)) (x5 : Int32) (x6 : Int64) (x8 : Int32) : Option (Int64) :=
  if x5 < x8 then
    some x6
  else
    gd (inb x8 (Tm a0).2) <|
    bn1 (Mo_power p1 x8) fun r3 =>
    bn1 (Mo_power p3 (x5 - x8)) fun r5 =>
    bd (x6 + (((J a0 x8.toNatClampNeg) * r3) * r5)) fun v7 =>
    k12 x5 v7 (x8 + 1)
def Mo_valueAt_12 (J : HJ) (a0 : Nat) (p1 : Int64) (p3 : Int64) : Nat → Int32 → Int64 → Int32 → Option (Int64)
  | 0 => fun _ _ _ => none
  | n + 1 => Mo_valueAt_12b J a0 p1 p3 (Mo_valueAt_12 J a0 p1 p3 n)
def Mo_valueAt_0 (J : HJ) (a0 : Nat) (p1 : Int64) (p3 : Int64) : Option (Int64) :=
  bn1 (Mo_top J a0) fun r1 =>
  Mo_valueAt_12 J a0 p1 p3 256 r1 (0 : Int64) (0 : Int32)
def Mo_valueAt (J : HJ) (a0 : Nat) (p1 : Int64) (p3 : Int64) : Option (Int64) := Mo_valueAt_0 J a0 p1 p3
def Mo_takesOut_83b (N : HN) (a0 : Nat) (p1 : Int64) (p3 : Int64) (k83 : HJ → Int32 → Int32 → Option (HJ × Int32)) (J : HJ) (x5 : Int32) (x8 : Int32) : Option (HJ × Int32) :=
  if x5 ≤ x8 then
    ra Tm nM (N a0 17) 2 fun b2 =>
    gd (inb x5 (Tm b2).2) <|
    bd (up2 J b2 x5.toNatClampNeg (0 : Int64)) fun J4 =>
    some (J4, (1 : Int32))
  else
    ra Tm nM (N a0 17) 2 fun b5 =>
    ra Tm nM (N a0 18) 2 fun b6 =>
    gd (inb x8 (Tm b6).2) <|
    gd (inb x8 (Tm b5).2) <|
    bd (up2 J b5 x8.toNatClampNeg (J b6 x8.toNatClampNeg)) fun J9 =>
    k83 J9 x5 (x8 + 1)
def Mo_takesOut_83 (N : HN) (a0 : Nat) (p1 : Int64) (p3 : Int64) : Nat → HJ → Int32 → Int32 → Option (HJ × Int32)
  | 0 => fun _ _ _ => none
  | n + 1 => Mo_takesOut_83b N a0 p1 p3 (Mo_takesOut_83 N a0 p1 p3 n)
def Mo_takesOut_38b (N : HN) (a0 : Nat) (p1 : Int64) (p3 : Int64) (k38 : HJ → Int32 → Int64 → Int32 → Option (HJ × Int32)) (J : HJ) (x5 : Int32) (x6 : Int64) (x8 : Int32) : Option (HJ × Int32) :=
  if x8 ≤ 0 then
    Mo_takesOut_83 N a0 p1 p3 256 J x5 (0 : Int32)
  else
    ra Tm nM (N a0 17) 2 fun b2 =>
    gd (inb x8 (Tm b2).2) <|
    gd (decide (¬ p3 = 0)) <|
    bd (((J b2 x8.toNatClampNeg) + (p1 * x6)) / p3) fun v5 =>
    ra Tm nM (N a0 18) 2 fun b6 =>
    gd (inb (x8 - (1 : Int32)) (Tm b6).2) <|
    bd (up2 J b6 (x8 - (1 : Int32)).toNatClampNeg v5) fun J8 =>
    k38 J8 x5 v5 (x8 + (-1))
def Mo_takesOut_38 (N : HN) (a0 : Nat) (p1 : Int64) (p3 : Int64) : Nat → HJ → Int32 → Int64 → Int32 → Option (HJ × Int32)
  | 0 => fun _ _ _ _ => none
  | n + 1 => Mo_takesOut_38b N a0 p1 p3 (Mo_takesOut_38 N a0 p1 p3 n)
def Mo_takesOut_0 (N : HN) (a0 : Nat) (p1 : Int64) (p3 : Int64) (J : HJ) : Option (HJ × Int32) :=
  ra Tm nM (N a0 17) 2 fun b1 =>
  bn1 (Mo_top J b1) fun r2 =>
  if r2 < (1 : Int32) then
    some (J, (0 : Int32))
  else
    ra Tm nM (N a0 17) 2 fun b5 =>
    bn1 (Mo_valueAt J b5 p1 p3) fun r6 =>
    if r6 = (0 : Int64) then
      Mo_takesOut_38 N a0 p1 p3 256 J r2 (0 : Int64) r2
    else
      some (J, (0 : Int32))
def Mo_takesOut (N : HN) (a0 : Nat) (p1 : Int64) (p3 : Int64) (J : HJ) : Option (HJ × Int32) := Mo_takesOut_0 N a0 p1 p3 J
def Mo_candidate_145  (p0 : Int32) (p1 : Int32) (k17 : Int32 → Int32 → Int32 → Int32 → Int32 → Option (Int32)) (k30 : Int32 → Int32 → Int32 → Int32 → Int32 → Int32 → Option (Int32)) (x2 : Int32) (x5 : Int32) (x6 : Int32) (x7 : Int32) (x8 : Int32) (s0 : Int32) : Option (Int32) :=
  k30 x2 s0 x5 x6 x7 (x8 + 1)
def Mo_candidate_132  (p0 : Int32) (p1 : Int32) (k17 : Int32 → Int32 → Int32 → Int32 → Int32 → Option (Int32)) (k30 : Int32 → Int32 → Int32 → Int32 → Int32 → Int32 → Option (Int32)) (x3 : Int32) (x4 : Int32) (x5 : Int32) (x6 : Int32) (x7 : Int32) (x8 : Int32) (x10 : Int32) (s0 : Int32) : Option (Int32) :=
  if x4 = (-1 : Int32) then
    Mo_candidate_145 p0 p1 k17 k30 s0 x5 x6 x7 x8 x3
  else
    Mo_candidate_145 p0 p1 k17 k30 s0 x5 x6 x7 x8 x10
def Mo_candidate_118  (p0 : Int32) (p1 : Int32) (k17 : Int32 → Int32 → Int32 → Int32 → Int32 → Option (Int32)) (k30 : Int32 → Int32 → Int32 → Int32 → Int32 → Int32 → Option (Int32)) (x2 : Int32) (x3 : Int32) (x5 : Int32) (x6 : Int32) (x7 : Int32) (x8 : Int32) (x9 : Int32) (x10 : Int32) (s0 : Int32) : Option (Int32) :=
  if s0 = (-1 : Int32) then
    Mo_candidate_132 p0 p1 k17 k30 x3 s0 x5 x6 x7 x8 x10 x2
  else
    Mo_candidate_132 p0 p1 k17 k30 x3 s0 x5 x6 x7 x8 x10 x9
def Mo_candidate_117  (p0 : Int32) (p1 : Int32) (k17 : Int32 → Int32 → Int32 → Int32 → Int32 → Option (Int32)) (k30 : Int32 → Int32 → Int32 → Int32 → Int32 → Int32 → Option (Int32)) (x2 : Int32) (x3 : Int32) (x5 : Int32) (x6 : Int32) (x7 : Int32) (x8 : Int32) (x9 : Int32) (x10 : Int32) : Option (Int32) :=
  Mo_candidate_118 p0 p1 k17 k30 x2 x3 x5 x6 x7 x8 x9 x10 (-1 : Int32)
def Mo_candidate_112  (p0 : Int32) (p1 : Int32) (k17 : Int32 → Int32 → Int32 → Int32 → Int32 → Option (Int32)) (k30 : Int32 → Int32 → Int32 → Int32 → Int32 → Int32 → Option (Int32)) (x2 : Int32) (x3 : Int32) (x5 : Int32) (x6 : Int32) (x7 : Int32) (x8 : Int32) (x9 : Int32) (x10 : Int32) : Option (Int32) :=
  Mo_candidate_118 p0 p1 k17 k30 x2 x3 x5 x6 x7 x8 x9 x10 x8
def Mo_candidate_90  (p0 : Int32) (p1 : Int32) (k17 : Int32 → Int32 → Int32 → Int32 → Int32 → Option (Int32)) (k30 : Int32 → Int32 → Int32 → Int32 → Int32 → Int32 → Option (Int32)) (x2 : Int32) (x3 : Int32) (x5 : Int32) (x6 : Int32) (x7 : Int32) (x8 : Int32) (x9 : Int32) (x10 : Int32) (s0 : Int32) : Option (Int32) :=
  if s0 = 0 then
    Mo_candidate_117 p0 p1 k17 k30 x2 x3 x5 x6 x7 x8 x9 x10
  else
    if x3 = 0 then
      Mo_candidate_112 p0 p1 k17 k30 x2 x3 x5 x6 x7 x8 x9 x10
    else
      if (x2 * x10) ≤ (x9 * x3) then
        Mo_candidate_117 p0 p1 k17 k30 x2 x3 x5 x6 x7 x8 x9 x10
      else
        Mo_candidate_112 p0 p1 k17 k30 x2 x3 x5 x6 x7 x8 x9 x10
def Mo_candidate_60  (p0 : Int32) (p1 : Int32) (k17 : Int32 → Int32 → Int32 → Int32 → Int32 → Option (Int32)) (k30 : Int32 → Int32 → Int32 → Int32 → Int32 → Int32 → Option (Int32)) (x2 : Int32) (x3 : Int32) (x5 : Int32) (x6 : Int32) (x7 : Int32) (x8 : Int32) (s0 : Int32) (s1 : Int32) : Option (Int32) :=
  bd (s0 * s1) fun v1 =>
  bd ((x8 - x8 / (9 : Int32) * (9 : Int32)) + (1 : Int32)) fun v2 =>
  if (v1 * x6) ≤ (x5 * v2) then
    Mo_candidate_90 p0 p1 k17 k30 x2 x3 x5 x6 x7 x8 v1 v2 (0 : Int32)
  else
    Mo_candidate_90 p0 p1 k17 k30 x2 x3 x5 x6 x7 x8 v1 v2 (1 : Int32)
def Mo_candidate_30b  (p0 : Int32) (p1 : Int32) (k17 : Int32 → Int32 → Int32 → Int32 → Int32 → Option (Int32)) (k30 : Int32 → Int32 → Int32 → Int32 → Int32 → Int32 → Option (Int32)) (x2 : Int32) (x3 : Int32) (x5 : Int32) (x6 : Int32) (x7 : Int32) (x8 : Int32) : Option (Int32) :=
  if (162 : Int32) ≤ x8 then
    if x3 = 0 then
      some (0 : Int32)
    else
      k17 x2 x3 x2 x3 (x7 + 1)
  else
    if (81 : Int32) ≤ x8 then
      Mo_candidate_60 p0 p1 k17 k30 x2 x3 x5 x6 x7 x8 (((x8 - x8 / (81 : Int32) * (81 : Int32)) / (9 : Int32)) + (1 : Int32)) (1 : Int32)
    else
      Mo_candidate_60 p0 p1 k17 k30 x2 x3 x5 x6 x7 x8 (((x8 - x8 / (81 : Int32) * (81 : Int32)) / (9 : Int32)) + (1 : Int32)) (-1 : Int32)
def Mo_candidate_30  (p0 : Int32) (p1 : Int32) (k17 : Int32 → Int32 → Int32 → Int32 → Int32 → Option (Int32)) : Nat → Int32 → Int32 → Int32 → Int32 → Int32 → Int32 → Option (Int32)
  | 0 => fun _ _ _ _ _ _ => none
  | n + 1 => Mo_candidate_30b p0 p1 k17 (Mo_candidate_30 p0 p1 k17 n)
def Mo_candidate_17b  (p0 : Int32) (p1 : Int32) (k17 : Int32 → Int32 → Int32 → Int32 → Int32 → Option (Int32)) (x2 : Int32) (x3 : Int32) (x5 : Int32) (x6 : Int32) (x7 : Int32) : Option (Int32) :=
  if p0 < x7 then
    if p1 = 0 then
      some x2
    else
      some x3
  else
    Mo_candidate_30 p0 p1 k17 256 (0 : Int32) (0 : Int32) x5 x6 x7 (0 : Int32)
def Mo_candidate_17  (p0 : Int32) (p1 : Int32) : Nat → Int32 → Int32 → Int32 → Int32 → Int32 → Option (Int32)
  | 0 => fun _ _ _ _ _ => none
  | n + 1 => Mo_candidate_17b p0 p1 (Mo_candidate_17 p0 p1 n)
def Mo_candidate_0  (p0 : Int32) (p1 : Int32) : Option (Int32) :=
  Mo_candidate_17 p0 p1 256 (0 : Int32) (0 : Int32) (-10 : Int32) (1 : Int32) (0 : Int32)
def Mo_candidate  (p0 : Int32) (p1 : Int32) : Option (Int32) := Mo_candidate_0 p0 p1
def Mo_candidates_10b (N : HN) (a0 : Nat) (k10 : HI → Int32 → Option (HI)) (I : HI) (x1 : Int32) : Option (HI) :=
  if (120 : Int32) ≤ x1 then
    some I
  else
    bn1 (Mo_candidate x1 (1 : Int32)) fun r2 =>
    if r2 = 0 then
      some I
    else
      ra Tm nM (N a0 19) 1 fun b5 =>
      bn1 (Mo_candidate x1 (0 : Int32)) fun r6 =>
      gd (inb x1 (Tm b5).2) <|
      bd (up2 I b5 x1.toNatClampNeg r6) fun I9 =>
      ra Tm nM (N a0 20) 1 fun b10 =>
      gd (inb x1 (Tm b10).2) <|
      bd (up2 I9 b10 x1.toNatClampNeg r2) fun I12 =>
      bd (up2 I12 a0 21 ((I12 a0 21) + (1 : Int32))) fun I13 =>
      k10 I13 (x1 + 1)
def Mo_candidates_10 (N : HN) (a0 : Nat) : Nat → HI → Int32 → Option (HI)
  | 0 => fun _ _ => none
  | n + 1 => Mo_candidates_10b N a0 (Mo_candidates_10 N a0 n)
def Mo_candidates_0 (N : HN) (a0 : Nat) (I : HI) : Option (HI) :=
  if (I a0 21) ≤ 0 then
    Mo_candidates_10 N a0 256 I (0 : Int32)
  else
    some I
def Mo_candidates (N : HN) (a0 : Nat) (I : HI) : Option (HI) := Mo_candidates_0 N a0 I
def Mo_isDark_98 (I : HI) (N : HN) (a0 : Nat) (k49 : HJ → Int32 → Option (HJ × Int32)) (J : HJ) (x1 : Int32) : Option (HJ × Int32) :=
  k49 J (x1 + 1)
def Mo_isDark_61b (I : HI) (N : HN) (a0 : Nat) (k49 : HJ → Int32 → Option (HJ × Int32)) (k61 : HJ → Int32 → Int32 → Int32 → Option (HJ × Int32)) (J : HJ) (x1 : Int32) (x2 : Int32) (x3 : Int32) : Option (HJ × Int32) :=
  if (7 : Int32) ≤ x3 then
    Mo_isDark_98 I N a0 k49 J x1
  else
    if x2 = 0 then
      Mo_isDark_98 I N a0 k49 J x1
    else
      ra Tm nM (N a0 19) 1 fun b3 =>
      gd (inb x1 (Tm b3).2) <|
      ra Tm nM (N a0 20) 1 fun b5 =>
      gd (inb x1 (Tm b5).2) <|
      bn2 (Mo_takesOut N a0 ((0 : Int64) - ((I b3 x1.toNatClampNeg).toInt64)) ((I b5 x1.toNatClampNeg).toInt64) J) fun J7 r8 =>
      k61 J7 x1 r8 (x3 + 1)
def Mo_isDark_61 (I : HI) (N : HN) (a0 : Nat) (k49 : HJ → Int32 → Option (HJ × Int32)) : Nat → HJ → Int32 → Int32 → Int32 → Option (HJ × Int32)
  | 0 => fun _ _ _ _ => none
  | n + 1 => Mo_isDark_61b I N a0 k49 (Mo_isDark_61 I N a0 k49 n)
def Mo_isDark_49b (I : HI) (N : HN) (a0 : Nat) (k49 : HJ → Int32 → Option (HJ × Int32)) (J : HJ) (x1 : Int32) : Option (HJ × Int32) :=
  if (I a0 21) ≤ x1 then
    ra Tm nM (N a0 17) 2 fun b2 =>
    bn1 (Mo_top J b2) fun r3 =>
    if r3 ≤ 0 then
      some (J, (0 : Int32))
    else
      some (J, (1 : Int32))
  else
    Mo_isDark_61 I N a0 k49 256 J x1 (1 : Int32) (0 : Int32)
def Mo_isDark_49 (I : HI) (N : HN) (a0 : Nat) : Nat → HJ → Int32 → Option (HJ × Int32)
  | 0 => fun _ _ => none
  | n + 1 => Mo_isDark_49b I N a0 (Mo_isDark_49 I N a0 n)
def Mo_isDark_26b (I : HI) (N : HN) (a0 : Nat) (k26 : HJ → Option (HJ × Int32)) (J : HJ) : Option (HJ × Int32) :=
  ra Tm nM (N a0 17) 2 fun b1 =>
  gd (inb (0 : Int32) (Tm b1).2) <|
  if (J b1 (0 : Int32).toNatClampNeg) = (0 : Int64) then
    ra Tm nM (N a0 17) 2 fun b4 =>
    bn1 (Mo_downs b4 J) fun J5 =>
    k26 J5
  else
    Mo_isDark_49 I N a0 256 J (0 : Int32)
def Mo_isDark_26 (I : HI) (N : HN) (a0 : Nat) : Nat → HJ → Option (HJ × Int32)
  | 0 => fun _ => none
  | n + 1 => Mo_isDark_26b I N a0 (Mo_isDark_26 I N a0 n)
def Mo_isDark_2b (I : HI) (N : HN) (a0 : Nat) (k2 : HJ → Int32 → Option (HJ × Int32)) (J : HJ) (x1 : Int32) : Option (HJ × Int32) :=
  if (7 : Int32) ≤ x1 then
    Mo_isDark_26 I N a0 256 J
  else
    ra Tm nM (N a0 17) 2 fun b2 =>
    ra Tm nM (N a0 16) 2 fun b3 =>
    gd (inb x1 (Tm b3).2) <|
    gd (inb x1 (Tm b2).2) <|
    bd (up2 J b2 x1.toNatClampNeg (J b3 x1.toNatClampNeg)) fun J6 =>
    k2 J6 (x1 + 1)
def Mo_isDark_2 (I : HI) (N : HN) (a0 : Nat) : Nat → HJ → Int32 → Option (HJ × Int32)
  | 0 => fun _ _ => none
  | n + 1 => Mo_isDark_2b I N a0 (Mo_isDark_2 I N a0 n)
def Mo_isDark_0 (I : HI) (N : HN) (a0 : Nat) (J : HJ) : Option (HJ × Int32) :=
  Mo_isDark_2 I N a0 256 J (0 : Int32)
def Mo_isDark (I : HI) (N : HN) (a0 : Nat) (J : HJ) : Option (HJ × Int32) := Mo_isDark_0 I N a0 J
def Mo_isRoot_0 (I : HI) (J : HJ) (N : HN) (a0 : Nat) (p1 : Int32) : Option (Int32) :=
  ra Tm nM (N a0 16) 2 fun b1 =>
  ra Tm nM (N a0 19) 1 fun b2 =>
  gd (inb p1 (Tm b2).2) <|
  ra Tm nM (N a0 20) 1 fun b4 =>
  gd (inb p1 (Tm b4).2) <|
  bn1 (Mo_valueAt J b1 ((0 : Int64) - ((I b2 p1.toNatClampNeg).toInt64)) ((I b4 p1.toNatClampNeg).toInt64)) fun r6 =>
  if r6 = (0 : Int64) then
    some (1 : Int32)
  else
    some (0 : Int32)
def Mo_isRoot (I : HI) (J : HJ) (N : HN) (a0 : Nat) (p1 : Int32) : Option (Int32) := Mo_isRoot_0 I J N a0 p1
def Mo_slopes_2b (N : HN) (a0 : Nat) (k2 : HJ → Int32 → Option (HJ)) (J : HJ) (x1 : Int32) : Option (HJ) :=
  if (6 : Int32) ≤ x1 then
    ra Tm nM (N a0 22) 2 fun b2 =>
    gd (inb (6 : Int32) (Tm b2).2) <|
    bd (up2 J b2 (6 : Int32).toNatClampNeg (0 : Int64)) fun J4 =>
    some J4
  else
    ra Tm nM (N a0 22) 2 fun b5 =>
    ra Tm nM (N a0 16) 2 fun b6 =>
    gd (inb (x1 + (1 : Int32)) (Tm b6).2) <|
    gd (inb x1 (Tm b5).2) <|
    bd (up2 J b5 x1.toNatClampNeg (((x1 + (1 : Int32)).toInt64) * (J b6 (x1 + (1 : Int32)).toNatClampNeg))) fun J9 =>
    k2 J9 (x1 + 1)
def Mo_slopes_2 (N : HN) (a0 : Nat) : Nat → HJ → Int32 → Option (HJ)
  | 0 => fun _ _ => none
  | n + 1 => Mo_slopes_2b N a0 (Mo_slopes_2 N a0 n)
def Mo_slopes_0 (N : HN) (a0 : Nat) (J : HJ) : Option (HJ) :=
  Mo_slopes_2 N a0 256 J (0 : Int32)
def Mo_slopes (N : HN) (a0 : Nat) (J : HJ) : Option (HJ) := Mo_slopes_0 N a0 J
def Mo_alone_62 (N : HN) (a0 : Nat) (p1 : Int32) (p2 : Int32) (p3 : Int32) (p4 : Int64) (p6 : Int64) (I : HI) (J : HJ) (bs0 : Nat) (s1 : Int64) (s2 : Int64) : Option (HI × HJ × Int32) :=
  bn1 (Mo_takes bs0 s1 s2 J) fun J1 =>
  bn1 (Mo_isHandy J1 a0) fun r3 =>
  if r3 = 0 then
    some (I, J1, (-5 : Int32))
  else
    bn1 (Mo_makes N a0 (p1 - (2 : Int32)) I) fun I6 =>
    bn1 (Mo_lays J1 N a0 p2 I6) fun I8 =>
    bd (up2 I8 a0 8 ((I8 a0 8) + (1 : Int32))) fun I10 =>
    some (I10, J1, (0 : Int32))
def Mo_alone_51 (N : HN) (a0 : Nat) (p1 : Int32) (p2 : Int32) (p3 : Int32) (p4 : Int64) (p6 : Int64) (I : HI) (J : HJ) (bs0 : Nat) (s1 : Int64) : Option (HI × HJ × Int32) :=
  if p3 = 0 then
    Mo_alone_62 N a0 p1 p2 p3 p4 p6 I J bs0 s1 p6
  else
    Mo_alone_62 N a0 p1 p2 p3 p4 p6 I J bs0 s1 p4
def Mo_alone_34 (N : HN) (a0 : Nat) (p1 : Int32) (p2 : Int32) (p3 : Int32) (p4 : Int64) (p6 : Int64) (I : HI) (J : HJ) : Option (HI × HJ × Int32) :=
  some (I, J, (-100 : Int32) - p3)
def Mo_alone_31 (N : HN) (a0 : Nat) (p1 : Int32) (p2 : Int32) (p3 : Int32) (p4 : Int64) (p6 : Int64) (I : HI) (J : HJ) (s0 : Int32) (s1 : Int32) : Option (HI × HJ × Int32) :=
  if s0 = s1 then
    if p3 = 0 then
      Mo_alone_51 N a0 p1 p2 p3 p4 p6 I J a0 p4
    else
      Mo_alone_51 N a0 p1 p2 p3 p4 p6 I J a0 p6
  else
    Mo_alone_34 N a0 p1 p2 p3 p4 p6 I J
def Mo_alone_19 (N : HN) (a0 : Nat) (p1 : Int32) (p2 : Int32) (p3 : Int32) (p4 : Int64) (p6 : Int64) (I : HI) (J : HJ) (s0 : Int32) : Option (HI × HJ × Int32) :=
  if (0 : Int64) ≤ p6 then
    Mo_alone_31 N a0 p1 p2 p3 p4 p6 I J s0 (0 : Int32)
  else
    Mo_alone_31 N a0 p1 p2 p3 p4 p6 I J s0 (1 : Int32)
def Mo_alone_0 (N : HN) (a0 : Nat) (p1 : Int32) (p2 : Int32) (p3 : Int32) (p4 : Int64) (p6 : Int64) (I : HI) (J : HJ) : Option (HI × HJ × Int32) :=
  if p4 = (0 : Int64) then
    Mo_alone_34 N a0 p1 p2 p3 p4 p6 I J
  else
    if (0 : Int64) ≤ p4 then
      Mo_alone_19 N a0 p1 p2 p3 p4 p6 I J (0 : Int32)
    else
      Mo_alone_19 N a0 p1 p2 p3 p4 p6 I J (1 : Int32)
def Mo_alone (N : HN) (a0 : Nat) (p1 : Int32) (p2 : Int32) (p3 : Int32) (p4 : Int64) (p6 : Int64) (I : HI) (J : HJ) : Option (HI × HJ × Int32) := Mo_alone_0 N a0 p1 p2 p3 p4 p6 I J
def Mo_ends_131 (N : HN) (a0 : Nat) (p1 : Int32) (I : HI) (J : HJ) (bs0 : Nat) (s1 : Int32) (s2 : Int32) : Option (HI × HJ × Int32) :=
  ra Tm nM (N a0 15) 2 fun b1 =>
  gd (inb (0 : Int32) (Tm b1).2) <|
  ra Tm nM (N a0 16) 2 fun b3 =>
  gd (inb (0 : Int32) (Tm b3).2) <|
  bn3 (Mo_alone N bs0 s1 s2 (1 : Int32) (J b1 (0 : Int32).toNatClampNeg) (J b3 (0 : Int32).toNatClampNeg) I J) fun I5 J6 r7 =>
  some (I5, J6, r7)
def Mo_ends_84 (N : HN) (a0 : Nat) (p1 : Int32) (I : HI) (J : HJ) (x2 : Int32) : Option (HI × HJ × Int32) :=
  if x2 = 0 then
    ra Tm nM (N a0 16) 2 fun b2 =>
    gd (inb (0 : Int32) (Tm b2).2) <|
    if (J b2 (0 : Int32).toNatClampNeg) = (0 : Int64) then
      some (I, J, (-101 : Int32))
    else
      ra Tm nM (N a0 15) 2 fun b5 =>
      gd (inb (0 : Int32) (Tm b5).2) <|
      if (J b5 (0 : Int32).toNatClampNeg) = (0 : Int64) then
        some (I, J, (0 : Int32))
      else
        if p1 = (2 : Int32) then
          Mo_ends_131 N a0 p1 I J a0 p1 (3 : Int32)
        else
          Mo_ends_131 N a0 p1 I J a0 p1 (1 : Int32)
  else
    some (I, J, x2)
def Mo_ends_83 (N : HN) (a0 : Nat) (p1 : Int32) (I : HI) (J : HJ) (s0 : Int32) : Option (HI × HJ × Int32) :=
  Mo_ends_84 N a0 p1 I J s0
def Mo_ends_55 (N : HN) (a0 : Nat) (p1 : Int32) (I : HI) (J : HJ) (bs0 : Nat) (s1 : Int32) (s2 : Int32) : Option (HI × HJ × Int32) :=
  ra Tm nM (N a0 15) 2 fun b1 =>
  ra Tm nM (N a0 15) 2 fun b2 =>
  bn1 (Mo_top J b2) fun r3 =>
  gd (inb r3 (Tm b1).2) <|
  ra Tm nM (N a0 16) 2 fun b6 =>
  ra Tm nM (N a0 16) 2 fun b7 =>
  bn1 (Mo_top J b7) fun r8 =>
  gd (inb r8 (Tm b6).2) <|
  bn3 (Mo_alone N bs0 s1 s2 (0 : Int32) (J b1 r3.toNatClampNeg) (J b6 r8.toNatClampNeg) I J) fun I11 J12 r13 =>
  Mo_ends_83 N a0 p1 I11 J12 r13
def Mo_ends_0 (N : HN) (a0 : Nat) (p1 : Int32) (I : HI) (J : HJ) : Option (HI × HJ × Int32) :=
  ra Tm nM (N a0 15) 2 fun b1 =>
  bn1 (Mo_top J b1) fun r2 =>
  ra Tm nM (N a0 16) 2 fun b4 =>
  bn1 (Mo_top J b4) fun r5 =>
  if r2 ≤ r5 then
    Mo_ends_84 N a0 p1 I J (0 : Int32)
  else
    ra Tm nM (N a0 15) 2 fun b8 =>
    bn1 (Mo_top J b8) fun r9 =>
    ra Tm nM (N a0 16) 2 fun b11 =>
    bn1 (Mo_top J b11) fun r12 =>
    if r9 ≤ (r12 + (1 : Int32)) then
      if p1 = (2 : Int32) then
        Mo_ends_55 N a0 p1 I J a0 p1 (1 : Int32)
      else
        Mo_ends_55 N a0 p1 I J a0 p1 (3 : Int32)
    else
      Mo_ends_83 N a0 p1 I J (-100 : Int32)
def Mo_ends (N : HN) (a0 : Nat) (p1 : Int32) (I : HI) (J : HJ) : Option (HI × HJ × Int32) := Mo_ends_0 N a0 p1 I J
def Mo_rootOnce_262 (N : HN) (a0 : Nat) (p1 : Int32) (p2 : Int32) (p3 : Int64) (p5 : Int64) (I : HI) (J : HJ) (bs0 : Nat) (s1 : Int32) : Option (HI × HJ × Int32) :=
  bn1 (Mo_lays J N bs0 s1 I) fun I1 =>
  bd (up2 I1 a0 8 ((I1 a0 8) + (1 : Int32))) fun I3 =>
  some (I3, J, (0 : Int32))
def Mo_rootOnce_241 (N : HN) (a0 : Nat) (p1 : Int32) (p2 : Int32) (p3 : Int64) (p5 : Int64) (I : HI) (J : HJ) (s0 : Int32) : Option (HI × HJ × Int32) :=
  if s0 = 0 then
    some (I, J, (-5 : Int32))
  else
    if p1 = (2 : Int32) then
      Mo_rootOnce_262 N a0 p1 p2 p3 p5 I J a0 (3 : Int32)
    else
      Mo_rootOnce_262 N a0 p1 p2 p3 p5 I J a0 (1 : Int32)
def Mo_rootOnce_240 (N : HN) (a0 : Nat) (p1 : Int32) (p2 : Int32) (p3 : Int64) (p5 : Int64) (I : HI) (J : HJ) : Option (HI × HJ × Int32) :=
  Mo_rootOnce_241 N a0 p1 p2 p3 p5 I J (0 : Int32)
def Mo_rootOnce_213 (N : HN) (a0 : Nat) (p1 : Int32) (p2 : Int32) (p3 : Int64) (p5 : Int64) (I : HI) (J : HJ) (x18 : Int64) (x20 : Int64) (x22 : Int32) (bs0 : Nat) (s1 : Int32) : Option (HI × HJ × Int32) :=
  bn1 (Mo_lays J N bs0 s1 I) fun I1 =>
  bn1 (Mo_takes a0 x20 x18 J) fun J3 =>
  if x22 = 0 then
    Mo_rootOnce_240 N a0 p1 p2 p3 p5 I1 J3
  else
    bn1 (Mo_isHandy J3 a0) fun r6 =>
    if r6 = 0 then
      Mo_rootOnce_240 N a0 p1 p2 p3 p5 I1 J3
    else
      Mo_rootOnce_241 N a0 p1 p2 p3 p5 I1 J3 (1 : Int32)
def Mo_rootOnce_148 (N : HN) (a0 : Nat) (p1 : Int32) (p2 : Int32) (p3 : Int64) (p5 : Int64) (I : HI) (J : HJ) (x14 : Int64) (x16 : Int64) (s0 : Int32) (s1 : Int32) : Option (HI × HJ × Int32) :=
  if s0 = s1 then
    bn1 (Mo_takes a0 x14 x16 J) fun J2 =>
    bd (J2 a0 9) fun v4 =>
    bd (J2 a0 10) fun v5 =>
    bn1 (Mo_makes N a0 (p1 - (2 : Int32)) I) fun I6 =>
    bn1 (Mo_takes a0 (v4 * p5) (v5 * p3) J2) fun J8 =>
    bn1 (Mo_isHandy J8 a0) fun r10 =>
    if p1 = (2 : Int32) then
      Mo_rootOnce_213 N a0 p1 p2 p3 p5 I6 J8 v4 v5 r10 a0 (1 : Int32)
    else
      Mo_rootOnce_213 N a0 p1 p2 p3 p5 I6 J8 v4 v5 r10 a0 (3 : Int32)
  else
    some (I, J, (-100 : Int32) - p2)
def Mo_rootOnce_136 (N : HN) (a0 : Nat) (p1 : Int32) (p2 : Int32) (p3 : Int64) (p5 : Int64) (I : HI) (J : HJ) (x14 : Int64) (x16 : Int64) (s0 : Int32) : Option (HI × HJ × Int32) :=
  if (0 : Int64) ≤ x16 then
    Mo_rootOnce_148 N a0 p1 p2 p3 p5 I J x14 x16 s0 (0 : Int32)
  else
    Mo_rootOnce_148 N a0 p1 p2 p3 p5 I J x14 x16 s0 (1 : Int32)
def Mo_rootOnce_121 (N : HN) (a0 : Nat) (p1 : Int32) (p2 : Int32) (p3 : Int64) (p5 : Int64) (I : HI) (J : HJ) (x14 : Int64) (s0 : Int64) (s1 : Int64) : Option (HI × HJ × Int32) :=
  bd (s0 * s1) fun v1 =>
  if (0 : Int64) ≤ x14 then
    Mo_rootOnce_136 N a0 p1 p2 p3 p5 I J x14 v1 (0 : Int32)
  else
    Mo_rootOnce_136 N a0 p1 p2 p3 p5 I J x14 v1 (1 : Int32)
def Mo_rootOnce_95 (N : HN) (a0 : Nat) (p1 : Int32) (p2 : Int32) (p3 : Int64) (p5 : Int64) (I : HI) (J : HJ) (x7 : Int64) (x9 : Int64) (x13 : Int32) (s0 : Int64) (s1 : Int64) : Option (HI × HJ × Int32) :=
  bd (s0 * s1) fun v1 =>
  if 0 ≤ x13 then
    Mo_rootOnce_121 N a0 p1 p2 p3 p5 I J v1 (x7 * x9) (1 : Int64)
  else
    bn1 (Mo_power p5 ((0 : Int32) - x13)) fun r3 =>
    Mo_rootOnce_121 N a0 p1 p2 p3 p5 I J v1 (x7 * x9) r3
def Mo_rootOnce_31 (N : HN) (a0 : Nat) (p1 : Int32) (p2 : Int32) (p3 : Int64) (p5 : Int64) (I : HI) (J : HJ) : Option (HI × HJ × Int32) :=
  some (I, J, (-100 : Int32) - p2)
def Mo_rootOnce_0 (N : HN) (a0 : Nat) (p1 : Int32) (p2 : Int32) (p3 : Int64) (p5 : Int64) (I : HI) (J : HJ) : Option (HI × HJ × Int32) :=
  bd ((0 : Int64) - p3) fun v1 =>
  ra Tm nM (N a0 22) 2 fun b2 =>
  bn1 (Mo_valueAt J b2 v1 p5) fun r3 =>
  if p3 ≤ (0 : Int64) then
    Mo_rootOnce_31 N a0 p1 p2 p3 p5 I J
  else
    if r3 = (0 : Int64) then
      Mo_rootOnce_31 N a0 p1 p2 p3 p5 I J
    else
      ra Tm nM (N a0 15) 2 fun b7 =>
      bn1 (Mo_valueAt J b7 v1 p5) fun r8 =>
      if r8 = (0 : Int64) then
        some (I, J, (0 : Int32))
      else
        ra Tm nM (N a0 22) 2 fun b11 =>
        bn1 (Mo_top J b11) fun r12 =>
        ra Tm nM (N a0 15) 2 fun b14 =>
        bn1 (Mo_top J b14) fun r15 =>
        bd ((r12 + (1 : Int32)) - r15) fun v17 =>
        if v17 ≤ 0 then
          Mo_rootOnce_95 N a0 p1 p2 p3 p5 I J v1 r3 v17 r8 (1 : Int64)
        else
          bn1 (Mo_power p5 v17) fun r19 =>
          Mo_rootOnce_95 N a0 p1 p2 p3 p5 I J v1 r3 v17 r8 r19
def Mo_rootOnce (N : HN) (a0 : Nat) (p1 : Int32) (p2 : Int32) (p3 : Int64) (p5 : Int64) (I : HI) (J : HJ) : Option (HI × HJ × Int32) := Mo_rootOnce_0 N a0 p1 p2 p3 p5 I J
def Mo_byRoots_180 (N : HN) (a0 : Nat) (p1 : Int32) (I : HI) (J : HJ) (x4 : Int32) : Option (HI × HJ × Int32) :=
  if x4 = 0 then
    ra Tm nM (N a0 7) 1 fun b2 =>
    bn1 (Mo_valuesIn I b2 (I a0 8)) fun r3 =>
    some (I, J, r3)
  else
    some (I, J, x4)
def Mo_byRoots_174 (N : HN) (a0 : Nat) (p1 : Int32) (k123 : HI → HJ → Int32 → Int32 → Int32 → Option (HI × HJ × Int32)) (I : HI) (J : HJ) (x4 : Int32) (x5 : Int32) (x6 : Int32) : Option (HI × HJ × Int32) :=
  k123 I J x4 x5 (x6 + 1)
def Mo_byRoots_123b (N : HN) (a0 : Nat) (p1 : Int32) (k123 : HI → HJ → Int32 → Int32 → Int32 → Option (HI × HJ × Int32)) (I : HI) (J : HJ) (x4 : Int32) (x5 : Int32) (x6 : Int32) : Option (HI × HJ × Int32) :=
  if (I a0 21) ≤ x6 then
    Mo_byRoots_180 N a0 p1 I J x4
  else
    if x4 = 0 then
      bn1 (Mo_isRoot I J N a0 x6) fun r3 =>
      if r3 = 0 then
        Mo_byRoots_174 N a0 p1 k123 I J x4 x5 x6
      else
        ra Tm nM (N a0 19) 1 fun b6 =>
        gd (inb x6 (Tm b6).2) <|
        ra Tm nM (N a0 20) 1 fun b8 =>
        gd (inb x6 (Tm b8).2) <|
        bn3 (Mo_rootOnce N a0 p1 x5 ((I b6 x6.toNatClampNeg).toInt64) ((I b8 x6.toNatClampNeg).toInt64) I J) fun I10 J11 r12 =>
        Mo_byRoots_174 N a0 p1 k123 I10 J11 r12 (x5 + 1) x6
    else
      Mo_byRoots_180 N a0 p1 I J x4
def Mo_byRoots_123 (N : HN) (a0 : Nat) (p1 : Int32) : Nat → HI → HJ → Int32 → Int32 → Int32 → Option (HI × HJ × Int32)
  | 0 => fun _ _ _ _ _ => none
  | n + 1 => Mo_byRoots_123b N a0 p1 (Mo_byRoots_123 N a0 p1 n)
def Mo_byRoots_91 (N : HN) (a0 : Nat) (p1 : Int32) (I : HI) (J : HJ) : Option (HI × HJ × Int32) :=
  bn2 (Mo_isDark I N a0 J) fun J1 r2 =>
  if r2 = 0 then
    bd (up2 I a0 8 (0 : Int32)) fun I5 =>
    bn3 (Mo_ends N a0 p1 I5 J1) fun I6 J7 r8 =>
    bn1 (Mo_slopes N a0 J7) fun J10 =>
    Mo_byRoots_123 N a0 p1 256 I6 J10 r8 (2 : Int32) (0 : Int32)
  else
    some (I, J1, (-6 : Int32))
def Mo_byRoots_52b (N : HN) (a0 : Nat) (p1 : Int32) (k52 : HI → HJ → Option (HI × HJ × Int32)) (I : HI) (J : HJ) : Option (HI × HJ × Int32) :=
  ra Tm nM (N a0 15) 2 fun b1 =>
  gd (inb (0 : Int32) (Tm b1).2) <|
  if (J b1 (0 : Int32).toNatClampNeg) = (0 : Int64) then
    ra Tm nM (N a0 16) 2 fun b4 =>
    gd (inb (0 : Int32) (Tm b4).2) <|
    if (J b4 (0 : Int32).toNatClampNeg) = (0 : Int64) then
      ra Tm nM (N a0 15) 2 fun b7 =>
      bn1 (Mo_downs b7 J) fun J8 =>
      ra Tm nM (N a0 16) 2 fun b10 =>
      bn1 (Mo_downs b10 J8) fun J11 =>
      k52 I J11
    else
      Mo_byRoots_91 N a0 p1 I J
  else
    Mo_byRoots_91 N a0 p1 I J
def Mo_byRoots_52 (N : HN) (a0 : Nat) (p1 : Int32) : Nat → HI → HJ → Option (HI × HJ × Int32)
  | 0 => fun _ _ => none
  | n + 1 => Mo_byRoots_52b N a0 p1 (Mo_byRoots_52 N a0 p1 n)
def Mo_byRoots_29 (N : HN) (a0 : Nat) (p1 : Int32) (I : HI) (J : HJ) (x2 : Int32) (s0 : Int32) : Option (HI × HJ × Int32) :=
  ra Tm nM (N a0 15) 2 fun b1 =>
  bn1 (Mo_squares I N a0 x2 s0 b1 J) fun J2 =>
  ra Tm nM (N a0 16) 2 fun b4 =>
  bn1 (Mo_squares I N a0 ((1 : Int32) - x2) (0 : Int32) b4 J2) fun J5 =>
  Mo_byRoots_52 N a0 p1 256 I J5
def Mo_byRoots_14 (N : HN) (a0 : Nat) (p1 : Int32) (I : HI) (J : HJ) (s0 : Int32) : Option (HI × HJ × Int32) :=
  bn1 (Mo_sort I N a0 s0) fun r1 =>
  if r1 = (1 : Int32) then
    Mo_byRoots_29 N a0 p1 I J s0 (1 : Int32)
  else
    Mo_byRoots_29 N a0 p1 I J s0 (0 : Int32)
def Mo_byRoots_0 (N : HN) (a0 : Nat) (p1 : Int32) (I : HI) (J : HJ) : Option (HI × HJ × Int32) :=
  bn1 (Mo_candidates N a0 I) fun I1 =>
  if p1 = (2 : Int32) then
    Mo_byRoots_14 N a0 p1 I1 J (0 : Int32)
  else
    Mo_byRoots_14 N a0 p1 I1 J (1 : Int32)
def Mo_byRoots (N : HN) (a0 : Nat) (p1 : Int32) (I : HI) (J : HJ) : Option (HI × HJ × Int32) := Mo_byRoots_0 N a0 p1 I J
def Mo_unfolds_0 (N : HN) (a0 : Nat) (p1 : Int32) (I : HI) (J : HJ) : Option (HI × HJ × Int32) :=
  bn1 (Mo_isLawful I N a0) fun r1 =>
  if r1 = 0 then
    some (I, J, (-3 : Int32))
  else
    if (2 : Int32) ≤ p1 then
      bn3 (Mo_byRoots N a0 p1 I J) fun I5 J6 r7 =>
      some (I5, J6, r7)
    else
      bn3 (Mo_divides N a0 p1 I J) fun I9 J10 r11 =>
      some (I9, J10, r11)
def Mo_unfolds (N : HN) (a0 : Nat) (p1 : Int32) (I : HI) (J : HJ) : Option (HI × HJ × Int32) := Mo_unfolds_0 N a0 p1 I J
def Mo_would_0 (N : HN) (a0 : Nat) (p1 : Int32) (I : HI) (J : HJ) : Option (HI × HJ × Int32) :=
  bn1 (Mo_in p1.toInt64 (0 : Int64) (3 : Int64)) fun r1 =>
  if r1 = 0 then
    some (I, J, (-2 : Int32))
  else
    bn3 (Mo_unfolds N a0 p1 I J) fun I4 J5 r6 =>
    some (I4, J5, r6)
def Mo_would (N : HN) (a0 : Nat) (p1 : Int32) (I : HI) (J : HJ) : Option (HI × HJ × Int32) := Mo_would_0 N a0 p1 I J
def Mo_unfold_37b (N : HN) (a0 : Nat) (p1 : Int32) (k37 : HI → HJ → Int32 → Int32 → Option (HI × HJ × Int32)) (I : HI) (J : HJ) (x2 : Int32) (x3 : Int32) : Option (HI × HJ × Int32) :=
  if ((5 : Int32) * (I a0 6)) ≤ x3 then
    some (I, J, x2)
  else
    ra Tm nM (N a0 5) 1 fun b2 =>
    ra Tm nM (N a0 7) 1 fun b3 =>
    gd (inb x3 (Tm b3).2) <|
    gd (inb x3 (Tm b2).2) <|
    bd (up2 I b2 x3.toNatClampNeg (I b3 x3.toNatClampNeg)) fun I6 =>
    k37 I6 J x2 (x3 + 1)
def Mo_unfold_37 (N : HN) (a0 : Nat) (p1 : Int32) : Nat → HI → HJ → Int32 → Int32 → Option (HI × HJ × Int32)
  | 0 => fun _ _ _ _ => none
  | n + 1 => Mo_unfold_37b N a0 p1 (Mo_unfold_37 N a0 p1 n)
def Mo_unfold_0 (N : HN) (a0 : Nat) (p1 : Int32) (I : HI) (J : HJ) : Option (HI × HJ × Int32) :=
  bn1 (Mo_in p1.toInt64 (0 : Int64) (3 : Int64)) fun r1 =>
  if r1 = 0 then
    some (I, J, (-2 : Int32))
  else
    bn3 (Mo_unfolds N a0 p1 I J) fun I4 J5 r6 =>
    if 0 ≤ r6 then
      bd (up2 I4 a0 6 (I4 a0 8)) fun I9 =>
      Mo_unfold_37 N a0 p1 256 I9 J5 r6 (0 : Int32)
    else
      some (I4, J5, r6)
def Mo_unfold (N : HN) (a0 : Nat) (p1 : Int32) (I : HI) (J : HJ) : Option (HI × HJ × Int32) := Mo_unfold_0 N a0 p1 I J
def Mo_armOf_95b (I : HI) (N : HN) (a0 : Nat) (p1 : Int32) (k95 : HJ → Int64 → Int64 → Int64 → Int64 → Int32 → Option (HJ)) (J : HJ) (x3 : Int64) (x5 : Int64) (x7 : Int64) (x9 : Int64) (x11 : Int32) : Option (HJ) :=
  if (3 : Int32) ≤ x11 then
    if x7 = (0 : Int64) then
      ra Tm nM (N a0 25) 2 fun b19 =>
      gd (inb (1 : Int32) (Tm b19).2) <|
      bd (up2 J b19 (1 : Int32).toNatClampNeg x3) fun J21 =>
      ra Tm nM (N a0 26) 2 fun b22 =>
      gd (inb (0 : Int32) (Tm b22).2) <|
      bd (up2 J21 b22 (0 : Int32).toNatClampNeg x5) fun J24 =>
      some J24
    else
      if x3 = (0 : Int64) then
        ra Tm nM (N a0 25) 2 fun b13 =>
        gd (inb (0 : Int32) (Tm b13).2) <|
        bd (up2 J b13 (0 : Int32).toNatClampNeg x9) fun J15 =>
        ra Tm nM (N a0 26) 2 fun b16 =>
        gd (inb (1 : Int32) (Tm b16).2) <|
        bd (up2 J15 b16 (1 : Int32).toNatClampNeg x7) fun J18 =>
        some J18
      else
        ra Tm nM (N a0 25) 2 fun b4 =>
        gd (inb (1 : Int32) (Tm b4).2) <|
        bd (up2 J b4 (1 : Int32).toNatClampNeg (x3 * x9)) fun J6 =>
        ra Tm nM (N a0 26) 2 fun b7 =>
        gd (inb (0 : Int32) (Tm b7).2) <|
        bd (up2 J6 b7 (0 : Int32).toNatClampNeg (x5 * x9)) fun J9 =>
        ra Tm nM (N a0 26) 2 fun b10 =>
        gd (inb (2 : Int32) (Tm b10).2) <|
        bd (up2 J9 b10 (2 : Int32).toNatClampNeg (x3 * x7)) fun J12 =>
        some J12
  else
    ra Tm nM (N a0 25) 2 fun b25 =>
    gd (inb x11 (Tm b25).2) <|
    bd (up2 J b25 x11.toNatClampNeg (0 : Int64)) fun J27 =>
    ra Tm nM (N a0 26) 2 fun b28 =>
    gd (inb x11 (Tm b28).2) <|
    bd (up2 J27 b28 x11.toNatClampNeg (0 : Int64)) fun J30 =>
    k95 J30 x3 x5 x7 x9 (x11 + 1)
def Mo_armOf_95 (I : HI) (N : HN) (a0 : Nat) (p1 : Int32) : Nat → HJ → Int64 → Int64 → Int64 → Int64 → Int32 → Option (HJ)
  | 0 => fun _ _ _ _ _ _ => none
  | n + 1 => Mo_armOf_95b I N a0 p1 (Mo_armOf_95 I N a0 p1 n)
def Mo_armOf_87 (I : HI) (N : HN) (a0 : Nat) (p1 : Int32) (J : HJ) (x3 : Int64) (x5 : Int64) (x7 : Int64) (bs0 : Nat) (s1 : Int32) (s2 : Int32) : Option (HJ) :=
  gd (inb (s1 + s2) (Tm bs0).2) <|
  bd ((I bs0 (s1 + s2).toNatClampNeg).toInt64) fun v2 =>
  Mo_armOf_95 I N a0 p1 256 J x3 x5 x7 v2 (0 : Int32)
def Mo_armOf_66 (I : HI) (N : HN) (a0 : Nat) (p1 : Int32) (J : HJ) (x2 : Int32) (x3 : Int64) (x5 : Int64) (bs0 : Nat) (s1 : Int32) (s2 : Int32) : Option (HJ) :=
  gd (inb (s1 + s2) (Tm bs0).2) <|
  bd ((I bs0 (s1 + s2).toNatClampNeg).toInt64) fun v2 =>
  ra Tm nM (N a0 5) 1 fun b3 =>
  if x2 = 0 then
    Mo_armOf_87 I N a0 p1 J x3 x5 v2 b3 ((5 : Int32) * p1) (4 : Int32)
  else
    Mo_armOf_87 I N a0 p1 J x3 x5 v2 b3 ((5 : Int32) * p1) (2 : Int32)
def Mo_armOf_45 (I : HI) (N : HN) (a0 : Nat) (p1 : Int32) (J : HJ) (x2 : Int32) (x3 : Int64) (bs0 : Nat) (s1 : Int32) (s2 : Int32) : Option (HJ) :=
  gd (inb (s1 + s2) (Tm bs0).2) <|
  bd ((I bs0 (s1 + s2).toNatClampNeg).toInt64) fun v2 =>
  ra Tm nM (N a0 5) 1 fun b3 =>
  if x2 = 0 then
    Mo_armOf_66 I N a0 p1 J x2 x3 v2 b3 ((5 : Int32) * p1) (3 : Int32)
  else
    Mo_armOf_66 I N a0 p1 J x2 x3 v2 b3 ((5 : Int32) * p1) (1 : Int32)
def Mo_armOf_25 (I : HI) (N : HN) (a0 : Nat) (p1 : Int32) (J : HJ) (x2 : Int32) (bs0 : Nat) (s1 : Int32) (s2 : Int32) : Option (HJ) :=
  gd (inb (s1 + s2) (Tm bs0).2) <|
  bd ((I bs0 (s1 + s2).toNatClampNeg).toInt64) fun v2 =>
  ra Tm nM (N a0 5) 1 fun b3 =>
  if x2 = 0 then
    Mo_armOf_45 I N a0 p1 J x2 v2 b3 ((5 : Int32) * p1) (2 : Int32)
  else
    Mo_armOf_45 I N a0 p1 J x2 v2 b3 ((5 : Int32) * p1) (4 : Int32)
def Mo_armOf_0 (I : HI) (N : HN) (a0 : Nat) (p1 : Int32) (J : HJ) : Option (HJ) :=
  ra Tm nM (N a0 5) 1 fun b1 =>
  gd (inb ((5 : Int32) * p1) (Tm b1).2) <|
  bd (I b1 ((5 : Int32) * p1).toNatClampNeg) fun v3 =>
  ra Tm nM (N a0 5) 1 fun b4 =>
  if v3 = 0 then
    Mo_armOf_25 I N a0 p1 J v3 b4 ((5 : Int32) * p1) (1 : Int32)
  else
    Mo_armOf_25 I N a0 p1 J v3 b4 ((5 : Int32) * p1) (3 : Int32)
def Mo_armOf (I : HI) (N : HN) (a0 : Nat) (p1 : Int32) (J : HJ) : Option (HJ) := Mo_armOf_0 I N a0 p1 J
def Mo_turnsOver_2b (N : HN) (a0 : Nat) (k2 : HJ → Int32 → Option (HJ)) (J : HJ) (x1 : Int32) : Option (HJ) :=
  if (14 : Int32) ≤ x1 then
    some J
  else
    ra Tm nM (N a0 23) 2 fun b2 =>
    gd (inb x1 (Tm b2).2) <|
    bd (J b2 x1.toNatClampNeg) fun v4 =>
    ra Tm nM (N a0 23) 2 fun b5 =>
    ra Tm nM (N a0 24) 2 fun b6 =>
    gd (inb x1 (Tm b6).2) <|
    gd (inb x1 (Tm b5).2) <|
    bd (up2 J b5 x1.toNatClampNeg (J b6 x1.toNatClampNeg)) fun J9 =>
    ra Tm nM (N a0 24) 2 fun b10 =>
    gd (inb x1 (Tm b10).2) <|
    bd (up2 J9 b10 x1.toNatClampNeg v4) fun J12 =>
    k2 J12 (x1 + 1)
def Mo_turnsOver_2 (N : HN) (a0 : Nat) : Nat → HJ → Int32 → Option (HJ)
  | 0 => fun _ _ => none
  | n + 1 => Mo_turnsOver_2b N a0 (Mo_turnsOver_2 N a0 n)
def Mo_turnsOver_0 (N : HN) (a0 : Nat) (J : HJ) : Option (HJ) :=
  Mo_turnsOver_2 N a0 256 J (0 : Int32)
def Mo_turnsOver (N : HN) (a0 : Nat) (J : HJ) : Option (HJ) := Mo_turnsOver_0 N a0 J
def Mo_asPair_118b (N : HN) (a0 : Nat) (k118 : HJ → Int64 → Int32 → Option (HJ)) (J : HJ) (x1 : Int64) (x5 : Int32) : Option (HJ) :=
  if (14 : Int32) ≤ x5 then
    some J
  else
    if x1 = (0 : Int64) then
      some J
    else
      ra Tm nM (N a0 23) 2 fun b3 =>
      gd (inb x5 (Tm b3).2) <|
      gd (decide (¬ x1 = 0)) <|
      gd (inb x5 (Tm b3).2) <|
      bd (up2 J b3 x5.toNatClampNeg ((J b3 x5.toNatClampNeg) / x1)) fun J7 =>
      ra Tm nM (N a0 24) 2 fun b8 =>
      gd (inb x5 (Tm b8).2) <|
      gd (decide (¬ x1 = 0)) <|
      gd (inb x5 (Tm b8).2) <|
      bd (up2 J7 b8 x5.toNatClampNeg ((J7 b8 x5.toNatClampNeg) / x1)) fun J12 =>
      k118 J12 x1 (x5 + 1)
def Mo_asPair_118 (N : HN) (a0 : Nat) : Nat → HJ → Int64 → Int32 → Option (HJ)
  | 0 => fun _ _ _ => none
  | n + 1 => Mo_asPair_118b N a0 (Mo_asPair_118 N a0 n)
def Mo_asPair_114 (N : HN) (a0 : Nat) (J : HJ) (s0 : Int64) : Option (HJ) :=
  Mo_asPair_118 N a0 256 J s0 (0 : Int32)
def Mo_asPair_101 (N : HN) (a0 : Nat) (J : HJ) (x1 : Int64) (x3 : Int64) : Option (HJ) :=
  if (0 : Int64) ≤ x3 then
    Mo_asPair_114 N a0 J x1
  else
    Mo_asPair_114 N a0 J ((0 : Int64) - x1)
def Mo_asPair_71b (N : HN) (a0 : Nat) (k71 : HJ → Int64 → Int64 → Int32 → Option (HJ)) (J : HJ) (x1 : Int64) (x3 : Int64) (x5 : Int32) : Option (HJ) :=
  if (14 : Int32) ≤ x5 then
    Mo_asPair_101 N a0 J x1 x3
  else
    if x3 = (0 : Int64) then
      ra Tm nM (N a0 23) 2 fun b3 =>
      gd (inb ((13 : Int32) - x5) (Tm b3).2) <|
      bd (J b3 ((13 : Int32) - x5).toNatClampNeg) fun v5 =>
      k71 J x1 v5 (x5 + 1)
    else
      Mo_asPair_101 N a0 J x1 x3
def Mo_asPair_71 (N : HN) (a0 : Nat) : Nat → HJ → Int64 → Int64 → Int32 → Option (HJ)
  | 0 => fun _ _ _ _ => none
  | n + 1 => Mo_asPair_71b N a0 (Mo_asPair_71 N a0 n)
def Mo_asPair_61 (N : HN) (a0 : Nat) (k7 : HJ → Int64 → Int64 → Int32 → Option (HJ)) (J : HJ) (x1 : Int64) (x5 : Int32) (s0 : Int64) : Option (HJ) :=
  k7 J x1 s0 (x5 + 1)
def Mo_asPair_7b (N : HN) (a0 : Nat) (k7 : HJ → Int64 → Int64 → Int32 → Option (HJ)) (J : HJ) (x1 : Int64) (x3 : Int64) (x5 : Int32) : Option (HJ) :=
  if (14 : Int32) ≤ x5 then
    Mo_asPair_71 N a0 256 J x1 x3 (0 : Int32)
  else
    ra Tm nM (N a0 23) 2 fun b2 =>
    gd (inb x5 (Tm b2).2) <|
    bn1 (Mo_divisor x1 (J b2 x5.toNatClampNeg)) fun r4 =>
    ra Tm nM (N a0 24) 2 fun b6 =>
    gd (inb x5 (Tm b6).2) <|
    bn1 (Mo_divisor r4 (J b6 x5.toNatClampNeg)) fun r8 =>
    ra Tm nM (N a0 24) 2 fun b10 =>
    gd (inb x5 (Tm b10).2) <|
    if (J b10 x5.toNatClampNeg) = (0 : Int64) then
      Mo_asPair_61 N a0 k7 J r8 x5 x3
    else
      ra Tm nM (N a0 24) 2 fun b13 =>
      gd (inb x5 (Tm b13).2) <|
      Mo_asPair_61 N a0 k7 J r8 x5 (J b13 x5.toNatClampNeg)
def Mo_asPair_7 (N : HN) (a0 : Nat) : Nat → HJ → Int64 → Int64 → Int32 → Option (HJ)
  | 0 => fun _ _ _ _ => none
  | n + 1 => Mo_asPair_7b N a0 (Mo_asPair_7 N a0 n)
def Mo_asPair_0 (N : HN) (a0 : Nat) (J : HJ) : Option (HJ) :=
  Mo_asPair_7 N a0 256 J (0 : Int64) (0 : Int64) (0 : Int32)
def Mo_asPair (N : HN) (a0 : Nat) (J : HJ) : Option (HJ) := Mo_asPair_0 N a0 J
def Mo_adds_117b (N : HN) (a0 : Nat) (k117 : HJ → Int32 → Option (HJ)) (J : HJ) (x1 : Int32) : Option (HJ) :=
  if (14 : Int32) ≤ x1 then
    some J
  else
    ra Tm nM (N a0 23) 2 fun b2 =>
    ra Tm nM (N a0 27) 2 fun b3 =>
    gd (inb x1 (Tm b3).2) <|
    gd (inb x1 (Tm b2).2) <|
    bd (up2 J b2 x1.toNatClampNeg (J b3 x1.toNatClampNeg)) fun J6 =>
    ra Tm nM (N a0 24) 2 fun b7 =>
    ra Tm nM (N a0 28) 2 fun b8 =>
    gd (inb x1 (Tm b8).2) <|
    gd (inb x1 (Tm b7).2) <|
    bd (up2 J6 b7 x1.toNatClampNeg (J6 b8 x1.toNatClampNeg)) fun J11 =>
    k117 J11 (x1 + 1)
def Mo_adds_117 (N : HN) (a0 : Nat) : Nat → HJ → Int32 → Option (HJ)
  | 0 => fun _ _ => none
  | n + 1 => Mo_adds_117b N a0 (Mo_adds_117 N a0 n)
def Mo_adds_94 (N : HN) (a0 : Nat) (k2 : HJ → Int32 → Option (HJ)) (J : HJ) (x1 : Int32) (x2 : Int64) (x4 : Int64) : Option (HJ) :=
  ra Tm nM (N a0 27) 2 fun b1 =>
  gd (inb x1 (Tm b1).2) <|
  bd (up2 J b1 x1.toNatClampNeg x2) fun J3 =>
  ra Tm nM (N a0 28) 2 fun b4 =>
  gd (inb x1 (Tm b4).2) <|
  bd (up2 J3 b4 x1.toNatClampNeg x4) fun J6 =>
  k2 J6 (x1 + 1)
def Mo_adds_16b (N : HN) (a0 : Nat) (k2 : HJ → Int32 → Option (HJ)) (k16 : HJ → Int32 → Int64 → Int64 → Int32 → Option (HJ)) (J : HJ) (x1 : Int32) (x2 : Int64) (x4 : Int64) (x6 : Int32) : Option (HJ) :=
  if (3 : Int32) ≤ x6 then
    Mo_adds_94 N a0 k2 J x1 x2 x4
  else
    if x1 < x6 then
      Mo_adds_94 N a0 k2 J x1 x2 x4
    else
      ra Tm nM (N a0 23) 2 fun b3 =>
      gd (inb (x1 - x6) (Tm b3).2) <|
      ra Tm nM (N a0 26) 2 fun b5 =>
      gd (inb x6 (Tm b5).2) <|
      ra Tm nM (N a0 24) 2 fun b7 =>
      gd (inb (x1 - x6) (Tm b7).2) <|
      ra Tm nM (N a0 25) 2 fun b9 =>
      gd (inb x6 (Tm b9).2) <|
      bd (x2 + (((J b3 (x1 - x6).toNatClampNeg) * (J b5 x6.toNatClampNeg)) + ((J b7 (x1 - x6).toNatClampNeg) * (J b9 x6.toNatClampNeg)))) fun v11 =>
      ra Tm nM (N a0 24) 2 fun b12 =>
      gd (inb (x1 - x6) (Tm b12).2) <|
      ra Tm nM (N a0 26) 2 fun b14 =>
      gd (inb x6 (Tm b14).2) <|
      bd (x4 + ((J b12 (x1 - x6).toNatClampNeg) * (J b14 x6.toNatClampNeg))) fun v16 =>
      k16 J x1 v11 v16 (x6 + 1)
def Mo_adds_16 (N : HN) (a0 : Nat) (k2 : HJ → Int32 → Option (HJ)) : Nat → HJ → Int32 → Int64 → Int64 → Int32 → Option (HJ)
  | 0 => fun _ _ _ _ _ => none
  | n + 1 => Mo_adds_16b N a0 k2 (Mo_adds_16 N a0 k2 n)
def Mo_adds_2b (N : HN) (a0 : Nat) (k2 : HJ → Int32 → Option (HJ)) (J : HJ) (x1 : Int32) : Option (HJ) :=
  if (14 : Int32) ≤ x1 then
    Mo_adds_117 N a0 256 J (0 : Int32)
  else
    Mo_adds_16 N a0 k2 256 J x1 (0 : Int64) (0 : Int64) (0 : Int32)
def Mo_adds_2 (N : HN) (a0 : Nat) : Nat → HJ → Int32 → Option (HJ)
  | 0 => fun _ _ => none
  | n + 1 => Mo_adds_2b N a0 (Mo_adds_2 N a0 n)
def Mo_adds_0 (N : HN) (a0 : Nat) (J : HJ) : Option (HJ) :=
  Mo_adds_2 N a0 256 J (0 : Int32)
def Mo_adds (N : HN) (a0 : Nat) (J : HJ) : Option (HJ) := Mo_adds_0 N a0 J
def Mo_folds_136 (I : HI) (N : HN) (a0 : Nat) (k35 : HJ → Int32 → Option (HJ)) (J : HJ) (x1 : Int32) : Option (HJ) :=
  bn1 (Mo_asPair N a0 J) fun J1 =>
  k35 J1 (x1 + (-1))
def Mo_folds_124 (I : HI) (N : HN) (a0 : Nat) (k35 : HJ → Int32 → Option (HJ)) (J : HJ) (x1 : Int32) (x2 : Int32) : Option (HJ) :=
  bn1 (Mo_adds N a0 J) fun J1 =>
  if x2 = 0 then
    Mo_folds_136 I N a0 k35 J1 x1
  else
    bn1 (Mo_turnsOver N a0 J1) fun J4 =>
    Mo_folds_136 I N a0 k35 J4 x1
def Mo_folds_115 (I : HI) (N : HN) (a0 : Nat) (k35 : HJ → Int32 → Option (HJ)) (J : HJ) (x1 : Int32) (s0 : Int32) : Option (HJ) :=
  if s0 = 0 then
    Mo_folds_124 I N a0 k35 J x1 s0
  else
    bn1 (Mo_turnsOver N a0 J) fun J2 =>
    Mo_folds_124 I N a0 k35 J2 x1 s0
def Mo_folds_93 (I : HI) (N : HN) (a0 : Nat) (k35 : HJ → Int32 → Option (HJ)) (J : HJ) (x1 : Int32) : Option (HJ) :=
  bn1 (Mo_armOf I N a0 x1 J) fun J1 =>
  ra Tm nM (N a0 5) 1 fun b3 =>
  gd (inb ((5 : Int32) * x1) (Tm b3).2) <|
  if (I b3 ((5 : Int32) * x1).toNatClampNeg) = (1 : Int32) then
    Mo_folds_115 I N a0 k35 J1 x1 (1 : Int32)
  else
    Mo_folds_115 I N a0 k35 J1 x1 (0 : Int32)
def Mo_folds_92 (I : HI) (N : HN) (a0 : Nat) (k35 : HJ → Int32 → Option (HJ)) (J : HJ) (x1 : Int32) (bs0 : Nat) (s1 : Int32) (s2 : Int64) : Option (HJ) :=
  gd (inb s1 (Tm bs0).2) <|
  bd (up2 J bs0 s1.toNatClampNeg s2) fun J2 =>
  Mo_folds_93 I N a0 k35 J2 x1
def Mo_folds_70 (I : HI) (N : HN) (a0 : Nat) (k35 : HJ → Int32 → Option (HJ)) (J : HJ) (x1 : Int32) (bs0 : Nat) (s1 : Int32) (s2 : Int64) : Option (HJ) :=
  gd (inb s1 (Tm bs0).2) <|
  bd (up2 J bs0 s1.toNatClampNeg s2) fun J2 =>
  ra Tm nM (N a0 24) 2 fun b3 =>
  ra Tm nM (N a0 5) 1 fun b4 =>
  gd (inb ((5 : Int32) * x1) (Tm b4).2) <|
  if (I b4 ((5 : Int32) * x1).toNatClampNeg) = 0 then
    Mo_folds_92 I N a0 k35 J2 x1 b3 (0 : Int32) (1 : Int64)
  else
    Mo_folds_92 I N a0 k35 J2 x1 b3 (0 : Int32) (0 : Int64)
def Mo_folds_35b (I : HI) (N : HN) (a0 : Nat) (k35 : HJ → Int32 → Option (HJ)) (J : HJ) (x1 : Int32) : Option (HJ) :=
  if x1 < 0 then
    some J
  else
    if x1 = ((I a0 6) - (1 : Int32)) then
      ra Tm nM (N a0 23) 2 fun b3 =>
      ra Tm nM (N a0 5) 1 fun b4 =>
      gd (inb ((5 : Int32) * x1) (Tm b4).2) <|
      if (I b4 ((5 : Int32) * x1).toNatClampNeg) = 0 then
        Mo_folds_70 I N a0 k35 J x1 b3 (0 : Int32) (0 : Int64)
      else
        Mo_folds_70 I N a0 k35 J x1 b3 (0 : Int32) (1 : Int64)
    else
      Mo_folds_93 I N a0 k35 J x1
def Mo_folds_35 (I : HI) (N : HN) (a0 : Nat) : Nat → HJ → Int32 → Option (HJ)
  | 0 => fun _ _ => none
  | n + 1 => Mo_folds_35b I N a0 (Mo_folds_35 I N a0 n)
def Mo_folds_2b (I : HI) (N : HN) (a0 : Nat) (k2 : HJ → Int32 → Option (HJ)) (J : HJ) (x1 : Int32) : Option (HJ) :=
  if (14 : Int32) ≤ x1 then
    bd ((I a0 6) - (1 : Int32)) fun v2 =>
    Mo_folds_35 I N a0 256 J v2
  else
    ra Tm nM (N a0 23) 2 fun b3 =>
    gd (inb x1 (Tm b3).2) <|
    bd (up2 J b3 x1.toNatClampNeg (0 : Int64)) fun J5 =>
    ra Tm nM (N a0 24) 2 fun b6 =>
    gd (inb x1 (Tm b6).2) <|
    bd (up2 J5 b6 x1.toNatClampNeg (0 : Int64)) fun J8 =>
    k2 J8 (x1 + 1)
def Mo_folds_2 (I : HI) (N : HN) (a0 : Nat) : Nat → HJ → Int32 → Option (HJ)
  | 0 => fun _ _ => none
  | n + 1 => Mo_folds_2b I N a0 (Mo_folds_2 I N a0 n)
def Mo_folds_0 (I : HI) (N : HN) (a0 : Nat) (J : HJ) : Option (HJ) :=
  Mo_folds_2 I N a0 256 J (0 : Int32)
def Mo_folds (I : HI) (N : HN) (a0 : Nat) (J : HJ) : Option (HJ) := Mo_folds_0 I N a0 J
def Mo_foldBy_0 (I : HI) (J : HJ) (N : HN) (a0 : Nat) (p1 : Int32) (p2 : Int32) : Option (Int64) :=
  if (I a0 6) = 0 then
    some (0 : Int64)
  else
    if p1 = 0 then
      ra Tm nM (N a0 23) 2 fun b5 =>
      gd (inb p2 (Tm b5).2) <|
      some (J b5 p2.toNatClampNeg)
    else
      ra Tm nM (N a0 24) 2 fun b3 =>
      gd (inb p2 (Tm b3).2) <|
      some (J b3 p2.toNatClampNeg)
def Mo_foldBy (I : HI) (J : HJ) (N : HN) (a0 : Nat) (p1 : Int32) (p2 : Int32) : Option (Int64) := Mo_foldBy_0 I J N a0 p1 p2
def Mo_fold_0 (I : HI) (N : HN) (a0 : Nat) (p1 : Int32) (p2 : Int32) (J : HJ) : Option (HJ × Int64) :=
  bn1 (Mo_folds I N a0 J) fun J1 =>
  bn1 (Mo_isTwo p1) fun r3 =>
  if r3 = 0 then
    some (J1, (0 : Int64))
  else
    bn1 (Mo_in p2.toInt64 (0 : Int64) (6 : Int64)) fun r6 =>
    if r6 = 0 then
      some (J1, (0 : Int64))
    else
      bn1 (Mo_foldBy I J1 N a0 p1 p2) fun r9 =>
      some (J1, r9)
def Mo_fold (I : HI) (N : HN) (a0 : Nat) (p1 : Int32) (p2 : Int32) (J : HJ) : Option (HJ × Int64) := Mo_fold_0 I N a0 p1 p2 J
def Mo_alikeNow_151 (I : HI) (J : HJ) (N : HN) (a0 : Nat) (k23 : Int32 → Int32 → Option (Int32)) (x2 : Int32) (s0 : Int32) : Option (Int32) :=
  k23 s0 (x2 + 1)
def Mo_alikeNow_150 (I : HI) (J : HJ) (N : HN) (a0 : Nat) (k23 : Int32 → Int32 → Option (Int32)) (x2 : Int32) : Option (Int32) :=
  Mo_alikeNow_151 I J N a0 k23 x2 (0 : Int32)
def Mo_alikeNow_126 (I : HI) (J : HJ) (N : HN) (a0 : Nat) (k23 : Int32 → Int32 → Option (Int32)) (k37 : Int32 → Int32 → Int64 → Int64 → Int32 → Option (Int32)) (x1 : Int32) (x2 : Int32) (x3 : Int64) (x7 : Int32) (s0 : Int64) (s1 : Int64) : Option (Int32) :=
  bd (s0 + s1) fun v1 =>
  k37 x1 x2 x3 v1 (x7 + 1)
def Mo_alikeNow_85 (I : HI) (J : HJ) (N : HN) (a0 : Nat) (k23 : Int32 → Int32 → Option (Int32)) (k37 : Int32 → Int32 → Int64 → Int64 → Int32 → Option (Int32)) (x1 : Int32) (x2 : Int32) (x5 : Int64) (x7 : Int32) (s0 : Int64) (s1 : Int64) : Option (Int32) :=
  bd (s0 + s1) fun v1 =>
  bn1 (Mo_in ((x2 - x7).toInt64) (0 : Int64) (13 : Int64)) fun r2 =>
  if r2 = 0 then
    Mo_alikeNow_126 I J N a0 k23 k37 x1 x2 v1 x7 x5 (0 : Int64)
  else
    ra Tm nM (N a0 4) 1 fun b5 =>
    gd (inb x7 (Tm b5).2) <|
    ra Tm nM (N a0 24) 2 fun b7 =>
    gd (inb (x2 - x7) (Tm b7).2) <|
    Mo_alikeNow_126 I J N a0 k23 k37 x1 x2 v1 x7 x5 (((I b5 x7.toNatClampNeg).toInt64) * (J b7 (x2 - x7).toNatClampNeg))
def Mo_alikeNow_37b (I : HI) (J : HJ) (N : HN) (a0 : Nat) (k23 : Int32 → Int32 → Option (Int32)) (k37 : Int32 → Int32 → Int64 → Int64 → Int32 → Option (Int32)) (x1 : Int32) (x2 : Int32) (x3 : Int64) (x5 : Int64) (x7 : Int32) : Option (Int32) :=
  if (7 : Int32) ≤ x7 then
    if x1 = 0 then
      Mo_alikeNow_150 I J N a0 k23 x2
    else
      if x3 = x5 then
        Mo_alikeNow_151 I J N a0 k23 x2 (1 : Int32)
      else
        Mo_alikeNow_150 I J N a0 k23 x2
  else
    bn1 (Mo_in ((x2 - x7).toInt64) (0 : Int64) (13 : Int64)) fun r4 =>
    if r4 = 0 then
      Mo_alikeNow_85 I J N a0 k23 k37 x1 x2 x5 x7 x3 (0 : Int64)
    else
      ra Tm nM (N a0 4) 1 fun b7 =>
      gd (inb ((7 : Int32) + x7) (Tm b7).2) <|
      ra Tm nM (N a0 23) 2 fun b9 =>
      gd (inb (x2 - x7) (Tm b9).2) <|
      Mo_alikeNow_85 I J N a0 k23 k37 x1 x2 x5 x7 x3 (((I b7 ((7 : Int32) + x7).toNatClampNeg).toInt64) * (J b9 (x2 - x7).toNatClampNeg))
def Mo_alikeNow_37 (I : HI) (J : HJ) (N : HN) (a0 : Nat) (k23 : Int32 → Int32 → Option (Int32)) : Nat → Int32 → Int32 → Int64 → Int64 → Int32 → Option (Int32)
  | 0 => fun _ _ _ _ _ => none
  | n + 1 => Mo_alikeNow_37b I J N a0 k23 (Mo_alikeNow_37 I J N a0 k23 n)
def Mo_alikeNow_23b (I : HI) (J : HJ) (N : HN) (a0 : Nat) (k23 : Int32 → Int32 → Option (Int32)) (x1 : Int32) (x2 : Int32) : Option (Int32) :=
  if (20 : Int32) ≤ x2 then
    if x1 = 0 then
      some (0 : Int32)
    else
      some (1 : Int32)
  else
    Mo_alikeNow_37 I J N a0 k23 256 x1 x2 (0 : Int64) (0 : Int64) (0 : Int32)
def Mo_alikeNow_23 (I : HI) (J : HJ) (N : HN) (a0 : Nat) : Nat → Int32 → Int32 → Option (Int32)
  | 0 => fun _ _ => none
  | n + 1 => Mo_alikeNow_23b I J N a0 (Mo_alikeNow_23 I J N a0 n)
def Mo_alikeNow_0 (I : HI) (J : HJ) (N : HN) (a0 : Nat) : Option (Int32) :=
  if (I a0 6) = 0 then
    some (-3 : Int32)
  else
    bn1 (Mo_degree I N a0 (1 : Int32)) fun r2 =>
    if r2 = (-1 : Int32) then
      some (-3 : Int32)
    else
      Mo_alikeNow_23 I J N a0 256 (1 : Int32) (0 : Int32)
def Mo_alikeNow (I : HI) (J : HJ) (N : HN) (a0 : Nat) : Option (Int32) := Mo_alikeNow_0 I J N a0
def Mo_alike_0 (I : HI) (N : HN) (a0 : Nat) (J : HJ) : Option (HJ × Int32) :=
  bn1 (Mo_folds I N a0 J) fun J1 =>
  bn1 (Mo_alikeNow I J1 N a0) fun r3 =>
  some (J1, r3)
def Mo_alike (I : HI) (N : HN) (a0 : Nat) (J : HJ) : Option (HJ × Int32) := Mo_alike_0 I N a0 J
def Mo_take_69b (N : HN) (a0 : Nat) (k69 : HI → HJ → Int32 → Option (HI × HJ × Int32)) (I : HI) (J : HJ) (x1 : Int32) : Option (HI × HJ × Int32) :=
  if (7 : Int32) ≤ x1 then
    bn1 (Mo_degree I N a0 (0 : Int32)) fun r2 =>
    bn1 (Mo_degree I N a0 (1 : Int32)) fun r4 =>
    bn1 (Mo_greater r2 r4) fun r6 =>
    some (I, J, r6)
  else
    ra Tm nM (N a0 4) 1 fun b8 =>
    ra Tm nM (N a0 23) 2 fun b9 =>
    gd (inb x1 (Tm b9).2) <|
    gd (inb x1 (Tm b8).2) <|
    bd (up2 I b8 x1.toNatClampNeg ((J b9 x1.toNatClampNeg).toInt32)) fun I12 =>
    ra Tm nM (N a0 4) 1 fun b13 =>
    ra Tm nM (N a0 24) 2 fun b14 =>
    gd (inb x1 (Tm b14).2) <|
    gd (inb ((7 : Int32) + x1) (Tm b13).2) <|
    bd (up2 I12 b13 ((7 : Int32) + x1).toNatClampNeg ((J b14 x1.toNatClampNeg).toInt32)) fun I17 =>
    k69 I17 J (x1 + 1)
def Mo_take_69 (N : HN) (a0 : Nat) : Nat → HI → HJ → Int32 → Option (HI × HJ × Int32)
  | 0 => fun _ _ _ => none
  | n + 1 => Mo_take_69b N a0 (Mo_take_69 N a0 n)
def Mo_take_16b (N : HN) (a0 : Nat) (k16 : HI → HJ → Int32 → Option (HI × HJ × Int32)) (I : HI) (J : HJ) (x1 : Int32) : Option (HI × HJ × Int32) :=
  if (7 : Int32) ≤ x1 then
    Mo_take_69 N a0 256 I J (0 : Int32)
  else
    ra Tm nM (N a0 23) 2 fun b2 =>
    gd (inb x1 (Tm b2).2) <|
    bn1 (Mo_in (J b2 x1.toNatClampNeg) (-9 : Int64) (9 : Int64)) fun r4 =>
    if r4 = 0 then
      some (I, J, (-5 : Int32))
    else
      ra Tm nM (N a0 24) 2 fun b7 =>
      gd (inb x1 (Tm b7).2) <|
      bn1 (Mo_in (J b7 x1.toNatClampNeg) (-9 : Int64) (9 : Int64)) fun r9 =>
      if r9 = 0 then
        some (I, J, (-5 : Int32))
      else
        k16 I J (x1 + 1)
def Mo_take_16 (N : HN) (a0 : Nat) : Nat → HI → HJ → Int32 → Option (HI × HJ × Int32)
  | 0 => fun _ _ _ => none
  | n + 1 => Mo_take_16b N a0 (Mo_take_16 N a0 n)
def Mo_take_0 (N : HN) (a0 : Nat) (I : HI) (J : HJ) : Option (HI × HJ × Int32) :=
  if (I a0 6) = 0 then
    some (I, J, (-3 : Int32))
  else
    bn1 (Mo_folds I N a0 J) fun J2 =>
    Mo_take_16 N a0 256 I J2 (0 : Int32)
def Mo_take (N : HN) (a0 : Nat) (I : HI) (J : HJ) : Option (HI × HJ × Int32) := Mo_take_0 N a0 I J
def Mo_partUp_0 (I : HI) (N : HN) (a0 : Nat) (p1 : Int32) : Option (Int32) :=
  ra Tm nM (N a0 5) 1 fun b1 =>
  gd (inb ((((5 : Int32) * (p1 / (2 : Int32))) + (1 : Int32)) + ((2 : Int32) * (p1 - p1 / (2 : Int32) * (2 : Int32)))) (Tm b1).2) <|
  some (I b1 ((((5 : Int32) * (p1 / (2 : Int32))) + (1 : Int32)) + ((2 : Int32) * (p1 - p1 / (2 : Int32) * (2 : Int32)))).toNatClampNeg)
def Mo_partUp (I : HI) (N : HN) (a0 : Nat) (p1 : Int32) : Option (Int32) := Mo_partUp_0 I N a0 p1
def Mo_partDown_0 (I : HI) (N : HN) (a0 : Nat) (p1 : Int32) : Option (Int32) :=
  ra Tm nM (N a0 5) 1 fun b1 =>
  gd (inb ((((5 : Int32) * (p1 / (2 : Int32))) + (2 : Int32)) + ((2 : Int32) * (p1 - p1 / (2 : Int32) * (2 : Int32)))) (Tm b1).2) <|
  some (I b1 ((((5 : Int32) * (p1 / (2 : Int32))) + (2 : Int32)) + ((2 : Int32) * (p1 - p1 / (2 : Int32) * (2 : Int32)))).toNatClampNeg)
def Mo_partDown (I : HI) (N : HN) (a0 : Nat) (p1 : Int32) : Option (Int32) := Mo_partDown_0 I N a0 p1
def Mo_isLike_0 (I : HI) (N : HN) (a0 : Nat) (p1 : Int32) (p2 : Int32) (p3 : Int32) : Option (Int32) :=
  bn1 (Mo_partUp I N a0 p1) fun r1 =>
  bn1 (Mo_partUp I N a0 p2) fun r3 =>
  if r1 = r3 then
    bn1 (Mo_partDown I N a0 p1) fun r6 =>
    bn1 (Mo_partDown I N a0 p2) fun r8 =>
    if r6 = r8 then
      if p3 = 0 then
        some (1 : Int32)
      else
        if (p1 - p1 / (2 : Int32) * (2 : Int32)) = (p2 - p2 / (2 : Int32) * (2 : Int32)) then
          some (1 : Int32)
        else
          some (0 : Int32)
    else
      some (0 : Int32)
  else
    some (0 : Int32)
def Mo_isLike (I : HI) (N : HN) (a0 : Nat) (p1 : Int32) (p2 : Int32) (p3 : Int32) : Option (Int32) := Mo_isLike_0 I N a0 p1 p2 p3
def Mo_isFirst_43 (I : HI) (N : HN) (a0 : Nat) (p1 : Int32) (p2 : Int32) (k17 : Int32 → Int32 → Option (Int32)) (x4 : Int32) (s0 : Int32) : Option (Int32) :=
  k17 s0 (x4 + 1)
def Mo_isFirst_42 (I : HI) (N : HN) (a0 : Nat) (p1 : Int32) (p2 : Int32) (k17 : Int32 → Int32 → Option (Int32)) (x4 : Int32) : Option (Int32) :=
  Mo_isFirst_43 I N a0 p1 p2 k17 x4 (0 : Int32)
def Mo_isFirst_17b (I : HI) (N : HN) (a0 : Nat) (p1 : Int32) (p2 : Int32) (k17 : Int32 → Int32 → Option (Int32)) (x3 : Int32) (x4 : Int32) : Option (Int32) :=
  if p1 ≤ x4 then
    gd (isB x3) <|
    some x3
  else
    if x3 = 0 then
      Mo_isFirst_42 I N a0 p1 p2 k17 x4
    else
      bn1 (Mo_isLike I N a0 x4 p1 p2) fun r4 =>
      if r4 = 0 then
        Mo_isFirst_43 I N a0 p1 p2 k17 x4 (1 : Int32)
      else
        Mo_isFirst_42 I N a0 p1 p2 k17 x4
def Mo_isFirst_17 (I : HI) (N : HN) (a0 : Nat) (p1 : Int32) (p2 : Int32) : Nat → Int32 → Int32 → Option (Int32)
  | 0 => fun _ _ => none
  | n + 1 => Mo_isFirst_17b I N a0 p1 p2 (Mo_isFirst_17 I N a0 p1 p2 n)
def Mo_isFirst_13 (I : HI) (N : HN) (a0 : Nat) (p1 : Int32) (p2 : Int32) (s0 : Int32) : Option (Int32) :=
  Mo_isFirst_17 I N a0 p1 p2 256 s0 (0 : Int32)
def Mo_isFirst_0 (I : HI) (N : HN) (a0 : Nat) (p1 : Int32) (p2 : Int32) : Option (Int32) :=
  bn1 (Mo_partUp I N a0 p1) fun r1 =>
  if r1 ≤ 0 then
    Mo_isFirst_13 I N a0 p1 p2 (0 : Int32)
  else
    Mo_isFirst_13 I N a0 p1 p2 (1 : Int32)
def Mo_isFirst (I : HI) (N : HN) (a0 : Nat) (p1 : Int32) (p2 : Int32) : Option (Int32) := Mo_isFirst_0 I N a0 p1 p2
def Mo_parts_29 (I : HI) (N : HN) (a0 : Nat) (p1 : Int32) (k4 : Int32 → Int32 → Option (Int32)) (x3 : Int32) (s0 : Int32) (s1 : Int32) : Option (Int32) :=
  bd (s0 + s1) fun v1 =>
  k4 v1 (x3 + 1)
def Mo_parts_4b (I : HI) (N : HN) (a0 : Nat) (p1 : Int32) (k4 : Int32 → Int32 → Option (Int32)) (x2 : Int32) (x3 : Int32) : Option (Int32) :=
  if ((2 : Int32) * (I a0 6)) ≤ x3 then
    some x2
  else
    bn1 (Mo_isFirst I N a0 x3 p1) fun r2 =>
    if r2 = 0 then
      Mo_parts_29 I N a0 p1 k4 x3 x2 (0 : Int32)
    else
      Mo_parts_29 I N a0 p1 k4 x3 x2 (1 : Int32)
def Mo_parts_4 (I : HI) (N : HN) (a0 : Nat) (p1 : Int32) : Nat → Int32 → Int32 → Option (Int32)
  | 0 => fun _ _ => none
  | n + 1 => Mo_parts_4b I N a0 p1 (Mo_parts_4 I N a0 p1 n)
def Mo_parts_0 (I : HI) (N : HN) (a0 : Nat) (p1 : Int32) : Option (Int32) :=
  Mo_parts_4 I N a0 p1 256 (0 : Int32) (0 : Int32)
def Mo_parts (I : HI) (N : HN) (a0 : Nat) (p1 : Int32) : Option (Int32) := Mo_parts_0 I N a0 p1
def Mo_billBy_67 (I : HI) (N : HN) (a0 : Nat) (p1 : Int32) (p2 : Int32) (k39 : Int32 → Int32 → Option (Int32)) (x4 : Int32) (s0 : Int32) (s1 : Int32) : Option (Int32) :=
  bd (s0 + s1) fun v1 =>
  k39 v1 (x4 + 1)
def Mo_billBy_39b (I : HI) (N : HN) (a0 : Nat) (p1 : Int32) (p2 : Int32) (k39 : Int32 → Int32 → Option (Int32)) (x3 : Int32) (x4 : Int32) : Option (Int32) :=
  if ((2 : Int32) * (I a0 6)) ≤ x4 then
    some x3
  else
    bn1 (Mo_isLike I N a0 x4 p1 (1 : Int32)) fun r2 =>
    if r2 = 0 then
      Mo_billBy_67 I N a0 p1 p2 k39 x4 x3 (0 : Int32)
    else
      Mo_billBy_67 I N a0 p1 p2 k39 x4 x3 (1 : Int32)
def Mo_billBy_39 (I : HI) (N : HN) (a0 : Nat) (p1 : Int32) (p2 : Int32) : Nat → Int32 → Int32 → Option (Int32)
  | 0 => fun _ _ => none
  | n + 1 => Mo_billBy_39b I N a0 p1 p2 (Mo_billBy_39 I N a0 p1 p2 n)
def Mo_billBy_0 (I : HI) (N : HN) (a0 : Nat) (p1 : Int32) (p2 : Int32) : Option (Int32) :=
  if (3 : Int32) ≤ p2 then
    Mo_billBy_39 I N a0 p1 p2 256 (0 : Int32) (0 : Int32)
  else
    if p2 = 0 then
      some (p1 - p1 / (2 : Int32) * (2 : Int32))
    else
      if p2 = (1 : Int32) then
        bn1 (Mo_partUp I N a0 p1) fun r6 =>
        some r6
      else
        bn1 (Mo_partDown I N a0 p1) fun r4 =>
        some r4
def Mo_billBy (I : HI) (N : HN) (a0 : Nat) (p1 : Int32) (p2 : Int32) : Option (Int32) := Mo_billBy_0 I N a0 p1 p2
def Mo_nthPart_33 (I : HI) (N : HN) (a0 : Nat) (p1 : Int32) (k4 : Int32 → Int32 → Option (Int32)) (x2 : Int32) (x3 : Int32) : Option (Int32) :=
  k4 x2 (x3 + 1)
def Mo_nthPart_4b (I : HI) (N : HN) (a0 : Nat) (p1 : Int32) (k4 : Int32 → Int32 → Option (Int32)) (x2 : Int32) (x3 : Int32) : Option (Int32) :=
  if ((2 : Int32) * (I a0 6)) ≤ x3 then
    some (-1 : Int32)
  else
    bn1 (Mo_isFirst I N a0 x3 (1 : Int32)) fun r2 =>
    if r2 = 0 then
      Mo_nthPart_33 I N a0 p1 k4 x2 x3
    else
      if x2 = p1 then
        some x3
      else
        Mo_nthPart_33 I N a0 p1 k4 (x2 + 1) x3
def Mo_nthPart_4 (I : HI) (N : HN) (a0 : Nat) (p1 : Int32) : Nat → Int32 → Int32 → Option (Int32)
  | 0 => fun _ _ => none
  | n + 1 => Mo_nthPart_4b I N a0 p1 (Mo_nthPart_4 I N a0 p1 n)
def Mo_nthPart_0 (I : HI) (N : HN) (a0 : Nat) (p1 : Int32) : Option (Int32) :=
  Mo_nthPart_4 I N a0 p1 256 (0 : Int32) (0 : Int32)
def Mo_nthPart (I : HI) (N : HN) (a0 : Nat) (p1 : Int32) : Option (Int32) := Mo_nthPart_0 I N a0 p1
def Mo_bill_0 (I : HI) (N : HN) (a0 : Nat) (p1 : Int32) (p2 : Int32) : Option (Int32) :=
  bn1 (Mo_parts I N a0 (1 : Int32)) fun r1 =>
  bn1 (Mo_in p1.toInt64 (0 : Int64) ((r1 - (1 : Int32)).toInt64)) fun r3 =>
  if r3 = 0 then
    some (-2 : Int32)
  else
    bn1 (Mo_in p2.toInt64 (0 : Int64) (3 : Int64)) fun r6 =>
    if r6 = 0 then
      some (-2 : Int32)
    else
      bn1 (Mo_nthPart I N a0 p1) fun r9 =>
      bn1 (Mo_billBy I N a0 r9 p2) fun r11 =>
      some r11
def Mo_bill (I : HI) (N : HN) (a0 : Nat) (p1 : Int32) (p2 : Int32) : Option (Int32) := Mo_bill_0 I N a0 p1 p2
def Mo_values_0 (I : HI) (N : HN) (a0 : Nat) : Option (Int32) :=
  bn1 (Mo_parts I N a0 (0 : Int32)) fun r1 =>
  some r1
def Mo_values (I : HI) (N : HN) (a0 : Nat) : Option (Int32) := Mo_values_0 I N a0
def Mo_wishAsPair_69b (N : HN) (a0 : Nat) (k69 : HI → HJ → Int32 → Option (HI × HJ)) (I : HI) (J : HJ) (x1 : Int32) : Option (HI × HJ) :=
  if (7 : Int32) ≤ x1 then
    some (I, J)
  else
    ra Tm nM (N a0 32) 1 fun b2 =>
    ra Tm nM (N a0 23) 2 fun b3 =>
    gd (inb x1 (Tm b3).2) <|
    gd (inb x1 (Tm b2).2) <|
    bd (up2 I b2 x1.toNatClampNeg ((J b3 x1.toNatClampNeg).toInt32)) fun I6 =>
    ra Tm nM (N a0 32) 1 fun b7 =>
    ra Tm nM (N a0 24) 2 fun b8 =>
    gd (inb x1 (Tm b8).2) <|
    gd (inb ((7 : Int32) + x1) (Tm b7).2) <|
    bd (up2 I6 b7 ((7 : Int32) + x1).toNatClampNeg ((J b8 x1.toNatClampNeg).toInt32)) fun I11 =>
    k69 I11 J (x1 + 1)
def Mo_wishAsPair_69 (N : HN) (a0 : Nat) : Nat → HI → HJ → Int32 → Option (HI × HJ)
  | 0 => fun _ _ _ => none
  | n + 1 => Mo_wishAsPair_69b N a0 (Mo_wishAsPair_69 N a0 n)
def Mo_wishAsPair_56 (N : HN) (a0 : Nat) (k2 : HI → HJ → Int32 → Option (HI × HJ)) (I : HI) (J : HJ) (x1 : Int32) (bs0 : Nat) (s1 : Int32) (s2 : Int64) : Option (HI × HJ) :=
  gd (inb s1 (Tm bs0).2) <|
  bd (up2 J bs0 s1.toNatClampNeg s2) fun J2 =>
  k2 I J2 (x1 + 1)
def Mo_wishAsPair_30 (N : HN) (a0 : Nat) (k2 : HI → HJ → Int32 → Option (HI × HJ)) (I : HI) (J : HJ) (x1 : Int32) (bs0 : Nat) (s1 : Int32) (s2 : Int64) : Option (HI × HJ) :=
  gd (inb s1 (Tm bs0).2) <|
  bd (up2 J bs0 s1.toNatClampNeg s2) fun J2 =>
  ra Tm nM (N a0 24) 2 fun b3 =>
  if (7 : Int32) ≤ x1 then
    Mo_wishAsPair_56 N a0 k2 I J2 x1 b3 x1 (0 : Int64)
  else
    ra Tm nM (N a0 4) 1 fun b5 =>
    gd (inb ((7 : Int32) + x1) (Tm b5).2) <|
    Mo_wishAsPair_56 N a0 k2 I J2 x1 b3 x1 ((I b5 ((7 : Int32) + x1).toNatClampNeg).toInt64)
def Mo_wishAsPair_2b (N : HN) (a0 : Nat) (k2 : HI → HJ → Int32 → Option (HI × HJ)) (I : HI) (J : HJ) (x1 : Int32) : Option (HI × HJ) :=
  if (14 : Int32) ≤ x1 then
    bn1 (Mo_asPair N a0 J) fun J2 =>
    Mo_wishAsPair_69 N a0 256 I J2 (0 : Int32)
  else
    ra Tm nM (N a0 23) 2 fun b4 =>
    if (7 : Int32) ≤ x1 then
      Mo_wishAsPair_30 N a0 k2 I J x1 b4 x1 (0 : Int64)
    else
      ra Tm nM (N a0 4) 1 fun b6 =>
      gd (inb x1 (Tm b6).2) <|
      Mo_wishAsPair_30 N a0 k2 I J x1 b4 x1 ((I b6 x1.toNatClampNeg).toInt64)
def Mo_wishAsPair_2 (N : HN) (a0 : Nat) : Nat → HI → HJ → Int32 → Option (HI × HJ)
  | 0 => fun _ _ _ => none
  | n + 1 => Mo_wishAsPair_2b N a0 (Mo_wishAsPair_2 N a0 n)
def Mo_wishAsPair_0 (N : HN) (a0 : Nat) (I : HI) (J : HJ) : Option (HI × HJ) :=
  Mo_wishAsPair_2 N a0 256 I J (0 : Int32)
def Mo_wishAsPair (N : HN) (a0 : Nat) (I : HI) (J : HJ) : Option (HI × HJ) := Mo_wishAsPair_0 N a0 I J
def Mo_found_53 (N : HN) (a0 : Nat) (k6 : HI → HJ → Int32 → Option (HI × HJ × Int32)) (k18 : HI → HJ → Int32 → Int32 → Int32 → Option (HI × HJ × Int32)) (I : HI) (J : HJ) (x1 : Int32) (x3 : Int32) (s0 : Int32) : Option (HI × HJ × Int32) :=
  k18 I J x1 s0 (x3 + 1)
def Mo_found_52 (N : HN) (a0 : Nat) (k6 : HI → HJ → Int32 → Option (HI × HJ × Int32)) (k18 : HI → HJ → Int32 → Int32 → Int32 → Option (HI × HJ × Int32)) (I : HI) (J : HJ) (x1 : Int32) (x3 : Int32) : Option (HI × HJ × Int32) :=
  Mo_found_53 N a0 k6 k18 I J x1 x3 (0 : Int32)
def Mo_found_18b (N : HN) (a0 : Nat) (k6 : HI → HJ → Int32 → Option (HI × HJ × Int32)) (k18 : HI → HJ → Int32 → Int32 → Int32 → Option (HI × HJ × Int32)) (I : HI) (J : HJ) (x1 : Int32) (x2 : Int32) (x3 : Int32) : Option (HI × HJ × Int32) :=
  if (14 : Int32) ≤ x3 then
    if x2 = 0 then
      k6 I J (x1 + 1)
    else
      some (I, J, x1)
  else
    if x2 = 0 then
      Mo_found_52 N a0 k6 k18 I J x1 x3
    else
      ra Tm nM (N a0 29) 1 fun b4 =>
      gd (inb (((14 : Int32) * x1) + x3) (Tm b4).2) <|
      ra Tm nM (N a0 32) 1 fun b6 =>
      gd (inb x3 (Tm b6).2) <|
      if (I b4 (((14 : Int32) * x1) + x3).toNatClampNeg) = (I b6 x3.toNatClampNeg) then
        Mo_found_53 N a0 k6 k18 I J x1 x3 (1 : Int32)
      else
        Mo_found_52 N a0 k6 k18 I J x1 x3
def Mo_found_18 (N : HN) (a0 : Nat) (k6 : HI → HJ → Int32 → Option (HI × HJ × Int32)) : Nat → HI → HJ → Int32 → Int32 → Int32 → Option (HI × HJ × Int32)
  | 0 => fun _ _ _ _ _ => none
  | n + 1 => Mo_found_18b N a0 k6 (Mo_found_18 N a0 k6 n)
def Mo_found_6b (N : HN) (a0 : Nat) (k6 : HI → HJ → Int32 → Option (HI × HJ × Int32)) (I : HI) (J : HJ) (x1 : Int32) : Option (HI × HJ × Int32) :=
  if (I a0 31) ≤ x1 then
    some (I, J, (-1 : Int32))
  else
    Mo_found_18 N a0 k6 256 I J x1 (1 : Int32) (0 : Int32)
def Mo_found_6 (N : HN) (a0 : Nat) : Nat → HI → HJ → Int32 → Option (HI × HJ × Int32)
  | 0 => fun _ _ _ => none
  | n + 1 => Mo_found_6b N a0 (Mo_found_6 N a0 n)
def Mo_found_0 (N : HN) (a0 : Nat) (I : HI) (J : HJ) : Option (HI × HJ × Int32) :=
  bn2 (Mo_wishAsPair N a0 I J) fun I1 J2 =>
  Mo_found_6 N a0 256 I1 J2 (0 : Int32)
def Mo_found (N : HN) (a0 : Nat) (I : HI) (J : HJ) : Option (HI × HJ × Int32) := Mo_found_0 N a0 I J
def Mo_keep_80 (N : HN) (a0 : Nat) (I : HI) (J : HJ) (x1 : Int32) : Option (HI × HJ × Int32) :=
  ra Tm nM (N a0 30) 1 fun b1 =>
  gd (inb x1 (Tm b1).2) <|
  gd (inb x1 (Tm b1).2) <|
  bd (up2 I b1 x1.toNatClampNeg ((I b1 x1.toNatClampNeg) + (1 : Int32))) fun I4 =>
  some (I4, J, x1)
def Mo_keep_51b (N : HN) (a0 : Nat) (k51 : HI → HJ → Int32 → Int32 → Option (HI × HJ × Int32)) (I : HI) (J : HJ) (x1 : Int32) (x2 : Int32) : Option (HI × HJ × Int32) :=
  if (14 : Int32) ≤ x2 then
    Mo_keep_80 N a0 I J x1
  else
    ra Tm nM (N a0 29) 1 fun b2 =>
    ra Tm nM (N a0 32) 1 fun b3 =>
    gd (inb x2 (Tm b3).2) <|
    gd (inb (((14 : Int32) * x1) + x2) (Tm b2).2) <|
    bd (up2 I b2 (((14 : Int32) * x1) + x2).toNatClampNeg (I b3 x2.toNatClampNeg)) fun I6 =>
    k51 I6 J x1 (x2 + 1)
def Mo_keep_51 (N : HN) (a0 : Nat) : Nat → HI → HJ → Int32 → Int32 → Option (HI × HJ × Int32)
  | 0 => fun _ _ _ _ => none
  | n + 1 => Mo_keep_51b N a0 (Mo_keep_51 N a0 n)
def Mo_keep_22 (N : HN) (a0 : Nat) (I : HI) (J : HJ) (x1 : Int32) : Option (HI × HJ × Int32) :=
  if x1 = (-1 : Int32) then
    bd (I a0 31) fun v2 =>
    bd (up2 I a0 31 ((I a0 31) + (1 : Int32))) fun I3 =>
    ra Tm nM (N a0 30) 1 fun b4 =>
    gd (inb v2 (Tm b4).2) <|
    bd (up2 I3 b4 v2.toNatClampNeg (0 : Int32)) fun I6 =>
    Mo_keep_51 N a0 256 I6 J v2 (0 : Int32)
  else
    Mo_keep_80 N a0 I J x1
def Mo_keep_0 (N : HN) (a0 : Nat) (I : HI) (J : HJ) : Option (HI × HJ × Int32) :=
  bn3 (Mo_found N a0 I J) fun I1 J2 r3 =>
  if r3 = (-1 : Int32) then
    if (I1 a0 31) = (12 : Int32) then
      some (I1, J2, (-4 : Int32))
    else
      Mo_keep_22 N a0 I1 J2 r3
  else
    Mo_keep_22 N a0 I1 J2 r3
def Mo_keep (N : HN) (a0 : Nat) (I : HI) (J : HJ) : Option (HI × HJ × Int32) := Mo_keep_0 N a0 I J
def Mo_find_0 (N : HN) (a0 : Nat) (I : HI) (J : HJ) : Option (HI × HJ × Int32) :=
  bn3 (Mo_found N a0 I J) fun I1 J2 r3 =>
  some (I1, J2, r3)
def Mo_find (N : HN) (a0 : Nat) (I : HI) (J : HJ) : Option (HI × HJ × Int32) := Mo_find_0 N a0 I J
def Mo_keptBy_0 (I : HI) (N : HN) (a0 : Nat) (p1 : Int32) (p2 : Int32) : Option (Int32) :=
  if p2 = 0 then
    ra Tm nM (N a0 30) 1 fun b4 =>
    gd (inb p1 (Tm b4).2) <|
    some (I b4 p1.toNatClampNeg)
  else
    ra Tm nM (N a0 29) 1 fun b2 =>
    gd (inb ((((14 : Int32) * p1) + p2) - (1 : Int32)) (Tm b2).2) <|
    some (I b2 ((((14 : Int32) * p1) + p2) - (1 : Int32)).toNatClampNeg)
def Mo_keptBy (I : HI) (N : HN) (a0 : Nat) (p1 : Int32) (p2 : Int32) : Option (Int32) := Mo_keptBy_0 I N a0 p1 p2
def Mo_kept_0 (I : HI) (N : HN) (a0 : Nat) (p1 : Int32) (p2 : Int32) : Option (Int32) :=
  bn1 (Mo_in p1.toInt64 (0 : Int64) (((I a0 31) - (1 : Int32)).toInt64)) fun r1 =>
  if r1 = 0 then
    some (-2147483648 : Int32)
  else
    bn1 (Mo_in p2.toInt64 (0 : Int64) (14 : Int64)) fun r4 =>
    if r4 = 0 then
      some (-2147483648 : Int32)
    else
      bn1 (Mo_keptBy I N a0 p1 p2) fun r7 =>
      some r7
def Mo_kept (I : HI) (N : HN) (a0 : Nat) (p1 : Int32) (p2 : Int32) : Option (Int32) := Mo_kept_0 I N a0 p1 p2
def Mo_recall_21b (N : HN) (a0 : Nat) (p1 : Int32) (k21 : HI → Int32 → Option (HI × Int32)) (I : HI) (x2 : Int32) : Option (HI × Int32) :=
  if (14 : Int32) ≤ x2 then
    ra Tm nM (N a0 30) 1 fun b2 =>
    gd (inb p1 (Tm b2).2) <|
    some (I, I b2 p1.toNatClampNeg)
  else
    ra Tm nM (N a0 4) 1 fun b4 =>
    ra Tm nM (N a0 29) 1 fun b5 =>
    gd (inb (((14 : Int32) * p1) + x2) (Tm b5).2) <|
    gd (inb x2 (Tm b4).2) <|
    bd (up2 I b4 x2.toNatClampNeg (I b5 (((14 : Int32) * p1) + x2).toNatClampNeg)) fun I8 =>
    k21 I8 (x2 + 1)
def Mo_recall_21 (N : HN) (a0 : Nat) (p1 : Int32) : Nat → HI → Int32 → Option (HI × Int32)
  | 0 => fun _ _ => none
  | n + 1 => Mo_recall_21b N a0 p1 (Mo_recall_21 N a0 p1 n)
def Mo_recall_0 (N : HN) (a0 : Nat) (p1 : Int32) (I : HI) : Option (HI × Int32) :=
  bn1 (Mo_in p1.toInt64 (0 : Int64) (((I a0 31) - (1 : Int32)).toInt64)) fun r1 =>
  if r1 = 0 then
    some (I, (-2 : Int32))
  else
    Mo_recall_21 N a0 p1 256 I (0 : Int32)
def Mo_recall (N : HN) (a0 : Nat) (p1 : Int32) (I : HI) : Option (HI × Int32) := Mo_recall_0 N a0 p1 I
def Mo_write_44b (N : HN) (a0 : Nat) (p1 : Int32) (k44 : HI → HJ → Int32 → Int32 → Option (HI × HJ × Int32)) (I : HI) (J : HJ) (x2 : Int32) (x3 : Int32) : Option (HI × HJ × Int32) :=
  if x2 ≤ x3 then
    some (I, J, x2)
  else
    ra Tm nM (N a0 2) 2 fun b2 =>
    ra Tm nM (N a0 5) 1 fun b3 =>
    gd (inb x3 (Tm b3).2) <|
    gd (inb (((40 : Int32) * p1) + x3) (Tm b2).2) <|
    bd (up2 J b2 (((40 : Int32) * p1) + x3).toNatClampNeg ((I b3 x3.toNatClampNeg).toInt64)) fun J6 =>
    k44 I J6 x2 (x3 + 1)
def Mo_write_44 (N : HN) (a0 : Nat) (p1 : Int32) : Nat → HI → HJ → Int32 → Int32 → Option (HI × HJ × Int32)
  | 0 => fun _ _ _ _ => none
  | n + 1 => Mo_write_44b N a0 p1 (Mo_write_44 N a0 p1 n)
def Mo_write_0 (N : HN) (a0 : Nat) (p1 : Int32) (I : HI) (J : HJ) : Option (HI × HJ × Int32) :=
  bn1 (Mo_isSheet p1) fun r1 =>
  if r1 = 0 then
    some (I, J, (-2 : Int32))
  else
    ra Tm nM (N a0 1) 1 fun b4 =>
    gd (inb p1 (Tm b4).2) <|
    if (I b4 p1.toNatClampNeg) = (-1 : Int32) then
      bn2 (Mo_finds a0 (1 : Int32) I) fun I11 r12 =>
      some (I11, J, r12)
    else
      ra Tm nM (N a0 1) 1 fun b7 =>
      gd (inb p1 (Tm b7).2) <|
      bn1 (Mo_lesser (I b7 p1.toNatClampNeg) ((5 : Int32) * (I a0 6))) fun r9 =>
      Mo_write_44 N a0 p1 256 I J r9 (0 : Int32)
def Mo_write (N : HN) (a0 : Nat) (p1 : Int32) (I : HI) (J : HJ) : Option (HI × HJ × Int32) := Mo_write_0 N a0 p1 I J
def Mo_keptAll_4b (I : HI) (N : HN) (a0 : Nat) (k4 : Int32 → Int32 → Option (Int32)) (x1 : Int32) (x2 : Int32) : Option (Int32) :=
  if (I a0 31) ≤ x2 then
    some x1
  else
    ra Tm nM (N a0 30) 1 fun b2 =>
    gd (inb x2 (Tm b2).2) <|
    bd (x1 + (I b2 x2.toNatClampNeg)) fun v4 =>
    k4 v4 (x2 + 1)
def Mo_keptAll_4 (I : HI) (N : HN) (a0 : Nat) : Nat → Int32 → Int32 → Option (Int32)
  | 0 => fun _ _ => none
  | n + 1 => Mo_keptAll_4b I N a0 (Mo_keptAll_4 I N a0 n)
def Mo_keptAll_0 (I : HI) (N : HN) (a0 : Nat) : Option (Int32) :=
  Mo_keptAll_4 I N a0 256 (0 : Int32) (0 : Int32)
def Mo_keptAll (I : HI) (N : HN) (a0 : Nat) : Option (Int32) := Mo_keptAll_0 I N a0
def Mo_sheets_25 (I : HI) (N : HN) (a0 : Nat) (k4 : Int32 → Int32 → Option (Int32)) (x2 : Int32) (s0 : Int32) (s1 : Int32) : Option (Int32) :=
  bd (s0 + s1) fun v1 =>
  k4 v1 (x2 + 1)
def Mo_sheets_4b (I : HI) (N : HN) (a0 : Nat) (k4 : Int32 → Int32 → Option (Int32)) (x1 : Int32) (x2 : Int32) : Option (Int32) :=
  if (3 : Int32) ≤ x2 then
    some x1
  else
    ra Tm nM (N a0 1) 1 fun b2 =>
    gd (inb x2 (Tm b2).2) <|
    if (I b2 x2.toNatClampNeg) = (-1 : Int32) then
      Mo_sheets_25 I N a0 k4 x2 x1 (0 : Int32)
    else
      Mo_sheets_25 I N a0 k4 x2 x1 (1 : Int32)
def Mo_sheets_4 (I : HI) (N : HN) (a0 : Nat) : Nat → Int32 → Int32 → Option (Int32)
  | 0 => fun _ _ => none
  | n + 1 => Mo_sheets_4b I N a0 (Mo_sheets_4 I N a0 n)
def Mo_sheets_0 (I : HI) (N : HN) (a0 : Nat) : Option (Int32) :=
  Mo_sheets_4 I N a0 256 (0 : Int32) (0 : Int32)
def Mo_sheets (I : HI) (N : HN) (a0 : Nat) : Option (Int32) := Mo_sheets_0 I N a0
def Mo_count_0 (I : HI) (N : HN) (a0 : Nat) (p1 : Int32) (J : HJ) : Option (HJ × Int32) :=
  if p1 = (0 : Int32) then
    some (J, I a0 6)
  else
  if p1 = (1 : Int32) then
    ra Tm nM (N a0 5) 1 fun b3 =>
    bn1 (Mo_valuesIn I b3 (I a0 6)) fun r4 =>
    some (J, r4)
  else
  if p1 = (2 : Int32) then
    bn1 (Mo_isLawful I N a0) fun r7 =>
    if r7 = 0 then
      some (J, (0 : Int32))
    else
      some (J, (1 : Int32))
  else
  if p1 = (3 : Int32) then
    bn1 (Mo_parts I N a0 (1 : Int32)) fun r11 =>
    some (J, r11)
  else
  if p1 = (4 : Int32) then
    some (J, I a0 31)
  else
  if p1 = (5 : Int32) then
    bn1 (Mo_keptAll I N a0) fun r15 =>
    some (J, r15)
  else
  if p1 = (6 : Int32) then
    bn2 (Mo_alike I N a0 J) fun J18 r19 =>
    some (J18, r19)
  else
  if p1 = (7 : Int32) then
    bn1 (Mo_sheets I N a0) fun r22 =>
    some (J, r22)
  else
  if p1 = (8 : Int32) then
    some (J, I a0 0)
  else
  some (J, (-2 : Int32))
def Mo_count (I : HI) (N : HN) (a0 : Nat) (p1 : Int32) (J : HJ) : Option (HJ × Int32) := Mo_count_0 I N a0 p1 J
def Mo_ladderTells_57b (I : HI) (N : HN) (a0 : Nat) (p1 : Int64) (k47 : Int64 → Int32 → Int32 → Option (Int64)) (k57 : Int64 → Int32 → Int32 → Int32 → Option (Int64)) (x3 : Int64) (x5 : Int32) (x6 : Int32) (x7 : Int32) : Option (Int64) :=
  if (4 : Int32) ≤ x7 then
    k47 x3 x5 (x6 + 1)
  else
    bn1 (Mo_nthPart I N a0 x6) fun r2 =>
    bn1 (Mo_billBy I N a0 r2 x7) fun r4 =>
    bd (((31 : Int64) * x3) + r4.toInt64) fun v6 =>
    k57 v6 x5 x6 (x7 + 1)
def Mo_ladderTells_57 (I : HI) (N : HN) (a0 : Nat) (p1 : Int64) (k47 : Int64 → Int32 → Int32 → Option (Int64)) : Nat → Int64 → Int32 → Int32 → Int32 → Option (Int64)
  | 0 => fun _ _ _ _ => none
  | n + 1 => Mo_ladderTells_57b I N a0 p1 k47 (Mo_ladderTells_57 I N a0 p1 k47 n)
def Mo_ladderTells_47b (I : HI) (N : HN) (a0 : Nat) (p1 : Int64) (k47 : Int64 → Int32 → Int32 → Option (Int64)) (x3 : Int64) (x5 : Int32) (x6 : Int32) : Option (Int64) :=
  if x5 ≤ x6 then
    bn1 (Mo_values I N a0) fun r2 =>
    some (((31 : Int64) * x3) + r2.toInt64)
  else
    Mo_ladderTells_57 I N a0 p1 k47 256 x3 x5 x6 (0 : Int32)
def Mo_ladderTells_47 (I : HI) (N : HN) (a0 : Nat) (p1 : Int64) : Nat → Int64 → Int32 → Int32 → Option (Int64)
  | 0 => fun _ _ _ => none
  | n + 1 => Mo_ladderTells_47b I N a0 p1 (Mo_ladderTells_47 I N a0 p1 n)
def Mo_ladderTells_5b (I : HI) (N : HN) (a0 : Nat) (p1 : Int64) (k5 : Int64 → Int32 → Option (Int64)) (x3 : Int64) (x5 : Int32) : Option (Int64) :=
  if ((5 : Int32) * (I a0 6)) ≤ x5 then
    bn1 (Mo_parts I N a0 (1 : Int32)) fun r2 =>
    Mo_ladderTells_47 I N a0 p1 256 x3 r2 (0 : Int32)
  else
    ra Tm nM (N a0 5) 1 fun b4 =>
    gd (inb x5 (Tm b4).2) <|
    bd (((31 : Int64) * x3) + ((I b4 x5.toNatClampNeg).toInt64)) fun v6 =>
    k5 v6 (x5 + 1)
def Mo_ladderTells_5 (I : HI) (N : HN) (a0 : Nat) (p1 : Int64) : Nat → Int64 → Int32 → Option (Int64)
  | 0 => fun _ _ => none
  | n + 1 => Mo_ladderTells_5b I N a0 p1 (Mo_ladderTells_5 I N a0 p1 n)
def Mo_ladderTells_0 (I : HI) (N : HN) (a0 : Nat) (p1 : Int64) : Option (Int64) :=
  Mo_ladderTells_5 I N a0 p1 256 p1 (0 : Int32)
def Mo_ladderTells (I : HI) (N : HN) (a0 : Nat) (p1 : Int64) : Option (Int64) := Mo_ladderTells_0 I N a0 p1
def Mo_digest_243b (N : HN) (a0 : Nat) (k232 : HI → HJ → Int64 → Int32 → Option (HI × HJ × Int64)) (k243 : HI → HJ → Int64 → Int32 → Int32 → Option (HI × HJ × Int64)) (I : HI) (J : HJ) (x1 : Int64) (x3 : Int32) (x4 : Int32) : Option (HI × HJ × Int64) :=
  if (15 : Int32) ≤ x4 then
    k232 I J x1 (x3 + 1)
  else
    bn1 (Mo_keptBy I N a0 x3 x4) fun r2 =>
    bd (((31 : Int64) * x1) + r2.toInt64) fun v4 =>
    k243 I J v4 x3 (x4 + 1)
def Mo_digest_243 (N : HN) (a0 : Nat) (k232 : HI → HJ → Int64 → Int32 → Option (HI × HJ × Int64)) : Nat → HI → HJ → Int64 → Int32 → Int32 → Option (HI × HJ × Int64)
  | 0 => fun _ _ _ _ _ => none
  | n + 1 => Mo_digest_243b N a0 k232 (Mo_digest_243 N a0 k232 n)
def Mo_digest_232b (N : HN) (a0 : Nat) (k232 : HI → HJ → Int64 → Int32 → Option (HI × HJ × Int64)) (I : HI) (J : HJ) (x1 : Int64) (x3 : Int32) : Option (HI × HJ × Int64) :=
  if (I a0 31) ≤ x3 then
    some (I, J, x1)
  else
    Mo_digest_243 N a0 k232 256 I J x1 x3 (0 : Int32)
def Mo_digest_232 (N : HN) (a0 : Nat) : Nat → HI → HJ → Int64 → Int32 → Option (HI × HJ × Int64)
  | 0 => fun _ _ _ _ => none
  | n + 1 => Mo_digest_232b N a0 (Mo_digest_232 N a0 n)
def Mo_digest_187b (N : HN) (a0 : Nat) (k187 : HI → HJ → Int64 → Int32 → Option (HI × HJ × Int64)) (I : HI) (J : HJ) (x1 : Int64) (x3 : Int32) : Option (HI × HJ × Int64) :=
  if (2 : Int32) ≤ x3 then
    bn1 (Mo_ladderTells I N a0 x1) fun r2 =>
    bn3 (Mo_found N a0 I J) fun I4 J5 r6 =>
    bd (((31 : Int64) * r2) + r6.toInt64) fun v8 =>
    Mo_digest_232 N a0 256 I4 J5 v8 (0 : Int32)
  else
    bn1 (Mo_reactanceBy I N a0 (3 : Int32) (2 : Int32) x3) fun r9 =>
    bd (((31 : Int64) * x1) + r9) fun v11 =>
    k187 I J v11 (x3 + 1)
def Mo_digest_187 (N : HN) (a0 : Nat) : Nat → HI → HJ → Int64 → Int32 → Option (HI × HJ × Int64)
  | 0 => fun _ _ _ _ => none
  | n + 1 => Mo_digest_187b N a0 (Mo_digest_187 N a0 n)
def Mo_digest_160b (N : HN) (a0 : Nat) (k160 : HI → HJ → Int64 → Int32 → Option (HI × HJ × Int64)) (I : HI) (J : HJ) (x1 : Int64) (x3 : Int32) : Option (HI × HJ × Int64) :=
  if (2 : Int32) ≤ x3 then
    Mo_digest_187 N a0 256 I J x1 (0 : Int32)
  else
    bn1 (Mo_reactanceBy I N a0 (1 : Int32) (1 : Int32) x3) fun r2 =>
    bd (((31 : Int64) * x1) + r2) fun v4 =>
    k160 I J v4 (x3 + 1)
def Mo_digest_160 (N : HN) (a0 : Nat) : Nat → HI → HJ → Int64 → Int32 → Option (HI × HJ × Int64)
  | 0 => fun _ _ _ _ => none
  | n + 1 => Mo_digest_160b N a0 (Mo_digest_160 N a0 n)
def Mo_digest_134b (N : HN) (a0 : Nat) (k134 : HI → HJ → Int64 → Int32 → Option (HI × HJ × Int64)) (I : HI) (J : HJ) (x1 : Int64) (x3 : Int32) : Option (HI × HJ × Int64) :=
  if (4 : Int32) ≤ x3 then
    Mo_digest_160 N a0 256 I J x1 (0 : Int32)
  else
    bn3 (Mo_unfolds N a0 x3 I J) fun I2 J3 r4 =>
    bd (((31 : Int64) * x1) + r4.toInt64) fun v6 =>
    k134 I2 J3 v6 (x3 + 1)
def Mo_digest_134 (N : HN) (a0 : Nat) : Nat → HI → HJ → Int64 → Int32 → Option (HI × HJ × Int64)
  | 0 => fun _ _ _ _ => none
  | n + 1 => Mo_digest_134b N a0 (Mo_digest_134 N a0 n)
def Mo_digest_108b (N : HN) (a0 : Nat) (k108 : HI → HJ → Int64 → Int32 → Option (HI × HJ × Int64)) (I : HI) (J : HJ) (x1 : Int64) (x3 : Int32) : Option (HI × HJ × Int64) :=
  if (5 : Int32) ≤ x3 then
    Mo_digest_134 N a0 256 I J x1 (0 : Int32)
  else
    bn1 (Mo_infoBy I N a0 x3) fun r2 =>
    bd (((31 : Int64) * x1) + r2.toInt64) fun v4 =>
    k108 I J v4 (x3 + 1)
def Mo_digest_108 (N : HN) (a0 : Nat) : Nat → HI → HJ → Int64 → Int32 → Option (HI × HJ × Int64)
  | 0 => fun _ _ _ _ => none
  | n + 1 => Mo_digest_108b N a0 (Mo_digest_108 N a0 n)
def Mo_digest_37b (N : HN) (a0 : Nat) (k37 : HI → HJ → Int64 → Int32 → Option (HI × HJ × Int64)) (I : HI) (J : HJ) (x1 : Int64) (x3 : Int32) : Option (HI × HJ × Int64) :=
  if (7 : Int32) ≤ x3 then
    Mo_digest_108 N a0 256 I J x1 (0 : Int32)
  else
    ra Tm nM (N a0 4) 1 fun b2 =>
    gd (inb x3 (Tm b2).2) <|
    bd (((31 : Int64) * x1) + ((I b2 x3.toNatClampNeg).toInt64)) fun v4 =>
    ra Tm nM (N a0 4) 1 fun b5 =>
    gd (inb ((7 : Int32) + x3) (Tm b5).2) <|
    bd (((31 : Int64) * v4) + ((I b5 ((7 : Int32) + x3).toNatClampNeg).toInt64)) fun v7 =>
    bn1 (Mo_foldBy I J N a0 (0 : Int32) x3) fun r8 =>
    bd (((31 : Int64) * v7) + r8) fun v10 =>
    bn1 (Mo_foldBy I J N a0 (1 : Int32) x3) fun r11 =>
    bd (((31 : Int64) * v10) + r11) fun v13 =>
    k37 I J v13 (x3 + 1)
def Mo_digest_37 (N : HN) (a0 : Nat) : Nat → HI → HJ → Int64 → Int32 → Option (HI × HJ × Int64)
  | 0 => fun _ _ _ _ => none
  | n + 1 => Mo_digest_37b N a0 (Mo_digest_37 N a0 n)
def Mo_digest_6b (N : HN) (a0 : Nat) (k6 : HI → HJ → Int64 → Int32 → Option (HI × HJ × Int64)) (I : HI) (J : HJ) (x1 : Int64) (x3 : Int32) : Option (HI × HJ × Int64) :=
  if (8 : Int32) ≤ x3 then
    bn1 (Mo_folds I N a0 J) fun J2 =>
    Mo_digest_37 N a0 256 I J2 x1 (0 : Int32)
  else
    bn2 (Mo_count I N a0 x3 J) fun J4 r5 =>
    bd (((31 : Int64) * x1) + r5.toInt64) fun v7 =>
    k6 I J4 v7 (x3 + 1)
def Mo_digest_6 (N : HN) (a0 : Nat) : Nat → HI → HJ → Int64 → Int32 → Option (HI × HJ × Int64)
  | 0 => fun _ _ _ _ => none
  | n + 1 => Mo_digest_6b N a0 (Mo_digest_6 N a0 n)
def Mo_digest_0 (N : HN) (a0 : Nat) (I : HI) (J : HJ) : Option (HI × HJ × Int64) :=
  Mo_digest_6 N a0 256 I J (17 : Int64) (0 : Int32)
def Mo_digest (N : HN) (a0 : Nat) (I : HI) (J : HJ) : Option (HI × HJ × Int64) := Mo_digest_0 N a0 I J
