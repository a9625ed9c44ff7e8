def f_J6_bitCount_0f7a4 (p0 : Int32) : Int32 :=
  lt ((p0 - ((iusr p0 (1 : Int32)) &&& (1431655765 : Int32)))) fun v0_1 =>
  lt (((v0_1 &&& (858993459 : Int32)) + ((iusr v0_1 (2 : Int32)) &&& (858993459 : Int32)))) fun v0_2 =>
  lt (((v0_2 + (iusr v0_2 (4 : Int32))) &&& (252645135 : Int32))) fun v0_3 =>
  lt ((v0_3 + (iusr v0_3 (8 : Int32)))) fun v0_4 =>
  lt ((v0_4 + (iusr v0_4 (16 : Int32)))) fun v0_5 =>
  (v0_5 &&& (63 : Int32))
def f_J9_abs_067f4 (p0 : Int64) : Int64 :=
  lt (if p0 < (0 : Int64) then (-p0) else p0) fun x_1 =>
  x_1
def f_J9_floorDiv_7cf53 (p0 : Int32) (p1 : Int32) : Option Int32 :=
  gd (nz p1) <|
  lt ((p0 / p1)) fun v2_1 =>
  if (p0 ^^^ p1) < 0 then (
   if (v2_1 * p1) = p0 then (
    some v2_1
   ) else (
    some (v2_1 - (1 : Int32))
   )
  ) else (
   some v2_1
  )
def f_J9_max_7cf53 (p0 : Int32) (p1 : Int32) : Int32 :=
  lt (if p0 < p1 then p1 else p0) fun x_1 =>
  x_1
def f_J9_min_7cf53 (p0 : Int32) (p1 : Int32) : Int32 :=
  lt (if p1 < p0 then p1 else p0) fun x_1 =>
  x_1
def f_X6_isWithin (p0 : Int32) (p1 : Int32) : Int32 :=
  lt (if p0 < 0 then (0 : Int32) else (if p0 < p1 then (1 : Int32) else (0 : Int32))) fun x_1 =>
  x_1
def f_X0_leastOf (o : Nat) (p1 : Int32) (S : Sg) : Option Int32 :=
  if (f_X6_isWithin p1 (10 : Int32)) = 0 then (
   some (0 : Int32)
  ) else (
   gd (inb p1 10) <|
   some (S.1 (o + 1) (ix p1))
  )
def f_X0_mostOf (o : Nat) (p1 : Int32) (S : Sg) : Option Int32 :=
  if (f_X6_isWithin p1 (10 : Int32)) = 0 then (
   some (0 : Int32)
  ) else (
   gd (inb p1 10) <|
   some (S.1 (o + 2) (ix p1))
  )
def f_X0_highEnd (o : Nat) (p1 : Int32) (p2 : Int32) (S : Sg) : Option Int32 :=
  if 0 < p1 then (
   bd (f_X0_mostOf o p2 S) fun r_2 =>
   some (p1 * r_2)
  ) else (
   bd (f_X0_leastOf o p2 S) fun r_1 =>
   some (p1 * r_1)
  )
def f_X0_widthOf (o : Nat) (p1 : Int32) (S : Sg) : Option Int32 :=
  bd (f_X0_mostOf o p1 S) fun r_1 =>
  bd (f_X0_leastOf o p1 S) fun r_2 =>
  some ((r_1 - r_2) + (1 : Int32))
def L_X0_knownBits_4 (o : Nat) (S : Sg) : Nat → Int32 → Int32 → Option (Int32)
  | 0, _, _ => none
  | n + 1, v1, v2 =>
  if v2 < (S.1 o 2) then (
   bd (f_X0_widthOf o v2 S) fun r_1 =>
   lt (if r_1 = (1 : Int32) then (v1 ||| (isl (1 : Int32) v2)) else v1) fun v1_1 =>
   lt (v2 + (1 : Int32)) fun v2_1 =>
   L_X0_knownBits_4 o S n v1_1 v2_1
  ) else (
   some v1
  )
def f_X0_knownBits (o : Nat) (S : Sg) : Option Int32 :=
  bd (L_X0_knownBits_4 o S 400 (0 : Int32) (0 : Int32)) (fun v1_1 => (
   some v1_1
  ))
def f_X0_lowEnd (o : Nat) (p1 : Int32) (p2 : Int32) (S : Sg) : Option Int32 :=
  if 0 < p1 then (
   bd (f_X0_leastOf o p2 S) fun r_2 =>
   some (p1 * r_2)
  ) else (
   bd (f_X0_mostOf o p2 S) fun r_1 =>
   some (p1 * r_1)
  )
def f_X0_narrowOne (o : Nat) (p1 : Int32) (p2 : Int32) (p3 : Int32) (p4 : Int32) (S : Sg) : Option (Int32 × Sg) :=
  if (f_X6_isWithin p1 (10 : Int32)) = 0 then (
   some ((0 : Int32), S)
  ) else (
   if p2 = 0 then (
    some ((0 : Int32), S)
   ) else (
    lt (if 0 < p2 then (-p3) else (-p4)) fun x_1 =>
    bd (f_J9_floorDiv_7cf53 x_1 p2) fun r_1 =>
    lt ((-r_1)) fun v5_1 =>
    lt (if 0 < p2 then p4 else p3) fun x_2 =>
    bd (f_J9_floorDiv_7cf53 x_2 p2) fun r_2 =>
    gd (inb p1 10) <|
    lt (fun (v7_1 : Int32) (S_1 : Sg) => (
     if r_2 < (S_1.1 (o + 2) (ix p1)) then (
      lt (setI S_1 (o + 2) (ix p1) r_2) fun S_2 =>
      some ((1 : Int32), S_2)
     ) else (
      gd (isb v7_1) <|
      some (v7_1, S_1)
     )
    )) fun J_1 =>
    if (S.1 (o + 1) (ix p1)) < v5_1 then (
     lt (setI S (o + 1) (ix p1) v5_1) fun S_3 =>
     J_1 (1 : Int32) S_3
    ) else (
     J_1 (0 : Int32) S
    )
   )
  )
def f_X5_answerOf (o : Nat) (p1 : Int32) (S : Sg) : Option Int32 :=
  if (f_X6_isWithin p1 (10 : Int32)) = 0 then (
   some (0 : Int32)
  ) else (
   gd (inb p1 10) <|
   some (S.1 (o + 16) (ix p1))
  )
def f_X5_coefficient (o : Nat) (p1 : Int32) (p2 : Int32) (S : Sg) : Option Int32 :=
  if (f_X6_isWithin p1 (10 : Int32)) = 0 then (
   some (0 : Int32)
  ) else (
   if (f_X6_isWithin p2 (10 : Int32)) = 0 then (
    some (0 : Int32)
   ) else (
    gd (inb p1 10) <|
    gd (inb p2 10) <|
    some (S.1 ((o + 6) + ix p1) (ix p2))
   )
  )
def L_X0_narrowByRow_8 (o : Nat) (o1 : Nat) (v2 : Int32) (S : Sg) : Nat → Int32 → Int32 → Int32 → Option (Int32 × Int32)
  | 0, _, _, _ => none
  | n + 1, v3, v4, v5 =>
  if v5 < (S.1 o 2) then (
   bd (f_X5_coefficient o1 v2 v5 S) fun r_1 =>
   bd (f_X0_lowEnd o r_1 v5 S) fun r_2 =>
   lt ((v3 + r_2)) fun v3_1 =>
   bd (f_X0_highEnd o r_1 v5 S) fun r_3 =>
   lt ((v4 + r_3)) fun v4_1 =>
   lt (v5 + (1 : Int32)) fun v5_1 =>
   L_X0_narrowByRow_8 o o1 v2 S n v3_1 v4_1 v5_1
  ) else (
   some (v3, v4)
  )
def L_X0_narrowByRow_69 (o : Nat) (o1 : Nat) (v2 : Int32) (v5 : Int32) : Nat → Int32 → Int32 → Int32 → Int32 → Sg → Option (Int32 × Sg)
  | 0, _, _, _, _, _ => none
  | n + 1, v3, v4, v6, v7, S =>
  if v7 < (S.1 o 2) then (
   bd (f_X5_coefficient o1 v2 v7 S) fun r_1 =>
   if r_1 = 0 then (
    lt (v7 + (1 : Int32)) fun v7_2 =>
    L_X0_narrowByRow_69 o o1 v2 v5 n v3 v4 v6 v7_2 S
   ) else (
    bd (f_X0_lowEnd o r_1 v7 S) fun r_2 =>
    lt ((v3 - r_2)) fun v9_1 =>
    bd (f_X0_highEnd o r_1 v7 S) fun r_3 =>
    lt ((v4 - r_3)) fun v10_1 =>
    bd (f_X0_narrowOne o v7 r_1 (v5 - v10_1) (v5 - v9_1) S) (u2 fun r_4 S_1 =>
     lt (if r_4 = 0 then v6 else (1 : Int32)) fun v6_1 =>
     bd (f_X0_lowEnd o r_1 v7 S_1) fun r_5 =>
     lt ((v9_1 + r_5)) fun v3_1 =>
     bd (f_X0_highEnd o r_1 v7 S_1) fun r_6 =>
     lt ((v10_1 + r_6)) fun v4_1 =>
     lt (v7 + (1 : Int32)) fun v7_1 =>
     L_X0_narrowByRow_69 o o1 v2 v5 n v3_1 v4_1 v6_1 v7_1 S_1
    )
   )
  ) else (
   some (v6, S)
  )
def f_X0_narrowByRow (o : Nat) (o1 : Nat) (p2 : Int32) (S : Sg) : Option (Int32 × Sg) :=
  bd (L_X0_narrowByRow_8 o o1 p2 S 400 (0 : Int32) (0 : Int32) (0 : Int32)) (u2 fun v3_1 v4_1 => (
   bd (f_X5_answerOf o1 p2 S) fun r_1 =>
   bd (L_X0_narrowByRow_69 o o1 p2 r_1 400 v3_1 v4_1 (0 : Int32) (0 : Int32) S) (u2 fun v6_1 S_1 => (
    gd (isb v6_1) <|
    some (v6_1, S_1)
   ))
  ))
def f_X5_has (o : Nat) (p1 : Int32) (S : Sg) : Int32 :=
  lt (if (f_X6_isWithin p1 (S.1 o 4)) = 0 then (0 : Int32) else (if (f_X6_isWithin p1 (10 : Int32)) = 0 then (0 : Int32) else (1 : Int32))) fun x_1 =>
  x_1
def f_X5_highOf (o : Nat) (p1 : Int32) (S : Sg) : Option Int32 :=
  if (f_X5_has o p1 S) = 0 then (
   some (0 : Int32)
  ) else (
   gd (inb p1 10) <|
   some (S.1 (o + 4) (ix p1))
  )
def f_X5_lowOf (o : Nat) (p1 : Int32) (S : Sg) : Option Int32 :=
  if (f_X5_has o p1 S) = 0 then (
   some (0 : Int32)
  ) else (
   gd (inb p1 10) <|
   some (S.1 (o + 3) (ix p1))
  )
def L_X0_narrow_15 (o : Nat) (o1 : Nat) : Nat → Int32 → Sg → Option (Sg)
  | 0, _, _ => none
  | n + 1, v2, S =>
  if v2 < (S.1 o 2) then (
   bd (f_X5_lowOf o1 v2 S) fun r_1 =>
   gd (inb v2 10) <|
   lt (setI S (o + 1) (ix v2) r_1) fun S_1 =>
   bd (f_X5_highOf o1 v2 S_1) fun r_2 =>
   lt (setI S_1 (o + 2) (ix v2) r_2) fun S_2 =>
   lt (v2 + (1 : Int32)) fun v2_1 =>
   L_X0_narrow_15 o o1 n v2_1 S_2
  ) else (
   some S
  )
def L_X0_narrow_70 (o : Nat) (o1 : Nat) (v3 : Int32) : Nat → Int32 → Int32 → Sg → Option (Int32 × Sg)
  | 0, _, _, _ => none
  | n + 1, v2, v4, S =>
  if v4 < (S.1 o1 9) then (
   bd (f_X0_narrowByRow o o1 v4 S) (u2 fun r_1 S_1 =>
    lt (if r_1 = 0 then v2 else (1 : Int32)) fun v2_1 =>
    lt (v4 + (1 : Int32)) fun v4_1 =>
    L_X0_narrow_70 o o1 v3 n v2_1 v4_1 S_1
   )
  ) else (
   some (v2, S)
  )
def L_X0_narrow_55 (o : Nat) (o1 : Nat) : Nat → Int32 → Int32 → Sg → Option (Sg)
  | 0, _, _, _ => none
  | n + 1, v2, v3, S =>
  if v3 < (60 : Int32) then (
   if v2 = 0 then (
    some S
   ) else (
    bd (L_X0_narrow_70 o o1 v3 400 (0 : Int32) (0 : Int32) S) (u2 fun v2_1 S_1 => (
     lt (v3 + (1 : Int32)) fun v3_1 =>
     L_X0_narrow_55 o o1 n v2_1 v3_1 S_1
    ))
   )
  ) else (
   some S
  )
def f_X0_narrow (o : Nat) (o1 : Nat) (S : Sg) : Option Sg :=
  lt (setI S o 2 (f_J9_min_7cf53 (S.1 o1 4) (10 : Int32))) fun S_1 =>
  bd (L_X0_narrow_15 o o1 400 (0 : Int32) S_1) (fun S_2 => (
   bd (L_X0_narrow_55 o o1 400 (1 : Int32) (0 : Int32) S_2) (fun S_3 => (
    some S_3
   ))
  ))
def L_X0_narrowest_4 (o : Nat) (S : Sg) : Nat → Int32 → Int32 → Option (Int32)
  | 0, _, _ => none
  | n + 1, v1, v2 =>
  if v2 < (S.1 o 2) then (
   bd (f_X0_widthOf o v2 S) fun r_1 =>
   bd (f_X0_widthOf o v1 S) fun r_2 =>
   lt (if r_1 < r_2 then v2 else v1) fun v1_1 =>
   lt (v2 + (1 : Int32)) fun v2_1 =>
   L_X0_narrowest_4 o S n v1_1 v2_1
  ) else (
   some v1
  )
def f_X0_narrowest (o : Nat) (S : Sg) : Option Int32 :=
  bd (L_X0_narrowest_4 o S 400 (0 : Int32) (1 : Int32)) (fun v1_1 => (
   some v1_1
  ))
def L_X0_widths_4 (o : Nat) (S : Sg) : Nat → Int32 → Int32 → Option (Int32)
  | 0, _, _ => none
  | n + 1, v1, v2 =>
  if v2 < (S.1 o 2) then (
   bd (f_X0_widthOf o v2 S) fun r_1 =>
   lt ((v1 + r_1)) fun v1_1 =>
   lt (v2 + (1 : Int32)) fun v2_1 =>
   L_X0_widths_4 o S n v1_1 v2_1
  ) else (
   some v1
  )
def f_X0_widths (o : Nat) (S : Sg) : Option Int32 :=
  bd (L_X0_widths_4 o S 400 (0 : Int32) (0 : Int32)) (fun v1_1 => (
   some v1_1
  ))
def f_X1_add (o : Nat) (n : Nat) (p1 : Int32) (S : Sg) : Option (Int32 × Sg) :=
  if (f_X6_isWithin (S.1 o 0) (Int32.ofNat n)) = 0 then (
   some ((0 : Int32), S)
  ) else (
   gd (inb (S.1 o 0) n) <|
   lt (setI S (o + 1) (ix (S.1 o 0)) p1) fun S_1 =>
   lt (setI S_1 o 0 ((S_1.1 o 0) + (1 : Int32))) fun S_2 =>
   some ((1 : Int32), S_2)
  )
def f_X1_at (o : Nat) (n : Nat) (p1 : Int32) (S : Sg) : Option Int32 :=
  if (f_X6_isWithin p1 (S.1 o 0)) = 0 then (
   some (-9 : Int32)
  ) else (
   if (f_X6_isWithin p1 (Int32.ofNat n)) = 0 then (
    some (-9 : Int32)
   ) else (
    gd (inb p1 n) <|
    some (S.1 (o + 1) (ix p1))
   )
  )
def f_X1_forget (o : Nat) (n : Nat) (S : Sg) : Option Sg :=
  lt (setI S o 0 (0 : Int32)) fun S_1 =>
  some S_1
def L_X2_make_3 (o : Nat) (v1 : Int32) (v2 : Int32) (v3 : Int32) : Nat → Int32 → Sg → Option (Sg)
  | 0, _, _ => none
  | n + 1, v4, S =>
  if v4 < (8 : Int32) then (
   lt (((isr v2 v4) &&& (1 : Int32))) fun v5_1 =>
   lt (((isr v3 v4) &&& (1 : Int32))) fun v6_1 =>
   if v1 = (1 : Int32) then (
    lt ((v5_1 - v6_1)) fun v7_2 =>
    gd (inb v4 8) <|
    lt (setI S (o + 1) (ix v4) v7_2) fun S_4 =>
    lt (v4 + (1 : Int32)) fun v4_4 =>
    L_X2_make_3 o v1 v2 v3 n v4_4 S_4
   ) else (
    if v1 = (2 : Int32) then (
     if v3 = 0 then (
      gd (inb v4 8) <|
      lt (setI S (o + 1) (ix v4) v5_1) fun S_2 =>
      lt (v4 + (1 : Int32)) fun v4_2 =>
      L_X2_make_3 o v1 v2 v3 n v4_2 S_2
     ) else (
      gd (nz v3) <|
      lt ((v5_1 * ((1 : Int32) + (irem v4 v3)))) fun v7_1 =>
      gd (inb v4 8) <|
      lt (setI S (o + 1) (ix v4) v7_1) fun S_3 =>
      lt (v4 + (1 : Int32)) fun v4_3 =>
      L_X2_make_3 o v1 v2 v3 n v4_3 S_3
     )
    ) else (
     gd (inb v4 8) <|
     lt (setI S (o + 1) (ix v4) v5_1) fun S_1 =>
     lt (v4 + (1 : Int32)) fun v4_1 =>
     L_X2_make_3 o v1 v2 v3 n v4_1 S_1
    )
   )
  ) else (
   some S
  )
def f_X2_make (o : Nat) (p1 : Int32) (p2 : Int32) (p3 : Int32) (S : Sg) : Option Sg :=
  bd (L_X2_make_3 o p1 p2 p3 400 (0 : Int32) S) (fun S_1 => (
   some S_1
  ))
def f_X2_misfitOf (p0 : Int32) (p1 : Int32) (p2 : Int32) : Int32 :=
  lt (fun (_ : Unit) => (
   lt (if p0 = 0 then (0 : Int32) else (1 : Int32)) fun x_1 =>
   if p1 < (1 : Int32) then (
    (-4 : Int32)
   ) else (
    lt (fun (_ : Unit) => (
     lt (if p0 = (2 : Int32) then (3 : Int32) else (255 : Int32)) fun x_2 =>
     if (255 : Int32) < p1 then (
      (-6 : Int32)
     ) else (
      lt (fun (_ : Unit) => (
       lt (if p0 = (1 : Int32) then (if (p1 &&& p2) = 0 then (0 : Int32) else (-3 : Int32)) else (0 : Int32)) fun x_3 =>
       x_3
      )) fun J_3 =>
      if x_1 = 0 then (
       J_3 ()
      ) else (
       if x_2 < p2 then (
        (-6 : Int32)
       ) else (
        J_3 ()
       )
      )
     )
    )) fun J_2 =>
    if x_1 = 0 then (
     J_2 ()
    ) else (
     if p2 < (1 : Int32) then (
      (-4 : Int32)
     ) else (
      J_2 ()
     )
    )
   )
  )) fun J_1 =>
  if p0 = 0 then (
   J_1 ()
  ) else (
   if p0 = (1 : Int32) then (
    J_1 ()
   ) else (
    if p0 = (2 : Int32) then (
     J_1 ()
    ) else (
     (-2 : Int32)
    )
   )
  )
def L_X2_size_4 (o : Nat) (S : Sg) : Nat → Int32 → Int32 → Option (Int32)
  | 0, _, _ => none
  | n + 1, v1, v2 =>
  if v2 < (8 : Int32) then (
   gd (inb v2 8) <|
   lt (if (S.1 (o + 1) (ix v2)) = 0 then v1 else (v1 + (1 : Int32))) fun v1_1 =>
   lt (v2 + (1 : Int32)) fun v2_1 =>
   L_X2_size_4 o S n v1_1 v2_1
  ) else (
   some v1
  )
def f_X2_size (o : Nat) (S : Sg) : Option Int32 :=
  bd (L_X2_size_4 o S 400 (0 : Int32) (0 : Int32)) (fun v1_1 => (
   some v1_1
  ))
def f_X3_digit (o0 : Nat) (n0 : Nat) (p1 : Int32) (S : Sg) : Option Int32 :=
  bd (f_X1_at o0 n0 p1 S) fun r_1 =>
  some (r_1 - (48 : Int32))
def f_X3_digitsBehind (p0 : Int32) : Int32 :=
  if p0 = (98 : Int32) then (
   (6 : Int32)
  ) else (
  if p0 = (99 : Int32) then (
   (3 : Int32)
  ) else (
  if p0 = (100 : Int32) then (
   (8 : Int32)
  ) else (
  if p0 = (108 : Int32) then (
   (2 : Int32)
  ) else (
  if p0 = (114 : Int32) then (
   (1 : Int32)
  ) else (
  if p0 = (115 : Int32) then (
   (8 : Int32)
  ) else (
  if p0 = (118 : Int32) then (
   (3 : Int32)
  ) else (
  if p0 = (119 : Int32) then (
   (9 : Int32)
  ) else (
   (0 : Int32)
  ))))))))
def L_X3_firstMisfit_6 (o0 : Nat) (n0 : Nat) (S : Sg) : Nat → Int32 → Int32 → Int32 → Option (Int32 ⊕ (Int32))
  | 0, _, _, _ => none
  | n + 1, v1, v2, v3 =>
  if v3 < (S.1 o0 0) then (
   bd (f_X1_at o0 n0 v3 S) fun r_1 =>
   if v2 = 0 then (
    lt ((f_X3_digitsBehind r_1)) fun v1_2 =>
    if v1_2 = 0 then (
     some (.inl v3)
    ) else (
     lt (v3 + (1 : Int32)) fun v3_3 =>
     L_X3_firstMisfit_6 o0 n0 S n v1_2 (1 : Int32) v3_3
    )
   ) else (
    if 0 < v1 then (
     if r_1 < (48 : Int32) then (
      some (.inl v3)
     ) else (
      if (57 : Int32) < r_1 then (
       some (.inl v3)
      ) else (
       lt (v1 + (-1 : Int32)) fun v1_1 =>
       lt (v3 + (1 : Int32)) fun v3_2 =>
       L_X3_firstMisfit_6 o0 n0 S n v1_1 v2 v3_2
      )
     )
    ) else (
     if r_1 = (59 : Int32) then (
      lt (v3 + (1 : Int32)) fun v3_1 =>
      L_X3_firstMisfit_6 o0 n0 S n v1 (0 : Int32) v3_1
     ) else (
      some (.inl v3)
     )
    )
   )
  ) else (
   some (.inr v2)
  )
def f_X3_firstMisfit (o0 : Nat) (n0 : Nat) (S : Sg) : Option Int32 :=
  bs (L_X3_firstMisfit_6 o0 n0 S 400 (0 : Int32) (0 : Int32) (0 : Int32)) (fun q => some q) (fun v2_1 => (
   lt (if v2_1 = 0 then (if (S.1 o0 0) = 0 then (S.1 o0 0) else (-9 : Int32)) else (S.1 o0 0)) fun x_1 =>
   some x_1
  ))
def f_X3_pair (o0 : Nat) (n0 : Nat) (p1 : Int32) (S : Sg) : Option Int32 :=
  bd (f_X3_digit o0 n0 p1 S) fun r_1 =>
  bd (f_X3_digit o0 n0 (p1 + (1 : Int32)) S) fun r_2 =>
  some (((10 : Int32) * r_1) + r_2)
def L_X3_readQuestion_38 (o0 : Nat) (n0 : Nat) (o2 : Nat) (v1 : Int32) (v4 : Int32) (S : Sg) : Nat → Int32 → Int32 → Int32 → Option ((Int32 × Sg) ⊕ (Int32 × Int32))
  | 0, _, _, _ => none
  | n + 1, v5, v6, v7 =>
  if v7 < (8 : Int32) then (
   bd (f_X3_digit o0 n0 ((v1 + (1 : Int32)) + v7) S) fun r_1 =>
   lt (fun (_ : Unit) => (
    lt (if v4 = (1 : Int32) then (if r_1 = (2 : Int32) then v5 else (if r_1 = 0 then v5 else (v5 ||| (isl (1 : Int32) v7)))) else (if r_1 = 0 then v5 else (v5 ||| (isl (1 : Int32) v7)))) fun v5_1 =>
    lt (if v4 = (1 : Int32) then (if r_1 = (2 : Int32) then (v6 ||| (isl (1 : Int32) v7)) else (if r_1 = 0 then v6 else v6)) else (if r_1 = 0 then v6 else v6)) fun v6_1 =>
    lt (v7 + (1 : Int32)) fun v7_1 =>
    L_X3_readQuestion_38 o0 n0 o2 v1 v4 S n v5_1 v6_1 v7_1
   )) fun J_1 =>
   if v4 = (1 : Int32) then (
    if (2 : Int32) < r_1 then (
     some (.inl ((0 : Int32), S))
    ) else (
     J_1 ()
    )
   ) else (
    J_1 ()
   )
  ) else (
   some (.inr (v5, v6))
  )
def f_X3_readQuestion (o0 : Nat) (n0 : Nat) (p1 : Int32) (o2 : Nat) (S : Sg) : Option (Int32 × Sg) :=
  bd (f_X1_at o0 n0 p1 S) fun r_1 =>
  lt (if r_1 = (115 : Int32) then (0 : Int32) else (if r_1 = (100 : Int32) then (1 : Int32) else (2 : Int32))) fun x_1 =>
  bs (L_X3_readQuestion_38 o0 n0 o2 p1 x_1 S 400 (0 : Int32) (0 : Int32) (0 : Int32)) (fun q => some q) (u2 fun v5_1 v6_1 => (
   lt (fun (v6_2 : Int32) => (
    if (f_X2_misfitOf x_1 v5_1 v6_2) = 0 then (
     bd (f_X2_make o2 x_1 v5_1 v6_2 S) fun S_1 =>
     some ((1 : Int32), S_1)
    ) else (
     some ((0 : Int32), S)
    )
   )) fun J_1 =>
   if x_1 = (2 : Int32) then (
    bd (f_X3_digit o0 n0 ((p1 + (1 : Int32)) + (8 : Int32)) S) fun r_2 =>
    J_1 r_2
   ) else (
    J_1 v6_1
   )
  ))
def f_X5_takeBounds (o : Nat) (p1 : Int32) (p2 : Int32) (p3 : Int32) (S : Sg) : Option (Int32 × Sg) :=
  if (f_X5_has o p1 S) = 0 then (
   some ((0 : Int32), S)
  ) else (
   gd (inb p1 10) <|
   if (S.1 (o + 2) (ix p1)) < p2 then (
    some ((0 : Int32), S)
   ) else (
    if p3 < (S.1 (o + 2) (ix p1)) then (
     some ((0 : Int32), S)
    ) else (
     lt (setI S (o + 3) (ix p1) p2) fun S_1 =>
     lt (setI S_1 (o + 4) (ix p1) p3) fun S_2 =>
     some ((1 : Int32), S_2)
    )
   )
  )
def f_X5_set (o : Nat) (p1 : Int32) (p2 : Int32) (S : Sg) : Option Sg :=
  if (f_X6_isWithin p1 (10 : Int32)) = 0 then (
   some S
  ) else (
   gd (inb p1 10) <|
   lt (setI S (o + 2) (ix p1) p2) fun S_1 =>
   lt (setI S_1 (o + 3) (ix p1) (0 : Int32)) fun S_2 =>
   lt (setI S_2 (o + 4) (ix p1) (99 : Int32)) fun S_3 =>
   some S_3
  )
def f_X5_takeChange (o : Nat) (p1 : Int32) (p2 : Int32) (S : Sg) : Option (Int32 × Sg) :=
  if (f_X6_isWithin p1 (8 : Int32)) = 0 then (
   some ((0 : Int32), S)
  ) else (
   if (f_X6_isWithin (S.1 o 4) (10 : Int32)) = 0 then (
    some ((0 : Int32), S)
   ) else (
    gd (inb p1 8) <|
    lt (setI S (o + 1) (ix p1) (S.1 o 4)) fun S_1 =>
    bd (f_X5_set o (S_1.1 o 4) p2 S_1) fun S_2 =>
    lt (setI S_2 o 4 ((S_2.1 o 4) + (1 : Int32))) fun S_3 =>
    some ((1 : Int32), S_3)
   )
  )
def f_X5_takeLimit (o : Nat) (p1 : Int32) (S : Sg) : Option (Int32 × Sg) :=
  if (f_X6_isWithin p1 (11 : Int32)) = 0 then (
   some ((0 : Int32), S)
  ) else (
   lt (setI S o 6 p1) fun S_1 =>
   some ((1 : Int32), S_1)
  )
def L_X4_firstIn_2 (a0 : Nat) (n0 : Nat) (S : Sg) : Nat → Int32 → Option (Int32 ⊕ (Unit))
  | 0, _ => none
  | n + 1, v1 =>
  if v1 < (10 : Int32) then (
   gd (inb v1 n0) <|
   if (S.2 a0 (ix v1)) = (0 : Int64) then (
    lt (v1 + (1 : Int32)) fun v1_1 =>
    L_X4_firstIn_2 a0 n0 S n v1_1
   ) else (
    some (.inl v1)
   )
  ) else (
   some (.inr ())
  )
def f_X4_firstIn (a0 : Nat) (n0 : Nat) (S : Sg) : Option Int32 :=
  bs (L_X4_firstIn_2 a0 n0 S 400 (0 : Int32)) (fun q => some q) (fun _ => (
   some (-9 : Int32)
  ))
def L_X4_join_52 (o : Nat) (a1 : Nat) (n1 : Nat) (v2 : Int32) (v3 : Int64) (v5 : Int32) (v6 : Int64) : Nat → Int32 → Sg → Option (Sg)
  | 0, _, _ => none
  | n + 1, v8, S =>
  if v8 < (10 : Int32) then (
   gd (inb v5 10) <|
   gd (inb v8 10) <|
   gd (inb v8 n1) <|
   gd (nzJ (S.2 o 1)) <|
   lt (setJ S ((o + 2) + ix v5) (ix v8) ((((S.2 ((o + 2) + ix v5) (ix v8)) * v3) - (v6 * (S.2 a1 (ix v8)))) / (S.2 o 1))) fun S_1 =>
   lt (v8 + (1 : Int32)) fun v8_1 =>
   L_X4_join_52 o a1 n1 v2 v3 v5 v6 n v8_1 S_1
  ) else (
   some S
  )
def L_X4_join_31 (o : Nat) (a1 : Nat) (n1 : Nat) (v2 : Int32) (v3 : Int64) : Nat → Int32 → Sg → Option (Sg)
  | 0, _, _ => none
  | n + 1, v5, S =>
  if v5 < (10 : Int32) then (
   gd (inb v5 10) <|
   gd (inb v2 10) <|
   lt ((S.2 ((o + 2) + ix v5) (ix v2))) fun v6_1 =>
   bd (L_X4_join_52 o a1 n1 v2 v3 v5 v6_1 400 (0 : Int32) S) (fun S_1 => (
    lt (v5 + (1 : Int32)) fun v5_1 =>
    L_X4_join_31 o a1 n1 v2 v3 n v5_1 S_1
   ))
  ) else (
   some S
  )
def f_X4_join (o : Nat) (a1 : Nat) (n1 : Nat) (S : Sg) : Option Sg :=
  bd (f_X4_firstIn a1 n1 S) fun r_1 =>
  if (f_X6_isWithin r_1 (10 : Int32)) = 0 then (
   some S
  ) else (
   if (S.2 o 1) = (0 : Int64) then (
    some S
   ) else (
    gd (inb r_1 n1) <|
    lt ((S.2 a1 (ix r_1))) fun v3_1 =>
    bd (L_X4_join_31 o a1 n1 r_1 v3_1 400 (0 : Int32) S) (fun S_1 => (
     lt (setJ S_1 o 1 v3_1) fun S_2 =>
     lt (setI S_2 o 2 ((S_2.1 o 2) ||| (isl (1 : Int32) r_1))) fun S_3 =>
     some S_3
    ))
   )
  )
def L_X4_leave_2 (o : Nat) (a1 : Nat) (n1 : Nat) (a2 : Nat) (n2 : Nat) : Nat → Int32 → Sg → Option (Sg)
  | 0, _, _ => none
  | n + 1, v3, S =>
  if v3 < (10 : Int32) then (
   gd (inb v3 n2) <|
   lt (setJ S a2 (ix v3) (0 : Int64)) fun S_1 =>
   lt (v3 + (1 : Int32)) fun v3_1 =>
   L_X4_leave_2 o a1 n1 a2 n2 n v3_1 S_1
  ) else (
   some S
  )
def L_X4_leave_42 (o : Nat) (a1 : Nat) (n1 : Nat) (a2 : Nat) (n2 : Nat) (v3 : Int32) (v4 : Int32) : Nat → Int32 → Sg → Option (Sg)
  | 0, _, _ => none
  | n + 1, v5, S =>
  if v5 < (10 : Int32) then (
   gd (inb v5 n2) <|
   gd (inb v3 10) <|
   gd (inb v5 10) <|
   lt (setJ S a2 (ix v5) ((S.2 a2 (ix v5)) + (v4.toInt64 * (S.2 ((o + 2) + ix v3) (ix v5))))) fun S_1 =>
   lt (v5 + (1 : Int32)) fun v5_1 =>
   L_X4_leave_42 o a1 n1 a2 n2 v3 v4 n v5_1 S_1
  ) else (
   some S
  )
def L_X4_leave_20 (o : Nat) (a1 : Nat) (n1 : Nat) (a2 : Nat) (n2 : Nat) : Nat → Int32 → Sg → Option (Sg)
  | 0, _, _ => none
  | n + 1, v3, S =>
  if v3 < (10 : Int32) then (
   gd (inb v3 n1) <|
   lt ((S.1 a1 (ix v3))) fun v4_1 =>
   if v4_1 = 0 then (
    lt (v3 + (1 : Int32)) fun v3_2 =>
    L_X4_leave_20 o a1 n1 a2 n2 n v3_2 S
   ) else (
    bd (L_X4_leave_42 o a1 n1 a2 n2 v3 v4_1 400 (0 : Int32) S) (fun S_1 => (
     lt (v3 + (1 : Int32)) fun v3_1 =>
     L_X4_leave_20 o a1 n1 a2 n2 n v3_1 S_1
    ))
   )
  ) else (
   some S
  )
def f_X4_leave (o : Nat) (a1 : Nat) (n1 : Nat) (a2 : Nat) (n2 : Nat) (S : Sg) : Option Sg :=
  bd (L_X4_leave_2 o a1 n1 a2 n2 400 (0 : Int32) S) (fun S_1 => (
   bd (L_X4_leave_20 o a1 n1 a2 n2 400 (0 : Int32) S_1) (fun S_2 => (
    some S_2
   ))
  ))
def L_X5_findRest_2 (o : Nat) (o1 : Nat) : Nat → Int32 → Sg → Option (Sg)
  | 0, _, _ => none
  | n + 1, v2, S =>
  if v2 < (10 : Int32) then (
   gd (inb v2 10) <|
   lt (setI S (o + 41) (ix v2) (0 : Int32)) fun S_1 =>
   lt (v2 + (1 : Int32)) fun v2_1 =>
   L_X5_findRest_2 o o1 n v2_1 S_1
  ) else (
   some S
  )
def L_X5_findRest_23 (o : Nat) (o1 : Nat) : Nat → Int32 → Sg → Option (Sg)
  | 0, _, _ => none
  | n + 1, v2, S =>
  if v2 < (8 : Int32) then (
   gd (inb v2 8) <|
   lt ((S.1 (o + 1) (ix v2))) fun v3_1 =>
   if (f_X6_isWithin v3_1 (10 : Int32)) = 0 then (
    lt (v2 + (1 : Int32)) fun v2_1 =>
    L_X5_findRest_23 o o1 n v2_1 S
   ) else (
    gd (inb v3_1 10) <|
    lt (setI S (o + 41) (ix v3_1) (S.1 (o1 + 1) (ix v2))) fun S_1 =>
    lt (v2 + (1 : Int32)) fun v2_2 =>
    L_X5_findRest_23 o o1 n v2_2 S_1
   )
  ) else (
   some S
  )
def f_X5_findRest (o : Nat) (o1 : Nat) (S : Sg) : Option Sg :=
  bd (L_X5_findRest_2 o o1 400 (0 : Int32) S) (fun S_1 => (
   bd (L_X5_findRest_23 o o1 400 (0 : Int32) S_1) (fun S_2 => (
    bd (f_X4_leave (o + 17) (o + 41) 10 (o + 42) 10 S_2) fun S_3 =>
    some S_3
   ))
  ))
def L_X5_trueAnswer_4 (o : Nat) (o1 : Nat) (S : Sg) : Nat → Int32 → Int32 → Option (Int32)
  | 0, _, _ => none
  | n + 1, v2, v3 =>
  if v3 < (8 : Int32) then (
   gd (inb v3 8) <|
   lt ((S.1 (o + 1) (ix v3))) fun v4_1 =>
   if (f_X6_isWithin v4_1 (10 : Int32)) = 0 then (
    lt (v3 + (1 : Int32)) fun v3_1 =>
    L_X5_trueAnswer_4 o o1 S n v2 v3_1
   ) else (
    gd (inb v4_1 10) <|
    lt ((v2 + ((S.1 (o1 + 1) (ix v3)) * (S.1 (o + 2) (ix v4_1))))) fun v2_1 =>
    lt (v3 + (1 : Int32)) fun v3_2 =>
    L_X5_trueAnswer_4 o o1 S n v2_1 v3_2
   )
  ) else (
   some v2
  )
def f_X5_trueAnswer (o : Nat) (o1 : Nat) (S : Sg) : Option Int32 :=
  bd (L_X5_trueAnswer_4 o o1 S 400 (0 : Int32) (0 : Int32)) (fun v2_1 => (
   some v2_1
  ))
def f_X5_join (o : Nat) (o1 : Nat) (S : Sg) : Option Sg :=
  bd (f_X5_findRest o o1 S) fun S_1 =>
  bd (f_X4_firstIn (o + 42) 10 S_1) fun r_1 =>
  if r_1 < 0 then (
   some S_1
  ) else (
   if (f_X6_isWithin (S_1.1 o 9) (10 : Int32)) = 0 then (
    some S_1
   ) else (
    gd (inb (S_1.1 o 9) 10) <|
    lt (cpI S_1 (o + 41) (0 : Int32) ((o + 6) + ix (S_1.1 o 9)) (0 : Int32) (10 : Int32)) fun S_2 =>
    bd (f_X5_trueAnswer o o1 S_2) fun r_2 =>
    gd (inb (S_2.1 o 9) 10) <|
    lt (setI S_2 (o + 16) (ix (S_2.1 o 9)) r_2) fun S_3 =>
    lt (setI S_3 o 9 ((S_3.1 o 9) + (1 : Int32))) fun S_4 =>
    bd (f_X4_join (o + 17) (o + 42) 10 S_4) fun S_5 =>
    some S_5
   )
  )
def L_X4_copyFrom_2 (o : Nat) (o1 : Nat) : Nat → Int32 → Sg → Option (Sg)
  | 0, _, _ => none
  | n + 1, v2, S =>
  if v2 < (10 : Int32) then (
   gd (inb v2 10) <|
   lt (cpJ S ((o1 + 2) + ix v2) (0 : Int32) ((o + 2) + ix v2) (0 : Int32) (10 : Int32)) fun S_1 =>
   lt (v2 + (1 : Int32)) fun v2_1 =>
   L_X4_copyFrom_2 o o1 n v2_1 S_1
  ) else (
   some S
  )
def f_X4_copyFrom (o : Nat) (o1 : Nat) (S : Sg) : Option Sg :=
  bd (L_X4_copyFrom_2 o o1 400 (0 : Int32) S) (fun S_1 => (
   lt (setJ S_1 o 1 (S_1.2 o1 1)) fun S_2 =>
   lt (setI S_2 o 2 (S_2.1 o1 2)) fun S_3 =>
   some S_3
  ))
def L_X4_isOneLine_22 (a0 : Nat) (n0 : Nat) (a1 : Nat) (n1 : Nat) (v2 : Int32) (S : Sg) : Nat → Int32 → Option (Int32 ⊕ (Unit))
  | 0, _ => none
  | n + 1, v3 =>
  if v3 < (10 : Int32) then (
   gd (inb v3 n0) <|
   gd (inb v2 n1) <|
   gd (inb v3 n1) <|
   gd (inb v2 n0) <|
   if ((S.2 a0 (ix v3)) * (S.2 a1 (ix v2))) = ((S.2 a1 (ix v3)) * (S.2 a0 (ix v2))) then (
    lt (v3 + (1 : Int32)) fun v3_1 =>
    L_X4_isOneLine_22 a0 n0 a1 n1 v2 S n v3_1
   ) else (
    some (.inl (0 : Int32))
   )
  ) else (
   some (.inr ())
  )
def f_X4_isOneLine (a0 : Nat) (n0 : Nat) (a1 : Nat) (n1 : Nat) (p2 : Int32) (S : Sg) : Option Int32 :=
  if p2 < 0 then (
   some (0 : Int32)
  ) else (
   if p2 < (10 : Int32) then (
    gd (inb p2 n1) <|
    if (S.2 a1 (ix p2)) = (0 : Int64) then (
     some (0 : Int32)
    ) else (
     bs (L_X4_isOneLine_22 a0 n0 a1 n1 p2 S 400 (0 : Int32)) (fun q => some q) (fun _ => (
      some (1 : Int32)
     ))
    )
   ) else (
    some (0 : Int32)
   )
  )
def L_X4_fixedBitsWith_4 (o : Nat) (a1 : Nat) (n1 : Nat) (S : Sg) : Nat → Int32 → Int32 → Option (Int32)
  | 0, _, _ => none
  | n + 1, v2, v3 =>
  if v3 < (10 : Int32) then (
   gd (inb v3 10) <|
   bd (f_X4_firstIn ((o + 2) + ix v3) 10 S) fun r_1 =>
   if r_1 < 0 then (
    lt ((v2 ||| (isl (1 : Int32) v3))) fun v2_1 =>
    lt (v3 + (1 : Int32)) fun v3_1 =>
    L_X4_fixedBitsWith_4 o a1 n1 S n v2_1 v3_1
   ) else (
    bd (f_X4_isOneLine ((o + 2) + ix v3) 10 a1 n1 r_1 S) fun r_2 =>
    lt (if r_2 = 0 then v2 else (v2 ||| (isl (1 : Int32) v3))) fun v2_2 =>
    lt (v3 + (1 : Int32)) fun v3_2 =>
    L_X4_fixedBitsWith_4 o a1 n1 S n v2_2 v3_2
   )
  ) else (
   some v2
  )
def f_X4_fixedBitsWith (o : Nat) (a1 : Nat) (n1 : Nat) (S : Sg) : Option Int32 :=
  bd (L_X4_fixedBitsWith_4 o a1 n1 S 400 (0 : Int32) (0 : Int32)) (fun v2_1 => (
   some v2_1
  ))
def L_X4_hasPair_22 (o : Nat) (v1 : Int32) (v2 : Int32) (S : Sg) : Nat → Int32 → Option (Int32 ⊕ (Unit))
  | 0, _ => none
  | n + 1, v3 =>
  if v3 < (10 : Int32) then (
   gd (inb v1 10) <|
   gd (inb v3 10) <|
   bd (f_X4_isOneLine ((o + 2) + ix v1) 10 ((o + 2) + ix v3) 10 v2 S) fun r_1 =>
   if r_1 = 0 then (
    lt (v3 + (1 : Int32)) fun v3_1 =>
    L_X4_hasPair_22 o v1 v2 S n v3_1
   ) else (
    some (.inl (1 : Int32))
   )
  ) else (
   some (.inr ())
  )
def L_X4_hasPair_2 (o : Nat) (S : Sg) : Nat → Int32 → Option (Int32 ⊕ (Unit))
  | 0, _ => none
  | n + 1, v1 =>
  if v1 < (10 : Int32) then (
   gd (inb v1 10) <|
   bd (f_X4_firstIn ((o + 2) + ix v1) 10 S) fun r_1 =>
   lt ((v1 + (1 : Int32))) fun v3_1 =>
   bs (L_X4_hasPair_22 o v1 r_1 S 400 v3_1) (fun q => some (.inl q)) (fun _ => (
    lt (v1 + (1 : Int32)) fun v1_1 =>
    L_X4_hasPair_2 o S n v1_1
   ))
  ) else (
   some (.inr ())
  )
def f_X4_hasPair (o : Nat) (S : Sg) : Option Int32 :=
  bs (L_X4_hasPair_2 o S 400 (0 : Int32)) (fun q => some q) (fun _ => (
   some (0 : Int32)
  ))
def f_X5_meetingBy (o : Nat) (o1 : Nat) (p2 : Int32) (p3 : Int32) (S : Sg) : Option (Int32 × Sg) :=
  bd (f_X5_findRest o o1 S) fun S_1 =>
  bd (f_X4_firstIn (o + 42) 10 S_1) fun r_1 =>
  if r_1 < 0 then (
   some ((0 : Int32), S_1)
  ) else (
   bd (f_X4_fixedBitsWith (o + 17) (o + 42) 10 S_1) fun r_2 =>
   if r_2 = 0 then (
    lt (fun (v4_1 : Int32) (S_2 : Sg) => (
     lt (if v4_1 = 0 then (1 : Int32) else (2 : Int32)) fun x_1 =>
     some (x_1, S_2)
    )) fun J_1 =>
    if p2 = (1 : Int32) then (
     bd (f_X2_size o1 S_1) fun r_4 =>
     lt (if r_4 < (2 : Int32) then (1 : Int32) else (if (6 : Int32) < r_4 then (1 : Int32) else (0 : Int32))) fun x_3 =>
     J_1 x_3 S_1
    ) else (
     if p2 = (2 : Int32) then (
      bd (f_X4_copyFrom (o + 29) (o + 17) S_1) fun S_3 =>
      bd (f_X4_join (o + 29) (o + 42) 10 S_3) fun S_4 =>
      bd (f_X4_hasPair (o + 29) S_4) fun r_3 =>
      J_1 r_3 S_4
     ) else (
      if p2 = (3 : Int32) then (
       lt (if p3 < ((S_1.1 o 9) + (1 : Int32)) then (1 : Int32) else (0 : Int32)) fun x_2 =>
       J_1 x_2 S_1
      ) else (
       J_1 (0 : Int32) S_1
      )
     )
    )
   ) else (
    some ((2 : Int32), S_1)
   )
  )
def f_X5_takeQuestion (o : Nat) (o1 : Nat) (S : Sg) : Option (Int32 × Sg) :=
  bd (f_X5_meetingBy o o1 (S.1 o 5) (S.1 o 6) S) (u2 fun r_1 S_1 =>
   if r_1 = (1 : Int32) then (
    bd (f_X5_join o o1 S_1) fun S_2 =>
    some (r_1, S_2)
   ) else (
    some (r_1, S_1)
   )
  )
def f_X5_takeRule (o : Nat) (p1 : Int32) (S : Sg) : Option (Int32 × Sg) :=
  if (f_X6_isWithin p1 (4 : Int32)) = 0 then (
   some ((0 : Int32), S)
  ) else (
   lt (setI S o 5 p1) fun S_1 =>
   some ((1 : Int32), S_1)
  )
def L_X5_isFree_2 (o : Nat) (v1 : Int32) (S : Sg) : Nat → Int32 → Option (Int32 ⊕ (Unit))
  | 0, _ => none
  | n + 1, v2 =>
  if v2 < (S.1 o 9) then (
   bd (f_X5_coefficient o v2 v1 S) fun r_1 =>
   if r_1 = 0 then (
    lt (v2 + (1 : Int32)) fun v2_1 =>
    L_X5_isFree_2 o v1 S n v2_1
   ) else (
    some (.inl (0 : Int32))
   )
  ) else (
   some (.inr ())
  )
def f_X5_isFree (o : Nat) (p1 : Int32) (S : Sg) : Option Int32 :=
  bs (L_X5_isFree_2 o p1 S 400 (0 : Int32)) (fun q => some q) (fun _ => (
   some (1 : Int32)
  ))
def f_X5_variableOf (o : Nat) (p1 : Int32) (S : Sg) : Option Int32 :=
  if (f_X6_isWithin p1 (8 : Int32)) = 0 then (
   some (-9 : Int32)
  ) else (
   gd (inb p1 8) <|
   some (S.1 (o + 1) (ix p1))
  )
def f_X5_takeTold (o : Nat) (p1 : Int32) (p2 : Int32) (S : Sg) : Option (Int32 × Sg) :=
  bd (f_X5_variableOf o p1 S) fun r_1 =>
  if (f_X5_has o r_1 S) = 0 then (
   some ((0 : Int32), S)
  ) else (
   bd (f_X5_isFree o r_1 S) fun r_2 =>
   if r_2 = 0 then (
    some ((0 : Int32), S)
   ) else (
    bd (f_X5_set o r_1 p2 S) fun S_1 =>
    some ((1 : Int32), S_1)
   )
  )
def f_X3_performOne (o0 : Nat) (n0 : Nat) (p1 : Int32) (o2 : Nat) (o3 : Nat) (S : Sg) : Option (Int32 × Sg) :=
  bd (f_X1_at o0 n0 p1 S) fun r_1 =>
  if r_1 = (98 : Int32) then (
   bd (f_X3_pair o0 n0 (p1 + (1 : Int32)) S) fun r_2 =>
   bd (f_X3_pair o0 n0 (p1 + (3 : Int32)) S) fun r_3 =>
   bd (f_X3_pair o0 n0 (p1 + (5 : Int32)) S) fun r_4 =>
   bd (f_X5_takeBounds o2 r_2 r_3 r_4 S) (u2 fun r_5 S_1 =>
    some (r_5, S_1)
   )
  ) else (
  if r_1 = (99 : Int32) then (
   bd (f_X3_digit o0 n0 (p1 + (1 : Int32)) S) fun r_6 =>
   bd (f_X3_pair o0 n0 (p1 + (2 : Int32)) S) fun r_7 =>
   bd (f_X5_takeChange o2 r_6 r_7 S) (u2 fun r_8 S_2 =>
    some (r_8, S_2)
   )
  ) else (
  if r_1 = (108 : Int32) then (
   bd (f_X3_pair o0 n0 (p1 + (1 : Int32)) S) fun r_9 =>
   bd (f_X5_takeLimit o2 r_9 S) (u2 fun r_10 S_3 =>
    some (r_10, S_3)
   )
  ) else (
  if r_1 = (114 : Int32) then (
   bd (f_X3_digit o0 n0 (p1 + (1 : Int32)) S) fun r_11 =>
   bd (f_X5_takeRule o2 r_11 S) (u2 fun r_12 S_4 =>
    some (r_12, S_4)
   )
  ) else (
  if r_1 = (118 : Int32) then (
   bd (f_X3_digit o0 n0 (p1 + (1 : Int32)) S) fun r_13 =>
   bd (f_X3_pair o0 n0 (p1 + (2 : Int32)) S) fun r_14 =>
   bd (f_X5_takeTold o2 r_13 r_14 S) (u2 fun r_15 S_5 =>
    some (r_15, S_5)
   )
  ) else (
   bd (f_X3_readQuestion o0 n0 p1 o3 S) (u2 fun r_16 S_6 =>
    if r_16 = 0 then (
     some ((0 : Int32), S_6)
    ) else (
     bd (f_X5_takeQuestion o2 o3 S_6) (u2 fun r_17 S_7 =>
      lt (if r_17 = (2 : Int32) then (0 : Int32) else (1 : Int32)) fun x_1 =>
      some (x_1, S_7)
     )
    )
   )
  )))))
def L_X3_perform_24 (o0 : Nat) (n0 : Nat) (o1 : Nat) (o2 : Nat) : Nat → Int32 → Int32 → Int32 → Sg → Option ((Int32 × Sg) ⊕ (Int32 × Sg))
  | 0, _, _, _, _ => none
  | n + 1, v4, v5, v6, S =>
  if v6 < (96 : Int32) then (
   if v4 < (S.1 o0 0) then (
    bd (f_X3_performOne o0 n0 v4 o1 o2 S) (u2 fun r_1 S_1 =>
     if r_1 = 0 then (
      some (.inl (((-2000 : Int32) - v4), S_1))
     ) else (
      bd (f_X1_at o0 n0 v4 S_1) fun r_2 =>
      lt ((v4 + ((f_X3_digitsBehind r_2) + (2 : Int32)))) fun v4_1 =>
      lt (v5 + (1 : Int32)) fun v5_1 =>
      lt (v6 + (1 : Int32)) fun v6_1 =>
      L_X3_perform_24 o0 n0 o1 o2 n v4_1 v5_1 v6_1 S_1
     )
    )
   ) else (
    some (.inr (v5, S))
   )
  ) else (
   some (.inr (v5, S))
  )
def f_X3_perform (o0 : Nat) (n0 : Nat) (o1 : Nat) (o2 : Nat) (S : Sg) : Option (Int32 × Sg) :=
  bd (f_X3_firstMisfit o0 n0 S) fun r_1 =>
  if r_1 < 0 then (
   bs (L_X3_perform_24 o0 n0 o1 o2 400 (0 : Int32) (0 : Int32) (0 : Int32) S) (fun q => some q) (u2 fun v5_1 S_1 => (
    some (v5_1, S_1)
   ))
  ) else (
   some (((-1000 : Int32) - r_1), S)
  )
def L_X4_pivotOf_4 (o : Nat) (v1 : Int32) (S : Sg) : Nat → Int32 → Int32 → Option (Int32 ⊕ (Unit))
  | 0, _, _ => none
  | n + 1, v2, v3 =>
  if v3 < (10 : Int32) then (
   if ((isr (S.1 o 2) v3) &&& (1 : Int32)) = (1 : Int32) then (
    if v2 = v1 then (
     some (.inl v3)
    ) else (
     lt (v2 + (1 : Int32)) fun v2_1 =>
     lt (v3 + (1 : Int32)) fun v3_2 =>
     L_X4_pivotOf_4 o v1 S n v2_1 v3_2
    )
   ) else (
    lt (v3 + (1 : Int32)) fun v3_1 =>
    L_X4_pivotOf_4 o v1 S n v2 v3_1
   )
  ) else (
   some (.inr ())
  )
def f_X4_pivotOf (o : Nat) (p1 : Int32) (S : Sg) : Option Int32 :=
  bs (L_X4_pivotOf_4 o p1 S 400 (0 : Int32) (0 : Int32)) (fun q => some q) (fun _ => (
   some (-9 : Int32)
  ))
def f_X6_asNumber (p0 : Int32) : Int32 :=
  lt (if p0 = 0 then (0 : Int32) else (1 : Int32)) fun x_1 =>
  x_1
def L_X6_greatestDivisor_9 : Nat → Int64 → Int64 → Int32 → Option (Int64)
  | 0, _, _, _ => none
  | n + 1, v4, v6, v8 =>
  if v8 < (200 : Int32) then (
   if v6 = (0 : Int64) then (
    some v4
   ) else (
    gd (nzJ v6) <|
    lt ((jrem v4 v6)) fun v9_1 =>
    lt (v8 + (1 : Int32)) fun v8_1 =>
    L_X6_greatestDivisor_9 n v6 v9_1 v8_1
   )
  ) else (
   some v4
  )
def f_X6_greatestDivisor (p0 : Int64) (p1 : Int64) : Option Int64 :=
  bd (L_X6_greatestDivisor_9 400 p0 p1 (0 : Int32)) (fun v4_1 => (
   some v4_1
  ))
def f_X6_partInLeastTerms (p0 : Int64) (p1 : Int64) (p2 : Int32) : Option Int64 :=
  bd (f_X6_greatestDivisor (f_J9_abs_067f4 p0) (f_J9_abs_067f4 p1)) fun r_1 =>
  lt (fun (_ : Unit) => (
   lt (if p2 = 0 then (0 : Int64) else (1 : Int64)) fun x_1 =>
   some x_1
  )) fun J_1 =>
  if p0 = (0 : Int64) then (
   J_1 ()
  ) else (
   if p1 = (0 : Int64) then (
    J_1 ()
   ) else (
    if r_1 = (0 : Int64) then (
     J_1 ()
    ) else (
     lt (if p1 < (0 : Int64) then (-r_1) else r_1) fun x_2 =>
     lt (if p2 = 0 then p0 else p1) fun x_3 =>
     gd (nzJ x_2) <|
     some (x_3 / x_2)
    )
   )
  )
def f_X4_reducedPart (o : Nat) (p1 : Int32) (p2 : Int32) (p3 : Int32) (S : Sg) : Option Int64 :=
  bd (f_X4_pivotOf o p1 S) fun r_1 =>
  if (f_X6_isWithin r_1 (10 : Int32)) = 0 then (
   some (0 : Int64)
  ) else (
   if (f_X6_isWithin p2 (10 : Int32)) = 0 then (
    some (0 : Int64)
   ) else (
    if ((isr (S.1 o 2) p2) &&& (1 : Int32)) = (1 : Int32) then (
     lt (if p2 = r_1 then (1 : Int32) else (0 : Int32)) fun x_1 =>
     bd (f_X6_partInLeastTerms ((f_X6_asNumber x_1).toInt64) (1 : Int64) p3) fun r_3 =>
     some r_3
    ) else (
     gd (inb r_1 10) <|
     gd (inb p2 10) <|
     bd (f_X6_partInLeastTerms (-(S.2 ((o + 2) + ix r_1) (ix p2))) (S.2 o 1) p3) fun r_2 =>
     some r_2
    )
   )
  )
def f_X5_valueOf (o : Nat) (p1 : Int32) (S : Sg) : Option Int32 :=
  if (f_X5_has o p1 S) = 0 then (
   some (0 : Int32)
  ) else (
   gd (inb p1 10) <|
   some (S.1 (o + 2) (ix p1))
  )
def L_X5_answerByTold_5 (o : Nat) (o2 : Nat) (n2 : Nat) (v1 : Int32) (S : Sg) : Nat → Int32 → Int32 → Option (Int32)
  | 0, _, _ => none
  | n + 1, v3, v4 =>
  if v4 < (S.1 o 4) then (
   lt (fun (x_1 : Int32) => (
    bd (f_X5_coefficient o v1 v4 S) fun r_1 =>
    lt ((v3 + (r_1 * x_1))) fun v3_1 =>
    lt (v4 + (1 : Int32)) fun v4_1 =>
    L_X5_answerByTold_5 o o2 n2 v1 S n v3_1 v4_1
   )) fun J_1 =>
   if v4 < (S.1 o2 0) then (
    bd (f_X1_at o2 n2 v4 S) fun r_3 =>
    J_1 r_3
   ) else (
    bd (f_X5_valueOf o v4 S) fun r_2 =>
    J_1 r_2
   )
  ) else (
   some v3
  )
def f_X5_answerByTold (o : Nat) (p1 : Int32) (o2 : Nat) (n2 : Nat) (S : Sg) : Option Int32 :=
  bd (L_X5_answerByTold_5 o o2 n2 p1 S 400 (0 : Int32) (0 : Int32)) (fun v3_1 => (
   some v3_1
  ))
def L_X5_copyFrom_77 (o : Nat) (o1 : Nat) : Nat → Int32 → Sg → Option (Sg)
  | 0, _, _ => none
  | n + 1, v2, S =>
  if v2 < (10 : Int32) then (
   gd (inb v2 10) <|
   lt (cpI S ((o1 + 6) + ix v2) (0 : Int32) ((o + 6) + ix v2) (0 : Int32) (10 : Int32)) fun S_1 =>
   lt (v2 + (1 : Int32)) fun v2_1 =>
   L_X5_copyFrom_77 o o1 n v2_1 S_1
  ) else (
   some S
  )
def f_X5_copyFrom (o : Nat) (o1 : Nat) (S : Sg) : Option Sg :=
  lt (cpI S (o1 + 1) (0 : Int32) (o + 1) (0 : Int32) (8 : Int32)) fun S_1 =>
  lt (cpI S_1 (o1 + 2) (0 : Int32) (o + 2) (0 : Int32) (10 : Int32)) fun S_2 =>
  lt (cpI S_2 (o1 + 3) (0 : Int32) (o + 3) (0 : Int32) (10 : Int32)) fun S_3 =>
  lt (cpI S_3 (o1 + 4) (0 : Int32) (o + 4) (0 : Int32) (10 : Int32)) fun S_4 =>
  lt (cpI S_4 (o1 + 16) (0 : Int32) (o + 16) (0 : Int32) (10 : Int32)) fun S_5 =>
  bd (L_X5_copyFrom_77 o o1 400 (0 : Int32) S_5) (fun S_6 => (
   lt (setI S_6 o 4 (S_6.1 o1 4)) fun S_7 =>
   lt (setI S_7 o 5 (S_7.1 o1 5)) fun S_8 =>
   lt (setI S_8 o 6 (S_8.1 o1 6)) fun S_9 =>
   lt (setI S_9 o 9 (S_9.1 o1 9)) fun S_10 =>
   bd (f_X4_copyFrom (o + 17) (o1 + 17) S_10) fun S_11 =>
   some S_11
  ))
def f_X5_fixedBitsWith (o : Nat) (o1 : Nat) (S : Sg) : Option (Int32 × Sg) :=
  bd (f_X5_findRest o o1 S) fun S_1 =>
  bd (f_X4_fixedBitsWith (o + 17) (o + 42) 10 S_1) fun r_1 =>
  some (r_1, S_1)
def L_X5_usedBits_4 (o : Nat) (S : Sg) : Nat → Int32 → Int32 → Option (Int32)
  | 0, _, _ => none
  | n + 1, v1, v2 =>
  if v2 < (10 : Int32) then (
   bd (f_X5_isFree o v2 S) fun r_1 =>
   lt (if r_1 = 0 then (v1 ||| (isl (1 : Int32) v2)) else v1) fun v1_1 =>
   lt (v2 + (1 : Int32)) fun v2_1 =>
   L_X5_usedBits_4 o S n v1_1 v2_1
  ) else (
   some v1
  )
def f_X5_usedBits (o : Nat) (S : Sg) : Option Int32 :=
  bd (L_X5_usedBits_4 o S 400 (0 : Int32) (0 : Int32)) (fun v1_1 => (
   some v1_1
  ))
def L_X5_valuesOfPeople_4 (o : Nat) (S : Sg) : Nat → Int32 → Int32 → Option (Int32)
  | 0, _, _ => none
  | n + 1, v1, v2 =>
  if v2 < (8 : Int32) then (
   gd (inb v2 8) <|
   bd (f_X5_valueOf o (S.1 (o + 1) (ix v2)) S) fun r_1 =>
   lt ((v1 + r_1)) fun v1_1 =>
   lt (v2 + (1 : Int32)) fun v2_1 =>
   L_X5_valuesOfPeople_4 o S n v1_1 v2_1
  ) else (
   some v1
  )
def f_X5_valuesOfPeople (o : Nat) (S : Sg) : Option Int32 :=
  bd (L_X5_valuesOfPeople_4 o S 400 (0 : Int32) (0 : Int32)) (fun v1_1 => (
   some v1_1
  ))
def f_X6_refuse (p1 : Int32) (S : Sg) : Option (Int32 × Sg) :=
  lt (((-1 : Int32) - p1)) fun v2_1 =>
  if (f_X6_isWithin v2_1 (6 : Int32)) = 0 then (
   some (p1, S)
  ) else (
   gd (inb v2_1 6) <|
   lt (setI S 139 (ix v2_1) ((S.1 139 (ix v2_1)) + (1 : Int32))) fun S_1 =>
   some (p1, S_1)
  )
def f_X6_answer (p1 : Int32) (S : Sg) : Option (Int64 × Sg) :=
  if (f_X6_isWithin p1 (S.1 1 9)) = 0 then (
   bd (f_X6_refuse (-1 : Int32) S) (u2 fun r_2 S_1 =>
    some (((4000000000000000000 : Int64) - r_2.toInt64), S_1)
   )
  ) else (
   bd (f_X5_answerOf 1 p1 S) fun r_1 =>
   some (r_1.toInt64, S)
  )
def f_X6_misfit (p0 : Int32) (p1 : Int32) (p2 : Int32) : Int32 :=
  lt (if p0 < p1 then (-4 : Int32) else (if p2 < p0 then (-6 : Int32) else (0 : Int32))) fun x_1 =>
  x_1
def f_X6_append (o1 : Nat) (n1 : Nat) (p2 : Int32) (S : Sg) : Option (Int32 × Sg) :=
  lt ((f_X6_misfit p2 (0 : Int32) (255 : Int32))) fun v3_1 =>
  if v3_1 = 0 then (
   bd (f_X1_add o1 n1 p2 S) (u2 fun r_1 S_1 =>
    if r_1 = 0 then (
     bd (f_X6_refuse (-6 : Int32) S_1) (u2 fun r_2 S_2 =>
      some (r_2, S_2)
     )
    ) else (
     some ((S_1.1 o1 0), S_1)
    )
   )
  ) else (
   bd (f_X6_refuse v3_1 S) (u2 fun r_3 S_3 =>
    some (r_3, S_3)
   )
  )
def f_X6_ask (p1 : Int32) (p2 : Int32) (p3 : Int32) (S : Sg) : Option (Int32 × Sg) :=
  lt ((f_X2_misfitOf p1 p2 p3)) fun v4_1 =>
  if v4_1 = 0 then (
   bd (f_X2_make 130 p1 p2 p3 S) fun S_1 =>
   bd (f_X5_takeQuestion 1 130 S_1) (u2 fun r_1 S_2 =>
    if r_1 = (2 : Int32) then (
     bd (f_X6_refuse (-5 : Int32) S_2) (u2 fun r_3 S_3 =>
      some (((1000000000 : Int32) - r_3), S_3)
     )
    ) else (
     bd (f_X5_trueAnswer 1 130 S_2) fun r_2 =>
     some (r_2, S_2)
    )
   )
  ) else (
   bd (f_X6_refuse v4_1 S) (u2 fun r_4 S_4 =>
    some (((1000000000 : Int32) - r_4), S_4)
   )
  )
def L_X6_attack_43 (v1 : Int32) (v2 : Int32) : Nat → Int32 → Int32 → Int32 → Sg → Option (Int32 × Int32 × Sg)
  | 0, _, _, _, _ => none
  | n + 1, v3, v4, v5, S =>
  if v5 < (1 : Int32) then (
   some (v3, v4, S)
  ) else (
   bd (f_X2_make 130 (0 : Int32) v5 (0 : Int32) S) fun S_1 =>
   bd (f_X5_fixedBitsWith 1 130 S_1) (u2 fun r_1 S_2 =>
    lt (if ((isr r_1 v1) &&& (1 : Int32)) = (1 : Int32) then v5 else v3) fun v3_1 =>
    lt (if ((isr r_1 v1) &&& (1 : Int32)) = (1 : Int32) then (v4 + (1 : Int32)) else v4) fun v4_1 =>
    lt (v5 + (-1 : Int32)) fun v5_1 =>
    L_X6_attack_43 v1 v2 n v3_1 v4_1 v5_1 S_2
   )
  )
def f_X6_attack (p1 : Int32) (p2 : Int32) (S : Sg) : Option (Int32 × Sg) :=
  if (f_X5_has 1 p1 S) = 0 then (
   bd (f_X6_refuse (-1 : Int32) S) (u2 fun r_2 S_3 =>
    some (r_2, S_3)
   )
  ) else (
   if (f_X6_isWithin p2 (2 : Int32)) = 0 then (
    bd (f_X6_refuse (-2 : Int32) S) (u2 fun r_1 S_2 =>
     some (r_1, S_2)
    )
   ) else (
    bd (L_X6_attack_43 p1 p2 400 (-9 : Int32) (0 : Int32) (255 : Int32) S) (u3 fun v3_1 v4_1 S_1 => (
     lt (if p2 = 0 then v3_1 else v4_1) fun x_1 =>
     some (x_1, S_1)
    ))
   )
  )
def f_X6_bounds (p1 : Int32) (p2 : Int32) (p3 : Int32) (S : Sg) : Option (Int32 × Sg) :=
  if (f_X5_has 1 p1 S) = 0 then (
   bd (f_X6_refuse (-1 : Int32) S) (u2 fun r_7 S_7 =>
    some (r_7, S_7)
   )
  ) else (
   if p2 < 0 then (
    bd (f_X6_refuse (-4 : Int32) S) (u2 fun r_1 S_1 =>
     some (r_1, S_1)
    )
   ) else (
    if p3 < 0 then (
     bd (f_X6_refuse (-4 : Int32) S) (u2 fun r_6 S_6 =>
      some (r_6, S_6)
     )
    ) else (
     if (99 : Int32) < p2 then (
      bd (f_X6_refuse (-6 : Int32) S) (u2 fun r_2 S_2 =>
       some (r_2, S_2)
      )
     ) else (
      if (99 : Int32) < p3 then (
       bd (f_X6_refuse (-6 : Int32) S) (u2 fun r_5 S_5 =>
        some (r_5, S_5)
       )
      ) else (
       bd (f_X5_takeBounds 1 p1 p2 p3 S) (u2 fun r_3 S_3 =>
        if r_3 = 0 then (
         bd (f_X6_refuse (-3 : Int32) S_3) (u2 fun r_4 S_4 =>
          some (r_4, S_4)
         )
        ) else (
         some ((1 : Int32), S_3)
        )
       )
      )
     )
    )
   )
  )
def f_X6_misfitOfValue (p0 : Int32) (p1 : Int32) : Int32 :=
  if (f_X6_isWithin p0 (8 : Int32)) = 0 then (
   (-1 : Int32)
  ) else (
   (f_X6_misfit p1 (0 : Int32) (99 : Int32))
  )
def f_X6_changes (p1 : Int32) (p2 : Int32) (S : Sg) : Option (Int32 × Sg) :=
  lt ((f_X6_misfitOfValue p1 p2)) fun v3_1 =>
  if v3_1 = 0 then (
   bd (f_X5_takeChange 1 p1 p2 S) (u2 fun r_1 S_1 =>
    if r_1 = 0 then (
     bd (f_X6_refuse (-6 : Int32) S_1) (u2 fun r_2 S_2 =>
      some (r_2, S_2)
     )
    ) else (
     bd (f_X5_variableOf 1 p1 S_1) fun r_3 =>
     some (r_3, S_1)
    )
   )
  ) else (
   bd (f_X6_refuse v3_1 S) (u2 fun r_4 S_3 =>
    some (r_4, S_3)
   )
  )
def f_X6_meetingOfSum (o1 : Nat) (p2 : Int32) (S : Sg) : Option (Int32 × Sg) :=
  bd (f_X2_make 130 (0 : Int32) p2 (0 : Int32) S) fun S_1 =>
  bd (f_X5_meetingBy o1 130 (S_1.1 o1 5) (S_1.1 o1 6) S_1) (u2 fun r_1 S_2 =>
   some (r_1, S_2)
  )
def L_X6_cheapest_24 (v1 : Int32) : Nat → Int32 → Int32 → Int32 → Sg → Option (Int32 × Int32 × Sg)
  | 0, _, _, _, _ => none
  | n + 1, v2, v3, v4, S =>
  if (255 : Int32) < v4 then (
   some (v2, v3, S)
  ) else (
   lt ((f_J6_bitCount_0f7a4 v4)) fun v5_1 =>
   if v5_1 < v3 then (
    bd (f_X6_meetingOfSum 1 v4 S) (u2 fun r_1 S_1 =>
     lt (if r_1 = (1 : Int32) then v4 else v2) fun v2_1 =>
     lt (if r_1 = (1 : Int32) then v5_1 else v3) fun v3_1 =>
     lt (v4 + (1 : Int32)) fun v4_2 =>
     L_X6_cheapest_24 v1 n v2_1 v3_1 v4_2 S_1
    )
   ) else (
    lt (v4 + (1 : Int32)) fun v4_1 =>
    L_X6_cheapest_24 v1 n v2 v3 v4_1 S
   )
  )
def f_X6_cheapest (p1 : Int32) (S : Sg) : Option (Int32 × Sg) :=
  if (f_X6_isWithin p1 (2 : Int32)) = 0 then (
   bd (f_X6_refuse (-2 : Int32) S) (u2 fun r_1 S_2 =>
    some (r_1, S_2)
   )
  ) else (
   bd (L_X6_cheapest_24 p1 400 (-9 : Int32) (9 : Int32) (1 : Int32) S) (u3 fun v2_1 v3_1 S_1 => (
    lt (if p1 = 0 then v2_1 else (if v2_1 = (-9 : Int32) then v2_1 else v3_1)) fun x_1 =>
    some (x_1, S_1)
   ))
  )
def f_X6_clear (S : Sg) : Option (Int32 × Sg) :=
  lt ((S.1 137 0)) fun v1_1 =>
  bd (f_X1_forget 137 32 S) fun S_1 =>
  some (v1_1, S_1)
def f_X6_count (p1 : Int32) (S : Sg) : Option Int32 :=
  if p1 = (0 : Int32) then (
   some (S.1 1 9)
  ) else (
  if p1 = (1 : Int32) then (
   some (S.1 1 4)
  ) else (
  if p1 = (2 : Int32) then (
   some (S.1 1 5)
  ) else (
  if p1 = (3 : Int32) then (
   some (S.1 1 6)
  ) else (
  if p1 = (4 : Int32) then (
   bd (f_X5_usedBits 1 S) fun r_1 =>
   some r_1
  ) else (
  if p1 = (5 : Int32) then (
   bd (f_X5_valuesOfPeople 1 S) fun r_2 =>
   some r_2
  ) else (
  if p1 = (6 : Int32) then (
   some (S.1 137 0)
  ) else (
  if p1 = (7 : Int32) then (
   some (S.1 135 0)
  ) else (
   if (f_X6_isWithin (p1 - (11 : Int32)) (6 : Int32)) = 0 then (
    some (-9 : Int32)
   ) else (
    gd (inb (p1 - (11 : Int32)) 6) <|
    some (S.1 139 (ix (p1 - (11 : Int32))))
   )
  ))))))))
def f_X6_gain (p0 : Int32) : Int32 :=
  lt (if p0 = (1 : Int32) then (3 : Int32) else (if p0 = 0 then (1 : Int32) else (-1 : Int32))) fun x_1 =>
  x_1
def f_X6_guard (S : Sg) : Option (Int32 × Sg) :=
  bd (f_X5_copyFrom 44 1 S) fun S_1 =>
  bd (f_X3_perform 135 96 44 130 S_1) (u2 fun r_1 S_2 =>
   bd (f_X1_forget 135 96 S_2) fun S_3 =>
   if r_1 < 0 then (
    some (r_1, S_3)
   ) else (
    bd (f_X5_copyFrom 1 44 S_3) fun S_4 =>
    some (r_1, S_4)
   )
  )
def L_X6_howMany_4 (v1 : Int32) : Nat → Int32 → Int32 → Sg → Option (Int32 × Sg)
  | 0, _, _, _ => none
  | n + 1, v2, v3, S =>
  if (255 : Int32) < v3 then (
   some (v2, S)
  ) else (
   bd (f_X6_meetingOfSum 1 v3 S) (u2 fun r_1 S_1 =>
    lt (if r_1 = v1 then (v2 + (1 : Int32)) else v2) fun v2_1 =>
    lt (v3 + (1 : Int32)) fun v3_1 =>
    L_X6_howMany_4 v1 n v2_1 v3_1 S_1
   )
  )
def f_X6_howMany (p1 : Int32) (S : Sg) : Option (Int32 × Sg) :=
  bd (L_X6_howMany_4 p1 400 (0 : Int32) (1 : Int32) S) (u2 fun v2_1 S_1 => (
   some (v2_1, S_1)
  ))
def f_X6_image (S : Sg) : Option (Int32 × Sg) :=
  bd (f_X5_copyFrom 87 1 S) fun S_1 =>
  lt (setI S_1 0 3 (1 : Int32)) fun S_2 =>
  some ((S_2.1 1 9), S_2)
def L_X6_isMetBy_2 (v1 : Int32) (v2 : Int32) : Nat → Int32 → Sg → Option ((Int32 × Sg) ⊕ (Sg))
  | 0, _, _ => none
  | n + 1, v3, S =>
  if v3 < (S.1 137 0) then (
   bd (f_X1_at 137 32 v3 S) fun r_1 =>
   bd (f_X2_make 130 (0 : Int32) r_1 (0 : Int32) S) fun S_1 =>
   bd (f_X5_meetingBy 1 130 v1 v2 S_1) (u2 fun r_2 S_2 =>
    bd (f_X1_at 137 32 (v3 + (1 : Int32)) S_2) fun r_3 =>
    if r_2 = r_3 then (
     lt (v3 + (2 : Int32)) fun v3_1 =>
     L_X6_isMetBy_2 v1 v2 n v3_1 S_2
    ) else (
     some (.inl ((0 : Int32), S_2))
    )
   )
  ) else (
   some (.inr S)
  )
def f_X6_isMetBy (p1 : Int32) (p2 : Int32) (S : Sg) : Option (Int32 × Sg) :=
  bs (L_X6_isMetBy_2 p1 p2 400 (0 : Int32) S) (fun q => some q) (fun S_1 => (
   some ((1 : Int32), S_1)
  ))
def L_X6_isRowOfPairs_2 (S : Sg) : Nat → Int32 → Option (Int32 ⊕ (Unit))
  | 0, _ => none
  | n + 1, v1 =>
  if v1 < (S.1 137 0) then (
   bd (f_X1_at 137 32 v1 S) fun r_1 =>
   if r_1 = 0 then (
    some (.inl (0 : Int32))
   ) else (
    lt (v1 + (2 : Int32)) fun v1_1 =>
    L_X6_isRowOfPairs_2 S n v1_1
   )
  ) else (
   some (.inr ())
  )
def f_X6_isRowOfPairs (S : Sg) : Option Int32 :=
  bs (L_X6_isRowOfPairs_2 S 400 (0 : Int32)) (fun q => some q) (fun _ => (
   lt (if (irem (S.1 137 0) (2 : Int32)) = 0 then (1 : Int32) else (0 : Int32)) fun x_1 =>
   some x_1
  ))
def f_X6_takeSum (o1 : Nat) (p2 : Int32) (S : Sg) : Option (Int32 × Sg) :=
  bd (f_X2_make 130 (0 : Int32) p2 (0 : Int32) S) fun S_1 =>
  bd (f_X5_takeQuestion o1 130 S_1) (u2 fun r_1 S_2 =>
   some (r_1, S_2)
  )
def f_X6_joinedInTurn (p1 : Int32) (p2 : Int32) (p3 : Int32) (S : Sg) : Option (Int32 × Sg) :=
  bd (f_X5_copyFrom 44 1 S) fun S_1 =>
  bd (f_X6_takeSum 44 p1 S_1) (u2 fun r_1 S_2 =>
   lt (if r_1 = (1 : Int32) then (1 : Int32) else (0 : Int32)) fun x_1 =>
   bd (f_X6_takeSum 44 p2 S_2) (u2 fun r_2 S_3 =>
    lt (if r_2 = (1 : Int32) then (1 : Int32) else (0 : Int32)) fun x_2 =>
    bd (f_X6_takeSum 44 p3 S_3) (u2 fun r_3 S_4 =>
     lt (if r_3 = (1 : Int32) then (1 : Int32) else (0 : Int32)) fun x_3 =>
     some ((((f_X6_asNumber x_1) + (f_X6_asNumber x_2)) + (f_X6_asNumber x_3)), S_4)
    )
   )
  )
def L_X6_judge_13 (S : Sg) : Nat → Int32 → Int32 → Option (Int32)
  | 0, _, _ => none
  | n + 1, v1, v2 =>
  if v2 < 0 then (
   some v1
  ) else (
   bd (f_X5_answerByTold 1 v2 137 32 S) fun r_1 =>
   bd (f_X5_answerOf 1 v2 S) fun r_2 =>
   lt (if r_1 = r_2 then v1 else v2) fun v1_1 =>
   lt (v2 + (-1 : Int32)) fun v2_1 =>
   L_X6_judge_13 S n v1_1 v2_1
  )
def f_X6_judge (S : Sg) : Option (Int32 × Sg) :=
  lt (((S.1 1 9) - (1 : Int32))) fun v2_1 =>
  bd (L_X6_judge_13 S 400 (-9 : Int32) v2_1) (fun v1_1 => (
   bd (f_X1_forget 137 32 S) fun S_1 =>
   some (v1_1, S_1)
  ))
def f_X6_known (S : Sg) : Option (Int32 × Sg) :=
  bd (f_X0_narrow 132 1 S) fun S_1 =>
  bd (f_X0_knownBits 132 S_1) fun r_1 =>
  some (r_1, S_1)
def f_X6_learns (p1 : Int32) (p2 : Int32) (p3 : Int32) (p4 : Int32) (S : Sg) : Option (Int32 × Sg) :=
  lt ((f_X2_misfitOf p1 p2 p3)) fun v5_1 =>
  if v5_1 = 0 then (
   if (f_X6_isWithin p4 (3 : Int32)) = 0 then (
    bd (f_X6_refuse (-2 : Int32) S) (u2 fun r_4 S_5 =>
     some (r_4, S_5)
    )
   ) else (
    bd (f_X5_copyFrom 44 1 S) fun S_1 =>
    bd (f_X2_make 130 p1 p2 p3 S_1) fun S_2 =>
    bd (f_X5_join 44 130 S_2) fun S_3 =>
    bd (f_X0_narrow 132 44 S_3) fun S_4 =>
    bd (f_X0_narrowest 132 S_4) fun r_1 =>
    if p4 = 0 then (
     bd (f_X0_widthOf 132 r_1 S_4) fun r_3 =>
     some (r_3, S_4)
    ) else (
     if p4 = (1 : Int32) then (
      some (r_1, S_4)
     ) else (
      bd (f_X0_knownBits 132 S_4) fun r_2 =>
      some ((f_J6_bitCount_0f7a4 r_2), S_4)
     )
    )
   )
  ) else (
   bd (f_X6_refuse v5_1 S) (u2 fun r_5 S_6 =>
    some (r_5, S_6)
   )
  )
def L_X6_leastJoining_2 : Nat → Int32 → Sg → Option ((Int32 × Sg) ⊕ (Sg))
  | 0, _, _ => none
  | n + 1, v1, S =>
  if (255 : Int32) < v1 then (
   some (.inr S)
  ) else (
   bd (f_X6_meetingOfSum 1 v1 S) (u2 fun r_1 S_1 =>
    if r_1 = (1 : Int32) then (
     some (.inl (v1, S_1))
    ) else (
     lt (v1 + (1 : Int32)) fun v1_1 =>
     L_X6_leastJoining_2 n v1_1 S_1
    )
   )
  )
def f_X6_leastJoining (S : Sg) : Option (Int32 × Sg) :=
  bs (L_X6_leastJoining_2 400 (1 : Int32) S) (fun q => some q) (fun S_1 => (
   some ((-9 : Int32), S_1)
  ))
def f_X6_ledger (p1 : Int32) (p2 : Int32) (S : Sg) : Option (Int32 × Sg) :=
  if (f_X6_isWithin p1 (S.1 1 9)) = 0 then (
   bd (f_X6_refuse (-1 : Int32) S) (u2 fun r_1 S_1 =>
    some (r_1, S_1)
   )
  ) else (
   if (f_X5_has 1 p2 S) = 0 then (
    bd (f_X6_refuse (-1 : Int32) S) (u2 fun r_3 S_2 =>
     some (r_3, S_2)
    )
   ) else (
    bd (f_X5_coefficient 1 p1 p2 S) fun r_2 =>
    some (((100 : Int32) + r_2), S)
   )
  )
def f_X6_letter (p1 : Int32) (S : Sg) : Option (Int32 × Sg) :=
  bd (f_X6_append 135 96 p1 S) (u2 fun r_1 S_1 =>
   some (r_1, S_1)
  )
def f_X6_limit (p1 : Int32) (S : Sg) : Option (Int32 × Sg) :=
  lt ((f_X6_misfit p1 (0 : Int32) (10 : Int32))) fun v2_1 =>
  if v2_1 = 0 then (
   lt ((S.1 1 6)) fun v3_1 =>
   bd (f_X5_takeLimit 1 p1 S) (u2 fun r_1 S_1 =>
    some (v3_1, S_1)
   )
  ) else (
   bd (f_X6_refuse v2_1 S) (u2 fun r_2 S_2 =>
    some (r_2, S_2)
   )
  )
def L_X6_lots_76 (v1 : Int32) (v5 : Int32) (v8 : Int32) : Nat → Int32 → Int32 → Int32 → Sg → Option (Int32 × Int32 × Sg)
  | 0, _, _, _, _ => none
  | n + 1, v6, v7, v9, S =>
  if v9 < (8 : Int32) then (
   lt (((v6 * (1664525 : Int32)) + (1013904223 : Int32))) fun v6_1 =>
   lt ((irem ((v6_1 &&& (2147483647 : Int32)) / (256 : Int32)) (255 : Int32))) fun v10_1 =>
   bd (f_X6_takeSum 44 ((1 : Int32) + v10_1) S) (u2 fun r_1 S_1 =>
    lt (if r_1 = v5 then (v7 + (1 : Int32)) else v7) fun v7_1 =>
    lt (v9 + (1 : Int32)) fun v9_1 =>
    L_X6_lots_76 v1 v5 v8 n v6_1 v7_1 v9_1 S_1
   )
  ) else (
   some (v6, v7, S)
  )
def L_X6_lots_56 (v1 : Int32) (v5 : Int32) : Nat → Int32 → Int32 → Int32 → Sg → Option (Int32 × Sg)
  | 0, _, _, _, _ => none
  | n + 1, v6, v7, v8, S =>
  if v8 < v1 then (
   bd (f_X5_copyFrom 44 1 S) fun S_1 =>
   bd (L_X6_lots_76 v1 v5 v8 400 v6 v7 (0 : Int32) S_1) (u3 fun v6_1 v7_1 S_2 => (
    lt (v8 + (1 : Int32)) fun v8_1 =>
    L_X6_lots_56 v1 v5 n v6_1 v7_1 v8_1 S_2
   ))
  ) else (
   some (v7, S)
  )
def f_X6_lots (p1 : Int32) (p2 : Int32) (p3 : Int32) (S : Sg) : Option (Int32 × Sg) :=
  lt ((f_X6_misfit p1 (1 : Int32) (20 : Int32))) fun v4_1 =>
  if v4_1 = 0 then (
   if (f_X6_isWithin p3 (2 : Int32)) = 0 then (
    bd (f_X6_refuse (-2 : Int32) S) (u2 fun r_1 S_2 =>
     some (r_1, S_2)
    )
   ) else (
    lt (if p3 = 0 then (1 : Int32) else (2 : Int32)) fun x_1 =>
    bd (L_X6_lots_56 p1 x_1 400 p2 (0 : Int32) (0 : Int32) S) (u2 fun v7_1 S_1 => (
     some (v7_1, S_1)
    ))
   )
  ) else (
   bd (f_X6_refuse v4_1 S) (u2 fun r_2 S_3 =>
    some (r_2, S_3)
   )
  )
def f_X6_mean (p1 : Int32) (S : Sg) : Option (Int64 × Sg) :=
  if (f_X6_isWithin p1 (2 : Int32)) = 0 then (
   bd (f_X6_refuse (-2 : Int32) S) (u2 fun r_3 S_2 =>
    some (((4000000000000000000 : Int64) - r_3.toInt64), S_2)
   )
  ) else (
   bd (f_X0_narrow 132 1 S) fun S_1 =>
   bd (f_X0_widths 132 S_1) fun r_1 =>
   bd (f_X6_partInLeastTerms r_1.toInt64 ((S_1.1 1 4).toInt64) p1) fun r_2 =>
   some (r_2, S_1)
  )
def f_X6_misfitOfAll (p0 : Int32) (p1 : Int32) : Int32 :=
  lt (if p0 < (1 : Int32) then (-4 : Int32) else (if (255 : Int32) < p1 then (-6 : Int32) else (0 : Int32))) fun x_1 =>
  x_1
def f_X6_narrowed (p1 : Int32) (p2 : Int32) (S : Sg) : Option (Int32 × Sg) :=
  bd (f_X0_narrow 132 1 S) fun S_1 =>
  if p2 = (3 : Int32) then (
   bd (f_X0_leastOf 132 p1 S_1) fun r_3 =>
   some (r_3, S_1)
  ) else (
   if p2 = (4 : Int32) then (
    bd (f_X0_mostOf 132 p1 S_1) fun r_2 =>
    some (r_2, S_1)
   ) else (
    bd (f_X0_widthOf 132 p1 S_1) fun r_1 =>
    some (r_1, S_1)
   )
  )
def f_X6_on (S : Sg) : Option (Int32 × Sg) :=
  if (S.1 0 3) = 0 then (
   bd (f_X6_refuse (-3 : Int32) S) (u2 fun r_1 S_2 =>
    some (r_1, S_2)
   )
  ) else (
   bd (f_X5_copyFrom 1 87 S) fun S_1 =>
   some ((S_1.1 1 9), S_1)
  )
def f_X6_pick (p0 : Int32) (p1 : Int32) (p2 : Int32) (p3 : Int32) : Int32 :=
  lt (if p0 = 0 then p1 else (if p0 = (1 : Int32) then p2 else p3)) fun x_1 =>
  x_1
def L_X6_order_69 (v1 : Int32) (v2 : Int32) (v3 : Int32) (v4 : Int32) (v8 : Int32) : Nat → Int32 → Int32 → Int32 → Sg → Option (Int32 × Int32 × Sg)
  | 0, _, _, _, _ => none
  | n + 1, v6, v7, v9, S =>
  if v9 < (3 : Int32) then (
   if v9 = v8 then (
    lt (v9 + (1 : Int32)) fun v9_2 =>
    L_X6_order_69 v1 v2 v3 v4 v8 n v6 v7 v9_2 S
   ) else (
    lt ((((3 : Int32) - v8) - v9)) fun v10_1 =>
    bd (f_X6_joinedInTurn (f_X6_pick v8 v1 v2 v3) (f_X6_pick v9 v1 v2 v3) (f_X6_pick v10_1 v1 v2 v3) S) (u2 fun r_1 S_1 =>
     lt (if v7 < r_1 then ((((100 : Int32) * v8) + ((10 : Int32) * v9)) + v10_1) else v6) fun v6_1 =>
     lt (if v7 < r_1 then r_1 else v7) fun v7_1 =>
     lt (v9 + (1 : Int32)) fun v9_1 =>
     L_X6_order_69 v1 v2 v3 v4 v8 n v6_1 v7_1 v9_1 S_1
    )
   )
  ) else (
   some (v6, v7, S)
  )
def L_X6_order_60 (v1 : Int32) (v2 : Int32) (v3 : Int32) (v4 : Int32) : Nat → Int32 → Int32 → Int32 → Sg → Option (Int32 × Int32 × Sg)
  | 0, _, _, _, _ => none
  | n + 1, v6, v7, v8, S =>
  if v8 < (3 : Int32) then (
   bd (L_X6_order_69 v1 v2 v3 v4 v8 400 v6 v7 (0 : Int32) S) (u3 fun v6_1 v7_1 S_1 => (
    lt (v8 + (1 : Int32)) fun v8_1 =>
    L_X6_order_60 v1 v2 v3 v4 n v6_1 v7_1 v8_1 S_1
   ))
  ) else (
   some (v6, v7, S)
  )
def f_X6_order (p1 : Int32) (p2 : Int32) (p3 : Int32) (p4 : Int32) (S : Sg) : Option (Int32 × Sg) :=
  lt ((f_X6_misfitOfAll (f_J9_min_7cf53 p1 (f_J9_min_7cf53 p2 p3)) (f_J9_max_7cf53 p1 (f_J9_max_7cf53 p2 p3)))) fun v5_1 =>
  if v5_1 = 0 then (
   if (f_X6_isWithin p4 (2 : Int32)) = 0 then (
    bd (f_X6_refuse (-2 : Int32) S) (u2 fun r_1 S_2 =>
     some (r_1, S_2)
    )
   ) else (
    bd (L_X6_order_60 p1 p2 p3 p4 400 (0 : Int32) (-1 : Int32) (0 : Int32) S) (u3 fun v6_1 v7_1 S_1 => (
     lt (if p4 = 0 then v6_1 else v7_1) fun x_1 =>
     some (x_1, S_1)
    ))
   )
  ) else (
   bd (f_X6_refuse v5_1 S) (u2 fun r_2 S_3 =>
    some (r_2, S_3)
   )
  )
def f_X6_person (p1 : Int32) (p2 : Int32) (S : Sg) : Option (Int32 × Sg) :=
  if (f_X6_isWithin p1 (8 : Int32)) = 0 then (
   bd (f_X6_refuse (-1 : Int32) S) (u2 fun r_5 S_2 =>
    some (r_5, S_2)
   )
  ) else (
   if (f_X6_isWithin p2 (3 : Int32)) = 0 then (
    bd (f_X6_refuse (-2 : Int32) S) (u2 fun r_4 S_1 =>
     some (r_4, S_1)
    )
   ) else (
    bd (f_X5_variableOf 1 p1 S) fun r_1 =>
    if p2 = 0 then (
     bd (f_X5_valueOf 1 r_1 S) fun r_3 =>
     some (r_3, S)
    ) else (
     if p2 = (1 : Int32) then (
      some (r_1, S)
     ) else (
      bd (f_X5_isFree 1 r_1 S) fun r_2 =>
      some ((f_X6_asNumber r_2), S)
     )
    )
   )
  )
def f_X6_pivots (S : Sg) : Int32 :=
  (S.1 (1 + 17) 2)
def f_X6_reduced (p1 : Int32) (p2 : Int32) (p3 : Int32) (S : Sg) : Option (Int64 × Sg) :=
  if (f_X6_isWithin p1 (S.1 1 9)) = 0 then (
   bd (f_X6_refuse (-1 : Int32) S) (u2 fun r_1 S_1 =>
    some (((4000000000000000000 : Int64) - r_1.toInt64), S_1)
   )
  ) else (
   if (f_X5_has 1 p2 S) = 0 then (
    bd (f_X6_refuse (-1 : Int32) S) (u2 fun r_4 S_3 =>
     some (((4000000000000000000 : Int64) - r_4.toInt64), S_3)
    )
   ) else (
    if (f_X6_isWithin p3 (2 : Int32)) = 0 then (
     bd (f_X6_refuse (-2 : Int32) S) (u2 fun r_3 S_2 =>
      some (((4000000000000000000 : Int64) - r_3.toInt64), S_2)
     )
    ) else (
     bd (f_X4_reducedPart (1 + 17) p1 p2 p3 S) fun r_2 =>
     some (r_2, S)
    )
   )
  )
def f_X6_row (p1 : Int32) (S : Sg) : Option (Int32 × Sg) :=
  bd (f_X6_append 137 32 p1 S) (u2 fun r_1 S_1 =>
   some (r_1, S_1)
  )
def f_X6_rule (p1 : Int32) (S : Sg) : Option (Int32 × Sg) :=
  lt ((S.1 1 5)) fun v2_1 =>
  bd (f_X5_takeRule 1 p1 S) (u2 fun r_1 S_1 =>
   if r_1 = 0 then (
    bd (f_X6_refuse (-2 : Int32) S_1) (u2 fun r_2 S_2 =>
     some (r_2, S_2)
    )
   ) else (
    some (v2_1, S_1)
   )
  )
def f_X6_share (p1 : Int32) (S : Sg) : Option (Int64 × Sg) :=
  if (f_X6_isWithin p1 (2 : Int32)) = 0 then (
   bd (f_X6_refuse (-2 : Int32) S) (u2 fun r_3 S_2 =>
    some (((4000000000000000000 : Int64) - r_3.toInt64), S_2)
   )
  ) else (
   bd (f_X6_howMany (2 : Int32) S) (u2 fun r_1 S_1 =>
    bd (f_X6_partInLeastTerms (((255 : Int32) - r_1).toInt64) (255 : Int64) p1) fun r_2 =>
    some (r_2, S_1)
   )
  )
def f_X6_sums (p1 : Int32) (S : Sg) : Option (Int32 × Sg) :=
  if p1 = (0 : Int32) then (
   bd (f_X6_leastJoining S) (u2 fun r_1 S_1 =>
    some (r_1, S_1)
   )
  ) else (
  if p1 = (1 : Int32) then (
   bd (f_X6_howMany (1 : Int32) S) (u2 fun r_2 S_2 =>
    some (r_2, S_2)
   )
  ) else (
  if p1 = (2 : Int32) then (
   bd (f_X6_howMany (2 : Int32) S) (u2 fun r_3 S_3 =>
    some (r_3, S_3)
   )
  ) else (
  if p1 = (3 : Int32) then (
   bd (f_X6_howMany (0 : Int32) S) (u2 fun r_4 S_4 =>
    some (r_4, S_4)
   )
  ) else (
   bd (f_X6_refuse (-2 : Int32) S) (u2 fun r_5 S_5 =>
    some (r_5, S_5)
   )
  ))))
def f_X6_tells (p1 : Int32) (p2 : Int32) (S : Sg) : Option (Int32 × Sg) :=
  lt ((f_X6_misfitOfValue p1 p2)) fun v3_1 =>
  if v3_1 = 0 then (
   bd (f_X5_variableOf 1 p1 S) fun r_1 =>
   bd (f_X5_valueOf 1 r_1 S) fun r_2 =>
   bd (f_X5_takeTold 1 p1 p2 S) (u2 fun r_3 S_1 =>
    if r_3 = 0 then (
     bd (f_X6_refuse (-3 : Int32) S_1) (u2 fun r_4 S_2 =>
      some (r_4, S_2)
     )
    ) else (
     some (r_2, S_1)
    )
   )
  ) else (
   bd (f_X6_refuse v3_1 S) (u2 fun r_5 S_3 =>
    some (r_5, S_3)
   )
  )
def L_X6_two_135 (v4 : Int32) (v5 : Int32) (v6 : Int32) (v7 : Int32) (v8 : Int32) (v9 : Int32) (S : Sg) : Nat → Int32 → Option ((Int32 × Sg) ⊕ (Unit))
  | 0, _ => none
  | n + 1, v10 =>
  if v10 < (2 : Int32) then (
   lt (if v10 = (1 : Int32) then (if v9 < 0 then (0 : Int32) else (1 : Int32)) else (if 0 < v9 then (0 : Int32) else (1 : Int32))) fun x_1 =>
   if v8 = 0 then (
    lt (v10 + (1 : Int32)) fun v10_1 =>
    L_X6_two_135 v4 v5 v6 v7 v8 v9 S n v10_1
   ) else (
    if x_1 = 0 then (
     lt (v10 + (1 : Int32)) fun v10_2 =>
     L_X6_two_135 v4 v5 v6 v7 v8 v9 S n v10_2
    ) else (
     some (.inl ((((10 : Int32) * v7) + v10), S))
    )
   )
  ) else (
   some (.inr ())
  )
def L_X6_two_80 (v4 : Int32) (v5 : Int32) (v6 : Int32) (S : Sg) : Nat → Int32 → Option ((Int32 × Sg) ⊕ (Unit))
  | 0, _ => none
  | n + 1, v7 =>
  if v7 < (2 : Int32) then (
   lt (if v7 = (1 : Int32) then (if v5 < 0 then (0 : Int32) else (1 : Int32)) else (if 0 < v5 then (0 : Int32) else (1 : Int32))) fun x_1 =>
   lt (if v7 = (1 : Int32) then v6 else v4) fun x_2 =>
   bs (L_X6_two_135 v4 v5 v6 v7 x_1 x_2 S 400 (0 : Int32)) (fun q => some (.inl q)) (fun _ => (
    lt (v7 + (1 : Int32)) fun v7_1 =>
    L_X6_two_80 v4 v5 v6 S n v7_1
   ))
  ) else (
   some (.inr ())
  )
def f_X6_two (p1 : Int32) (p2 : Int32) (S : Sg) : Option (Int32 × Sg) :=
  lt ((f_X6_misfitOfAll (f_J9_min_7cf53 p1 p2) (f_J9_max_7cf53 p1 p2))) fun v3_1 =>
  if v3_1 = 0 then (
   bd (f_X6_meetingOfSum 1 p2 S) (u2 fun r_1 S_1 =>
    lt ((f_X6_gain r_1)) fun v4_1 =>
    bd (f_X5_copyFrom 44 1 S_1) fun S_2 =>
    bd (f_X6_takeSum 44 p1 S_2) (u2 fun r_2 S_3 =>
     lt ((f_X6_gain r_2)) fun v5_1 =>
     bd (f_X6_meetingOfSum 44 p2 S_3) (u2 fun r_3 S_4 =>
      lt ((f_X6_gain r_3)) fun v6_1 =>
      bs (L_X6_two_80 v4_1 v5_1 v6_1 S_4 400 (0 : Int32)) (fun q => some q) (fun _ => (
       some ((-9 : Int32), S_4)
      ))
     )
    )
   )
  ) else (
   bd (f_X6_refuse v3_1 S) (u2 fun r_4 S_5 =>
    some (r_4, S_5)
   )
  )
def f_X6_variable (p1 : Int32) (p2 : Int32) (S : Sg) : Option (Int32 × Sg) :=
  if (f_X5_has 1 p1 S) = 0 then (
   bd (f_X6_refuse (-1 : Int32) S) (u2 fun r_7 S_3 =>
    some (r_7, S_3)
   )
  ) else (
   if (f_X6_isWithin p2 (7 : Int32)) = 0 then (
    bd (f_X6_refuse (-2 : Int32) S) (u2 fun r_6 S_2 =>
     some (r_6, S_2)
    )
   ) else (
    if p2 = (0 : Int32) then (
     bd (f_X5_valueOf 1 p1 S) fun r_1 =>
     some (r_1, S)
    ) else (
    if p2 = (1 : Int32) then (
     bd (f_X5_lowOf 1 p1 S) fun r_2 =>
     some (r_2, S)
    ) else (
    if p2 = (2 : Int32) then (
     bd (f_X5_highOf 1 p1 S) fun r_3 =>
     some (r_3, S)
    ) else (
    if p2 = (6 : Int32) then (
     bd (f_X5_isFree 1 p1 S) fun r_4 =>
     some ((f_X6_asNumber r_4), S)
    ) else (
     bd (f_X6_narrowed p1 p2 S) (u2 fun r_5 S_1 =>
      some (r_5, S_1)
     )
    ))))
   )
  )
def L_X6_which_45 (v1 : Int32) (v3 : Int32) : Nat → Int32 → Int32 → Sg → Option (Int32 × Sg)
  | 0, _, _, _ => none
  | n + 1, v2, v4, S =>
  if v4 < v3 then (
   lt (fun (x_1 : Int32) (S_1 : Sg) => (
    lt (if x_1 = 0 then v2 else (v2 ||| (isl (1 : Int32) v4))) fun v2_1 =>
    lt (v4 + (1 : Int32)) fun v4_1 =>
    L_X6_which_45 v1 v3 n v2_1 v4_1 S_1
   )) fun J_1 =>
   if v1 = 0 then (
    bd (f_X6_isMetBy v4 (S.1 1 6) S) (u2 fun r_2 S_3 =>
     J_1 r_2 S_3
    )
   ) else (
    bd (f_X6_isMetBy (S.1 1 5) v4 S) (u2 fun r_1 S_2 =>
     J_1 r_1 S_2
    )
   )
  ) else (
   some (v2, S)
  )
def f_X6_which (p1 : Int32) (S : Sg) : Option (Int32 × Sg) :=
  if (f_X6_isWithin p1 (2 : Int32)) = 0 then (
   bd (f_X6_refuse (-2 : Int32) S) (u2 fun r_3 S_3 =>
    some (r_3, S_3)
   )
  ) else (
   bd (f_X6_isRowOfPairs S) fun r_1 =>
   if r_1 = 0 then (
    bd (f_X6_refuse (-3 : Int32) S) (u2 fun r_2 S_2 =>
     some (r_2, S_2)
    )
   ) else (
    lt (if p1 = 0 then (4 : Int32) else (11 : Int32)) fun x_1 =>
    bd (L_X6_which_45 p1 x_1 400 (0 : Int32) (0 : Int32) S) (u2 fun v2_1 S_1 => (
     some (v2_1, S_1)
    ))
   )
  )
def f_X6_would (p1 : Int32) (p2 : Int32) (p3 : Int32) (S : Sg) : Option (Int32 × Sg) :=
  lt ((f_X2_misfitOf p1 p2 p3)) fun v4_1 =>
  if v4_1 = 0 then (
   bd (f_X2_make 130 p1 p2 p3 S) fun S_1 =>
   bd (f_X5_meetingBy 1 130 (S_1.1 1 5) (S_1.1 1 6) S_1) (u2 fun r_1 S_2 =>
    some (r_1, S_2)
   )
  ) else (
   bd (f_X6_refuse v4_1 S) (u2 fun r_2 S_3 =>
    some (r_2, S_3)
   )
  )
def f_X7_below (p0 : Int32) (p1 : Int32) : Option Int32 :=
  if p0 < 0 then (
   gd (nz p1) <|
   some (-((((-p0) + p1) - (1 : Int32)) / p1))
  ) else (
   gd (nz p1) <|
   some (p0 / p1)
  )
def f_X7_above (p0 : Int32) (p1 : Int32) : Option Int32 :=
  bd (f_X7_below (-p0) p1) fun r_1 =>
  some (-r_1)
def f_X7_sizeOf (p0 : Int64) : Int64 :=
  lt (if p0 < (0 : Int64) then (-p0) else p0) fun x_1 =>
  x_1
def L_X7_divisor_12 : Nat → Int64 → Int64 → Option (Int64)
  | 0, _, _ => none
  | n + 1, v4, v6 =>
  if v6 = (0 : Int64) then (
   some v4
  ) else (
   gd (nzJ v6) <|
   lt ((jrem v4 v6)) fun v8_1 =>
   L_X7_divisor_12 n v6 v8_1
  )
def f_X7_divisor (p0 : Int64) (p1 : Int64) : Option Int64 :=
  lt ((f_X7_sizeOf p0)) fun v4_1 =>
  lt ((f_X7_sizeOf p1)) fun v6_1 =>
  bd (L_X7_divisor_12 400 v4_1 v6_1) (fun v4_2 => (
   some v4_2
  ))
def L_X7_makesLeast_5 (a0 : Nat) (n0 : Nat) (v1 : Int32) (S : Sg) : Nat → Int64 → Int32 → Option (Int64)
  | 0, _, _ => none
  | n + 1, v2, v4 =>
  if v4 < (10 : Int32) then (
   gd (inb (v1 + v4) n0) <|
   bd (f_X7_divisor v2 (S.2 a0 (ix (v1 + v4)))) fun r_1 =>
   lt (v4 + (1 : Int32)) fun v4_1 =>
   L_X7_makesLeast_5 a0 n0 v1 S n r_1 v4_1
  ) else (
   some v2
  )
def L_X7_makesLeast_32 (a0 : Nat) (n0 : Nat) (v1 : Int32) (v2 : Int64) : Nat → Int32 → Sg → Option (Sg)
  | 0, _, _ => none
  | n + 1, v4, S =>
  if v4 < (10 : Int32) then (
   if (1 : Int64) < v2 then (
    gd (inb (v1 + v4) n0) <|
    gd (nzJ v2) <|
    lt (setJ S a0 (ix (v1 + v4)) ((S.2 a0 (ix (v1 + v4))) / v2)) fun S_1 =>
    lt (v4 + (1 : Int32)) fun v4_1 =>
    L_X7_makesLeast_32 a0 n0 v1 v2 n v4_1 S_1
   ) else (
    some S
   )
  ) else (
   some S
  )
def f_X7_makesLeast (a0 : Nat) (n0 : Nat) (p1 : Int32) (S : Sg) : Option Sg :=
  bd (L_X7_makesLeast_5 a0 n0 p1 S 400 (0 : Int64) (0 : Int32)) (fun v2_1 => (
   bd (L_X7_makesLeast_32 a0 n0 p1 v2_1 400 (0 : Int32) S) (fun S_1 => (
    some S_1
   ))
  ))
def L_X7_clears_54 (a0 : Nat) (n0 : Nat) (a2 : Nat) (n2 : Nat) (v1 : Int32) (v3 : Int32) (v7 : Int64) (v9 : Int64) : Nat → Int32 → Sg → Option (Sg)
  | 0, _, _ => none
  | n + 1, v11, S =>
  if v11 < (10 : Int32) then (
   gd (inb (v1 + v11) n0) <|
   gd (inb (v3 + v11) n2) <|
   lt (setJ S a0 (ix (v1 + v11)) (((S.2 a0 (ix (v1 + v11))) * v7) - ((S.2 a2 (ix (v3 + v11))) * v9))) fun S_1 =>
   lt (v11 + (1 : Int32)) fun v11_1 =>
   L_X7_clears_54 a0 n0 a2 n2 v1 v3 v7 v9 n v11_1 S_1
  ) else (
   some S
  )
def f_X7_clears (a0 : Nat) (n0 : Nat) (p1 : Int32) (a2 : Nat) (n2 : Nat) (p3 : Int32) (p4 : Int32) (S : Sg) : Option Sg :=
  gd (inb (p1 + p4) n0) <|
  if (S.2 a0 (ix (p1 + p4))) = (0 : Int64) then (
   some S
  ) else (
   gd (inb (p3 + p4) n2) <|
   bd (f_X7_divisor (S.2 a0 (ix (p1 + p4))) (S.2 a2 (ix (p3 + p4)))) fun r_1 =>
   gd (nzJ r_1) <|
   lt (((S.2 a2 (ix (p3 + p4))) / r_1)) fun v7_1 =>
   lt (((S.2 a0 (ix (p1 + p4))) / r_1)) fun v9_1 =>
   bd (L_X7_clears_54 a0 n0 a2 n2 p1 p3 v7_1 v9_1 400 (0 : Int32) S) (fun S_1 => (
    bd (f_X7_makesLeast a0 n0 p1 S_1) fun S_2 =>
    some S_2
   ))
  )
def L_X7_firstOfOne_2 (S : Sg) : Nat → Int32 → Option (Int32 ⊕ (Unit))
  | 0, _ => none
  | n + 1, v1 =>
  if v1 < (10 : Int32) then (
   gd (inb v1 10) <|
   if (S.2 151 (ix v1)) = (0 : Int64) then (
    lt (v1 + (1 : Int32)) fun v1_1 =>
    L_X7_firstOfOne_2 S n v1_1
   ) else (
    some (.inl v1)
   )
  ) else (
   some (.inr ())
  )
def f_X7_firstOfOne (S : Sg) : Option Int32 :=
  bs (L_X7_firstOfOne_2 S 400 (0 : Int32)) (fun q => some q) (fun _ => (
   some (-9 : Int32)
  ))
def L_X7_reduces_2 (a1 : Nat) (n1 : Nat) (v2 : Int32) : Nat → Int32 → Sg → Option (Sg)
  | 0, _, _ => none
  | n + 1, v3, S =>
  if v3 < (10 : Int32) then (
   gd (inb (v2 + v3) n1) <|
   gd (inb v3 10) <|
   lt (setJ S 151 (ix v3) (S.1 a1 (ix (v2 + v3))).toInt64) fun S_1 =>
   lt (v3 + (1 : Int32)) fun v3_1 =>
   L_X7_reduces_2 a1 n1 v2 n v3_1 S_1
  ) else (
   some S
  )
def L_X7_reduces_28 (a1 : Nat) (n1 : Nat) : Nat → Int32 → Sg → Option (Sg)
  | 0, _, _ => none
  | n + 1, v3, S =>
  if v3 < (S.1 140 19) then (
   gd (inb v3 11) <|
   bd (f_X7_clears 151 10 (0 : Int32) 150 110 ((10 : Int32) * v3) (S.1 153 (ix v3)) S) fun S_1 =>
   lt (v3 + (1 : Int32)) fun v3_1 =>
   L_X7_reduces_28 a1 n1 n v3_1 S_1
  ) else (
   some S
  )
def f_X7_reduces (a1 : Nat) (n1 : Nat) (p2 : Int32) (S : Sg) : Option Sg :=
  bd (L_X7_reduces_2 a1 n1 p2 400 (0 : Int32) S) (fun S_1 => (
   bd (L_X7_reduces_28 a1 n1 400 (0 : Int32) S_1) (fun S_2 => (
    some S_2
   ))
  ))
def L_X7_adds_39 (a1 : Nat) (n1 : Nat) (v3 : Int32) (v4 : Int64) : Nat → Int32 → Sg → Option (Sg)
  | 0, _, _ => none
  | n + 1, v6, S =>
  if v6 < (10 : Int32) then (
   gd (inb v6 10) <|
   lt (setJ S 151 (ix v6) ((S.2 151 (ix v6)) * v4)) fun S_1 =>
   lt (v6 + (1 : Int32)) fun v6_1 =>
   L_X7_adds_39 a1 n1 v3 v4 n v6_1 S_1
  ) else (
   some S
  )
def L_X7_adds_75 (a1 : Nat) (n1 : Nat) (v3 : Int32) : Nat → Int32 → Sg → Option (Sg)
  | 0, _, _ => none
  | n + 1, v6, S =>
  if v6 < (S.1 140 19) then (
   bd (f_X7_clears 150 110 ((10 : Int32) * v6) 151 10 (0 : Int32) v3 S) fun S_1 =>
   lt (v6 + (1 : Int32)) fun v6_1 =>
   L_X7_adds_75 a1 n1 v3 n v6_1 S_1
  ) else (
   some S
  )
def L_X7_adds_111 (a1 : Nat) (n1 : Nat) (v3 : Int32) : Nat → Int32 → Sg → Option (Sg)
  | 0, _, _ => none
  | n + 1, v6, S =>
  if v6 < (10 : Int32) then (
   gd (inb v6 10) <|
   gd (inb (((10 : Int32) * (S.1 140 19)) + v6) 110) <|
   lt (setJ S 150 (ix (((10 : Int32) * (S.1 140 19)) + v6)) (S.2 151 (ix v6))) fun S_1 =>
   lt (v6 + (1 : Int32)) fun v6_1 =>
   L_X7_adds_111 a1 n1 v3 n v6_1 S_1
  ) else (
   some S
  )
def f_X7_adds (a1 : Nat) (n1 : Nat) (p2 : Int32) (S : Sg) : Option Sg :=
  bd (f_X7_reduces a1 n1 p2 S) fun S_1 =>
  bd (f_X7_firstOfOne S_1) fun r_1 =>
  if r_1 < 0 then (
   some S_1
  ) else (
   gd (inb r_1 10) <|
   lt (if (S_1.2 151 (ix r_1)) < (0 : Int64) then (-1 : Int64) else (1 : Int64)) fun x_1 =>
   bd (L_X7_adds_39 a1 n1 r_1 x_1 400 (0 : Int32) S_1) (fun S_2 => (
    bd (f_X7_makesLeast 151 10 (0 : Int32) S_2) fun S_3 =>
    bd (L_X7_adds_75 a1 n1 r_1 400 (0 : Int32) S_3) (fun S_4 => (
     bd (L_X7_adds_111 a1 n1 r_1 400 (0 : Int32) S_4) (fun S_5 => (
      gd (inb (S_5.1 140 19) 11) <|
      lt (setI S_5 153 (ix (S_5.1 140 19)) r_1) fun S_6 =>
      lt (setI S_6 140 19 ((S_6.1 140 19) + (1 : Int32))) fun S_7 =>
      some S_7
     ))
    ))
   ))
  )
def L_X7_allValues_4 (S : Sg) : Nat → Int32 → Int32 → Option (Int32)
  | 0, _, _ => none
  | n + 1, v1, v2 =>
  if v2 < (8 : Int32) then (
   gd (inb v2 8) <|
   gd (inb (S.1 145 (ix v2)) 10) <|
   lt ((v1 + (S.1 142 (ix (S.1 145 (ix v2)))))) fun v1_1 =>
   lt (v2 + (1 : Int32)) fun v2_1 =>
   L_X7_allValues_4 S n v1_1 v2_1
  ) else (
   some v1
  )
def f_X7_allValues (S : Sg) : Option Int32 :=
  bd (L_X7_allValues_4 S 400 (0 : Int32) (0 : Int32)) (fun v1_1 => (
   some v1_1
  ))
def f_X7_isIn (p0 : Int32) (p1 : Int32) (p2 : Int32) : Int32 :=
  lt (if p0 < p1 then (0 : Int32) else (if p2 < p0 then (0 : Int32) else (1 : Int32))) fun x_1 =>
  x_1
def f_X7_isRow (p1 : Int32) (S : Sg) : Int32 :=
  (f_X7_isIn p1 (0 : Int32) ((S.1 140 8) - (1 : Int32)))
def f_X7_lowestOf (p1 : Int32) (S : Sg) : Option (Int64 × Sg) :=
  gd (inb (-p1) 7) <|
  lt (setI S 141 (ix (-p1)) ((S.1 141 (ix (-p1))) + (1 : Int32))) fun S_1 =>
  some (((4000000000000000000 : Int64) - p1.toInt64), S_1)
def f_X7_answer (p1 : Int32) (S : Sg) : Option (Int64 × Sg) :=
  if (f_X7_isRow p1 S) = 0 then (
   bd (f_X7_lowestOf (-1 : Int32) S) (u2 fun r_1 S_1 =>
    some (r_1, S_1)
   )
  ) else (
   gd (inb p1 10) <|
   some ((S.1 147 (ix p1)).toInt64, S)
  )
def L_X7_answerBy_5 (v1 : Int32) (v2 : Int32) (S : Sg) : Nat → Int32 → Int32 → Option (Int32)
  | 0, _, _ => none
  | n + 1, v3, v4 =>
  if v4 < (10 : Int32) then (
   gd (inb (((10 : Int32) * v1) + v4) 100) <|
   if v4 < v2 then (
    gd (inb v4 32) <|
    lt ((v3 + ((S.1 146 (ix (((10 : Int32) * v1) + v4))) * (S.1 165 (ix v4))))) fun v3_2 =>
    lt (v4 + (1 : Int32)) fun v4_2 =>
    L_X7_answerBy_5 v1 v2 S n v3_2 v4_2
   ) else (
    gd (inb v4 10) <|
    lt ((v3 + ((S.1 146 (ix (((10 : Int32) * v1) + v4))) * (S.1 142 (ix v4))))) fun v3_1 =>
    lt (v4 + (1 : Int32)) fun v4_1 =>
    L_X7_answerBy_5 v1 v2 S n v3_1 v4_1
   )
  ) else (
   some v3
  )
def f_X7_answerBy (p1 : Int32) (p2 : Int32) (S : Sg) : Option Int32 :=
  bd (L_X7_answerBy_5 p1 p2 S 400 (0 : Int32) (0 : Int32)) (fun v3_1 => (
   some v3_1
  ))
def L_X7_isPivot_2 (v1 : Int32) (S : Sg) : Nat → Int32 → Option (Int32 ⊕ (Unit))
  | 0, _ => none
  | n + 1, v2 =>
  if v2 < (S.1 140 19) then (
   gd (inb v2 11) <|
   if (S.1 153 (ix v2)) = v1 then (
    some (.inl (1 : Int32))
   ) else (
    lt (v2 + (1 : Int32)) fun v2_1 =>
    L_X7_isPivot_2 v1 S n v2_1
   )
  ) else (
   some (.inr ())
  )
def f_X7_isPivot (p1 : Int32) (S : Sg) : Option Int32 :=
  bs (L_X7_isPivot_2 p1 S 400 (0 : Int32)) (fun q => some q) (fun _ => (
   some (0 : Int32)
  ))
def L_X7_areAlike_13 (v1 : Int32) (v2 : Int32) (v3 : Int32) (S : Sg) : Nat → Int32 → Option (Int32 ⊕ (Unit))
  | 0, _ => none
  | n + 1, v4 =>
  if v4 < (10 : Int32) then (
   bd (f_X7_isPivot v3 S) fun r_1 =>
   if r_1 = 0 then (
    bd (f_X7_isPivot v4 S) fun r_2 =>
    if r_2 = 0 then (
     gd (inb (((10 : Int32) * v1) + v3) 110) <|
     gd (inb (((10 : Int32) * v2) + v4) 110) <|
     gd (inb (((10 : Int32) * v1) + v4) 110) <|
     gd (inb (((10 : Int32) * v2) + v3) 110) <|
     if ((S.2 150 (ix (((10 : Int32) * v1) + v3))) * (S.2 150 (ix (((10 : Int32) * v2) + v4)))) = ((S.2 150 (ix (((10 : Int32) * v1) + v4))) * (S.2 150 (ix (((10 : Int32) * v2) + v3)))) then (
      lt (v4 + (1 : Int32)) fun v4_2 =>
      L_X7_areAlike_13 v1 v2 v3 S n v4_2
     ) else (
      some (.inl (0 : Int32))
     )
    ) else (
     lt (v4 + (1 : Int32)) fun v4_3 =>
     L_X7_areAlike_13 v1 v2 v3 S n v4_3
    )
   ) else (
    lt (v4 + (1 : Int32)) fun v4_1 =>
    L_X7_areAlike_13 v1 v2 v3 S n v4_1
   )
  ) else (
   some (.inr ())
  )
def L_X7_areAlike_2 (v1 : Int32) (v2 : Int32) (S : Sg) : Nat → Int32 → Option (Int32 ⊕ (Unit))
  | 0, _ => none
  | n + 1, v3 =>
  if v3 < (10 : Int32) then (
   lt ((v3 + (1 : Int32))) fun v4_1 =>
   bs (L_X7_areAlike_13 v1 v2 v3 S 400 v4_1) (fun q => some (.inl q)) (fun _ => (
    bd (f_X7_isPivot v3 S) fun r_1 =>
    if r_1 = 0 then (
     gd (inb (((10 : Int32) * v1) + v3) 110) <|
     lt (if (S.2 150 (ix (((10 : Int32) * v1) + v3))) = (0 : Int64) then (1 : Int32) else (0 : Int32)) fun x_1 =>
     gd (inb (((10 : Int32) * v2) + v3) 110) <|
     lt (if (S.2 150 (ix (((10 : Int32) * v2) + v3))) = (0 : Int64) then (1 : Int32) else (0 : Int32)) fun x_2 =>
     if x_1 = x_2 then (
      lt (v3 + (1 : Int32)) fun v3_2 =>
      L_X7_areAlike_2 v1 v2 S n v3_2
     ) else (
      some (.inl (0 : Int32))
     )
    ) else (
     lt (v3 + (1 : Int32)) fun v3_1 =>
     L_X7_areAlike_2 v1 v2 S n v3_1
    )
   ))
  ) else (
   some (.inr ())
  )
def f_X7_areAlike (p1 : Int32) (p2 : Int32) (S : Sg) : Option Int32 :=
  bs (L_X7_areAlike_2 p1 p2 S 400 (0 : Int32)) (fun q => some q) (fun _ => (
   some (1 : Int32)
  ))
def f_X7_has (p0 : Int32) (p1 : Int32) : Int32 :=
  lt (if ((isr p0 p1) &&& (1 : Int32)) = (1 : Int32) then (1 : Int32) else (0 : Int32)) fun x_1 =>
  x_1
def f_X7_weight (p0 : Int32) (p1 : Int32) (p2 : Int32) (p3 : Int32) : Option Int32 :=
  if p0 = (1 : Int32) then (
   some (((isr p1 p3) &&& (1 : Int32)) - ((isr p2 p3) &&& (1 : Int32)))
  ) else (
   if (f_X7_has p1 p3) = 0 then (
    some (0 : Int32)
   ) else (
    if p0 = 0 then (
     some (1 : Int32)
    ) else (
     gd (nz p2) <|
     some ((irem p3 p2) + (1 : Int32))
    )
   )
  )
def L_X7_asks_8 (v1 : Int32) (v2 : Int32) (v3 : Int32) : Nat → Int32 → Sg → Option (Sg)
  | 0, _, _ => none
  | n + 1, v4, S =>
  if v4 < (10 : Int32) then (
   gd (inb v4 10) <|
   lt (setI S 148 (ix v4) (0 : Int32)) fun S_1 =>
   lt (v4 + (1 : Int32)) fun v4_1 =>
   L_X7_asks_8 v1 v2 v3 n v4_1 S_1
  ) else (
   some S
  )
def L_X7_asks_32 (v1 : Int32) (v2 : Int32) (v3 : Int32) : Nat → Int32 → Sg → Option (Sg)
  | 0, _, _ => none
  | n + 1, v4, S =>
  if v4 < (8 : Int32) then (
   bd (f_X7_weight v1 v2 v3 v4) fun r_1 =>
   gd (inb v4 8) <|
   gd (inb (S.1 145 (ix v4)) 10) <|
   lt (setI S 148 (ix (S.1 145 (ix v4))) r_1) fun S_1 =>
   lt (if r_1 = 0 then (0 : Int32) else (1 : Int32)) fun x_1 =>
   lt (setI S_1 140 12 ((S_1.1 140 12) + x_1)) fun S_2 =>
   lt (v4 + (1 : Int32)) fun v4_1 =>
   L_X7_asks_32 v1 v2 v3 n v4_1 S_2
  ) else (
   some S
  )
def f_X7_asks (p1 : Int32) (p2 : Int32) (p3 : Int32) (S : Sg) : Option Sg :=
  lt (setI S 140 12 (0 : Int32)) fun S_1 =>
  bd (L_X7_asks_8 p1 p2 p3 400 (0 : Int32) S_1) (fun S_2 => (
   bd (L_X7_asks_32 p1 p2 p3 400 (0 : Int32) S_2) (fun S_3 => (
    some S_3
   ))
  ))
def L_X7_trueAnswer_4 (S : Sg) : Nat → Int32 → Int32 → Option (Int32)
  | 0, _, _ => none
  | n + 1, v1, v2 =>
  if v2 < (10 : Int32) then (
   gd (inb v2 10) <|
   lt ((v1 + ((S.1 148 (ix v2)) * (S.1 142 (ix v2))))) fun v1_1 =>
   lt (v2 + (1 : Int32)) fun v2_1 =>
   L_X7_trueAnswer_4 S n v1_1 v2_1
  ) else (
   some v1
  )
def f_X7_trueAnswer (S : Sg) : Option Int32 :=
  bd (L_X7_trueAnswer_4 S 400 (0 : Int32) (0 : Int32)) (fun v1_1 => (
   some v1_1
  ))
def L_X7_joins_2 : Nat → Int32 → Sg → Option (Sg)
  | 0, _, _ => none
  | n + 1, v1, S =>
  if v1 < (10 : Int32) then (
   gd (inb v1 10) <|
   gd (inb (((10 : Int32) * (S.1 140 8)) + v1) 100) <|
   lt (setI S 146 (ix (((10 : Int32) * (S.1 140 8)) + v1)) (S.1 148 (ix v1))) fun S_1 =>
   lt (v1 + (1 : Int32)) fun v1_1 =>
   L_X7_joins_2 n v1_1 S_1
  ) else (
   some S
  )
def f_X7_joins (S : Sg) : Option Sg :=
  bd (L_X7_joins_2 400 (0 : Int32) S) (fun S_1 => (
   bd (f_X7_trueAnswer S_1) fun r_1 =>
   gd (inb (S_1.1 140 8) 10) <|
   lt (setI S_1 147 (ix (S_1.1 140 8)) r_1) fun S_2 =>
   lt (setI S_2 140 8 ((S_2.1 140 8) + (1 : Int32))) fun S_3 =>
   some S_3
  ))
def L_X7_builds_7 : Nat → Int32 → Sg → Option (Sg)
  | 0, _, _ => none
  | n + 1, v1, S =>
  if v1 < (S.1 140 8) then (
   bd (f_X7_adds 146 100 ((10 : Int32) * v1) S) fun S_1 =>
   lt (v1 + (1 : Int32)) fun v1_1 =>
   L_X7_builds_7 n v1_1 S_1
  ) else (
   some S
  )
def L_X7_builds_35 : Nat → Int32 → Sg → Option (Sg)
  | 0, _, _ => none
  | n + 1, v1, S =>
  if v1 < (110 : Int32) then (
   gd (inb v1 110) <|
   lt (setJ S 149 (ix v1) (S.2 150 (ix v1))) fun S_1 =>
   lt (v1 + (1 : Int32)) fun v1_1 =>
   L_X7_builds_35 n v1_1 S_1
  ) else (
   some S
  )
def L_X7_builds_61 : Nat → Int32 → Sg → Option (Sg)
  | 0, _, _ => none
  | n + 1, v1, S =>
  if v1 < (11 : Int32) then (
   gd (inb v1 11) <|
   lt (setI S 152 (ix v1) (S.1 153 (ix v1))) fun S_1 =>
   lt (v1 + (1 : Int32)) fun v1_1 =>
   L_X7_builds_61 n v1_1 S_1
  ) else (
   some S
  )
def f_X7_builds (S : Sg) : Option Sg :=
  lt (setI S 140 19 (0 : Int32)) fun S_1 =>
  bd (L_X7_builds_7 400 (0 : Int32) S_1) (fun S_2 => (
   bd (L_X7_builds_35 400 (0 : Int32) S_2) (fun S_3 => (
    bd (L_X7_builds_61 400 (0 : Int32) S_3) (fun S_4 => (
     lt (setI S_4 140 18 (S_4.1 140 19)) fun S_5 =>
     some S_5
    ))
   ))
  ))
def L_X7_manyNot0_4 (v1 : Int32) (S : Sg) : Nat → Int32 → Int32 → Option (Int32)
  | 0, _, _ => none
  | n + 1, v2, v3 =>
  if v3 < (10 : Int32) then (
   gd (inb (((10 : Int32) * v1) + v3) 110) <|
   lt (if (S.2 150 (ix (((10 : Int32) * v1) + v3))) = (0 : Int64) then (0 : Int32) else (1 : Int32)) fun x_1 =>
   lt ((v2 + x_1)) fun v2_1 =>
   lt (v3 + (1 : Int32)) fun v3_1 =>
   L_X7_manyNot0_4 v1 S n v2_1 v3_1
  ) else (
   some v2
  )
def f_X7_manyNot0 (p1 : Int32) (S : Sg) : Option Int32 :=
  bd (L_X7_manyNot0_4 p1 S 400 (0 : Int32) (0 : Int32)) (fun v2_1 => (
   some v2_1
  ))
def L_X7_isAnyFixed_2 (S : Sg) : Nat → Int32 → Option (Int32 ⊕ (Unit))
  | 0, _ => none
  | n + 1, v1 =>
  if v1 < (S.1 140 19) then (
   bd (f_X7_manyNot0 v1 S) fun r_1 =>
   if r_1 = (1 : Int32) then (
    some (.inl (1 : Int32))
   ) else (
    lt (v1 + (1 : Int32)) fun v1_1 =>
    L_X7_isAnyFixed_2 S n v1_1
   )
  ) else (
   some (.inr ())
  )
def f_X7_isAnyFixed (S : Sg) : Option Int32 :=
  bs (L_X7_isAnyFixed_2 S 400 (0 : Int32)) (fun q => some q) (fun _ => (
   some (0 : Int32)
  ))
def L_X7_isAnyPaired_25 (v1 : Int32) (S : Sg) : Nat → Int32 → Option (Int32 ⊕ (Unit))
  | 0, _ => none
  | n + 1, v2 =>
  if v2 < (S.1 140 19) then (
   bd (f_X7_areAlike v1 v2 S) fun r_1 =>
   if r_1 = 0 then (
    lt (v2 + (1 : Int32)) fun v2_1 =>
    L_X7_isAnyPaired_25 v1 S n v2_1
   ) else (
    some (.inl (1 : Int32))
   )
  ) else (
   some (.inr ())
  )
def L_X7_isAnyPaired_2 (S : Sg) : Nat → Int32 → Option (Int32 ⊕ (Unit))
  | 0, _ => none
  | n + 1, v1 =>
  if v1 < (S.1 140 19) then (
   bd (f_X7_manyNot0 v1 S) fun r_1 =>
   if r_1 = (2 : Int32) then (
    some (.inl (1 : Int32))
   ) else (
    lt ((v1 + (1 : Int32))) fun v2_1 =>
    bs (L_X7_isAnyPaired_25 v1 S 400 v2_1) (fun q => some (.inl q)) (fun _ => (
     lt (v1 + (1 : Int32)) fun v1_1 =>
     L_X7_isAnyPaired_2 S n v1_1
    ))
   )
  ) else (
   some (.inr ())
  )
def f_X7_isAnyPaired (S : Sg) : Option Int32 :=
  bs (L_X7_isAnyPaired_2 S 400 (0 : Int32)) (fun q => some q) (fun _ => (
   some (0 : Int32)
  ))
def f_X7_isForbidden (p1 : Int32) (p2 : Int32) (S : Sg) : Option Int32 :=
  bd (f_X7_isAnyFixed S) fun r_1 =>
  if r_1 = 0 then (
   if p1 = (1 : Int32) then (
    lt (if (f_X7_isIn (S.1 140 12) (2 : Int32) (6 : Int32)) = 0 then (1 : Int32) else (0 : Int32)) fun x_2 =>
    some x_2
   ) else (
    if p1 = (2 : Int32) then (
     bd (f_X7_isAnyPaired S) fun r_2 =>
     some r_2
    ) else (
     lt (if p1 = (3 : Int32) then (if p2 < (S.1 140 19) then (1 : Int32) else (0 : Int32)) else (0 : Int32)) fun x_1 =>
     some x_1
    )
   )
  ) else (
   some (1 : Int32)
  )
def L_X7_loads_2 : Nat → Int32 → Sg → Option (Sg)
  | 0, _, _ => none
  | n + 1, v1, S =>
  if v1 < (110 : Int32) then (
   gd (inb v1 110) <|
   lt (setJ S 150 (ix v1) (S.2 149 (ix v1))) fun S_1 =>
   lt (v1 + (1 : Int32)) fun v1_1 =>
   L_X7_loads_2 n v1_1 S_1
  ) else (
   some S
  )
def L_X7_loads_28 : Nat → Int32 → Sg → Option (Sg)
  | 0, _, _ => none
  | n + 1, v1, S =>
  if v1 < (11 : Int32) then (
   gd (inb v1 11) <|
   lt (setI S 153 (ix v1) (S.1 152 (ix v1))) fun S_1 =>
   lt (v1 + (1 : Int32)) fun v1_1 =>
   L_X7_loads_28 n v1_1 S_1
  ) else (
   some S
  )
def f_X7_loads (S : Sg) : Option Sg :=
  bd (L_X7_loads_2 400 (0 : Int32) S) (fun S_1 => (
   bd (L_X7_loads_28 400 (0 : Int32) S_1) (fun S_2 => (
    lt (setI S_2 140 19 (S_2.1 140 18)) fun S_3 =>
    some S_3
   ))
  ))
def f_X7_meetsBy (p1 : Int32) (p2 : Int32) (S : Sg) : Option (Int32 × Sg) :=
  bd (f_X7_loads S) fun S_1 =>
  bd (f_X7_reduces 148 10 (0 : Int32) S_1) fun S_2 =>
  bd (f_X7_firstOfOne S_2) fun r_1 =>
  if r_1 < 0 then (
   some ((0 : Int32), S_2)
  ) else (
   bd (f_X7_adds 148 10 (0 : Int32) S_2) fun S_3 =>
   bd (f_X7_isForbidden p1 p2 S_3) fun r_2 =>
   lt (if r_2 = 0 then (1 : Int32) else (2 : Int32)) fun x_1 =>
   some (x_1, S_3)
  )
def f_X7_meetsNow (S : Sg) : Option (Int32 × Sg) :=
  bd (f_X7_builds S) fun S_1 =>
  bd (f_X7_meetsBy (S_1.1 140 9) (S_1.1 140 10) S_1) (u2 fun r_1 S_2 =>
   some (r_1, S_2)
  )
def f_X7_isAsked (S : Sg) : Option (Int32 × Sg) :=
  bd (f_X7_meetsNow S) (u2 fun r_1 S_1 =>
   if r_1 = (1 : Int32) then (
    bd (f_X7_joins S_1) fun S_2 =>
    some (r_1, S_2)
   ) else (
    some (r_1, S_1)
   )
  )
def f_X7_lower (p1 : Int32) (S : Sg) : Option (Int32 × Sg) :=
  gd (inb (-p1) 7) <|
  lt (setI S 141 (ix (-p1)) ((S.1 141 (ix (-p1))) + (1 : Int32))) fun S_1 =>
  some (((1000000000 : Int32) - p1), S_1)
def f_X7_notQuestion (p0 : Int32) (p1 : Int32) (p2 : Int32) : Int32 :=
  if (f_X7_isIn p0 (0 : Int32) (2 : Int32)) = 0 then (
   (-2 : Int32)
  ) else (
   lt (if p0 = (1 : Int32) then (255 : Int32) else (3 : Int32)) fun x_1 =>
   if p1 < (1 : Int32) then (
    (-4 : Int32)
   ) else (
    lt (fun (_ : Unit) => (
     if (255 : Int32) < p1 then (
      (-6 : Int32)
     ) else (
      lt (fun (_ : Unit) => (
       lt (if p0 = (1 : Int32) then (if (p1 &&& p2) = 0 then (0 : Int32) else (-3 : Int32)) else (0 : Int32)) fun x_2 =>
       x_2
      )) fun J_2 =>
      if p0 = 0 then (
       J_2 ()
      ) else (
       if x_1 < p2 then (
        (-6 : Int32)
       ) else (
        J_2 ()
       )
      )
     )
    )) fun J_1 =>
    if p0 = 0 then (
     J_1 ()
    ) else (
     if p2 < (1 : Int32) then (
      (-4 : Int32)
     ) else (
      J_1 ()
     )
    )
   )
  )
def f_X7_ask (p1 : Int32) (p2 : Int32) (p3 : Int32) (S : Sg) : Option (Int32 × Sg) :=
  lt ((f_X7_notQuestion p1 p2 p3)) fun v4_1 =>
  if v4_1 = 0 then (
   bd (f_X7_asks p1 p2 p3 S) fun S_1 =>
   bd (f_X7_isAsked S_1) (u2 fun r_1 S_2 =>
    if r_1 = (2 : Int32) then (
     bd (f_X7_lower (-5 : Int32) S_2) (u2 fun r_3 S_3 =>
      some (r_3, S_3)
     )
    ) else (
     bd (f_X7_trueAnswer S_2) fun r_2 =>
     some (r_2, S_2)
    )
   )
  ) else (
   bd (f_X7_lower v4_1 S) (u2 fun r_4 S_4 =>
    some (r_4, S_4)
   )
  )
def f_X7_asksSum (p1 : Int32) (S : Sg) : Option (Int32 × Sg) :=
  bd (f_X7_asks (0 : Int32) p1 (0 : Int32) S) fun S_1 =>
  bd (f_X7_isAsked S_1) (u2 fun r_1 S_2 =>
   some (r_1, S_2)
  )
def L_X7_isFixed_2 (v1 : Int32) (S : Sg) : Nat → Int32 → Option (Int32 ⊕ (Unit))
  | 0, _ => none
  | n + 1, v2 =>
  if v2 < (S.1 140 19) then (
   gd (inb v2 11) <|
   if (S.1 153 (ix v2)) = v1 then (
    bd (f_X7_manyNot0 v2 S) fun r_1 =>
    if r_1 = (1 : Int32) then (
     some (.inl (1 : Int32))
    ) else (
     lt (v2 + (1 : Int32)) fun v2_2 =>
     L_X7_isFixed_2 v1 S n v2_2
    )
   ) else (
    lt (v2 + (1 : Int32)) fun v2_1 =>
    L_X7_isFixed_2 v1 S n v2_1
   )
  ) else (
   some (.inr ())
  )
def f_X7_isFixed (p1 : Int32) (S : Sg) : Option Int32 :=
  bs (L_X7_isFixed_2 p1 S 400 (0 : Int32)) (fun q => some q) (fun _ => (
   some (0 : Int32)
  ))
def f_X7_isVariable (p1 : Int32) (S : Sg) : Int32 :=
  (f_X7_isIn p1 (0 : Int32) ((S.1 140 7) - (1 : Int32)))
def f_X7_no (p1 : Int32) (S : Sg) : Option (Int32 × Sg) :=
  gd (inb (-p1) 7) <|
  lt (setI S 141 (ix (-p1)) ((S.1 141 (ix (-p1))) + (1 : Int32))) fun S_1 =>
  some (p1, S_1)
def L_X7_attack_54 (v1 : Int32) (v2 : Int32) : Nat → Int32 → Int32 → Int32 → Sg → Option (Int32 × Int32 × Sg)
  | 0, _, _, _, _ => none
  | n + 1, v4, v5, v6, S =>
  if v6 < (1 : Int32) then (
   some (v4, v5, S)
  ) else (
   bd (f_X7_asks (0 : Int32) v6 (0 : Int32) S) fun S_1 =>
   bd (f_X7_loads S_1) fun S_2 =>
   bd (f_X7_adds 148 10 (0 : Int32) S_2) fun S_3 =>
   bd (f_X7_isFixed v1 S_3) fun r_1 =>
   lt (if r_1 = 0 then v4 else v6) fun v4_1 =>
   lt (if r_1 = 0 then v5 else (v5 + (1 : Int32))) fun v5_1 =>
   lt (v6 + (-1 : Int32)) fun v6_1 =>
   L_X7_attack_54 v1 v2 n v4_1 v5_1 v6_1 S_3
  )
def f_X7_attack (p1 : Int32) (p2 : Int32) (S : Sg) : Option (Int32 × Sg) :=
  lt (if (f_X7_isVariable p1 S) = 0 then (-1 : Int32) else (if (f_X7_isIn p2 (0 : Int32) (1 : Int32)) = 0 then (-2 : Int32) else (0 : Int32))) fun x_1 =>
  if x_1 = 0 then (
   bd (f_X7_builds S) fun S_1 =>
   bd (L_X7_attack_54 p1 p2 400 (-9 : Int32) (0 : Int32) (255 : Int32) S_1) (u3 fun v4_1 v5_1 S_2 => (
    lt (if p2 = 0 then v4_1 else v5_1) fun x_2 =>
    some (x_2, S_2)
   ))
  ) else (
   bd (f_X7_no x_1 S) (u2 fun r_1 S_3 =>
    some (r_1, S_3)
   )
  )
def L_X7_bits_4 (v0 : Int32) : Nat → Int32 → Int32 → Option (Int32)
  | 0, _, _ => none
  | n + 1, v1, v2 =>
  if v2 < (31 : Int32) then (
   lt ((v1 + ((isr v0 v2) &&& (1 : Int32)))) fun v1_1 =>
   lt (v2 + (1 : Int32)) fun v2_1 =>
   L_X7_bits_4 v0 n v1_1 v2_1
  ) else (
   some v1
  )
def f_X7_bits (p0 : Int32) : Option Int32 :=
  bd (L_X7_bits_4 p0 400 (0 : Int32) (0 : Int32)) (fun v1_1 => (
   some v1_1
  ))
def f_X7_bound (p0 : Int32) (p1 : Int32) (p2 : Int32) : Int32 :=
  lt (if p0 < p1 then (-4 : Int32) else (if p2 < p0 then (-6 : Int32) else (0 : Int32))) fun x_1 =>
  x_1
def f_X7_comesBounds (p1 : Int32) (p2 : Int32) (p3 : Int32) (S : Sg) : Option (Int32 × Sg) :=
  if (f_X7_isVariable p1 S) = 0 then (
   some ((0 : Int32), S)
  ) else (
   gd (inb p1 10) <|
   if (f_X7_isIn (S.1 142 (ix p1)) p2 p3) = 0 then (
    some ((0 : Int32), S)
   ) else (
    lt (setI S 143 (ix p1) p2) fun S_1 =>
    lt (setI S_1 144 (ix p1) p3) fun S_2 =>
    some ((1 : Int32), S_2)
   )
  )
def f_X7_bounds (p1 : Int32) (p2 : Int32) (p3 : Int32) (S : Sg) : Option (Int32 × Sg) :=
  lt (if (f_X7_isVariable p1 S) = 0 then (-1 : Int32) else (if p2 < 0 then (-4 : Int32) else (if p3 < 0 then (-4 : Int32) else (if (99 : Int32) < p2 then (-6 : Int32) else (if (99 : Int32) < p3 then (-6 : Int32) else (0 : Int32)))))) fun x_1 =>
  lt (fun (v4_1 : Int32) (S_1 : Sg) => (
   if v4_1 = 0 then (
    some ((1 : Int32), S_1)
   ) else (
    bd (f_X7_no v4_1 S_1) (u2 fun r_1 S_2 =>
     some (r_1, S_2)
    )
   )
  )) fun J_1 =>
  if x_1 = 0 then (
   bd (f_X7_comesBounds p1 p2 p3 S) (u2 fun r_2 S_3 =>
    lt (if r_2 = 0 then (-3 : Int32) else x_1) fun v4_2 =>
    J_1 v4_2 S_3
   )
  ) else (
   J_1 x_1 S
  )
def L_X7_byPivots_15 (v1 : Int32) (v2 : Int32) (S : Sg) : Nat → Int32 → Int32 → Option (Int32)
  | 0, _, _ => none
  | n + 1, v3, v4 =>
  if v4 < (S.1 140 19) then (
   gd (inb v4 11) <|
   gd (inb v2 11) <|
   lt (if (S.1 153 (ix v4)) < (S.1 153 (ix v2)) then (1 : Int32) else (0 : Int32)) fun x_1 =>
   lt ((v3 + x_1)) fun v3_1 =>
   lt (v4 + (1 : Int32)) fun v4_1 =>
   L_X7_byPivots_15 v1 v2 S n v3_1 v4_1
  ) else (
   some v3
  )
def L_X7_byPivots_2 (v1 : Int32) (S : Sg) : Nat → Int32 → Option (Int32 ⊕ (Unit))
  | 0, _ => none
  | n + 1, v2 =>
  if v2 < (S.1 140 19) then (
   bd (L_X7_byPivots_15 v1 v2 S 400 (0 : Int32) (0 : Int32)) (fun v3_1 => (
    if v3_1 = v1 then (
     some (.inl v2)
    ) else (
     lt (v2 + (1 : Int32)) fun v2_1 =>
     L_X7_byPivots_2 v1 S n v2_1
    )
   ))
  ) else (
   some (.inr ())
  )
def f_X7_byPivots (p1 : Int32) (S : Sg) : Option Int32 :=
  bs (L_X7_byPivots_2 p1 S 400 (0 : Int32)) (fun q => some q) (fun _ => (
   some (0 : Int32)
  ))
def f_X7_isTold (p1 : Int32) (p2 : Int32) (S : Sg) : Option Sg :=
  gd (inb p1 8) <|
  gd (inb (S.1 145 (ix p1)) 10) <|
  lt (setI S 142 (ix (S.1 145 (ix p1))) p2) fun S_1 =>
  gd (inb (S_1.1 145 (ix p1)) 10) <|
  lt (setI S_1 143 (ix (S_1.1 145 (ix p1))) (0 : Int32)) fun S_2 =>
  gd (inb (S_2.1 145 (ix p1)) 10) <|
  lt (setI S_2 144 (ix (S_2.1 145 (ix p1))) (99 : Int32)) fun S_3 =>
  some S_3
def f_X7_changesTo (p1 : Int32) (p2 : Int32) (S : Sg) : Option Sg :=
  gd (inb p1 8) <|
  lt (setI S 145 (ix p1) (S.1 140 7)) fun S_1 =>
  lt (setI S_1 140 7 ((S_1.1 140 7) + (1 : Int32))) fun S_2 =>
  bd (f_X7_isTold p1 p2 S_2) fun S_3 =>
  some S_3
def f_X7_isPerson (p0 : Int32) : Int32 :=
  (f_X7_isIn p0 (0 : Int32) (7 : Int32))
def f_X7_changes (p1 : Int32) (p2 : Int32) (S : Sg) : Option (Int32 × Sg) :=
  lt (if (f_X7_isPerson p1) = 0 then (-1 : Int32) else (f_X7_bound p2 (0 : Int32) (99 : Int32))) fun x_1 =>
  lt (if x_1 = 0 then (if (S.1 140 7) = (10 : Int32) then (-6 : Int32) else x_1) else x_1) fun v3_1 =>
  if v3_1 = 0 then (
   bd (f_X7_changesTo p1 p2 S) fun S_1 =>
   some (((S_1.1 140 7) - (1 : Int32)), S_1)
  ) else (
   bd (f_X7_no v3_1 S) (u2 fun r_1 S_2 =>
    some (r_1, S_2)
   )
  )
def L_X7_findSums_6 : Nat → Int32 → Sg → Option (Sg)
  | 0, _, _ => none
  | n + 1, v1, S =>
  if v1 < (3 : Int32) then (
   gd (inb v1 3) <|
   lt (setI S 160 (ix v1) (0 : Int32)) fun S_1 =>
   lt (v1 + (1 : Int32)) fun v1_1 =>
   L_X7_findSums_6 n v1_1 S_1
  ) else (
   some S
  )
def L_X7_findSums_26 : Nat → Int32 → Sg → Option (Sg)
  | 0, _, _ => none
  | n + 1, v1, S =>
  if (255 : Int32) < v1 then (
   some S
  ) else (
   bd (f_X7_asks (0 : Int32) v1 (0 : Int32) S) fun S_1 =>
   bd (f_X7_meetsBy (S_1.1 140 9) (S_1.1 140 10) S_1) (u2 fun r_1 S_2 =>
    gd (inb v1 256) <|
    lt (setI S_2 159 (ix v1) r_1) fun S_3 =>
    gd (inb (S_3.1 159 (ix v1)) 3) <|
    lt (setI S_3 160 (ix (S_3.1 159 (ix v1))) ((S_3.1 160 (ix (S_3.1 159 (ix v1)))) + (1 : Int32))) fun S_4 =>
    lt (v1 + (1 : Int32)) fun v1_1 =>
    L_X7_findSums_26 n v1_1 S_4
   )
  )
def f_X7_findSums (S : Sg) : Option Sg :=
  bd (f_X7_builds S) fun S_1 =>
  bd (L_X7_findSums_6 400 (0 : Int32) S_1) (fun S_2 => (
   bd (L_X7_findSums_26 400 (1 : Int32) S_2) (fun S_3 => (
    some S_3
   ))
  ))
def L_X7_cheapest_25 (v1 : Int32) (S : Sg) : Nat → Int32 → Int32 → Option (Int32)
  | 0, _, _ => none
  | n + 1, v2, v3 =>
  if (255 : Int32) < v3 then (
   some v2
  ) else (
   gd (inb v3 256) <|
   if (S.1 159 (ix v3)) = (1 : Int32) then (
    if v2 < 0 then (
     lt (v3 + (1 : Int32)) fun v3_2 =>
     L_X7_cheapest_25 v1 S n v3 v3_2
    ) else (
     bd (f_X7_bits v3) fun r_1 =>
     bd (f_X7_bits v2) fun r_2 =>
     lt (if r_1 < r_2 then v3 else v2) fun v2_1 =>
     lt (v3 + (1 : Int32)) fun v3_3 =>
     L_X7_cheapest_25 v1 S n v2_1 v3_3
    )
   ) else (
    lt (v3 + (1 : Int32)) fun v3_1 =>
    L_X7_cheapest_25 v1 S n v2 v3_1
   )
  )
def f_X7_cheapest (p1 : Int32) (S : Sg) : Option (Int32 × Sg) :=
  if (f_X7_isIn p1 (0 : Int32) (1 : Int32)) = 0 then (
   bd (f_X7_no (-2 : Int32) S) (u2 fun r_2 S_2 =>
    some (r_2, S_2)
   )
  ) else (
   bd (f_X7_findSums S) fun S_1 =>
   bd (L_X7_cheapest_25 p1 S_1 400 (-9 : Int32) (1 : Int32)) (fun v2_1 => (
    if v2_1 < 0 then (
     some ((-9 : Int32), S_1)
    ) else (
     if p1 = 0 then (
      some (v2_1, S_1)
     ) else (
      bd (f_X7_bits v2_1) fun r_1 =>
      some (r_1, S_1)
     )
    )
   ))
  )
def f_X7_clear (S : Sg) : Option (Int32 × Sg) :=
  lt ((S.1 140 39)) fun v1_1 =>
  lt (setI S 140 39 (0 : Int32)) fun S_1 =>
  some (v1_1, S_1)
def f_X7_comesChange (p1 : Int32) (p2 : Int32) (S : Sg) : Option (Int32 × Sg) :=
  if (f_X7_isPerson p1) = 0 then (
   some ((0 : Int32), S)
  ) else (
   if (S.1 140 7) = (10 : Int32) then (
    some ((0 : Int32), S)
   ) else (
    bd (f_X7_changesTo p1 p2 S) fun S_1 =>
    some ((1 : Int32), S_1)
   )
  )
def L_X7_setTold_6 (v1 : Int32) (v2 : Int32) (v3 : Int32) (S : Sg) : Nat → Int32 → Int32 → Option (Int32)
  | 0, _, _ => none
  | n + 1, v4, v5 =>
  if v5 < (8 : Int32) then (
   gd (inb (v1 + v5) 297) <|
   lt (if (f_X7_isIn (S.1 158 (ix (v1 + v5))) v2 v3) = 0 then (0 : Int32) else (isl (1 : Int32) v5)) fun x_1 =>
   lt ((v4 ||| x_1)) fun v4_1 =>
   lt (v5 + (1 : Int32)) fun v5_1 =>
   L_X7_setTold_6 v1 v2 v3 S n v4_1 v5_1
  ) else (
   some v4
  )
def f_X7_setTold (p1 : Int32) (p2 : Int32) (p3 : Int32) (S : Sg) : Option Int32 :=
  bd (L_X7_setTold_6 p1 p2 p3 S 400 (0 : Int32) (0 : Int32)) (fun v4_1 => (
   some v4_1
  ))
def f_X7_comesQuestion (p1 : Int32) (p2 : Int32) (S : Sg) : Option (Int32 × Sg) :=
  lt (if p1 = (115 : Int32) then (0 : Int32) else (if p1 = (100 : Int32) then (1 : Int32) else (2 : Int32))) fun x_1 =>
  lt (if x_1 = (1 : Int32) then (1 : Int32) else (9 : Int32)) fun x_2 =>
  bd (f_X7_setTold p2 (1 : Int32) x_2 S) fun r_1 =>
  lt (fun (x_3 : Int32) => (
   lt (fun (_ : Unit) => (
    if (f_X7_notQuestion x_1 r_1 x_3) = 0 then (
     bd (f_X7_asks x_1 r_1 x_3 S) fun S_1 =>
     bd (f_X7_isAsked S_1) (u2 fun r_2 S_2 =>
      lt (if r_2 = (2 : Int32) then (0 : Int32) else (1 : Int32)) fun x_4 =>
      some (x_4, S_2)
     )
    ) else (
     some ((0 : Int32), S)
    )
   )) fun J_2 =>
   if x_1 = (1 : Int32) then (
    bd (f_X7_setTold p2 (3 : Int32) (9 : Int32) S) fun r_3 =>
    if r_3 = 0 then (
     J_2 ()
    ) else (
     some ((0 : Int32), S)
    )
   ) else (
    J_2 ()
   )
  )) fun J_1 =>
  if x_1 = (1 : Int32) then (
   bd (f_X7_setTold p2 (2 : Int32) (2 : Int32) S) fun r_4 =>
   J_1 r_4
  ) else (
   gd (inb (p2 + (8 : Int32)) 297) <|
   J_1 (S.1 158 (ix (p2 + (8 : Int32))))
  )
def f_X7_comesRule (p1 : Int32) (p2 : Int32) (S : Sg) : Option (Int32 × Sg) :=
  lt (if p1 = (114 : Int32) then (3 : Int32) else (10 : Int32)) fun x_1 =>
  if x_1 < p2 then (
   some ((0 : Int32), S)
  ) else (
   if p1 = (114 : Int32) then (
    lt (setI S 140 9 p2) fun S_2 =>
    some ((1 : Int32), S_2)
   ) else (
    lt (setI S 140 10 p2) fun S_1 =>
    some ((1 : Int32), S_1)
   )
  )
def L_X7_isFree_2 (v1 : Int32) (S : Sg) : Nat → Int32 → Option (Int32 ⊕ (Unit))
  | 0, _ => none
  | n + 1, v2 =>
  if v2 < (S.1 140 8) then (
   gd (inb (((10 : Int32) * v2) + v1) 100) <|
   if (S.1 146 (ix (((10 : Int32) * v2) + v1))) = 0 then (
    lt (v2 + (1 : Int32)) fun v2_1 =>
    L_X7_isFree_2 v1 S n v2_1
   ) else (
    some (.inl (0 : Int32))
   )
  ) else (
   some (.inr ())
  )
def f_X7_isFree (p1 : Int32) (S : Sg) : Option Int32 :=
  bs (L_X7_isFree_2 p1 S 400 (0 : Int32)) (fun q => some q) (fun _ => (
   some (1 : Int32)
  ))
def f_X7_comesTold (p1 : Int32) (p2 : Int32) (S : Sg) : Option (Int32 × Sg) :=
  if (f_X7_isPerson p1) = 0 then (
   some ((0 : Int32), S)
  ) else (
   gd (inb p1 8) <|
   bd (f_X7_isFree (S.1 145 (ix p1)) S) fun r_1 =>
   if r_1 = 0 then (
    some ((0 : Int32), S)
   ) else (
    bd (f_X7_isTold p1 p2 S) fun S_1 =>
    some ((1 : Int32), S_1)
   )
  )
def f_X7_comes (p1 : Int32) (S : Sg) : Option (Int32 × Sg) :=
  lt (((9 : Int32) * p1)) fun v2_1 =>
  gd (inb p1 33) <|
  lt (fun (_ : Unit) => (
   gd (inb v2_1 297) <|
   bd (f_X7_comesRule (S.1 156 (ix p1)) (S.1 158 (ix v2_1)) S) (u2 fun r_1 S_1 =>
    some (r_1, S_1)
   )
  )) fun J_1 =>
  if (S.1 156 (ix p1)) = (98 : Int32) then (
   gd (inb v2_1 297) <|
   gd (inb (v2_1 + (1 : Int32)) 297) <|
   gd (inb (v2_1 + (2 : Int32)) 297) <|
   bd (f_X7_comesBounds (S.1 158 (ix v2_1)) (S.1 158 (ix (v2_1 + (1 : Int32)))) (S.1 158 (ix (v2_1 + (2 : Int32)))) S) (u2 fun r_2 S_2 =>
    some (r_2, S_2)
   )
  ) else (
  if (S.1 156 (ix p1)) = (99 : Int32) then (
   gd (inb v2_1 297) <|
   gd (inb (v2_1 + (1 : Int32)) 297) <|
   bd (f_X7_comesChange (S.1 158 (ix v2_1)) (S.1 158 (ix (v2_1 + (1 : Int32)))) S) (u2 fun r_3 S_3 =>
    some (r_3, S_3)
   )
  ) else (
  if (S.1 156 (ix p1)) = (108 : Int32) then (
   J_1 ()
  ) else (
  if (S.1 156 (ix p1)) = (114 : Int32) then (
   J_1 ()
  ) else (
  if (S.1 156 (ix p1)) = (118 : Int32) then (
   gd (inb v2_1 297) <|
   gd (inb (v2_1 + (1 : Int32)) 297) <|
   bd (f_X7_comesTold (S.1 158 (ix v2_1)) (S.1 158 (ix (v2_1 + (1 : Int32)))) S) (u2 fun r_4 S_4 =>
    some (r_4, S_4)
   )
  ) else (
   bd (f_X7_comesQuestion (S.1 156 (ix p1)) v2_1 S) (u2 fun r_5 S_5 =>
    some (r_5, S_5)
   )
  )))))
def L_X7_notFree_4 (S : Sg) : Nat → Int32 → Int32 → Option (Int32)
  | 0, _, _ => none
  | n + 1, v1, v2 =>
  if v2 < (S.1 140 7) then (
   bd (f_X7_isFree v2 S) fun r_1 =>
   lt (if r_1 = 0 then (isl (1 : Int32) v2) else (0 : Int32)) fun x_1 =>
   lt ((v1 ||| x_1)) fun v1_1 =>
   lt (v2 + (1 : Int32)) fun v2_1 =>
   L_X7_notFree_4 S n v1_1 v2_1
  ) else (
   some v1
  )
def f_X7_notFree (S : Sg) : Option Int32 :=
  bd (L_X7_notFree_4 S 400 (0 : Int32) (0 : Int32)) (fun v1_1 => (
   some v1_1
  ))
def f_X7_count (p1 : Int32) (S : Sg) : Option Int32 :=
  if (f_X7_isIn p1 (11 : Int32) (16 : Int32)) = 0 then (
   if p1 = (0 : Int32) then (
    some (S.1 140 8)
   ) else (
   if p1 = (1 : Int32) then (
    some (S.1 140 7)
   ) else (
   if p1 = (2 : Int32) then (
    some (S.1 140 9)
   ) else (
   if p1 = (3 : Int32) then (
    some (S.1 140 10)
   ) else (
   if p1 = (4 : Int32) then (
    bd (f_X7_notFree S) fun r_1 =>
    some r_1
   ) else (
   if p1 = (5 : Int32) then (
    bd (f_X7_allValues S) fun r_2 =>
    some r_2
   ) else (
   if p1 = (6 : Int32) then (
    some (S.1 140 39)
   ) else (
   if p1 = (7 : Int32) then (
    some (S.1 140 28)
   ) else (
    some (-9 : Int32)
   ))))))))
  ) else (
   gd (inb (p1 - (10 : Int32)) 7) <|
   some (S.1 141 (ix (p1 - (10 : Int32))))
  )
def f_X7_draw (p1 : Int32) (S : Sg) : Option (Int32 × Sg) :=
  lt (setI S 140 40 (((S.1 140 40) * (1664525 : Int32)) + (1013904223 : Int32))) fun S_1 =>
  gd (nz p1) <|
  some ((irem (((S_1.1 140 40) &&& (2147483647 : Int32)) / (256 : Int32)) p1), S_1)
def f_X7_passOne (p1 : Int32) (S : Sg) : Option (Int32 × Sg) :=
  lt (fun (x_1 : Int32) => (
   if (S.1 140 22) = 0 then (
    lt (setI S 140 23 ((S.1 140 23) + (1 : Int32))) fun S_1 =>
    some (x_1, S_1)
   ) else (
    gd (inb (S.1 140 23) 456) <|
    lt (setI S 154 (ix (S.1 140 23)) p1) fun S_2 =>
    lt (setI S_2 140 23 ((S_2.1 140 23) + (1 : Int32))) fun S_3 =>
    some (x_1, S_3)
   )
  )) fun J_1 =>
  if (S.1 140 22) = 0 then (
   gd (inb (S.1 140 23) 456) <|
   J_1 (S.1 154 (ix (S.1 140 23)))
  ) else (
   J_1 p1
  )
def L_X7_passes_2 (a1 : Nat) (n1 : Nat) : Nat → Int32 → Sg → Option (Sg)
  | 0, _, _ => none
  | n + 1, v2, S =>
  if v2 < (Int32.ofNat n1) then (
   if (S.1 140 22) = 0 then (
    gd (inb (S.1 140 23) 456) <|
    gd (inb v2 n1) <|
    lt (setI S a1 (ix v2) (S.1 154 (ix (S.1 140 23)))) fun S_1 =>
    lt (setI S_1 140 23 ((S_1.1 140 23) + (1 : Int32))) fun S_2 =>
    lt (v2 + (1 : Int32)) fun v2_1 =>
    L_X7_passes_2 a1 n1 n v2_1 S_2
   ) else (
    gd (inb v2 n1) <|
    gd (inb (S.1 140 23) 456) <|
    lt (setI S 154 (ix (S.1 140 23)) (S.1 a1 (ix v2))) fun S_3 =>
    lt (setI S_3 140 23 ((S_3.1 140 23) + (1 : Int32))) fun S_4 =>
    lt (v2 + (1 : Int32)) fun v2_2 =>
    L_X7_passes_2 a1 n1 n v2_2 S_4
   )
  ) else (
   some S
  )
def f_X7_passes (a1 : Nat) (n1 : Nat) (S : Sg) : Option Sg :=
  bd (L_X7_passes_2 a1 n1 400 (0 : Int32) S) (fun S_1 => (
   some S_1
  ))
def f_X7_passesAll (p1 : Int32) (p2 : Int32) (S : Sg) : Option Sg :=
  lt (setI S 140 23 ((152 : Int32) * p1)) fun S_1 =>
  gd (isb p2) <|
  lt (setI S_1 140 22 p2) fun S_2 =>
  bd (f_X7_passes 142 10 S_2) fun S_3 =>
  bd (f_X7_passes 143 10 S_3) fun S_4 =>
  bd (f_X7_passes 144 10 S_4) fun S_5 =>
  bd (f_X7_passes 145 8 S_5) fun S_6 =>
  bd (f_X7_passes 146 100 S_6) fun S_7 =>
  bd (f_X7_passes 147 10 S_7) fun S_8 =>
  bd (f_X7_passOne (S_8.1 140 7) S_8) (u2 fun r_1 S_9 =>
   lt (setI S_9 140 7 r_1) fun S_10 =>
   bd (f_X7_passOne (S_10.1 140 8) S_10) (u2 fun r_2 S_11 =>
    lt (setI S_11 140 8 r_2) fun S_12 =>
    bd (f_X7_passOne (S_12.1 140 9) S_12) (u2 fun r_3 S_13 =>
     lt (setI S_13 140 9 r_3) fun S_14 =>
     bd (f_X7_passOne (S_14.1 140 10) S_14) (u2 fun r_4 S_15 =>
      lt (setI S_15 140 10 r_4) fun S_16 =>
      some S_16
     )
    )
   )
  )
def f_X7_forgets (S : Sg) : Option Sg :=
  bd (f_X7_passesAll (2 : Int32) (0 : Int32) S) fun S_1 =>
  some S_1
def f_X7_getsFor (p1 : Int32) (S : Sg) : Option (Int32 × Sg) :=
  bd (f_X7_asksSum p1 S) (u2 fun r_1 S_1 =>
   lt (if r_1 = (1 : Int32) then (3 : Int32) else (if r_1 = 0 then (1 : Int32) else (-1 : Int32))) fun x_1 =>
   some (x_1, S_1)
  )
def f_X7_minds (S : Sg) : Option Sg :=
  bd (f_X7_passesAll (2 : Int32) (1 : Int32) S) fun S_1 =>
  some S_1
def L_X7_findEnds_2 (v1 : Int32) (v2 : Int32) : Nat → Int32 → Sg → Option (Sg)
  | 0, _, _ => none
  | n + 1, v3, S =>
  if v3 < (4 : Int32) then (
   bd (f_X7_minds S) fun S_1 =>
   lt (fun (x_1 : Int32) (S_2 : Sg) => (
    gd (inb ((2 : Int32) * v3) 8) <|
    lt (setI S_2 164 (ix ((2 : Int32) * v3)) x_1) fun S_3 =>
    if (irem v3 (2 : Int32)) = (1 : Int32) then (
     bd (f_X7_getsFor v2 S_3) (u2 fun r_1 S_6 =>
      gd (inb (((2 : Int32) * v3) + (1 : Int32)) 8) <|
      lt (setI S_6 164 (ix (((2 : Int32) * v3) + (1 : Int32))) r_1) fun S_7 =>
      bd (f_X7_forgets S_7) fun S_8 =>
      lt (v3 + (1 : Int32)) fun v3_2 =>
      L_X7_findEnds_2 v1 v2 n v3_2 S_8
     )
    ) else (
     gd (inb (((2 : Int32) * v3) + (1 : Int32)) 8) <|
     lt (setI S_3 164 (ix (((2 : Int32) * v3) + (1 : Int32))) (0 : Int32)) fun S_4 =>
     bd (f_X7_forgets S_4) fun S_5 =>
     lt (v3 + (1 : Int32)) fun v3_1 =>
     L_X7_findEnds_2 v1 v2 n v3_1 S_5
    )
   )) fun J_1 =>
   if (v3 / (2 : Int32)) = (1 : Int32) then (
    bd (f_X7_getsFor v1 S_1) (u2 fun r_2 S_9 =>
     J_1 r_2 S_9
    )
   ) else (
    J_1 (0 : Int32) S_1
   )
  ) else (
   some S
  )
def f_X7_findEnds (p1 : Int32) (p2 : Int32) (S : Sg) : Option Sg :=
  bd (L_X7_findEnds_2 p1 p2 400 (0 : Int32) S) (fun S_1 => (
   some S_1
  ))
def L_X7_firstToJoin_2 (S : Sg) : Nat → Int32 → Option (Int32 ⊕ (Unit))
  | 0, _ => none
  | n + 1, v1 =>
  if (255 : Int32) < v1 then (
   some (.inr ())
  ) else (
   gd (inb v1 256) <|
   if (S.1 159 (ix v1)) = (1 : Int32) then (
    some (.inl v1)
   ) else (
    lt (v1 + (1 : Int32)) fun v1_1 =>
    L_X7_firstToJoin_2 S n v1_1
   )
  )
def f_X7_firstToJoin (S : Sg) : Option Int32 :=
  bs (L_X7_firstToJoin_2 S 400 (1 : Int32)) (fun q => some q) (fun _ => (
   some (-9 : Int32)
  ))
def f_X7_letterNow (S : Sg) : Option Int32 :=
  if (S.1 140 29) < (S.1 140 28) then (
   gd (inb (S.1 140 29) 96) <|
   some (S.1 155 (ix (S.1 140 29)))
  ) else (
   some (-1 : Int32)
  )
def L_X7_readsDigits_4 (v1 : Int32) : Nat → Int32 → Int32 → Sg → Option ((Int32 × Sg) ⊕ (Int32 × Sg))
  | 0, _, _, _ => none
  | n + 1, v2, v3, S =>
  if v3 < v1 then (
   bd (f_X7_letterNow S) fun r_1 =>
   if (f_X7_isIn r_1 (48 : Int32) (57 : Int32)) = 0 then (
    some (.inl ((0 : Int32), S))
   ) else (
    bd (f_X7_letterNow S) fun r_2 =>
    lt (((((10 : Int32) * v2) + r_2) - (48 : Int32))) fun v2_1 =>
    lt (setI S 140 29 ((S.1 140 29) + (1 : Int32))) fun S_1 =>
    lt (v3 + (1 : Int32)) fun v3_1 =>
    L_X7_readsDigits_4 v1 n v2_1 v3_1 S_1
   )
  ) else (
   some (.inr (v2, S))
  )
def f_X7_readsDigits (p1 : Int32) (S : Sg) : Option (Int32 × Sg) :=
  bs (L_X7_readsDigits_4 p1 400 (0 : Int32) (0 : Int32) S) (fun q => some q) (u2 fun v2_1 S_1 => (
   gd (inb (S_1.1 140 31) 297) <|
   lt (setI S_1 158 (ix (S_1.1 140 31)) v2_1) fun S_2 =>
   lt (setI S_2 140 31 ((S_2.1 140 31) + (1 : Int32))) fun S_3 =>
   some ((1 : Int32), S_3)
  ))
def L_X7_readsMany_2 (v1 : Int32) : Nat → Int32 → Sg → Option ((Int32 × Sg) ⊕ (Sg))
  | 0, _, _ => none
  | n + 1, v2, S =>
  if v2 < v1 then (
   bd (f_X7_readsDigits (1 : Int32) S) (u2 fun r_1 S_1 =>
    if r_1 = 0 then (
     some (.inl ((0 : Int32), S_1))
    ) else (
     lt (v2 + (1 : Int32)) fun v2_1 =>
     L_X7_readsMany_2 v1 n v2_1 S_1
    )
   )
  ) else (
   some (.inr S)
  )
def f_X7_readsMany (p1 : Int32) (S : Sg) : Option (Int32 × Sg) :=
  bs (L_X7_readsMany_2 p1 400 (0 : Int32) S) (fun q => some q) (fun S_1 => (
   some ((1 : Int32), S_1)
  ))
def f_X7_readsAll (p1 : Int32) (S : Sg) : Option (Int32 × Sg) :=
  lt (fun (_ : Unit) => (
   bd (f_X7_readsDigits (1 : Int32) S) (u2 fun r_1 S_1 =>
    if r_1 = 0 then (
     some ((0 : Int32), S_1)
    ) else (
     bd (f_X7_readsDigits (2 : Int32) S_1) (u2 fun r_2 S_2 =>
      lt (if r_2 = 0 then (0 : Int32) else (1 : Int32)) fun x_1 =>
      some (x_1, S_2)
     )
    )
   )
  )) fun J_1 =>
  if p1 = (98 : Int32) then (
   bd (f_X7_readsDigits (2 : Int32) S) (u2 fun r_3 S_3 =>
    if r_3 = 0 then (
     some ((0 : Int32), S_3)
    ) else (
     bd (f_X7_readsDigits (2 : Int32) S_3) (u2 fun r_4 S_4 =>
      if r_4 = 0 then (
       some ((0 : Int32), S_4)
      ) else (
       bd (f_X7_readsDigits (2 : Int32) S_4) (u2 fun r_5 S_5 =>
        lt (if r_5 = 0 then (0 : Int32) else (1 : Int32)) fun x_2 =>
        some (x_2, S_5)
       )
      )
     )
    )
   )
  ) else (
  if p1 = (99 : Int32) then (
   J_1 ()
  ) else (
  if p1 = (108 : Int32) then (
   bd (f_X7_readsDigits (2 : Int32) S) (u2 fun r_6 S_6 =>
    some (r_6, S_6)
   )
  ) else (
  if p1 = (114 : Int32) then (
   bd (f_X7_readsDigits (1 : Int32) S) (u2 fun r_7 S_7 =>
    some (r_7, S_7)
   )
  ) else (
  if p1 = (118 : Int32) then (
   J_1 ()
  ) else (
  if p1 = (119 : Int32) then (
   bd (f_X7_readsMany (9 : Int32) S) (u2 fun r_8 S_8 =>
    some (r_8, S_8)
   )
  ) else (
   bd (f_X7_readsMany (8 : Int32) S) (u2 fun r_9 S_9 =>
    some (r_9, S_9)
   )
  ))))))
def f_X7_statement (S : Sg) : Option (Int32 × Sg) :=
  bd (f_X7_letterNow S) fun r_1 =>
  lt (fun (_ : Unit) => (
   gd (inb (S.1 140 30) 33) <|
   lt (setI S 156 (ix (S.1 140 30)) r_1) fun S_1 =>
   gd (inb (S_1.1 140 30) 33) <|
   lt (setI S_1 157 (ix (S_1.1 140 30)) (S_1.1 140 29)) fun S_2 =>
   lt (setI S_2 140 31 ((9 : Int32) * (S_2.1 140 30))) fun S_3 =>
   lt (setI S_3 140 29 ((S_3.1 140 29) + (1 : Int32))) fun S_4 =>
   bd (f_X7_readsAll r_1 S_4) (u2 fun r_2 S_5 =>
    if r_2 = 0 then (
     some ((0 : Int32), S_5)
    ) else (
     bd (f_X7_letterNow S_5) fun r_3 =>
     if r_3 = (59 : Int32) then (
      lt (setI S_5 140 29 ((S_5.1 140 29) + (1 : Int32))) fun S_6 =>
      some ((1 : Int32), S_6)
     ) else (
      some ((0 : Int32), S_5)
     )
    )
   )
  )) fun J_1 =>
  if r_1 = (118 : Int32) then (
   J_1 ()
  ) else (
   if r_1 = (99 : Int32) then (
    J_1 ()
   ) else (
    if r_1 = (98 : Int32) then (
     J_1 ()
    ) else (
     if r_1 = (114 : Int32) then (
      J_1 ()
     ) else (
      if r_1 = (108 : Int32) then (
       J_1 ()
      ) else (
       if r_1 = (115 : Int32) then (
        J_1 ()
       ) else (
        if r_1 = (100 : Int32) then (
         J_1 ()
        ) else (
         if r_1 = (119 : Int32) then (
          J_1 ()
         ) else (
          some ((0 : Int32), S)
         )
        )
       )
      )
     )
    )
   )
  )
def L_X7_guard_12 : Nat → Int32 → Sg → Option (Int32 × Sg)
  | 0, _, _ => none
  | n + 1, v1, S =>
  if v1 = 0 then (
   some (v1, S)
  ) else (
   lt (fun (_ : Unit) => (
    bd (f_X7_statement S) (u2 fun r_1 S_1 =>
     lt (if r_1 = 0 then (0 : Int32) else (1 : Int32)) fun x_1 =>
     lt (setI S_1 140 30 ((S_1.1 140 30) + x_1)) fun S_2 =>
     L_X7_guard_12 n r_1 S_2
    )
   )) fun J_1 =>
   if (S.1 140 29) < (S.1 140 28) then (
    J_1 ()
   ) else (
    if (S.1 140 30) = 0 then (
     J_1 ()
    ) else (
     some (v1, S)
    )
   )
  )
def L_X7_guard_86 : Nat → Int32 → Sg → Option ((Int32 × Sg) ⊕ (Sg))
  | 0, _, _ => none
  | n + 1, v2, S =>
  if v2 < (S.1 140 30) then (
   bd (f_X7_comes v2 S) (u2 fun r_1 S_1 =>
    if r_1 = 0 then (
     bd (f_X7_passesAll (1 : Int32) (0 : Int32) S_1) fun S_2 =>
     gd (inb v2 33) <|
     some (.inl (((-2000 : Int32) - (S_2.1 157 (ix v2))), S_2))
    ) else (
     lt (v2 + (1 : Int32)) fun v2_1 =>
     L_X7_guard_86 n v2_1 S_1
    )
   )
  ) else (
   some (.inr S)
  )
def f_X7_guard (S : Sg) : Option (Int32 × Sg) :=
  lt (setI S 140 29 (0 : Int32)) fun S_1 =>
  lt (setI S_1 140 30 (0 : Int32)) fun S_2 =>
  bd (L_X7_guard_12 400 (1 : Int32) S_2) (u2 fun v1_1 S_3 => (
   lt (setI S_3 140 28 (0 : Int32)) fun S_4 =>
   if v1_1 = 0 then (
    some (((-1000 : Int32) - (S_4.1 140 29)), S_4)
   ) else (
    bd (f_X7_passesAll (1 : Int32) (1 : Int32) S_4) fun S_5 =>
    bs (L_X7_guard_86 400 (0 : Int32) S_5) (fun q => some q) (fun S_6 => (
     some ((S_6.1 140 30), S_6)
    ))
   )
  ))
def f_X7_image (S : Sg) : Option (Int32 × Sg) :=
  lt (setI S 140 21 (1 : Int32)) fun S_1 =>
  bd (f_X7_passesAll (0 : Int32) (1 : Int32) S_1) fun S_2 =>
  some ((S_2.1 140 8), S_2)
def L_X7_isMetSo_2 (v1 : Int32) (v2 : Int32) : Nat → Int32 → Sg → Option ((Int32 × Sg) ⊕ (Sg))
  | 0, _, _ => none
  | n + 1, v3, S =>
  if v3 < (S.1 140 39) then (
   gd (inb v3 32) <|
   bd (f_X7_asks (0 : Int32) (S.1 165 (ix v3)) (0 : Int32) S) fun S_1 =>
   bd (f_X7_meetsBy v1 v2 S_1) (u2 fun r_1 S_2 =>
    gd (inb (v3 + (1 : Int32)) 32) <|
    if r_1 = (S_2.1 165 (ix (v3 + (1 : Int32)))) then (
     lt (v3 + (2 : Int32)) fun v3_1 =>
     L_X7_isMetSo_2 v1 v2 n v3_1 S_2
    ) else (
     some (.inl ((0 : Int32), S_2))
    )
   )
  ) else (
   some (.inr S)
  )
def f_X7_isMetSo (p1 : Int32) (p2 : Int32) (S : Sg) : Option (Int32 × Sg) :=
  bs (L_X7_isMetSo_2 p1 p2 400 (0 : Int32) S) (fun q => some q) (fun S_1 => (
   some ((1 : Int32), S_1)
  ))
def f_X7_isOrder (p0 : Int32) : Option Int32 :=
  lt (if (p0 / (100 : Int32)) < (3 : Int32) then (if (irem (p0 / (10 : Int32)) (10 : Int32)) < (3 : Int32) then (if (irem p0 (10 : Int32)) < (3 : Int32) then (if (((isl (1 : Int32) (p0 / (100 : Int32))) ||| (isl (1 : Int32) (irem (p0 / (10 : Int32)) (10 : Int32)))) ||| (isl (1 : Int32) (irem p0 (10 : Int32)))) = (7 : Int32) then (1 : Int32) else (0 : Int32)) else (0 : Int32)) else (0 : Int32)) else (0 : Int32)) fun x_1 =>
  some x_1
def L_X7_isRowQuestions_2 (S : Sg) : Nat → Int32 → Option (Int32 ⊕ (Unit))
  | 0, _ => none
  | n + 1, v1 =>
  if v1 < (S.1 140 39) then (
   gd (inb v1 32) <|
   if (S.1 165 (ix v1)) = 0 then (
    some (.inl (0 : Int32))
   ) else (
    lt (v1 + (2 : Int32)) fun v1_1 =>
    L_X7_isRowQuestions_2 S n v1_1
   )
  ) else (
   some (.inr ())
  )
def f_X7_isRowQuestions (S : Sg) : Option Int32 :=
  bs (L_X7_isRowQuestions_2 S 400 (0 : Int32)) (fun q => some q) (fun _ => (
   lt (if (irem (S.1 140 39) (2 : Int32)) = 0 then (1 : Int32) else (0 : Int32)) fun x_1 =>
   some x_1
  ))
def f_X7_joinsIn (p1 : Int32) (S : Sg) : Option (Int32 × Sg) :=
  bd (f_X7_minds S) fun S_1 =>
  gd (inb (p1 / (100 : Int32)) 3) <|
  bd (f_X7_asksSum (S_1.1 163 (ix (p1 / (100 : Int32)))) S_1) (u2 fun r_1 S_2 =>
   lt (if r_1 = (1 : Int32) then (1 : Int32) else (0 : Int32)) fun x_1 =>
   gd (inb (irem (p1 / (10 : Int32)) (10 : Int32)) 3) <|
   bd (f_X7_asksSum (S_2.1 163 (ix (irem (p1 / (10 : Int32)) (10 : Int32)))) S_2) (u2 fun r_2 S_3 =>
    lt (if r_2 = (1 : Int32) then (1 : Int32) else (0 : Int32)) fun x_2 =>
    lt ((x_1 + x_2)) fun v2_1 =>
    gd (inb (irem p1 (10 : Int32)) 3) <|
    bd (f_X7_asksSum (S_3.1 163 (ix (irem p1 (10 : Int32)))) S_3) (u2 fun r_3 S_4 =>
     lt (if r_3 = (1 : Int32) then (1 : Int32) else (0 : Int32)) fun x_3 =>
     lt ((v2_1 + x_3)) fun v2_2 =>
     bd (f_X7_forgets S_4) fun S_5 =>
     some (v2_2, S_5)
    )
   )
  )
def L_X7_judge_12 (v1 : Int32) (S : Sg) : Nat → Int32 → Option ((Int32 × Sg) ⊕ (Unit))
  | 0, _ => none
  | n + 1, v2 =>
  if v2 < (S.1 140 8) then (
   bd (f_X7_answerBy v2 v1 S) fun r_1 =>
   gd (inb v2 10) <|
   if r_1 = (S.1 147 (ix v2)) then (
    lt (v2 + (1 : Int32)) fun v2_1 =>
    L_X7_judge_12 v1 S n v2_1
   ) else (
    some (.inl (v2, S))
   )
  ) else (
   some (.inr ())
  )
def f_X7_judge (S : Sg) : Option (Int32 × Sg) :=
  lt ((S.1 140 39)) fun v1_1 =>
  lt (setI S 140 39 (0 : Int32)) fun S_1 =>
  bs (L_X7_judge_12 v1_1 S_1 400 (0 : Int32)) (fun q => some q) (fun _ => (
   some ((-9 : Int32), S_1)
  ))
def f_X7_width (p1 : Int32) (S : Sg) : Option Int32 :=
  gd (inb p1 10) <|
  some (((S.1 162 (ix p1)) - (S.1 161 (ix p1))) + (1 : Int32))
def L_X7_knownNow_4 (S : Sg) : Nat → Int32 → Int32 → Option (Int32)
  | 0, _, _ => none
  | n + 1, v1, v2 =>
  if v2 < (S.1 140 7) then (
   bd (f_X7_width v2 S) fun r_1 =>
   lt (if r_1 = (1 : Int32) then (isl (1 : Int32) v2) else (0 : Int32)) fun x_1 =>
   lt ((v1 ||| x_1)) fun v1_1 =>
   lt (v2 + (1 : Int32)) fun v2_1 =>
   L_X7_knownNow_4 S n v1_1 v2_1
  ) else (
   some v1
  )
def f_X7_knownNow (S : Sg) : Option Int32 :=
  bd (L_X7_knownNow_4 S 400 (0 : Int32) (0 : Int32)) (fun v1_1 => (
   some v1_1
  ))
def L_X7_narrowsOne_27 (v1 : Int32) (v2 : Int32) (v3 : Int32) (S : Sg) : Nat → Int32 → Int32 → Int32 → Option (Int32 × Int32)
  | 0, _, _, _ => none
  | n + 1, v4, v5, v6 =>
  if v6 < (10 : Int32) then (
   lt (fun (x_1 : Int32) => (
    lt (fun (x_2 : Int32) => (
     lt ((v4 + (x_1 * x_2))) fun v4_1 =>
     if 0 < x_1 then (
      gd (inb v6 10) <|
      lt ((v5 + (x_1 * (S.1 161 (ix v6))))) fun v5_2 =>
      lt (v6 + (1 : Int32)) fun v6_2 =>
      L_X7_narrowsOne_27 v1 v2 v3 S n v4_1 v5_2 v6_2
     ) else (
      gd (inb v6 10) <|
      lt ((v5 + (x_1 * (S.1 162 (ix v6))))) fun v5_1 =>
      lt (v6 + (1 : Int32)) fun v6_1 =>
      L_X7_narrowsOne_27 v1 v2 v3 S n v4_1 v5_1 v6_1
     )
    )) fun J_2 =>
    if 0 < x_1 then (
     gd (inb v6 10) <|
     J_2 (S.1 162 (ix v6))
    ) else (
     gd (inb v6 10) <|
     J_2 (S.1 161 (ix v6))
    )
   )) fun J_1 =>
   if v6 = v2 then (
    J_1 (0 : Int32)
   ) else (
    gd (inb (((10 : Int32) * v1) + v6) 100) <|
    J_1 (S.1 146 (ix (((10 : Int32) * v1) + v6)))
   )
  ) else (
   some (v4, v5)
  )
def f_X7_narrowsOne (p1 : Int32) (p2 : Int32) (S : Sg) : Option (Int32 × Sg) :=
  gd (inb (((10 : Int32) * p1) + p2) 100) <|
  lt ((S.1 146 (ix (((10 : Int32) * p1) + p2)))) fun v3_1 =>
  if v3_1 = 0 then (
   some ((0 : Int32), S)
  ) else (
   bd (L_X7_narrowsOne_27 p1 p2 v3_1 S 400 (0 : Int32) (0 : Int32) (0 : Int32)) (u2 fun v4_1 v5_1 => (
    gd (inb p1 10) <|
    lt (((S.1 147 (ix p1)) - v4_1)) fun v6_1 =>
    lt (((S.1 147 (ix p1)) - v5_1)) fun v7_1 =>
    lt (fun (x_1 : Int32) => (
     lt (fun (x_2 : Int32) => (
      gd (inb p2 10) <|
      lt (if (S.1 161 (ix p2)) < x_1 then (1 : Int32) else (if x_2 < (S.1 162 (ix p2)) then (1 : Int32) else (0 : Int32))) fun x_3 =>
      lt (if (S.1 161 (ix p2)) < x_1 then x_1 else (S.1 161 (ix p2))) fun x_4 =>
      lt (setI S 161 (ix p2) x_4) fun S_1 =>
      lt (if x_2 < (S_1.1 162 (ix p2)) then x_2 else (S_1.1 162 (ix p2))) fun x_5 =>
      lt (setI S_1 162 (ix p2) x_5) fun S_2 =>
      some (x_3, S_2)
     )) fun J_2 =>
     if 0 < v3_1 then (
      bd (f_X7_below v7_1 v3_1) fun r_2 =>
      J_2 r_2
     ) else (
      bd (f_X7_below (-v6_1) (-v3_1)) fun r_1 =>
      J_2 r_1
     )
    )) fun J_1 =>
    if 0 < v3_1 then (
     bd (f_X7_above v6_1 v3_1) fun r_4 =>
     J_1 r_4
    ) else (
     bd (f_X7_above (-v7_1) (-v3_1)) fun r_3 =>
     J_1 r_3
    )
   ))
  )
def L_X7_narrows_2 : Nat → Int32 → Sg → Option (Sg)
  | 0, _, _ => none
  | n + 1, v1, S =>
  if v1 < (10 : Int32) then (
   gd (inb v1 10) <|
   lt (setI S 161 (ix v1) (S.1 143 (ix v1))) fun S_1 =>
   lt (setI S_1 162 (ix v1) (S_1.1 144 (ix v1))) fun S_2 =>
   lt (v1 + (1 : Int32)) fun v1_1 =>
   L_X7_narrows_2 n v1_1 S_2
  ) else (
   some S
  )
def L_X7_narrows_67 (v2 : Int32) (v3 : Int32) : Nat → Int32 → Int32 → Sg → Option (Int32 × Sg)
  | 0, _, _, _ => none
  | n + 1, v1, v4, S =>
  if v4 < (10 : Int32) then (
   bd (f_X7_narrowsOne v3 v4 S) (u2 fun r_1 S_1 =>
    lt ((v1 ||| r_1)) fun v1_1 =>
    lt (v4 + (1 : Int32)) fun v4_1 =>
    L_X7_narrows_67 v2 v3 n v1_1 v4_1 S_1
   )
  ) else (
   some (v1, S)
  )
def L_X7_narrows_56 (v2 : Int32) : Nat → Int32 → Int32 → Sg → Option (Int32 × Sg)
  | 0, _, _, _ => none
  | n + 1, v1, v3, S =>
  if v3 < (S.1 140 8) then (
   bd (L_X7_narrows_67 v2 v3 400 v1 (0 : Int32) S) (u2 fun v1_1 S_1 => (
    lt (v3 + (1 : Int32)) fun v3_1 =>
    L_X7_narrows_56 v2 n v1_1 v3_1 S_1
   ))
  ) else (
   some (v1, S)
  )
def L_X7_narrows_42 : Nat → Int32 → Int32 → Sg → Option (Sg)
  | 0, _, _, _ => none
  | n + 1, v1, v2, S =>
  if v2 < (60 : Int32) then (
   if v1 = 0 then (
    some S
   ) else (
    bd (L_X7_narrows_56 v2 400 (0 : Int32) (0 : Int32) S) (u2 fun v1_1 S_1 => (
     lt (v2 + (1 : Int32)) fun v2_1 =>
     L_X7_narrows_42 n v1_1 v2_1 S_1
    ))
   )
  ) else (
   some S
  )
def f_X7_narrows (S : Sg) : Option Sg :=
  bd (L_X7_narrows_2 400 (0 : Int32) S) (fun S_1 => (
   bd (L_X7_narrows_42 400 (1 : Int32) (0 : Int32) S_1) (fun S_2 => (
    some S_2
   ))
  ))
def f_X7_known (S : Sg) : Option (Int32 × Sg) :=
  bd (f_X7_narrows S) fun S_1 =>
  bd (f_X7_knownNow S_1) fun r_1 =>
  some (r_1, S_1)
def L_X7_narrowest_4 (S : Sg) : Nat → Int32 → Int32 → Option (Int32)
  | 0, _, _ => none
  | n + 1, v1, v2 =>
  if v2 < (S.1 140 7) then (
   bd (f_X7_width v2 S) fun r_1 =>
   bd (f_X7_width v1 S) fun r_2 =>
   lt (if r_1 < r_2 then v2 else v1) fun x_1 =>
   lt (v2 + (1 : Int32)) fun v2_1 =>
   L_X7_narrowest_4 S n x_1 v2_1
  ) else (
   some v1
  )
def f_X7_narrowest (S : Sg) : Option Int32 :=
  bd (L_X7_narrowest_4 S 400 (0 : Int32) (1 : Int32)) (fun v1_1 => (
   some v1_1
  ))
def f_X7_learns (p1 : Int32) (p2 : Int32) (p3 : Int32) (p4 : Int32) (S : Sg) : Option (Int32 × Sg) :=
  lt ((f_X7_notQuestion p1 p2 p3)) fun v5_1 =>
  lt (if v5_1 = 0 then (if (f_X7_isIn p4 (0 : Int32) (2 : Int32)) = 0 then (-2 : Int32) else v5_1) else v5_1) fun v5_2 =>
  if v5_2 = 0 then (
   bd (f_X7_minds S) fun S_1 =>
   bd (f_X7_asks p1 p2 p3 S_1) fun S_2 =>
   bd (f_X7_meetsNow S_2) (u2 fun r_1 S_3 =>
    lt (fun (S_4 : Sg) => (
     bd (f_X7_narrows S_4) fun S_5 =>
     bd (f_X7_narrowest S_5) fun r_2 =>
     if p4 = 0 then (
      bd (f_X7_width r_2 S_5) fun r_5 =>
      bd (f_X7_forgets S_5) fun S_8 =>
      some (r_5, S_8)
     ) else (
      if p4 = (1 : Int32) then (
       bd (f_X7_forgets S_5) fun S_7 =>
       some (r_2, S_7)
      ) else (
       bd (f_X7_knownNow S_5) fun r_3 =>
       bd (f_X7_bits r_3) fun r_4 =>
       bd (f_X7_forgets S_5) fun S_6 =>
       some (r_4, S_6)
      )
     )
    )) fun J_1 =>
    if r_1 = 0 then (
     J_1 S_3
    ) else (
     bd (f_X7_joins S_3) fun S_9 =>
     J_1 S_9
    )
   )
  ) else (
   bd (f_X7_no v5_2 S) (u2 fun r_6 S_10 =>
    some (r_6, S_10)
   )
  )
def f_X7_ledger (p1 : Int32) (p2 : Int32) (S : Sg) : Option (Int32 × Sg) :=
  if (f_X7_isRow p1 S) = 0 then (
   bd (f_X7_no (-1 : Int32) S) (u2 fun r_1 S_1 =>
    some (r_1, S_1)
   )
  ) else (
   if (f_X7_isVariable p2 S) = 0 then (
    bd (f_X7_no (-1 : Int32) S) (u2 fun r_2 S_2 =>
     some (r_2, S_2)
    )
   ) else (
    gd (inb (((10 : Int32) * p1) + p2) 100) <|
    some (((S.1 146 (ix (((10 : Int32) * p1) + p2))) + (100 : Int32)), S)
   )
  )
def f_X7_letter (p1 : Int32) (S : Sg) : Option (Int32 × Sg) :=
  lt ((f_X7_bound p1 (0 : Int32) (255 : Int32))) fun v2_1 =>
  lt (if v2_1 = 0 then (if (S.1 140 28) = (96 : Int32) then (-6 : Int32) else v2_1) else v2_1) fun v2_2 =>
  if v2_2 = 0 then (
   gd (inb (S.1 140 28) 96) <|
   lt (setI S 155 (ix (S.1 140 28)) p1) fun S_1 =>
   lt (setI S_1 140 28 ((S_1.1 140 28) + (1 : Int32))) fun S_2 =>
   some ((S_2.1 140 28), S_2)
  ) else (
   bd (f_X7_no v2_2 S) (u2 fun r_1 S_3 =>
    some (r_1, S_3)
   )
  )
def f_X7_limit (p1 : Int32) (S : Sg) : Option (Int32 × Sg) :=
  lt ((f_X7_bound p1 (0 : Int32) (10 : Int32))) fun v2_1 =>
  if v2_1 = 0 then (
   lt ((S.1 140 10)) fun v3_1 =>
   lt (setI S 140 10 p1) fun S_1 =>
   some (v3_1, S_1)
  ) else (
   bd (f_X7_no v2_1 S) (u2 fun r_1 S_2 =>
    some (r_1, S_2)
   )
  )
def L_X7_lots_63 (v1 : Int32) (v3 : Int32) (v6 : Int32) : Nat → Int32 → Int32 → Sg → Option (Int32 × Sg)
  | 0, _, _, _ => none
  | n + 1, v5, v7, S =>
  if v7 < (8 : Int32) then (
   bd (f_X7_draw (255 : Int32) S) (u2 fun r_1 S_1 =>
    bd (f_X7_asksSum ((1 : Int32) + r_1) S_1) (u2 fun r_2 S_2 =>
     lt (if v3 = 0 then (1 : Int32) else (2 : Int32)) fun x_1 =>
     lt (if r_2 = x_1 then (1 : Int32) else (0 : Int32)) fun x_2 =>
     lt ((v5 + x_2)) fun v5_1 =>
     lt (v7 + (1 : Int32)) fun v7_1 =>
     L_X7_lots_63 v1 v3 v6 n v5_1 v7_1 S_2
    )
   )
  ) else (
   some (v5, S)
  )
def L_X7_lots_50 (v1 : Int32) (v3 : Int32) : Nat → Int32 → Int32 → Sg → Option (Int32 × Sg)
  | 0, _, _, _ => none
  | n + 1, v5, v6, S =>
  if v6 < v1 then (
   bd (f_X7_minds S) fun S_1 =>
   bd (L_X7_lots_63 v1 v3 v6 400 v5 (0 : Int32) S_1) (u2 fun v5_1 S_2 => (
    bd (f_X7_forgets S_2) fun S_3 =>
    lt (v6 + (1 : Int32)) fun v6_1 =>
    L_X7_lots_50 v1 v3 n v5_1 v6_1 S_3
   ))
  ) else (
   some (v5, S)
  )
def f_X7_lots (p1 : Int32) (p2 : Int32) (p3 : Int32) (S : Sg) : Option (Int32 × Sg) :=
  lt ((f_X7_bound p1 (1 : Int32) (20 : Int32))) fun v4_1 =>
  lt (if v4_1 = 0 then (if (f_X7_isIn p3 (0 : Int32) (1 : Int32)) = 0 then (-2 : Int32) else v4_1) else v4_1) fun v4_2 =>
  if v4_2 = 0 then (
   lt (setI S 140 40 p2) fun S_1 =>
   bd (L_X7_lots_50 p1 p3 400 (0 : Int32) (0 : Int32) S_1) (u2 fun v5_1 S_2 => (
    some (v5_1, S_2)
   ))
  ) else (
   bd (f_X7_no v4_2 S) (u2 fun r_1 S_3 =>
    some (r_1, S_3)
   )
  )
def f_X7_partOf (p0 : Int64) (p1 : Int64) (p2 : Int32) : Option Int64 :=
  lt (if p2 = 0 then p0 else p1) fun x_1 =>
  bd (f_X7_divisor p0 p1) fun r_1 =>
  gd (nzJ r_1) <|
  some (x_1 / r_1)
def L_X7_mean_24 (v1 : Int32) (S : Sg) : Nat → Int32 → Int32 → Option (Int32)
  | 0, _, _ => none
  | n + 1, v2, v3 =>
  if v3 < (S.1 140 7) then (
   bd (f_X7_width v3 S) fun r_1 =>
   lt ((v2 + r_1)) fun v2_1 =>
   lt (v3 + (1 : Int32)) fun v3_1 =>
   L_X7_mean_24 v1 S n v2_1 v3_1
  ) else (
   some v2
  )
def f_X7_mean (p1 : Int32) (S : Sg) : Option (Int64 × Sg) :=
  if (f_X7_isIn p1 (0 : Int32) (1 : Int32)) = 0 then (
   bd (f_X7_lowestOf (-2 : Int32) S) (u2 fun r_2 S_2 =>
    some (r_2, S_2)
   )
  ) else (
   bd (f_X7_narrows S) fun S_1 =>
   bd (L_X7_mean_24 p1 S_1 400 (0 : Int32) (0 : Int32)) (fun v2_1 => (
    bd (f_X7_partOf v2_1.toInt64 ((S_1.1 140 7).toInt64) p1) fun r_1 =>
    some (r_1, S_1)
   ))
  )
def f_X7_on (S : Sg) : Option (Int32 × Sg) :=
  if (S.1 140 21) = 0 then (
   bd (f_X7_no (-3 : Int32) S) (u2 fun r_1 S_2 =>
    some (r_1, S_2)
   )
  ) else (
   bd (f_X7_passesAll (0 : Int32) (0 : Int32) S) fun S_1 =>
   some ((S_1.1 140 8), S_1)
  )
def L_X7_order_108 (v4 : Int32) : Nat → Int32 → Int32 → Int32 → Sg → Option (Int32 × Int32 × Sg)
  | 0, _, _, _, _ => none
  | n + 1, v6, v7, v8, S =>
  if v8 < (300 : Int32) then (
   bd (f_X7_isOrder v8) fun r_1 =>
   lt (fun (x_1 : Int32) (S_1 : Sg) => (
    lt (if v7 < x_1 then v8 else v6) fun v6_1 =>
    lt (if v7 < x_1 then x_1 else v7) fun v7_1 =>
    lt (v8 + (1 : Int32)) fun v8_1 =>
    L_X7_order_108 v4 n v6_1 v7_1 v8_1 S_1
   )) fun J_1 =>
   if r_1 = 0 then (
    J_1 (-9 : Int32) S
   ) else (
    bd (f_X7_joinsIn v8 S) (u2 fun r_2 S_2 =>
     J_1 r_2 S_2
    )
   )
  ) else (
   some (v6, v7, S)
  )
def f_X7_order (p1 : Int32) (p2 : Int32) (p3 : Int32) (p4 : Int32) (S : Sg) : Option (Int32 × Sg) :=
  lt (if p1 < (1 : Int32) then (-4 : Int32) else (if p2 < (1 : Int32) then (-4 : Int32) else (if p3 < (1 : Int32) then (-4 : Int32) else (if (255 : Int32) < p1 then (-6 : Int32) else (if (255 : Int32) < p2 then (-6 : Int32) else (if (255 : Int32) < p3 then (-6 : Int32) else (if (f_X7_isIn p4 (0 : Int32) (1 : Int32)) = 0 then (-2 : Int32) else (0 : Int32)))))))) fun x_1 =>
  if x_1 = 0 then (
   lt (setI S 163 (ix (0 : Int32)) p1) fun S_1 =>
   lt (setI S_1 163 (ix (1 : Int32)) p2) fun S_2 =>
   lt (setI S_2 163 (ix (2 : Int32)) p3) fun S_3 =>
   bd (L_X7_order_108 p4 400 (-9 : Int32) (-9 : Int32) (0 : Int32) S_3) (u3 fun v6_1 v7_1 S_4 => (
    lt (if p4 = 0 then v6_1 else v7_1) fun x_2 =>
    some (x_2, S_4)
   ))
  ) else (
   bd (f_X7_no x_1 S) (u2 fun r_1 S_5 =>
    some (r_1, S_5)
   )
  )
def f_X7_person (p1 : Int32) (p2 : Int32) (S : Sg) : Option (Int32 × Sg) :=
  if (f_X7_isPerson p1) = 0 then (
   bd (f_X7_no (-1 : Int32) S) (u2 fun r_3 S_2 =>
    some (r_3, S_2)
   )
  ) else (
   gd (inb p1 8) <|
   lt ((S.1 145 (ix p1))) fun v3_1 =>
   if p2 = (0 : Int32) then (
    gd (inb v3_1 10) <|
    some ((S.1 142 (ix v3_1)), S)
   ) else (
   if p2 = (1 : Int32) then (
    some (v3_1, S)
   ) else (
   if p2 = (2 : Int32) then (
    bd (f_X7_isFree v3_1 S) fun r_1 =>
    lt (if r_1 = 0 then (0 : Int32) else (1 : Int32)) fun x_1 =>
    some (x_1, S)
   ) else (
    bd (f_X7_no (-2 : Int32) S) (u2 fun r_2 S_1 =>
     some (r_2, S_1)
    )
   )))
  )
def L_X7_pivots_8 (S : Sg) : Nat → Int32 → Int32 → Option (Int32)
  | 0, _, _ => none
  | n + 1, v1, v2 =>
  if v2 < (S.1 140 19) then (
   gd (inb v2 11) <|
   lt ((v1 ||| (isl (1 : Int32) (S.1 153 (ix v2))))) fun v1_1 =>
   lt (v2 + (1 : Int32)) fun v2_1 =>
   L_X7_pivots_8 S n v1_1 v2_1
  ) else (
   some v1
  )
def f_X7_pivots (S : Sg) : Option (Int32 × Sg) :=
  bd (f_X7_builds S) fun S_1 =>
  bd (L_X7_pivots_8 S_1 400 (0 : Int32) (0 : Int32)) (fun v1_1 => (
   some (v1_1, S_1)
  ))
def f_X7_reduced (p1 : Int32) (p2 : Int32) (p3 : Int32) (S : Sg) : Option (Int64 × Sg) :=
  lt (if (f_X7_isRow p1 S) = 0 then (-1 : Int32) else (if (f_X7_isVariable p2 S) = 0 then (-1 : Int32) else (if (f_X7_isIn p3 (0 : Int32) (1 : Int32)) = 0 then (-2 : Int32) else (0 : Int32)))) fun x_1 =>
  if x_1 = 0 then (
   bd (f_X7_builds S) fun S_1 =>
   bd (f_X7_byPivots p1 S_1) fun r_1 =>
   gd (inb (((10 : Int32) * r_1) + p2) 110) <|
   gd (inb r_1 11) <|
   gd (inb (((10 : Int32) * r_1) + (S_1.1 153 (ix r_1))) 110) <|
   bd (f_X7_partOf (S_1.2 150 (ix (((10 : Int32) * r_1) + p2))) (S_1.2 150 (ix (((10 : Int32) * r_1) + (S_1.1 153 (ix r_1))))) p3) fun r_2 =>
   some (r_2, S_1)
  ) else (
   bd (f_X7_lowestOf x_1 S) (u2 fun r_3 S_2 =>
    some (r_3, S_2)
   )
  )
def f_X7_row (p1 : Int32) (S : Sg) : Option (Int32 × Sg) :=
  lt ((f_X7_bound p1 (0 : Int32) (255 : Int32))) fun v2_1 =>
  lt (if v2_1 = 0 then (if (S.1 140 39) = (32 : Int32) then (-6 : Int32) else v2_1) else v2_1) fun v2_2 =>
  if v2_2 = 0 then (
   gd (inb (S.1 140 39) 32) <|
   lt (setI S 165 (ix (S.1 140 39)) p1) fun S_1 =>
   lt (setI S_1 140 39 ((S_1.1 140 39) + (1 : Int32))) fun S_2 =>
   some ((S_2.1 140 39), S_2)
  ) else (
   bd (f_X7_no v2_2 S) (u2 fun r_1 S_3 =>
    some (r_1, S_3)
   )
  )
def f_X7_rule (p1 : Int32) (S : Sg) : Option (Int32 × Sg) :=
  if (f_X7_isIn p1 (0 : Int32) (3 : Int32)) = 0 then (
   bd (f_X7_no (-2 : Int32) S) (u2 fun r_1 S_2 =>
    some (r_1, S_2)
   )
  ) else (
   lt ((S.1 140 9)) fun v2_1 =>
   lt (setI S 140 9 p1) fun S_1 =>
   some (v2_1, S_1)
  )
def f_X7_share (p1 : Int32) (S : Sg) : Option (Int64 × Sg) :=
  if (f_X7_isIn p1 (0 : Int32) (1 : Int32)) = 0 then (
   bd (f_X7_lowestOf (-2 : Int32) S) (u2 fun r_2 S_2 =>
    some (r_2, S_2)
   )
  ) else (
   bd (f_X7_findSums S) fun S_1 =>
   bd (f_X7_partOf (((255 : Int32) - (S_1.1 160 (ix (2 : Int32)))).toInt64) (255 : Int64) p1) fun r_1 =>
   some (r_1, S_1)
  )
def f_X7_sums (p1 : Int32) (S : Sg) : Option (Int32 × Sg) :=
  if (f_X7_isIn p1 (0 : Int32) (3 : Int32)) = 0 then (
   bd (f_X7_no (-2 : Int32) S) (u2 fun r_2 S_2 =>
    some (r_2, S_2)
   )
  ) else (
   bd (f_X7_findSums S) fun S_1 =>
   if p1 = 0 then (
    bd (f_X7_firstToJoin S_1) fun r_1 =>
    some (r_1, S_1)
   ) else (
    lt (if p1 = (1 : Int32) then (S_1.1 160 (ix (1 : Int32))) else (if p1 = (2 : Int32) then (S_1.1 160 (ix (2 : Int32))) else (S_1.1 160 (ix (0 : Int32))))) fun x_1 =>
    some (x_1, S_1)
   )
  )
def f_X7_tells (p1 : Int32) (p2 : Int32) (S : Sg) : Option (Int32 × Sg) :=
  lt (if (f_X7_isPerson p1) = 0 then (-1 : Int32) else (f_X7_bound p2 (0 : Int32) (99 : Int32))) fun x_1 =>
  lt (fun (v3_1 : Int32) => (
   if v3_1 = 0 then (
    gd (inb p1 8) <|
    gd (inb (S.1 145 (ix p1)) 10) <|
    lt ((S.1 142 (ix (S.1 145 (ix p1))))) fun v4_1 =>
    bd (f_X7_isTold p1 p2 S) fun S_1 =>
    some (v4_1, S_1)
   ) else (
    bd (f_X7_no v3_1 S) (u2 fun r_1 S_2 =>
     some (r_1, S_2)
    )
   )
  )) fun J_1 =>
  if x_1 = 0 then (
   gd (inb p1 8) <|
   bd (f_X7_isFree (S.1 145 (ix p1)) S) fun r_2 =>
   lt (if r_2 = 0 then (-3 : Int32) else x_1) fun v3_2 =>
   J_1 v3_2
  ) else (
   J_1 x_1
  )
def L_X7_two_55 (S : Sg) : Nat → Int32 → Option ((Int32 × Sg) ⊕ (Unit))
  | 0, _ => none
  | n + 1, v4 =>
  if v4 < (4 : Int32) then (
   gd (inb ((2 : Int32) * (v4 ^^^ (2 : Int32))) 8) <|
   gd (inb ((2 : Int32) * v4) 8) <|
   if (S.1 164 (ix ((2 : Int32) * v4))) < (S.1 164 (ix ((2 : Int32) * (v4 ^^^ (2 : Int32))))) then (
    lt (v4 + (1 : Int32)) fun v4_1 =>
    L_X7_two_55 S n v4_1
   ) else (
    gd (inb (((2 : Int32) * (v4 ^^^ (1 : Int32))) + (1 : Int32)) 8) <|
    gd (inb (((2 : Int32) * v4) + (1 : Int32)) 8) <|
    if (S.1 164 (ix (((2 : Int32) * v4) + (1 : Int32)))) < (S.1 164 (ix (((2 : Int32) * (v4 ^^^ (1 : Int32))) + (1 : Int32)))) then (
     lt (v4 + (1 : Int32)) fun v4_2 =>
     L_X7_two_55 S n v4_2
    ) else (
     some (.inl ((((10 : Int32) * (v4 / (2 : Int32))) + (irem v4 (2 : Int32))), S))
    )
   )
  ) else (
   some (.inr ())
  )
def f_X7_two (p1 : Int32) (p2 : Int32) (S : Sg) : Option (Int32 × Sg) :=
  lt (if p1 < (1 : Int32) then (-4 : Int32) else (if p2 < (1 : Int32) then (-4 : Int32) else (if (255 : Int32) < p1 then (-6 : Int32) else (if (255 : Int32) < p2 then (-6 : Int32) else (0 : Int32))))) fun x_1 =>
  if x_1 = 0 then (
   bd (f_X7_findEnds p1 p2 S) fun S_1 =>
   bs (L_X7_two_55 S_1 400 (0 : Int32)) (fun q => some q) (fun _ => (
    some ((-9 : Int32), S_1)
   ))
  ) else (
   bd (f_X7_no x_1 S) (u2 fun r_1 S_2 =>
    some (r_1, S_2)
   )
  )
def f_X7_variable (p1 : Int32) (p2 : Int32) (S : Sg) : Option (Int32 × Sg) :=
  if (f_X7_isVariable p1 S) = 0 then (
   bd (f_X7_no (-1 : Int32) S) (u2 fun r_4 S_3 =>
    some (r_4, S_3)
   )
  ) else (
   bd (f_X7_narrows S) fun S_1 =>
   if p2 = (0 : Int32) then (
    gd (inb p1 10) <|
    some ((S_1.1 142 (ix p1)), S_1)
   ) else (
   if p2 = (1 : Int32) then (
    gd (inb p1 10) <|
    some ((S_1.1 143 (ix p1)), S_1)
   ) else (
   if p2 = (2 : Int32) then (
    gd (inb p1 10) <|
    some ((S_1.1 144 (ix p1)), S_1)
   ) else (
   if p2 = (3 : Int32) then (
    gd (inb p1 10) <|
    some ((S_1.1 161 (ix p1)), S_1)
   ) else (
   if p2 = (4 : Int32) then (
    gd (inb p1 10) <|
    some ((S_1.1 162 (ix p1)), S_1)
   ) else (
   if p2 = (5 : Int32) then (
    bd (f_X7_width p1 S_1) fun r_1 =>
    some (r_1, S_1)
   ) else (
   if p2 = (6 : Int32) then (
    bd (f_X7_isFree p1 S_1) fun r_2 =>
    lt (if r_2 = 0 then (0 : Int32) else (1 : Int32)) fun x_1 =>
    some (x_1, S_1)
   ) else (
    bd (f_X7_no (-2 : Int32) S_1) (u2 fun r_3 S_2 =>
     some (r_3, S_2)
    )
   )))))))
  )
def L_X7_which_47 (v1 : Int32) : Nat → Int32 → Int32 → Sg → Option (Int32 × Sg)
  | 0, _, _, _ => none
  | n + 1, v3, v4, S =>
  lt (if v1 = 0 then (4 : Int32) else (11 : Int32)) fun x_1 =>
  if v4 < x_1 then (
   lt (fun (x_2 : Int32) (S_1 : Sg) => (
    lt (if x_2 = 0 then (0 : Int32) else (isl (1 : Int32) v4)) fun x_3 =>
    lt ((v3 ||| x_3)) fun v3_1 =>
    lt (v4 + (1 : Int32)) fun v4_1 =>
    L_X7_which_47 v1 n v3_1 v4_1 S_1
   )) fun J_1 =>
   if v1 = 0 then (
    bd (f_X7_isMetSo v4 (S.1 140 10) S) (u2 fun r_2 S_3 =>
     J_1 r_2 S_3
    )
   ) else (
    bd (f_X7_isMetSo (S.1 140 9) v4 S) (u2 fun r_1 S_2 =>
     J_1 r_1 S_2
    )
   )
  ) else (
   some (v3, S)
  )
def f_X7_which (p1 : Int32) (S : Sg) : Option (Int32 × Sg) :=
  lt (fun (x_1 : Int32) => (
   if x_1 = 0 then (
    bd (f_X7_builds S) fun S_1 =>
    bd (L_X7_which_47 p1 400 (0 : Int32) (0 : Int32) S_1) (u2 fun v3_1 S_2 => (
     some (v3_1, S_2)
    ))
   ) else (
    bd (f_X7_no x_1 S) (u2 fun r_1 S_3 =>
     some (r_1, S_3)
    )
   )
  )) fun J_1 =>
  if (f_X7_isIn p1 (0 : Int32) (1 : Int32)) = 0 then (
   J_1 (-2 : Int32)
  ) else (
   bd (f_X7_isRowQuestions S) fun r_2 =>
   lt (if r_2 = 0 then (-3 : Int32) else (0 : Int32)) fun x_2 =>
   J_1 x_2
  )
def f_X7_would (p1 : Int32) (p2 : Int32) (p3 : Int32) (S : Sg) : Option (Int32 × Sg) :=
  lt ((f_X7_notQuestion p1 p2 p3)) fun v4_1 =>
  if v4_1 = 0 then (
   bd (f_X7_asks p1 p2 p3 S) fun S_1 =>
   bd (f_X7_meetsNow S_1) (u2 fun r_1 S_2 =>
    some (r_1, S_2)
   )
  ) else (
   bd (f_X7_no v4_1 S) (u2 fun r_2 S_3 =>
    some (r_2, S_3)
   )
  )
