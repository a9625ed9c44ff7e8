def f_J6_bitCount_0f7a4 (p0 : Int32) : Int32 :=
  lt ((p0 - ((iusr p0 (1 : Int32)) &&& (1431655765 : Int32)))) fun v0_1 =>
  lt (((v0_1 &&& (858993459 : Int32)) + ((iusr v0_1 (2 : Int32)) &&& (858993459 : Int32)))) fun v0_2 =>
  lt (((v0_2 + (iusr v0_2 (4 : Int32))) &&& (252645135 : Int32))) fun v0_3 =>
  lt ((v0_3 + (iusr v0_3 (8 : Int32)))) fun v0_4 =>
  lt ((v0_4 + (iusr v0_4 (16 : Int32)))) fun v0_5 =>
  (v0_5 &&& (63 : Int32))
def f_J9_abs_067f4 (p0 : Int64) : Int64 :=
  lt (if p0 < (0 : Int64) then (-p0) else p0) fun x_1 =>
  x_1
def f_J9_floorDiv_7cf53 (p0 : Int32) (p1 : Int32) : Option Int32 :=
  gd (nz p1) <|
  lt ((p0 / p1)) fun v2_1 =>
  if (p0 ^^^ p1) < 0 then (
   if (v2_1 * p1) = p0 then (
    some v2_1
   ) else (
    some (v2_1 - (1 : Int32))
   )
  ) else (
   some v2_1
  )
def f_J9_max_7cf53 (p0 : Int32) (p1 : Int32) : Int32 :=
  lt (if p0 < p1 then p1 else p0) fun x_1 =>
  x_1
def f_J9_min_7cf53 (p0 : Int32) (p1 : Int32) : Int32 :=
  lt (if p1 < p0 then p1 else p0) fun x_1 =>
  x_1
def f_X6_isWithin (p0 : Int32) (p1 : Int32) : Int32 :=
  lt (if p0 < 0 then (0 : Int32) else (if p0 < p1 then (1 : Int32) else (0 : Int32))) fun x_1 =>
  x_1
def f_X5_has (o : Nat) (p1 : Int32) (S : Sg) : Int32 :=
  lt (if (f_X6_isWithin p1 (S.1 o 4)) = 0 then (0 : Int32) else (if (f_X6_isWithin p1 (10 : Int32)) = 0 then (0 : Int32) else (1 : Int32))) fun x_1 =>
  x_1
def f_X5_takeBounds (o : Nat) (p1 : Int32) (p2 : Int32) (p3 : Int32) (S : Sg) : Option (Int32 × Sg) :=
  if (f_X5_has o p1 S) = 0 then (
   some ((0 : Int32), S)
  ) else (
   gd (inb p1 10) <|
   if (S.1 (o + 2) (ix p1)) < p2 then (
    some ((0 : Int32), S)
   ) else (
    if p3 < (S.1 (o + 2) (ix p1)) then (
     some ((0 : Int32), S)
    ) else (
     lt (setI S (o + 3) (ix p1) p2) fun S_1 =>
     lt (setI S_1 (o + 4) (ix p1) p3) fun S_2 =>
     some ((1 : Int32), S_2)
    )
   )
  )
def f_X6_refuse (p1 : Int32) (S : Sg) : Option (Int32 × Sg) :=
  lt (((-1 : Int32) - p1)) fun v2_1 =>
  if (f_X6_isWithin v2_1 (6 : Int32)) = 0 then (
   some (p1, S)
  ) else (
   gd (inb v2_1 6) <|
   lt (setI S 139 (ix v2_1) ((S.1 139 (ix v2_1)) + (1 : Int32))) fun S_1 =>
   some (p1, S_1)
  )
def f_X6_bounds (p1 : Int32) (p2 : Int32) (p3 : Int32) (S : Sg) : Option (Int32 × Sg) :=
  if (f_X5_has 1 p1 S) = 0 then (
   bd (f_X6_refuse (-1 : Int32) S) (u2 fun r_7 S_7 =>
    some (r_7, S_7)
   )
  ) else (
   if p2 < 0 then (
    bd (f_X6_refuse (-4 : Int32) S) (u2 fun r_1 S_1 =>
     some (r_1, S_1)
    )
   ) else (
    if p3 < 0 then (
     bd (f_X6_refuse (-4 : Int32) S) (u2 fun r_6 S_6 =>
      some (r_6, S_6)
     )
    ) else (
     if (99 : Int32) < p2 then (
      bd (f_X6_refuse (-6 : Int32) S) (u2 fun r_2 S_2 =>
       some (r_2, S_2)
      )
     ) else (
      if (99 : Int32) < p3 then (
       bd (f_X6_refuse (-6 : Int32) S) (u2 fun r_5 S_5 =>
        some (r_5, S_5)
       )
      ) else (
       bd (f_X5_takeBounds 1 p1 p2 p3 S) (u2 fun r_3 S_3 =>
        if r_3 = 0 then (
         bd (f_X6_refuse (-3 : Int32) S_3) (u2 fun r_4 S_4 =>
          some (r_4, S_4)
         )
        ) else (
         some ((1 : Int32), S_3)
        )
       )
      )
     )
    )
   )
  )
def f_X5_highOf (o : Nat) (p1 : Int32) (S : Sg) : Option Int32 :=
  if (f_X5_has o p1 S) = 0 then (
   some (0 : Int32)
  ) else (
   gd (inb p1 10) <|
   some (S.1 (o + 4) (ix p1))
  )
def f_X5_coefficient (o : Nat) (p1 : Int32) (p2 : Int32) (S : Sg) : Option Int32 :=
  if (f_X6_isWithin p1 (10 : Int32)) = 0 then (
   some (0 : Int32)
  ) else (
   if (f_X6_isWithin p2 (10 : Int32)) = 0 then (
    some (0 : Int32)
   ) else (
    gd (inb p1 10) <|
    gd (inb p2 10) <|
    some (S.1 ((o + 6) + ix p1) (ix p2))
   )
  )
def L_X5_isFree_2 (o : Nat) (v1 : Int32) (S : Sg) : Nat → Int32 → Option (Int32 ⊕ (Unit))
  | 0, _ => none
  | n + 1, v2 =>
  if v2 < (S.1 o 9) then (
   bd (f_X5_coefficient o v2 v1 S) fun r_1 =>
   if r_1 = 0 then (
    lt (v2 + (1 : Int32)) fun v2_1 =>
    L_X5_isFree_2 o v1 S n v2_1
   ) else (
    some (.inl (0 : Int32))
   )
  ) else (
   some (.inr ())
  )
def f_X5_isFree (o : Nat) (p1 : Int32) (S : Sg) : Option Int32 :=
  bs (L_X5_isFree_2 o p1 S 400 (0 : Int32)) (fun q => some q) (fun _ => (
   some (1 : Int32)
  ))
def f_X5_lowOf (o : Nat) (p1 : Int32) (S : Sg) : Option Int32 :=
  if (f_X5_has o p1 S) = 0 then (
   some (0 : Int32)
  ) else (
   gd (inb p1 10) <|
   some (S.1 (o + 3) (ix p1))
  )
def f_X5_valueOf (o : Nat) (p1 : Int32) (S : Sg) : Option Int32 :=
  if (f_X5_has o p1 S) = 0 then (
   some (0 : Int32)
  ) else (
   gd (inb p1 10) <|
   some (S.1 (o + 2) (ix p1))
  )
def f_X6_asNumber (p0 : Int32) : Int32 :=
  lt (if p0 = 0 then (0 : Int32) else (1 : Int32)) fun x_1 =>
  x_1
def f_X0_leastOf (o : Nat) (p1 : Int32) (S : Sg) : Option Int32 :=
  if (f_X6_isWithin p1 (10 : Int32)) = 0 then (
   some (0 : Int32)
  ) else (
   gd (inb p1 10) <|
   some (S.1 (o + 1) (ix p1))
  )
def f_X0_mostOf (o : Nat) (p1 : Int32) (S : Sg) : Option Int32 :=
  if (f_X6_isWithin p1 (10 : Int32)) = 0 then (
   some (0 : Int32)
  ) else (
   gd (inb p1 10) <|
   some (S.1 (o + 2) (ix p1))
  )
def f_X0_highEnd (o : Nat) (p1 : Int32) (p2 : Int32) (S : Sg) : Option Int32 :=
  if 0 < p1 then (
   bd (f_X0_mostOf o p2 S) fun r_2 =>
   some (p1 * r_2)
  ) else (
   bd (f_X0_leastOf o p2 S) fun r_1 =>
   some (p1 * r_1)
  )
def f_X0_lowEnd (o : Nat) (p1 : Int32) (p2 : Int32) (S : Sg) : Option Int32 :=
  if 0 < p1 then (
   bd (f_X0_leastOf o p2 S) fun r_2 =>
   some (p1 * r_2)
  ) else (
   bd (f_X0_mostOf o p2 S) fun r_1 =>
   some (p1 * r_1)
  )
def f_X0_narrowOne (o : Nat) (p1 : Int32) (p2 : Int32) (p3 : Int32) (p4 : Int32) (S : Sg) : Option (Int32 × Sg) :=
  if (f_X6_isWithin p1 (10 : Int32)) = 0 then (
   some ((0 : Int32), S)
  ) else (
   if p2 = 0 then (
    some ((0 : Int32), S)
   ) else (
    lt (if 0 < p2 then (-p3) else (-p4)) fun x_1 =>
    bd (f_J9_floorDiv_7cf53 x_1 p2) fun r_1 =>
    lt ((-r_1)) fun v5_1 =>
    lt (if 0 < p2 then p4 else p3) fun x_2 =>
    bd (f_J9_floorDiv_7cf53 x_2 p2) fun r_2 =>
    gd (inb p1 10) <|
    lt (fun (v7_1 : Int32) (S_1 : Sg) => (
     if r_2 < (S_1.1 (o + 2) (ix p1)) then (
      lt (setI S_1 (o + 2) (ix p1) r_2) fun S_2 =>
      some ((1 : Int32), S_2)
     ) else (
      gd (isb v7_1) <|
      some (v7_1, S_1)
     )
    )) fun J_1 =>
    if (S.1 (o + 1) (ix p1)) < v5_1 then (
     lt (setI S (o + 1) (ix p1) v5_1) fun S_3 =>
     J_1 (1 : Int32) S_3
    ) else (
     J_1 (0 : Int32) S
    )
   )
  )
def f_X5_answerOf (o : Nat) (p1 : Int32) (S : Sg) : Option Int32 :=
  if (f_X6_isWithin p1 (10 : Int32)) = 0 then (
   some (0 : Int32)
  ) else (
   gd (inb p1 10) <|
   some (S.1 (o + 16) (ix p1))
  )
def L_X0_narrowByRow_8 (o : Nat) (o1 : Nat) (v2 : Int32) (S : Sg) : Nat → Int32 → Int32 → Int32 → Option (Int32 × Int32)
  | 0, _, _, _ => none
  | n + 1, v3, v4, v5 =>
  if v5 < (S.1 o 2) then (
   bd (f_X5_coefficient o1 v2 v5 S) fun r_1 =>
   bd (f_X0_lowEnd o r_1 v5 S) fun r_2 =>
   lt ((v3 + r_2)) fun v3_1 =>
   bd (f_X0_highEnd o r_1 v5 S) fun r_3 =>
   lt ((v4 + r_3)) fun v4_1 =>
   lt (v5 + (1 : Int32)) fun v5_1 =>
   L_X0_narrowByRow_8 o o1 v2 S n v3_1 v4_1 v5_1
  ) else (
   some (v3, v4)
  )
def L_X0_narrowByRow_69 (o : Nat) (o1 : Nat) (v2 : Int32) (v5 : Int32) : Nat → Int32 → Int32 → Int32 → Int32 → Sg → Option (Int32 × Sg)
  | 0, _, _, _, _, _ => none
  | n + 1, v3, v4, v6, v7, S =>
  if v7 < (S.1 o 2) then (
   bd (f_X5_coefficient o1 v2 v7 S) fun r_1 =>
   if r_1 = 0 then (
    lt (v7 + (1 : Int32)) fun v7_2 =>
    L_X0_narrowByRow_69 o o1 v2 v5 n v3 v4 v6 v7_2 S
   ) else (
    bd (f_X0_lowEnd o r_1 v7 S) fun r_2 =>
    lt ((v3 - r_2)) fun v9_1 =>
    bd (f_X0_highEnd o r_1 v7 S) fun r_3 =>
    lt ((v4 - r_3)) fun v10_1 =>
    bd (f_X0_narrowOne o v7 r_1 (v5 - v10_1) (v5 - v9_1) S) (u2 fun r_4 S_1 =>
     lt (if r_4 = 0 then v6 else (1 : Int32)) fun v6_1 =>
     bd (f_X0_lowEnd o r_1 v7 S_1) fun r_5 =>
     lt ((v9_1 + r_5)) fun v3_1 =>
     bd (f_X0_highEnd o r_1 v7 S_1) fun r_6 =>
     lt ((v10_1 + r_6)) fun v4_1 =>
     lt (v7 + (1 : Int32)) fun v7_1 =>
     L_X0_narrowByRow_69 o o1 v2 v5 n v3_1 v4_1 v6_1 v7_1 S_1
    )
   )
  ) else (
   some (v6, S)
  )
def f_X0_narrowByRow (o : Nat) (o1 : Nat) (p2 : Int32) (S : Sg) : Option (Int32 × Sg) :=
  bd (L_X0_narrowByRow_8 o o1 p2 S 400 (0 : Int32) (0 : Int32) (0 : Int32)) (u2 fun v3_1 v4_1 => (
   bd (f_X5_answerOf o1 p2 S) fun r_1 =>
   bd (L_X0_narrowByRow_69 o o1 p2 r_1 400 v3_1 v4_1 (0 : Int32) (0 : Int32) S) (u2 fun v6_1 S_1 => (
    gd (isb v6_1) <|
    some (v6_1, S_1)
   ))
  ))
def L_X0_narrow_15 (o : Nat) (o1 : Nat) : Nat → Int32 → Sg → Option (Sg)
  | 0, _, _ => none
  | n + 1, v2, S =>
  if v2 < (S.1 o 2) then (
   bd (f_X5_lowOf o1 v2 S) fun r_1 =>
   gd (inb v2 10) <|
   lt (setI S (o + 1) (ix v2) r_1) fun S_1 =>
   bd (f_X5_highOf o1 v2 S_1) fun r_2 =>
   lt (setI S_1 (o + 2) (ix v2) r_2) fun S_2 =>
   lt (v2 + (1 : Int32)) fun v2_1 =>
   L_X0_narrow_15 o o1 n v2_1 S_2
  ) else (
   some S
  )
def L_X0_narrow_70 (o : Nat) (o1 : Nat) (v3 : Int32) : Nat → Int32 → Int32 → Sg → Option (Int32 × Sg)
  | 0, _, _, _ => none
  | n + 1, v2, v4, S =>
  if v4 < (S.1 o1 9) then (
   bd (f_X0_narrowByRow o o1 v4 S) (u2 fun r_1 S_1 =>
    lt (if r_1 = 0 then v2 else (1 : Int32)) fun v2_1 =>
    lt (v4 + (1 : Int32)) fun v4_1 =>
    L_X0_narrow_70 o o1 v3 n v2_1 v4_1 S_1
   )
  ) else (
   some (v2, S)
  )
def L_X0_narrow_55 (o : Nat) (o1 : Nat) : Nat → Int32 → Int32 → Sg → Option (Sg)
  | 0, _, _, _ => none
  | n + 1, v2, v3, S =>
  if v3 < (60 : Int32) then (
   if v2 = 0 then (
    some S
   ) else (
    bd (L_X0_narrow_70 o o1 v3 400 (0 : Int32) (0 : Int32) S) (u2 fun v2_1 S_1 => (
     lt (v3 + (1 : Int32)) fun v3_1 =>
     L_X0_narrow_55 o o1 n v2_1 v3_1 S_1
    ))
   )
  ) else (
   some S
  )
def f_X0_narrow (o : Nat) (o1 : Nat) (S : Sg) : Option Sg :=
  lt (setI S o 2 (f_J9_min_7cf53 (S.1 o1 4) (10 : Int32))) fun S_1 =>
  bd (L_X0_narrow_15 o o1 400 (0 : Int32) S_1) (fun S_2 => (
   bd (L_X0_narrow_55 o o1 400 (1 : Int32) (0 : Int32) S_2) (fun S_3 => (
    some S_3
   ))
  ))
def f_X0_widthOf (o : Nat) (p1 : Int32) (S : Sg) : Option Int32 :=
  bd (f_X0_mostOf o p1 S) fun r_1 =>
  bd (f_X0_leastOf o p1 S) fun r_2 =>
  some ((r_1 - r_2) + (1 : Int32))
def f_X6_narrowed (p1 : Int32) (p2 : Int32) (S : Sg) : Option (Int32 × Sg) :=
  bd (f_X0_narrow 132 1 S) fun S_1 =>
  if p2 = (3 : Int32) then (
   bd (f_X0_leastOf 132 p1 S_1) fun r_3 =>
   some (r_3, S_1)
  ) else (
   if p2 = (4 : Int32) then (
    bd (f_X0_mostOf 132 p1 S_1) fun r_2 =>
    some (r_2, S_1)
   ) else (
    bd (f_X0_widthOf 132 p1 S_1) fun r_1 =>
    some (r_1, S_1)
   )
  )
def f_X6_variable (p1 : Int32) (p2 : Int32) (S : Sg) : Option (Int32 × Sg) :=
  if (f_X5_has 1 p1 S) = 0 then (
   bd (f_X6_refuse (-1 : Int32) S) (u2 fun r_7 S_3 =>
    some (r_7, S_3)
   )
  ) else (
   if (f_X6_isWithin p2 (7 : Int32)) = 0 then (
    bd (f_X6_refuse (-2 : Int32) S) (u2 fun r_6 S_2 =>
     some (r_6, S_2)
    )
   ) else (
    if p2 = (0 : Int32) then (
     bd (f_X5_valueOf 1 p1 S) fun r_1 =>
     some (r_1, S)
    ) else (
    if p2 = (1 : Int32) then (
     bd (f_X5_lowOf 1 p1 S) fun r_2 =>
     some (r_2, S)
    ) else (
    if p2 = (2 : Int32) then (
     bd (f_X5_highOf 1 p1 S) fun r_3 =>
     some (r_3, S)
    ) else (
    if p2 = (6 : Int32) then (
     bd (f_X5_isFree 1 p1 S) fun r_4 =>
     some ((f_X6_asNumber r_4), S)
    ) else (
     bd (f_X6_narrowed p1 p2 S) (u2 fun r_5 S_1 =>
      some (r_5, S_1)
     )
    ))))
   )
  )
def f_L_bound (p1 : Int32) (p2 : Int32) (p3 : Int32) (S : Sg) : Option Sg :=
  bd (f_X6_variable p1 (0 : Int32) S) (u2 fun r_1 S_1 =>
   if r_1 < 0 then (
    some S_1
   ) else (
    bd (f_X6_bounds p1 (f_J9_max_7cf53 (0 : Int32) (r_1 - p2)) (f_J9_min_7cf53 (99 : Int32) (r_1 + p3)) S_1) (u2 fun r_2 S_2 =>
     some S_2
    )
   )
  )
def f_L_cell (ba : Nat) (Ls : Nat) (xs : Nat → Int32) (p1 : Int32) (S : Sg) : Option Int32 :=
  if p1 < (Int32.ofNat Ls) then (
   gd (inb p1 Ls) <|
   some (xs (ix p1))
  ) else (
   some (((7919 : Int32) * p1) + (12 : Int32))
  )
def f_L_pick (p0 : Int32) (p1 : Int32) : Option Int32 :=
  gd (nz p1) <|
  some (irem (p0 &&& (2147483647 : Int32)) p1)
def L_X2_make_3 (o : Nat) (v1 : Int32) (v2 : Int32) (v3 : Int32) : Nat → Int32 → Sg → Option (Sg)
  | 0, _, _ => none
  | n + 1, v4, S =>
  if v4 < (8 : Int32) then (
   lt (((isr v2 v4) &&& (1 : Int32))) fun v5_1 =>
   lt (((isr v3 v4) &&& (1 : Int32))) fun v6_1 =>
   if v1 = (1 : Int32) then (
    lt ((v5_1 - v6_1)) fun v7_2 =>
    gd (inb v4 8) <|
    lt (setI S (o + 1) (ix v4) v7_2) fun S_4 =>
    lt (v4 + (1 : Int32)) fun v4_4 =>
    L_X2_make_3 o v1 v2 v3 n v4_4 S_4
   ) else (
    if v1 = (2 : Int32) then (
     if v3 = 0 then (
      gd (inb v4 8) <|
      lt (setI S (o + 1) (ix v4) v5_1) fun S_2 =>
      lt (v4 + (1 : Int32)) fun v4_2 =>
      L_X2_make_3 o v1 v2 v3 n v4_2 S_2
     ) else (
      gd (nz v3) <|
      lt ((v5_1 * ((1 : Int32) + (irem v4 v3)))) fun v7_1 =>
      gd (inb v4 8) <|
      lt (setI S (o + 1) (ix v4) v7_1) fun S_3 =>
      lt (v4 + (1 : Int32)) fun v4_3 =>
      L_X2_make_3 o v1 v2 v3 n v4_3 S_3
     )
    ) else (
     gd (inb v4 8) <|
     lt (setI S (o + 1) (ix v4) v5_1) fun S_1 =>
     lt (v4 + (1 : Int32)) fun v4_1 =>
     L_X2_make_3 o v1 v2 v3 n v4_1 S_1
    )
   )
  ) else (
   some S
  )
def f_X2_make (o : Nat) (p1 : Int32) (p2 : Int32) (p3 : Int32) (S : Sg) : Option Sg :=
  bd (L_X2_make_3 o p1 p2 p3 400 (0 : Int32) S) (fun S_1 => (
   some S_1
  ))
def f_X2_misfitOf (p0 : Int32) (p1 : Int32) (p2 : Int32) : Int32 :=
  lt (fun (_ : Unit) => (
   lt (if p0 = 0 then (0 : Int32) else (1 : Int32)) fun x_1 =>
   if p1 < (1 : Int32) then (
    (-4 : Int32)
   ) else (
    lt (fun (_ : Unit) => (
     lt (if p0 = (2 : Int32) then (3 : Int32) else (255 : Int32)) fun x_2 =>
     if (255 : Int32) < p1 then (
      (-6 : Int32)
     ) else (
      lt (fun (_ : Unit) => (
       lt (if p0 = (1 : Int32) then (if (p1 &&& p2) = 0 then (0 : Int32) else (-3 : Int32)) else (0 : Int32)) fun x_3 =>
       x_3
      )) fun J_3 =>
      if x_1 = 0 then (
       J_3 ()
      ) else (
       if x_2 < p2 then (
        (-6 : Int32)
       ) else (
        J_3 ()
       )
      )
     )
    )) fun J_2 =>
    if x_1 = 0 then (
     J_2 ()
    ) else (
     if p2 < (1 : Int32) then (
      (-4 : Int32)
     ) else (
      J_2 ()
     )
    )
   )
  )) fun J_1 =>
  if p0 = 0 then (
   J_1 ()
  ) else (
   if p0 = (1 : Int32) then (
    J_1 ()
   ) else (
    if p0 = (2 : Int32) then (
     J_1 ()
    ) else (
     (-2 : Int32)
    )
   )
  )
def L_X4_firstIn_2 (a0 : Nat) (n0 : Nat) (S : Sg) : Nat → Int32 → Option (Int32 ⊕ (Unit))
  | 0, _ => none
  | n + 1, v1 =>
  if v1 < (10 : Int32) then (
   gd (inb v1 n0) <|
   if (S.2 a0 (ix v1)) = (0 : Int64) then (
    lt (v1 + (1 : Int32)) fun v1_1 =>
    L_X4_firstIn_2 a0 n0 S n v1_1
   ) else (
    some (.inl v1)
   )
  ) else (
   some (.inr ())
  )
def f_X4_firstIn (a0 : Nat) (n0 : Nat) (S : Sg) : Option Int32 :=
  bs (L_X4_firstIn_2 a0 n0 S 400 (0 : Int32)) (fun q => some q) (fun _ => (
   some (-9 : Int32)
  ))
def L_X4_join_52 (o : Nat) (a1 : Nat) (n1 : Nat) (v2 : Int32) (v3 : Int64) (v5 : Int32) (v6 : Int64) : Nat → Int32 → Sg → Option (Sg)
  | 0, _, _ => none
  | n + 1, v8, S =>
  if v8 < (10 : Int32) then (
   gd (inb v5 10) <|
   gd (inb v8 10) <|
   gd (inb v8 n1) <|
   gd (nzJ (S.2 o 1)) <|
   lt (setJ S ((o + 2) + ix v5) (ix v8) ((((S.2 ((o + 2) + ix v5) (ix v8)) * v3) - (v6 * (S.2 a1 (ix v8)))) / (S.2 o 1))) fun S_1 =>
   lt (v8 + (1 : Int32)) fun v8_1 =>
   L_X4_join_52 o a1 n1 v2 v3 v5 v6 n v8_1 S_1
  ) else (
   some S
  )
def L_X4_join_31 (o : Nat) (a1 : Nat) (n1 : Nat) (v2 : Int32) (v3 : Int64) : Nat → Int32 → Sg → Option (Sg)
  | 0, _, _ => none
  | n + 1, v5, S =>
  if v5 < (10 : Int32) then (
   gd (inb v5 10) <|
   gd (inb v2 10) <|
   lt ((S.2 ((o + 2) + ix v5) (ix v2))) fun v6_1 =>
   bd (L_X4_join_52 o a1 n1 v2 v3 v5 v6_1 400 (0 : Int32) S) (fun S_1 => (
    lt (v5 + (1 : Int32)) fun v5_1 =>
    L_X4_join_31 o a1 n1 v2 v3 n v5_1 S_1
   ))
  ) else (
   some S
  )
def f_X4_join (o : Nat) (a1 : Nat) (n1 : Nat) (S : Sg) : Option Sg :=
  bd (f_X4_firstIn a1 n1 S) fun r_1 =>
  if (f_X6_isWithin r_1 (10 : Int32)) = 0 then (
   some S
  ) else (
   if (S.2 o 1) = (0 : Int64) then (
    some S
   ) else (
    gd (inb r_1 n1) <|
    lt ((S.2 a1 (ix r_1))) fun v3_1 =>
    bd (L_X4_join_31 o a1 n1 r_1 v3_1 400 (0 : Int32) S) (fun S_1 => (
     lt (setJ S_1 o 1 v3_1) fun S_2 =>
     lt (setI S_2 o 2 ((S_2.1 o 2) ||| (isl (1 : Int32) r_1))) fun S_3 =>
     some S_3
    ))
   )
  )
def L_X4_leave_2 (o : Nat) (a1 : Nat) (n1 : Nat) (a2 : Nat) (n2 : Nat) : Nat → Int32 → Sg → Option (Sg)
  | 0, _, _ => none
  | n + 1, v3, S =>
  if v3 < (10 : Int32) then (
   gd (inb v3 n2) <|
   lt (setJ S a2 (ix v3) (0 : Int64)) fun S_1 =>
   lt (v3 + (1 : Int32)) fun v3_1 =>
   L_X4_leave_2 o a1 n1 a2 n2 n v3_1 S_1
  ) else (
   some S
  )
def L_X4_leave_42 (o : Nat) (a1 : Nat) (n1 : Nat) (a2 : Nat) (n2 : Nat) (v3 : Int32) (v4 : Int32) : Nat → Int32 → Sg → Option (Sg)
  | 0, _, _ => none
  | n + 1, v5, S =>
  if v5 < (10 : Int32) then (
   gd (inb v5 n2) <|
   gd (inb v3 10) <|
   gd (inb v5 10) <|
   lt (setJ S a2 (ix v5) ((S.2 a2 (ix v5)) + (v4.toInt64 * (S.2 ((o + 2) + ix v3) (ix v5))))) fun S_1 =>
   lt (v5 + (1 : Int32)) fun v5_1 =>
   L_X4_leave_42 o a1 n1 a2 n2 v3 v4 n v5_1 S_1
  ) else (
   some S
  )
def L_X4_leave_20 (o : Nat) (a1 : Nat) (n1 : Nat) (a2 : Nat) (n2 : Nat) : Nat → Int32 → Sg → Option (Sg)
  | 0, _, _ => none
  | n + 1, v3, S =>
  if v3 < (10 : Int32) then (
   gd (inb v3 n1) <|
   lt ((S.1 a1 (ix v3))) fun v4_1 =>
   if v4_1 = 0 then (
    lt (v3 + (1 : Int32)) fun v3_2 =>
    L_X4_leave_20 o a1 n1 a2 n2 n v3_2 S
   ) else (
    bd (L_X4_leave_42 o a1 n1 a2 n2 v3 v4_1 400 (0 : Int32) S) (fun S_1 => (
     lt (v3 + (1 : Int32)) fun v3_1 =>
     L_X4_leave_20 o a1 n1 a2 n2 n v3_1 S_1
    ))
   )
  ) else (
   some S
  )
def f_X4_leave (o : Nat) (a1 : Nat) (n1 : Nat) (a2 : Nat) (n2 : Nat) (S : Sg) : Option Sg :=
  bd (L_X4_leave_2 o a1 n1 a2 n2 400 (0 : Int32) S) (fun S_1 => (
   bd (L_X4_leave_20 o a1 n1 a2 n2 400 (0 : Int32) S_1) (fun S_2 => (
    some S_2
   ))
  ))
def L_X5_findRest_2 (o : Nat) (o1 : Nat) : Nat → Int32 → Sg → Option (Sg)
  | 0, _, _ => none
  | n + 1, v2, S =>
  if v2 < (10 : Int32) then (
   gd (inb v2 10) <|
   lt (setI S (o + 41) (ix v2) (0 : Int32)) fun S_1 =>
   lt (v2 + (1 : Int32)) fun v2_1 =>
   L_X5_findRest_2 o o1 n v2_1 S_1
  ) else (
   some S
  )
def L_X5_findRest_23 (o : Nat) (o1 : Nat) : Nat → Int32 → Sg → Option (Sg)
  | 0, _, _ => none
  | n + 1, v2, S =>
  if v2 < (8 : Int32) then (
   gd (inb v2 8) <|
   lt ((S.1 (o + 1) (ix v2))) fun v3_1 =>
   if (f_X6_isWithin v3_1 (10 : Int32)) = 0 then (
    lt (v2 + (1 : Int32)) fun v2_1 =>
    L_X5_findRest_23 o o1 n v2_1 S
   ) else (
    gd (inb v3_1 10) <|
    lt (setI S (o + 41) (ix v3_1) (S.1 (o1 + 1) (ix v2))) fun S_1 =>
    lt (v2 + (1 : Int32)) fun v2_2 =>
    L_X5_findRest_23 o o1 n v2_2 S_1
   )
  ) else (
   some S
  )
def f_X5_findRest (o : Nat) (o1 : Nat) (S : Sg) : Option Sg :=
  bd (L_X5_findRest_2 o o1 400 (0 : Int32) S) (fun S_1 => (
   bd (L_X5_findRest_23 o o1 400 (0 : Int32) S_1) (fun S_2 => (
    bd (f_X4_leave (o + 17) (o + 41) 10 (o + 42) 10 S_2) fun S_3 =>
    some S_3
   ))
  ))
def L_X5_trueAnswer_4 (o : Nat) (o1 : Nat) (S : Sg) : Nat → Int32 → Int32 → Option (Int32)
  | 0, _, _ => none
  | n + 1, v2, v3 =>
  if v3 < (8 : Int32) then (
   gd (inb v3 8) <|
   lt ((S.1 (o + 1) (ix v3))) fun v4_1 =>
   if (f_X6_isWithin v4_1 (10 : Int32)) = 0 then (
    lt (v3 + (1 : Int32)) fun v3_1 =>
    L_X5_trueAnswer_4 o o1 S n v2 v3_1
   ) else (
    gd (inb v4_1 10) <|
    lt ((v2 + ((S.1 (o1 + 1) (ix v3)) * (S.1 (o + 2) (ix v4_1))))) fun v2_1 =>
    lt (v3 + (1 : Int32)) fun v3_2 =>
    L_X5_trueAnswer_4 o o1 S n v2_1 v3_2
   )
  ) else (
   some v2
  )
def f_X5_trueAnswer (o : Nat) (o1 : Nat) (S : Sg) : Option Int32 :=
  bd (L_X5_trueAnswer_4 o o1 S 400 (0 : Int32) (0 : Int32)) (fun v2_1 => (
   some v2_1
  ))
def f_X5_join (o : Nat) (o1 : Nat) (S : Sg) : Option Sg :=
  bd (f_X5_findRest o o1 S) fun S_1 =>
  bd (f_X4_firstIn (o + 42) 10 S_1) fun r_1 =>
  if r_1 < 0 then (
   some S_1
  ) else (
   if (f_X6_isWithin (S_1.1 o 9) (10 : Int32)) = 0 then (
    some S_1
   ) else (
    gd (inb (S_1.1 o 9) 10) <|
    lt (cpI S_1 (o + 41) (0 : Int32) ((o + 6) + ix (S_1.1 o 9)) (0 : Int32) (10 : Int32)) fun S_2 =>
    bd (f_X5_trueAnswer o o1 S_2) fun r_2 =>
    gd (inb (S_2.1 o 9) 10) <|
    lt (setI S_2 (o + 16) (ix (S_2.1 o 9)) r_2) fun S_3 =>
    lt (setI S_3 o 9 ((S_3.1 o 9) + (1 : Int32))) fun S_4 =>
    bd (f_X4_join (o + 17) (o + 42) 10 S_4) fun S_5 =>
    some S_5
   )
  )
def L_X2_size_4 (o : Nat) (S : Sg) : Nat → Int32 → Int32 → Option (Int32)
  | 0, _, _ => none
  | n + 1, v1, v2 =>
  if v2 < (8 : Int32) then (
   gd (inb v2 8) <|
   lt (if (S.1 (o + 1) (ix v2)) = 0 then v1 else (v1 + (1 : Int32))) fun v1_1 =>
   lt (v2 + (1 : Int32)) fun v2_1 =>
   L_X2_size_4 o S n v1_1 v2_1
  ) else (
   some v1
  )
def f_X2_size (o : Nat) (S : Sg) : Option Int32 :=
  bd (L_X2_size_4 o S 400 (0 : Int32) (0 : Int32)) (fun v1_1 => (
   some v1_1
  ))
def L_X4_copyFrom_2 (o : Nat) (o1 : Nat) : Nat → Int32 → Sg → Option (Sg)
  | 0, _, _ => none
  | n + 1, v2, S =>
  if v2 < (10 : Int32) then (
   gd (inb v2 10) <|
   lt (cpJ S ((o1 + 2) + ix v2) (0 : Int32) ((o + 2) + ix v2) (0 : Int32) (10 : Int32)) fun S_1 =>
   lt (v2 + (1 : Int32)) fun v2_1 =>
   L_X4_copyFrom_2 o o1 n v2_1 S_1
  ) else (
   some S
  )
def f_X4_copyFrom (o : Nat) (o1 : Nat) (S : Sg) : Option Sg :=
  bd (L_X4_copyFrom_2 o o1 400 (0 : Int32) S) (fun S_1 => (
   lt (setJ S_1 o 1 (S_1.2 o1 1)) fun S_2 =>
   lt (setI S_2 o 2 (S_2.1 o1 2)) fun S_3 =>
   some S_3
  ))
def L_X4_isOneLine_22 (a0 : Nat) (n0 : Nat) (a1 : Nat) (n1 : Nat) (v2 : Int32) (S : Sg) : Nat → Int32 → Option (Int32 ⊕ (Unit))
  | 0, _ => none
  | n + 1, v3 =>
  if v3 < (10 : Int32) then (
   gd (inb v3 n0) <|
   gd (inb v2 n1) <|
   gd (inb v3 n1) <|
   gd (inb v2 n0) <|
   if ((S.2 a0 (ix v3)) * (S.2 a1 (ix v2))) = ((S.2 a1 (ix v3)) * (S.2 a0 (ix v2))) then (
    lt (v3 + (1 : Int32)) fun v3_1 =>
    L_X4_isOneLine_22 a0 n0 a1 n1 v2 S n v3_1
   ) else (
    some (.inl (0 : Int32))
   )
  ) else (
   some (.inr ())
  )
def f_X4_isOneLine (a0 : Nat) (n0 : Nat) (a1 : Nat) (n1 : Nat) (p2 : Int32) (S : Sg) : Option Int32 :=
  if p2 < 0 then (
   some (0 : Int32)
  ) else (
   if p2 < (10 : Int32) then (
    gd (inb p2 n1) <|
    if (S.2 a1 (ix p2)) = (0 : Int64) then (
     some (0 : Int32)
    ) else (
     bs (L_X4_isOneLine_22 a0 n0 a1 n1 p2 S 400 (0 : Int32)) (fun q => some q) (fun _ => (
      some (1 : Int32)
     ))
    )
   ) else (
    some (0 : Int32)
   )
  )
def L_X4_fixedBitsWith_4 (o : Nat) (a1 : Nat) (n1 : Nat) (S : Sg) : Nat → Int32 → Int32 → Option (Int32)
  | 0, _, _ => none
  | n + 1, v2, v3 =>
  if v3 < (10 : Int32) then (
   gd (inb v3 10) <|
   bd (f_X4_firstIn ((o + 2) + ix v3) 10 S) fun r_1 =>
   if r_1 < 0 then (
    lt ((v2 ||| (isl (1 : Int32) v3))) fun v2_1 =>
    lt (v3 + (1 : Int32)) fun v3_1 =>
    L_X4_fixedBitsWith_4 o a1 n1 S n v2_1 v3_1
   ) else (
    bd (f_X4_isOneLine ((o + 2) + ix v3) 10 a1 n1 r_1 S) fun r_2 =>
    lt (if r_2 = 0 then v2 else (v2 ||| (isl (1 : Int32) v3))) fun v2_2 =>
    lt (v3 + (1 : Int32)) fun v3_2 =>
    L_X4_fixedBitsWith_4 o a1 n1 S n v2_2 v3_2
   )
  ) else (
   some v2
  )
def f_X4_fixedBitsWith (o : Nat) (a1 : Nat) (n1 : Nat) (S : Sg) : Option Int32 :=
  bd (L_X4_fixedBitsWith_4 o a1 n1 S 400 (0 : Int32) (0 : Int32)) (fun v2_1 => (
   some v2_1
  ))
def L_X4_hasPair_22 (o : Nat) (v1 : Int32) (v2 : Int32) (S : Sg) : Nat → Int32 → Option (Int32 ⊕ (Unit))
  | 0, _ => none
  | n + 1, v3 =>
  if v3 < (10 : Int32) then (
   gd (inb v1 10) <|
   gd (inb v3 10) <|
   bd (f_X4_isOneLine ((o + 2) + ix v1) 10 ((o + 2) + ix v3) 10 v2 S) fun r_1 =>
   if r_1 = 0 then (
    lt (v3 + (1 : Int32)) fun v3_1 =>
    L_X4_hasPair_22 o v1 v2 S n v3_1
   ) else (
    some (.inl (1 : Int32))
   )
  ) else (
   some (.inr ())
  )
def L_X4_hasPair_2 (o : Nat) (S : Sg) : Nat → Int32 → Option (Int32 ⊕ (Unit))
  | 0, _ => none
  | n + 1, v1 =>
  if v1 < (10 : Int32) then (
   gd (inb v1 10) <|
   bd (f_X4_firstIn ((o + 2) + ix v1) 10 S) fun r_1 =>
   lt ((v1 + (1 : Int32))) fun v3_1 =>
   bs (L_X4_hasPair_22 o v1 r_1 S 400 v3_1) (fun q => some (.inl q)) (fun _ => (
    lt (v1 + (1 : Int32)) fun v1_1 =>
    L_X4_hasPair_2 o S n v1_1
   ))
  ) else (
   some (.inr ())
  )
def f_X4_hasPair (o : Nat) (S : Sg) : Option Int32 :=
  bs (L_X4_hasPair_2 o S 400 (0 : Int32)) (fun q => some q) (fun _ => (
   some (0 : Int32)
  ))
def f_X5_meetingBy (o : Nat) (o1 : Nat) (p2 : Int32) (p3 : Int32) (S : Sg) : Option (Int32 × Sg) :=
  bd (f_X5_findRest o o1 S) fun S_1 =>
  bd (f_X4_firstIn (o + 42) 10 S_1) fun r_1 =>
  if r_1 < 0 then (
   some ((0 : Int32), S_1)
  ) else (
   bd (f_X4_fixedBitsWith (o + 17) (o + 42) 10 S_1) fun r_2 =>
   if r_2 = 0 then (
    lt (fun (v4_1 : Int32) (S_2 : Sg) => (
     lt (if v4_1 = 0 then (1 : Int32) else (2 : Int32)) fun x_1 =>
     some (x_1, S_2)
    )) fun J_1 =>
    if p2 = (1 : Int32) then (
     bd (f_X2_size o1 S_1) fun r_4 =>
     lt (if r_4 < (2 : Int32) then (1 : Int32) else (if (6 : Int32) < r_4 then (1 : Int32) else (0 : Int32))) fun x_3 =>
     J_1 x_3 S_1
    ) else (
     if p2 = (2 : Int32) then (
      bd (f_X4_copyFrom (o + 29) (o + 17) S_1) fun S_3 =>
      bd (f_X4_join (o + 29) (o + 42) 10 S_3) fun S_4 =>
      bd (f_X4_hasPair (o + 29) S_4) fun r_3 =>
      J_1 r_3 S_4
     ) else (
      if p2 = (3 : Int32) then (
       lt (if p3 < ((S_1.1 o 9) + (1 : Int32)) then (1 : Int32) else (0 : Int32)) fun x_2 =>
       J_1 x_2 S_1
      ) else (
       J_1 (0 : Int32) S_1
      )
     )
    )
   ) else (
    some ((2 : Int32), S_1)
   )
  )
def f_X5_takeQuestion (o : Nat) (o1 : Nat) (S : Sg) : Option (Int32 × Sg) :=
  bd (f_X5_meetingBy o o1 (S.1 o 5) (S.1 o 6) S) (u2 fun r_1 S_1 =>
   if r_1 = (1 : Int32) then (
    bd (f_X5_join o o1 S_1) fun S_2 =>
    some (r_1, S_2)
   ) else (
    some (r_1, S_1)
   )
  )
def f_X6_ask (p1 : Int32) (p2 : Int32) (p3 : Int32) (S : Sg) : Option (Int32 × Sg) :=
  lt ((f_X2_misfitOf p1 p2 p3)) fun v4_1 =>
  if v4_1 = 0 then (
   bd (f_X2_make 130 p1 p2 p3 S) fun S_1 =>
   bd (f_X5_takeQuestion 1 130 S_1) (u2 fun r_1 S_2 =>
    if r_1 = (2 : Int32) then (
     bd (f_X6_refuse (-5 : Int32) S_2) (u2 fun r_3 S_3 =>
      some (((1000000000 : Int32) - r_3), S_3)
     )
    ) else (
     bd (f_X5_trueAnswer 1 130 S_2) fun r_2 =>
     some (r_2, S_2)
    )
   )
  ) else (
   bd (f_X6_refuse v4_1 S) (u2 fun r_4 S_4 =>
    some (((1000000000 : Int32) - r_4), S_4)
   )
  )
def f_X5_set (o : Nat) (p1 : Int32) (p2 : Int32) (S : Sg) : Option Sg :=
  if (f_X6_isWithin p1 (10 : Int32)) = 0 then (
   some S
  ) else (
   gd (inb p1 10) <|
   lt (setI S (o + 2) (ix p1) p2) fun S_1 =>
   lt (setI S_1 (o + 3) (ix p1) (0 : Int32)) fun S_2 =>
   lt (setI S_2 (o + 4) (ix p1) (99 : Int32)) fun S_3 =>
   some S_3
  )
def f_X5_takeChange (o : Nat) (p1 : Int32) (p2 : Int32) (S : Sg) : Option (Int32 × Sg) :=
  if (f_X6_isWithin p1 (8 : Int32)) = 0 then (
   some ((0 : Int32), S)
  ) else (
   if (f_X6_isWithin (S.1 o 4) (10 : Int32)) = 0 then (
    some ((0 : Int32), S)
   ) else (
    gd (inb p1 8) <|
    lt (setI S (o + 1) (ix p1) (S.1 o 4)) fun S_1 =>
    bd (f_X5_set o (S_1.1 o 4) p2 S_1) fun S_2 =>
    lt (setI S_2 o 4 ((S_2.1 o 4) + (1 : Int32))) fun S_3 =>
    some ((1 : Int32), S_3)
   )
  )
def f_X5_variableOf (o : Nat) (p1 : Int32) (S : Sg) : Option Int32 :=
  if (f_X6_isWithin p1 (8 : Int32)) = 0 then (
   some (-9 : Int32)
  ) else (
   gd (inb p1 8) <|
   some (S.1 (o + 1) (ix p1))
  )
def f_X6_misfit (p0 : Int32) (p1 : Int32) (p2 : Int32) : Int32 :=
  lt (if p0 < p1 then (-4 : Int32) else (if p2 < p0 then (-6 : Int32) else (0 : Int32))) fun x_1 =>
  x_1
def f_X6_misfitOfValue (p0 : Int32) (p1 : Int32) : Int32 :=
  if (f_X6_isWithin p0 (8 : Int32)) = 0 then (
   (-1 : Int32)
  ) else (
   (f_X6_misfit p1 (0 : Int32) (99 : Int32))
  )
def f_X6_changes (p1 : Int32) (p2 : Int32) (S : Sg) : Option (Int32 × Sg) :=
  lt ((f_X6_misfitOfValue p1 p2)) fun v3_1 =>
  if v3_1 = 0 then (
   bd (f_X5_takeChange 1 p1 p2 S) (u2 fun r_1 S_1 =>
    if r_1 = 0 then (
     bd (f_X6_refuse (-6 : Int32) S_1) (u2 fun r_2 S_2 =>
      some (r_2, S_2)
     )
    ) else (
     bd (f_X5_variableOf 1 p1 S_1) fun r_3 =>
     some (r_3, S_1)
    )
   )
  ) else (
   bd (f_X6_refuse v3_1 S) (u2 fun r_4 S_3 =>
    some (r_4, S_3)
   )
  )
def f_X5_takeLimit (o : Nat) (p1 : Int32) (S : Sg) : Option (Int32 × Sg) :=
  if (f_X6_isWithin p1 (11 : Int32)) = 0 then (
   some ((0 : Int32), S)
  ) else (
   lt (setI S o 6 p1) fun S_1 =>
   some ((1 : Int32), S_1)
  )
def f_X6_limit (p1 : Int32) (S : Sg) : Option (Int32 × Sg) :=
  lt ((f_X6_misfit p1 (0 : Int32) (10 : Int32))) fun v2_1 =>
  if v2_1 = 0 then (
   lt ((S.1 1 6)) fun v3_1 =>
   bd (f_X5_takeLimit 1 p1 S) (u2 fun r_1 S_1 =>
    some (v3_1, S_1)
   )
  ) else (
   bd (f_X6_refuse v2_1 S) (u2 fun r_2 S_2 =>
    some (r_2, S_2)
   )
  )
def f_X5_takeRule (o : Nat) (p1 : Int32) (S : Sg) : Option (Int32 × Sg) :=
  if (f_X6_isWithin p1 (4 : Int32)) = 0 then (
   some ((0 : Int32), S)
  ) else (
   lt (setI S o 5 p1) fun S_1 =>
   some ((1 : Int32), S_1)
  )
def f_X6_rule (p1 : Int32) (S : Sg) : Option (Int32 × Sg) :=
  lt ((S.1 1 5)) fun v2_1 =>
  bd (f_X5_takeRule 1 p1 S) (u2 fun r_1 S_1 =>
   if r_1 = 0 then (
    bd (f_X6_refuse (-2 : Int32) S_1) (u2 fun r_2 S_2 =>
     some (r_2, S_2)
    )
   ) else (
    some (v2_1, S_1)
   )
  )
def f_X5_takeTold (o : Nat) (p1 : Int32) (p2 : Int32) (S : Sg) : Option (Int32 × Sg) :=
  bd (f_X5_variableOf o p1 S) fun r_1 =>
  if (f_X5_has o r_1 S) = 0 then (
   some ((0 : Int32), S)
  ) else (
   bd (f_X5_isFree o r_1 S) fun r_2 =>
   if r_2 = 0 then (
    some ((0 : Int32), S)
   ) else (
    bd (f_X5_set o r_1 p2 S) fun S_1 =>
    some ((1 : Int32), S_1)
   )
  )
def f_X6_tells (p1 : Int32) (p2 : Int32) (S : Sg) : Option (Int32 × Sg) :=
  lt ((f_X6_misfitOfValue p1 p2)) fun v3_1 =>
  if v3_1 = 0 then (
   bd (f_X5_variableOf 1 p1 S) fun r_1 =>
   bd (f_X5_valueOf 1 r_1 S) fun r_2 =>
   bd (f_X5_takeTold 1 p1 p2 S) (u2 fun r_3 S_1 =>
    if r_3 = 0 then (
     bd (f_X6_refuse (-3 : Int32) S_1) (u2 fun r_4 S_2 =>
      some (r_4, S_2)
     )
    ) else (
     some (r_2, S_1)
    )
   )
  ) else (
   bd (f_X6_refuse v3_1 S) (u2 fun r_5 S_3 =>
    some (r_5, S_3)
   )
  )
def L_L_guard_2 (ba : Nat) (Ls : Nat) (xs : Nat → Int32) (v2 : Int32) : Nat → Int32 → Sg → Option (Sg)
  | 0, _, _ => none
  | n + 1, v3, S =>
  if v3 < (8 : Int32) then (
   bd (f_L_cell ba Ls xs v3 S) fun r_1 =>
   bd (f_L_pick r_1 (3 : Int32)) fun r_2 =>
   if r_2 = 0 then (
    bd (f_L_cell ba Ls xs v3 S) fun r_6 =>
    bd (f_L_pick (isr r_6 (3 : Int32)) (4 : Int32)) fun r_7 =>
    bd (f_X6_tells v3 (r_7 * (33 : Int32)) S) (u2 fun r_8 S_2 =>
     lt (v3 + (1 : Int32)) fun v3_2 =>
     L_L_guard_2 ba Ls xs v2 n v3_2 S_2
    )
   ) else (
    bd (f_L_cell ba Ls xs v3 S) fun r_3 =>
    bd (f_L_pick (isr r_3 (3 : Int32)) (100 : Int32)) fun r_4 =>
    bd (f_X6_tells v3 r_4 S) (u2 fun r_5 S_1 =>
     lt (v3 + (1 : Int32)) fun v3_1 =>
     L_L_guard_2 ba Ls xs v2 n v3_1 S_1
    )
   )
  ) else (
   some S
  )
def L_L_guard_96 (ba : Nat) (Ls : Nat) (xs : Nat → Int32) (v2 : Int32) : Nat → Int32 → Sg → Option (Sg)
  | 0, _, _ => none
  | n + 1, v3, S =>
  if v3 < v2 then (
   bd (f_L_cell ba Ls xs ((10 : Int32) + v3) S) fun r_1 =>
   bd (f_L_pick r_1 (12 : Int32)) fun r_2 =>
   bd (f_L_pick (isr r_1 (4 : Int32)) (255 : Int32)) fun r_3 =>
   lt (((1 : Int32) + r_3)) fun v6_1 =>
   if r_2 < (6 : Int32) then (
    bd (f_X6_ask (0 : Int32) v6_1 (0 : Int32) S) (u2 fun r_16 S_6 =>
     lt (v3 + (1 : Int32)) fun v3_6 =>
     L_L_guard_96 ba Ls xs v2 n v3_6 S_6
    )
   ) else (
    if r_2 = (6 : Int32) then (
     bd (f_X6_ask (1 : Int32) v6_1 (((isr r_1 (12 : Int32)) &&& (255 : Int32)) &&& (v6_1 ^^^ (-1 : Int32))) S) (u2 fun r_15 S_5 =>
      lt (v3 + (1 : Int32)) fun v3_5 =>
      L_L_guard_96 ba Ls xs v2 n v3_5 S_5
     )
    ) else (
     if r_2 = (7 : Int32) then (
      bd (f_L_pick (isr r_1 (12 : Int32)) (3 : Int32)) fun r_13 =>
      bd (f_X6_ask (2 : Int32) v6_1 ((1 : Int32) + r_13) S) (u2 fun r_14 S_4 =>
       lt (v3 + (1 : Int32)) fun v3_4 =>
       L_L_guard_96 ba Ls xs v2 n v3_4 S_4
      )
     ) else (
      if r_2 = (8 : Int32) then (
       bd (f_L_pick (isr r_1 (4 : Int32)) (8 : Int32)) fun r_10 =>
       bd (f_L_pick (isr r_1 (7 : Int32)) (100 : Int32)) fun r_11 =>
       bd (f_X6_changes r_10 r_11 S) (u2 fun r_12 S_3 =>
        lt (v3 + (1 : Int32)) fun v3_3 =>
        L_L_guard_96 ba Ls xs v2 n v3_3 S_3
       )
      ) else (
       if r_2 < (11 : Int32) then (
        bd (f_L_pick (isr r_1 (4 : Int32)) (10 : Int32)) fun r_7 =>
        bd (f_L_pick (isr r_1 (8 : Int32)) (12 : Int32)) fun r_8 =>
        bd (f_L_pick (isr r_1 (12 : Int32)) (12 : Int32)) fun r_9 =>
        bd (f_L_bound r_7 r_8 r_9 S) fun S_2 =>
        lt (v3 + (1 : Int32)) fun v3_2 =>
        L_L_guard_96 ba Ls xs v2 n v3_2 S_2
       ) else (
        bd (f_L_pick (isr r_1 (4 : Int32)) (8 : Int32)) fun r_4 =>
        bd (f_L_pick (isr r_1 (7 : Int32)) (100 : Int32)) fun r_5 =>
        bd (f_X6_tells r_4 r_5 S) (u2 fun r_6 S_1 =>
         lt (v3 + (1 : Int32)) fun v3_1 =>
         L_L_guard_96 ba Ls xs v2 n v3_1 S_1
        )
       )
      )
     )
    )
   )
  ) else (
   some S
  )
def f_L_guard (ba : Nat) (Ls : Nat) (xs : Nat → Int32) (p2 : Int32) (S : Sg) : Option Sg :=
  bd (L_L_guard_2 ba Ls xs p2 400 (0 : Int32) S) (fun S_1 => (
   bd (f_L_cell ba Ls xs (8 : Int32) S_1) fun r_1 =>
   bd (f_L_pick r_1 (9 : Int32)) fun r_2 =>
   bd (f_X6_limit ((2 : Int32) + r_2) S_1) (u2 fun r_3 S_2 =>
    bd (f_L_cell ba Ls xs (9 : Int32) S_2) fun r_4 =>
    bd (f_L_pick r_4 (4 : Int32)) fun r_5 =>
    bd (f_X6_rule r_5 S_2) (u2 fun r_6 S_3 =>
     bd (L_L_guard_96 ba Ls xs p2 400 (0 : Int32) S_3) (fun S_4 => (
      some S_4
     ))
    )
   )
  ))
def f_X6_answer (p1 : Int32) (S : Sg) : Option (Int64 × Sg) :=
  if (f_X6_isWithin p1 (S.1 1 9)) = 0 then (
   bd (f_X6_refuse (-1 : Int32) S) (u2 fun r_2 S_1 =>
    some (((4000000000000000000 : Int64) - r_2.toInt64), S_1)
   )
  ) else (
   bd (f_X5_answerOf 1 p1 S) fun r_1 =>
   some (r_1.toInt64, S)
  )
def f_X5_fixedBitsWith (o : Nat) (o1 : Nat) (S : Sg) : Option (Int32 × Sg) :=
  bd (f_X5_findRest o o1 S) fun S_1 =>
  bd (f_X4_fixedBitsWith (o + 17) (o + 42) 10 S_1) fun r_1 =>
  some (r_1, S_1)
def L_X6_attack_43 (v1 : Int32) (v2 : Int32) : Nat → Int32 → Int32 → Int32 → Sg → Option (Int32 × Int32 × Sg)
  | 0, _, _, _, _ => none
  | n + 1, v3, v4, v5, S =>
  if v5 < (1 : Int32) then (
   some (v3, v4, S)
  ) else (
   bd (f_X2_make 130 (0 : Int32) v5 (0 : Int32) S) fun S_1 =>
   bd (f_X5_fixedBitsWith 1 130 S_1) (u2 fun r_1 S_2 =>
    lt (if ((isr r_1 v1) &&& (1 : Int32)) = (1 : Int32) then v5 else v3) fun v3_1 =>
    lt (if ((isr r_1 v1) &&& (1 : Int32)) = (1 : Int32) then (v4 + (1 : Int32)) else v4) fun v4_1 =>
    lt (v5 + (-1 : Int32)) fun v5_1 =>
    L_X6_attack_43 v1 v2 n v3_1 v4_1 v5_1 S_2
   )
  )
def f_X6_attack (p1 : Int32) (p2 : Int32) (S : Sg) : Option (Int32 × Sg) :=
  if (f_X5_has 1 p1 S) = 0 then (
   bd (f_X6_refuse (-1 : Int32) S) (u2 fun r_2 S_3 =>
    some (r_2, S_3)
   )
  ) else (
   if (f_X6_isWithin p2 (2 : Int32)) = 0 then (
    bd (f_X6_refuse (-2 : Int32) S) (u2 fun r_1 S_2 =>
     some (r_1, S_2)
    )
   ) else (
    bd (L_X6_attack_43 p1 p2 400 (-9 : Int32) (0 : Int32) (255 : Int32) S) (u3 fun v3_1 v4_1 S_1 => (
     lt (if p2 = 0 then v3_1 else v4_1) fun x_1 =>
     some (x_1, S_1)
    ))
   )
  )
def L_X5_usedBits_4 (o : Nat) (S : Sg) : Nat → Int32 → Int32 → Option (Int32)
  | 0, _, _ => none
  | n + 1, v1, v2 =>
  if v2 < (10 : Int32) then (
   bd (f_X5_isFree o v2 S) fun r_1 =>
   lt (if r_1 = 0 then (v1 ||| (isl (1 : Int32) v2)) else v1) fun v1_1 =>
   lt (v2 + (1 : Int32)) fun v2_1 =>
   L_X5_usedBits_4 o S n v1_1 v2_1
  ) else (
   some v1
  )
def f_X5_usedBits (o : Nat) (S : Sg) : Option Int32 :=
  bd (L_X5_usedBits_4 o S 400 (0 : Int32) (0 : Int32)) (fun v1_1 => (
   some v1_1
  ))
def L_X5_valuesOfPeople_4 (o : Nat) (S : Sg) : Nat → Int32 → Int32 → Option (Int32)
  | 0, _, _ => none
  | n + 1, v1, v2 =>
  if v2 < (8 : Int32) then (
   gd (inb v2 8) <|
   bd (f_X5_valueOf o (S.1 (o + 1) (ix v2)) S) fun r_1 =>
   lt ((v1 + r_1)) fun v1_1 =>
   lt (v2 + (1 : Int32)) fun v2_1 =>
   L_X5_valuesOfPeople_4 o S n v1_1 v2_1
  ) else (
   some v1
  )
def f_X5_valuesOfPeople (o : Nat) (S : Sg) : Option Int32 :=
  bd (L_X5_valuesOfPeople_4 o S 400 (0 : Int32) (0 : Int32)) (fun v1_1 => (
   some v1_1
  ))
def f_X6_count (p1 : Int32) (S : Sg) : Option Int32 :=
  if p1 = (0 : Int32) then (
   some (S.1 1 9)
  ) else (
  if p1 = (1 : Int32) then (
   some (S.1 1 4)
  ) else (
  if p1 = (2 : Int32) then (
   some (S.1 1 5)
  ) else (
  if p1 = (3 : Int32) then (
   some (S.1 1 6)
  ) else (
  if p1 = (4 : Int32) then (
   bd (f_X5_usedBits 1 S) fun r_1 =>
   some r_1
  ) else (
  if p1 = (5 : Int32) then (
   bd (f_X5_valuesOfPeople 1 S) fun r_2 =>
   some r_2
  ) else (
  if p1 = (6 : Int32) then (
   some (S.1 137 0)
  ) else (
  if p1 = (7 : Int32) then (
   some (S.1 135 0)
  ) else (
   if (f_X6_isWithin (p1 - (11 : Int32)) (6 : Int32)) = 0 then (
    some (-9 : Int32)
   ) else (
    gd (inb (p1 - (11 : Int32)) 6) <|
    some (S.1 139 (ix (p1 - (11 : Int32))))
   )
  ))))))))
def L_X5_copyFrom_77 (o : Nat) (o1 : Nat) : Nat → Int32 → Sg → Option (Sg)
  | 0, _, _ => none
  | n + 1, v2, S =>
  if v2 < (10 : Int32) then (
   gd (inb v2 10) <|
   lt (cpI S ((o1 + 6) + ix v2) (0 : Int32) ((o + 6) + ix v2) (0 : Int32) (10 : Int32)) fun S_1 =>
   lt (v2 + (1 : Int32)) fun v2_1 =>
   L_X5_copyFrom_77 o o1 n v2_1 S_1
  ) else (
   some S
  )
def f_X5_copyFrom (o : Nat) (o1 : Nat) (S : Sg) : Option Sg :=
  lt (cpI S (o1 + 1) (0 : Int32) (o + 1) (0 : Int32) (8 : Int32)) fun S_1 =>
  lt (cpI S_1 (o1 + 2) (0 : Int32) (o + 2) (0 : Int32) (10 : Int32)) fun S_2 =>
  lt (cpI S_2 (o1 + 3) (0 : Int32) (o + 3) (0 : Int32) (10 : Int32)) fun S_3 =>
  lt (cpI S_3 (o1 + 4) (0 : Int32) (o + 4) (0 : Int32) (10 : Int32)) fun S_4 =>
  lt (cpI S_4 (o1 + 16) (0 : Int32) (o + 16) (0 : Int32) (10 : Int32)) fun S_5 =>
  bd (L_X5_copyFrom_77 o o1 400 (0 : Int32) S_5) (fun S_6 => (
   lt (setI S_6 o 4 (S_6.1 o1 4)) fun S_7 =>
   lt (setI S_7 o 5 (S_7.1 o1 5)) fun S_8 =>
   lt (setI S_8 o 6 (S_8.1 o1 6)) fun S_9 =>
   lt (setI S_9 o 9 (S_9.1 o1 9)) fun S_10 =>
   bd (f_X4_copyFrom (o + 17) (o1 + 17) S_10) fun S_11 =>
   some S_11
  ))
def f_X6_image (S : Sg) : Option (Int32 × Sg) :=
  bd (f_X5_copyFrom 87 1 S) fun S_1 =>
  lt (setI S_1 0 3 (1 : Int32)) fun S_2 =>
  some ((S_2.1 1 9), S_2)
def f_X6_on (S : Sg) : Option (Int32 × Sg) :=
  if (S.1 0 3) = 0 then (
   bd (f_X6_refuse (-3 : Int32) S) (u2 fun r_1 S_2 =>
    some (r_1, S_2)
   )
  ) else (
   bd (f_X5_copyFrom 1 87 S) fun S_1 =>
   some ((S_1.1 1 9), S_1)
  )
def f_X6_person (p1 : Int32) (p2 : Int32) (S : Sg) : Option (Int32 × Sg) :=
  if (f_X6_isWithin p1 (8 : Int32)) = 0 then (
   bd (f_X6_refuse (-1 : Int32) S) (u2 fun r_5 S_2 =>
    some (r_5, S_2)
   )
  ) else (
   if (f_X6_isWithin p2 (3 : Int32)) = 0 then (
    bd (f_X6_refuse (-2 : Int32) S) (u2 fun r_4 S_1 =>
     some (r_4, S_1)
    )
   ) else (
    bd (f_X5_variableOf 1 p1 S) fun r_1 =>
    if p2 = 0 then (
     bd (f_X5_valueOf 1 r_1 S) fun r_3 =>
     some (r_3, S)
    ) else (
     if p2 = (1 : Int32) then (
      some (r_1, S)
     ) else (
      bd (f_X5_isFree 1 r_1 S) fun r_2 =>
      some ((f_X6_asNumber r_2), S)
     )
    )
   )
  )
def f_X6_pivots (S : Sg) : Int32 :=
  (S.1 (1 + 17) 2)
def L_X4_pivotOf_4 (o : Nat) (v1 : Int32) (S : Sg) : Nat → Int32 → Int32 → Option (Int32 ⊕ (Unit))
  | 0, _, _ => none
  | n + 1, v2, v3 =>
  if v3 < (10 : Int32) then (
   if ((isr (S.1 o 2) v3) &&& (1 : Int32)) = (1 : Int32) then (
    if v2 = v1 then (
     some (.inl v3)
    ) else (
     lt (v2 + (1 : Int32)) fun v2_1 =>
     lt (v3 + (1 : Int32)) fun v3_2 =>
     L_X4_pivotOf_4 o v1 S n v2_1 v3_2
    )
   ) else (
    lt (v3 + (1 : Int32)) fun v3_1 =>
    L_X4_pivotOf_4 o v1 S n v2 v3_1
   )
  ) else (
   some (.inr ())
  )
def f_X4_pivotOf (o : Nat) (p1 : Int32) (S : Sg) : Option Int32 :=
  bs (L_X4_pivotOf_4 o p1 S 400 (0 : Int32) (0 : Int32)) (fun q => some q) (fun _ => (
   some (-9 : Int32)
  ))
def L_X6_greatestDivisor_9 : Nat → Int64 → Int64 → Int32 → Option (Int64)
  | 0, _, _, _ => none
  | n + 1, v4, v6, v8 =>
  if v8 < (200 : Int32) then (
   if v6 = (0 : Int64) then (
    some v4
   ) else (
    gd (nzJ v6) <|
    lt ((jrem v4 v6)) fun v9_1 =>
    lt (v8 + (1 : Int32)) fun v8_1 =>
    L_X6_greatestDivisor_9 n v6 v9_1 v8_1
   )
  ) else (
   some v4
  )
def f_X6_greatestDivisor (p0 : Int64) (p1 : Int64) : Option Int64 :=
  bd (L_X6_greatestDivisor_9 400 p0 p1 (0 : Int32)) (fun v4_1 => (
   some v4_1
  ))
def f_X6_partInLeastTerms (p0 : Int64) (p1 : Int64) (p2 : Int32) : Option Int64 :=
  bd (f_X6_greatestDivisor (f_J9_abs_067f4 p0) (f_J9_abs_067f4 p1)) fun r_1 =>
  lt (fun (_ : Unit) => (
   lt (if p2 = 0 then (0 : Int64) else (1 : Int64)) fun x_1 =>
   some x_1
  )) fun J_1 =>
  if p0 = (0 : Int64) then (
   J_1 ()
  ) else (
   if p1 = (0 : Int64) then (
    J_1 ()
   ) else (
    if r_1 = (0 : Int64) then (
     J_1 ()
    ) else (
     lt (if p1 < (0 : Int64) then (-r_1) else r_1) fun x_2 =>
     lt (if p2 = 0 then p0 else p1) fun x_3 =>
     gd (nzJ x_2) <|
     some (x_3 / x_2)
    )
   )
  )
def f_X4_reducedPart (o : Nat) (p1 : Int32) (p2 : Int32) (p3 : Int32) (S : Sg) : Option Int64 :=
  bd (f_X4_pivotOf o p1 S) fun r_1 =>
  if (f_X6_isWithin r_1 (10 : Int32)) = 0 then (
   some (0 : Int64)
  ) else (
   if (f_X6_isWithin p2 (10 : Int32)) = 0 then (
    some (0 : Int64)
   ) else (
    if ((isr (S.1 o 2) p2) &&& (1 : Int32)) = (1 : Int32) then (
     lt (if p2 = r_1 then (1 : Int32) else (0 : Int32)) fun x_1 =>
     bd (f_X6_partInLeastTerms ((f_X6_asNumber x_1).toInt64) (1 : Int64) p3) fun r_3 =>
     some r_3
    ) else (
     gd (inb r_1 10) <|
     gd (inb p2 10) <|
     bd (f_X6_partInLeastTerms (-(S.2 ((o + 2) + ix r_1) (ix p2))) (S.2 o 1) p3) fun r_2 =>
     some r_2
    )
   )
  )
def f_X6_reduced (p1 : Int32) (p2 : Int32) (p3 : Int32) (S : Sg) : Option (Int64 × Sg) :=
  if (f_X6_isWithin p1 (S.1 1 9)) = 0 then (
   bd (f_X6_refuse (-1 : Int32) S) (u2 fun r_1 S_1 =>
    some (((4000000000000000000 : Int64) - r_1.toInt64), S_1)
   )
  ) else (
   if (f_X5_has 1 p2 S) = 0 then (
    bd (f_X6_refuse (-1 : Int32) S) (u2 fun r_4 S_3 =>
     some (((4000000000000000000 : Int64) - r_4.toInt64), S_3)
    )
   ) else (
    if (f_X6_isWithin p3 (2 : Int32)) = 0 then (
     bd (f_X6_refuse (-2 : Int32) S) (u2 fun r_3 S_2 =>
      some (((4000000000000000000 : Int64) - r_3.toInt64), S_2)
     )
    ) else (
     bd (f_X4_reducedPart (1 + 17) p1 p2 p3 S) fun r_2 =>
     some (r_2, S)
    )
   )
  )
def f_X6_meetingOfSum (o1 : Nat) (p2 : Int32) (S : Sg) : Option (Int32 × Sg) :=
  bd (f_X2_make 130 (0 : Int32) p2 (0 : Int32) S) fun S_1 =>
  bd (f_X5_meetingBy o1 130 (S_1.1 o1 5) (S_1.1 o1 6) S_1) (u2 fun r_1 S_2 =>
   some (r_1, S_2)
  )
def L_X6_howMany_4 (v1 : Int32) : Nat → Int32 → Int32 → Sg → Option (Int32 × Sg)
  | 0, _, _, _ => none
  | n + 1, v2, v3, S =>
  if (255 : Int32) < v3 then (
   some (v2, S)
  ) else (
   bd (f_X6_meetingOfSum 1 v3 S) (u2 fun r_1 S_1 =>
    lt (if r_1 = v1 then (v2 + (1 : Int32)) else v2) fun v2_1 =>
    lt (v3 + (1 : Int32)) fun v3_1 =>
    L_X6_howMany_4 v1 n v2_1 v3_1 S_1
   )
  )
def f_X6_howMany (p1 : Int32) (S : Sg) : Option (Int32 × Sg) :=
  bd (L_X6_howMany_4 p1 400 (0 : Int32) (1 : Int32) S) (u2 fun v2_1 S_1 => (
   some (v2_1, S_1)
  ))
def L_X6_leastJoining_2 : Nat → Int32 → Sg → Option ((Int32 × Sg) ⊕ (Sg))
  | 0, _, _ => none
  | n + 1, v1, S =>
  if (255 : Int32) < v1 then (
   some (.inr S)
  ) else (
   bd (f_X6_meetingOfSum 1 v1 S) (u2 fun r_1 S_1 =>
    if r_1 = (1 : Int32) then (
     some (.inl (v1, S_1))
    ) else (
     lt (v1 + (1 : Int32)) fun v1_1 =>
     L_X6_leastJoining_2 n v1_1 S_1
    )
   )
  )
def f_X6_leastJoining (S : Sg) : Option (Int32 × Sg) :=
  bs (L_X6_leastJoining_2 400 (1 : Int32) S) (fun q => some q) (fun S_1 => (
   some ((-9 : Int32), S_1)
  ))
def f_X6_sums (p1 : Int32) (S : Sg) : Option (Int32 × Sg) :=
  if p1 = (0 : Int32) then (
   bd (f_X6_leastJoining S) (u2 fun r_1 S_1 =>
    some (r_1, S_1)
   )
  ) else (
  if p1 = (1 : Int32) then (
   bd (f_X6_howMany (1 : Int32) S) (u2 fun r_2 S_2 =>
    some (r_2, S_2)
   )
  ) else (
  if p1 = (2 : Int32) then (
   bd (f_X6_howMany (2 : Int32) S) (u2 fun r_3 S_3 =>
    some (r_3, S_3)
   )
  ) else (
  if p1 = (3 : Int32) then (
   bd (f_X6_howMany (0 : Int32) S) (u2 fun r_4 S_4 =>
    some (r_4, S_4)
   )
  ) else (
   bd (f_X6_refuse (-2 : Int32) S) (u2 fun r_5 S_5 =>
    some (r_5, S_5)
   )
  ))))
def f_X6_would (p1 : Int32) (p2 : Int32) (p3 : Int32) (S : Sg) : Option (Int32 × Sg) :=
  lt ((f_X2_misfitOf p1 p2 p3)) fun v4_1 =>
  if v4_1 = 0 then (
   bd (f_X2_make 130 p1 p2 p3 S) fun S_1 =>
   bd (f_X5_meetingBy 1 130 (S_1.1 1 5) (S_1.1 1 6) S_1) (u2 fun r_1 S_2 =>
    some (r_1, S_2)
   )
  ) else (
   bd (f_X6_refuse v4_1 S) (u2 fun r_2 S_3 =>
    some (r_2, S_3)
   )
  )
def L_L_law_39 (ba : Nat) (Ls : Nat) (xs : Nat → Int32) (v2 : Int32) (v3 : Int32) (v4 : Int32) : Nat → Int32 → Sg → Option ((Int32 × Sg) ⊕ (Sg))
  | 0, _, _ => none
  | n + 1, v5, S =>
  if v5 < (4 : Int32) then (
   bd (f_X6_rule v5 S) (u2 fun r_1 S_1 =>
    if r_1 < 0 then (
     some (.inl ((0 : Int32), S_1))
    ) else (
     bd (f_X6_would (0 : Int32) (isl (1 : Int32) v4) (0 : Int32) S_1) (u2 fun r_2 S_2 =>
      if r_2 = (2 : Int32) then (
       lt (v5 + (1 : Int32)) fun v5_1 =>
       L_L_law_39 ba Ls xs v2 v3 v4 n v5_1 S_2
      ) else (
       some (.inl ((0 : Int32), S_2))
      )
     )
    )
   )
  ) else (
   some (.inr S)
  )
def L_L_law_29 (ba : Nat) (Ls : Nat) (xs : Nat → Int32) (v2 : Int32) (v3 : Int32) : Nat → Int32 → Sg → Option ((Int32 × Sg) ⊕ (Sg))
  | 0, _, _ => none
  | n + 1, v4, S =>
  if v4 < (8 : Int32) then (
   bs (L_L_law_39 ba Ls xs v2 v3 v4 400 (0 : Int32) S) (fun q => some (.inl q)) (fun S_1 => (
    bd (f_X6_person v4 (1 : Int32) S_1) (u2 fun r_1 S_2 =>
     bd (f_X6_person v4 (0 : Int32) S_2) (u2 fun r_2 S_3 =>
      bd (f_X6_ask (0 : Int32) (isl (1 : Int32) v4) (0 : Int32) S_3) (u2 fun r_3 S_4 =>
       if r_3 = (1000000005 : Int32) then (
        bd (f_X6_on S_4) (u2 fun r_4 S_5 =>
         if r_4 = v2 then (
          bd (f_X6_variable r_1 (0 : Int32) S_5) (u2 fun r_5 S_6 =>
           if r_5 = r_2 then (
            bd (f_X6_variable r_1 (3 : Int32) S_6) (u2 fun r_6 S_7 =>
             if r_2 < r_6 then (
              some (.inl ((0 : Int32), S_7))
             ) else (
              bd (f_X6_variable r_1 (4 : Int32) S_7) (u2 fun r_7 S_8 =>
               if r_7 < r_2 then (
                some (.inl ((0 : Int32), S_8))
               ) else (
                bd (f_X6_attack r_1 (1 : Int32) S_8) (u2 fun r_8 S_9 =>
                 if r_8 < (1 : Int32) then (
                  some (.inl ((0 : Int32), S_9))
                 ) else (
                  bd (f_X6_attack r_1 (0 : Int32) S_9) (u2 fun r_9 S_10 =>
                   if (isl (1 : Int32) v4) < r_9 then (
                    some (.inl ((0 : Int32), S_10))
                   ) else (
                    lt (v4 + (1 : Int32)) fun v4_1 =>
                    L_L_law_29 ba Ls xs v2 v3 n v4_1 S_10
                   )
                  )
                 )
                )
               )
              )
             )
            )
           ) else (
            some (.inl ((0 : Int32), S_6))
           )
          )
         ) else (
          some (.inl ((0 : Int32), S_5))
         )
        )
       ) else (
        some (.inl ((0 : Int32), S_4))
       )
      )
     )
    )
   ))
  ) else (
   some (.inr S)
  )
def L_L_law_249 (ba : Nat) (Ls : Nat) (xs : Nat → Int32) (v2 : Int32) (v3 : Int32) (v4 : Int32) (v5 : Int32) : Nat → Int32 → Int32 → Int32 → Sg → Option ((Int32 × Sg) ⊕ (Int32 × Sg))
  | 0, _, _, _, _ => none
  | n + 1, v6, v7, v8, S =>
  if v8 < v3 then (
   bd (f_X6_reduced v5 v8 (0 : Int32) S) (u2 fun r_1 S_1 =>
    if r_1 = (0 : Int64) then (
     lt (v8 + (1 : Int32)) fun v8_2 =>
     L_L_law_249 ba Ls xs v2 v3 v4 v5 n v6 v7 v8_2 S_1
    ) else (
     lt (fun (S_2 : Sg) => (
      lt (fun (_ : Unit) => (
       bd (f_X6_reduced v5 v8 (1 : Int32) S_2) (u2 fun r_2 S_3 =>
        if r_2 < (1 : Int64) then (
         some (.inl ((0 : Int32), S_3))
        ) else (
         lt (if v7 = 0 then (1 : Int32) else (0 : Int32)) fun x_1 =>
         lt ((v6 + x_1)) fun v6_1 =>
         lt (v8 + (1 : Int32)) fun v8_1 =>
         L_L_law_249 ba Ls xs v2 v3 v4 v5 n v6_1 (0 : Int32) v8_1 S_3
        )
       )
      )) fun J_2 =>
      if v7 = 0 then (
       if ((isr v4 v8) &&& (1 : Int32)) = (1 : Int32) then (
        some (.inl ((0 : Int32), S_2))
       ) else (
        J_2 ()
       )
      ) else (
       J_2 ()
      )
     )) fun J_1 =>
     if v7 = 0 then (
      J_1 S_1
     ) else (
      if ((isr v4 v8) &&& (1 : Int32)) = (1 : Int32) then (
       if r_1 = (1 : Int64) then (
        bd (f_X6_reduced v5 v8 (1 : Int32) S_1) (u2 fun r_3 S_4 =>
         if r_3 = (1 : Int64) then (
          J_1 S_4
         ) else (
          some (.inl ((0 : Int32), S_4))
         )
        )
       ) else (
        some (.inl ((0 : Int32), S_1))
       )
      ) else (
       some (.inl ((0 : Int32), S_1))
      )
     )
    )
   )
  ) else (
   some (.inr (v6, S))
  )
def L_L_law_234 (ba : Nat) (Ls : Nat) (xs : Nat → Int32) (v2 : Int32) (v3 : Int32) (v4 : Int32) : Nat → Int32 → Sg → Option ((Int32 × Sg) ⊕ (Sg))
  | 0, _, _ => none
  | n + 1, v5, S =>
  if v5 < v2 then (
   bs (L_L_law_249 ba Ls xs v2 v3 v4 v5 400 (0 : Int32) (1 : Int32) (0 : Int32) S) (fun q => some (.inl q)) (u2 fun v6_1 S_1 => (
    if v6_1 = 0 then (
     some (.inl ((0 : Int32), S_1))
    ) else (
     lt (v5 + (1 : Int32)) fun v5_1 =>
     L_L_law_234 ba Ls xs v2 v3 v4 n v5_1 S_1
    )
   ))
  ) else (
   some (.inr S)
  )
def L_L_law_501 (ba : Nat) (Ls : Nat) (xs : Nat → Int32) (v2 : Int32) (v3 : Int32) (v4 : Int32) (v5 : Int32) (v7 : Int32) (v8 : Int32) (v9 : Int32) (v10 : Int32) (v11 : Int32) : Nat → Int32 → Int32 → Sg → Option (Int32 × Sg)
  | 0, _, _, _ => none
  | n + 1, v12, v13, S =>
  if v13 < (8 : Int32) then (
   bd (f_X6_person v13 (0 : Int32) S) (u2 fun r_1 S_1 =>
    if v8 = (1 : Int32) then (
     lt ((v12 + (r_1 * (((isr v7 v13) &&& (1 : Int32)) - ((isr v9 v13) &&& (1 : Int32)))))) fun v12_3 =>
     lt (v13 + (1 : Int32)) fun v13_3 =>
     L_L_law_501 ba Ls xs v2 v3 v4 v5 v7 v8 v9 v10 v11 n v12_3 v13_3 S_1
    ) else (
     if v8 = 0 then (
      lt ((v12 + (r_1 * (((isr v7 v13) &&& (1 : Int32)) * (1 : Int32))))) fun v12_2 =>
      lt (v13 + (1 : Int32)) fun v13_2 =>
      L_L_law_501 ba Ls xs v2 v3 v4 v5 v7 v8 v9 v10 v11 n v12_2 v13_2 S_1
     ) else (
      gd (nz v9) <|
      lt ((v12 + (r_1 * (((isr v7 v13) &&& (1 : Int32)) * ((irem v13 v9) + (1 : Int32)))))) fun v12_1 =>
      lt (v13 + (1 : Int32)) fun v13_1 =>
      L_L_law_501 ba Ls xs v2 v3 v4 v5 v7 v8 v9 v10 v11 n v12_1 v13_1 S_1
     )
    )
   )
  ) else (
   some (v12, S)
  )
def L_L_law_693 (ba : Nat) (Ls : Nat) (xs : Nat → Int32) (v2 : Int32) (v3 : Int32) (v4 : Int32) (v5 : Int32) (v8 : Int32) (v10 : Int32) (v14 : Int32) : Nat → Int32 → Sg → Option ((Int32 × Sg) ⊕ (Sg))
  | 0, _, _ => none
  | n + 1, v15, S =>
  if v15 < (8 : Int32) then (
   bd (f_X6_would (0 : Int32) (isl (1 : Int32) v15) (0 : Int32) S) (u2 fun r_1 S_1 =>
    if r_1 = (2 : Int32) then (
     lt (v15 + (1 : Int32)) fun v15_1 =>
     L_L_law_693 ba Ls xs v2 v3 v4 v5 v8 v10 v14 n v15_1 S_1
    ) else (
     some (.inl ((0 : Int32), S_1))
    )
   )
  ) else (
   some (.inr S)
  )
def L_L_law_385 (ba : Nat) (Ls : Nat) (xs : Nat → Int32) (v2 : Int32) (v3 : Int32) (v4 : Int32) : Nat → Int32 → Sg → Option ((Int32 × Sg) ⊕ (Sg))
  | 0, _, _ => none
  | n + 1, v5, S =>
  if v5 < (6 : Int32) then (
   bd (f_L_cell ba Ls xs ((26 : Int32) + v5) S) fun r_1 =>
   bd (f_L_pick r_1 (255 : Int32)) fun r_2 =>
   lt (((1 : Int32) + r_2)) fun v7_1 =>
   bd (f_L_pick (isr r_1 (8 : Int32)) (3 : Int32)) fun r_3 =>
   lt (fun (x_1 : Int32) => (
    lt (fun (_ : Unit) => (
     bd (f_X6_would r_3 v7_1 x_1 S) (u2 fun r_4 S_1 =>
      bd (f_X6_count (0 : Int32) S_1) fun r_5 =>
      bd (L_L_law_501 ba Ls xs v2 v3 v4 v5 v7_1 r_3 x_1 r_4 r_5 400 (0 : Int32) (0 : Int32) S_1) (u2 fun v12_1 S_2 => (
       bd (f_X6_ask r_3 v7_1 x_1 S_2) (u2 fun r_6 S_3 =>
        lt (if r_4 = (2 : Int32) then (1000000005 : Int32) else v12_1) fun x_2 =>
        if r_6 = x_2 then (
         bd (f_X6_count (0 : Int32) S_3) fun r_7 =>
         lt (if r_4 = (1 : Int32) then (1 : Int32) else (0 : Int32)) fun x_3 =>
         if r_7 = (r_5 + x_3) then (
          lt (fun (S_4 : Sg) => (
           lt (fun (S_5 : Sg) => (
            lt ((v7_1 &&& (255 : Int32))) fun v14_1 =>
            bs (L_L_law_693 ba Ls xs v2 v3 v4 v5 r_3 r_4 v14_1 400 (0 : Int32) S_5) (fun q => some (.inl q)) (fun S_6 => (
             lt (fun (_ : Unit) => (
              if r_4 = (1 : Int32) then (
               bd (f_X6_count (2 : Int32) S_6) fun r_8 =>
               if r_8 = (3 : Int32) then (
                bd (f_X6_count (0 : Int32) S_6) fun r_9 =>
                bd (f_X6_count (3 : Int32) S_6) fun r_10 =>
                if r_10 < r_9 then (
                 some (.inl ((0 : Int32), S_6))
                ) else (
                 lt (v5 + (1 : Int32)) fun v5_3 =>
                 L_L_law_385 ba Ls xs v2 v3 v4 n v5_3 S_6
                )
               ) else (
                lt (v5 + (1 : Int32)) fun v5_2 =>
                L_L_law_385 ba Ls xs v2 v3 v4 n v5_2 S_6
               )
              ) else (
               lt (v5 + (1 : Int32)) fun v5_1 =>
               L_L_law_385 ba Ls xs v2 v3 v4 n v5_1 S_6
              )
             )) fun J_5 =>
             if r_4 = (1 : Int32) then (
              if r_3 = 0 then (
               bd (f_X6_count (2 : Int32) S_6) fun r_11 =>
               if r_11 = (1 : Int32) then (
                if (f_J6_bitCount_0f7a4 v14_1) < (2 : Int32) then (
                 some (.inl ((0 : Int32), S_6))
                ) else (
                 if (6 : Int32) < (f_J6_bitCount_0f7a4 v14_1) then (
                  some (.inl ((0 : Int32), S_6))
                 ) else (
                  J_5 ()
                 )
                )
               ) else (
                J_5 ()
               )
              ) else (
               J_5 ()
              )
             ) else (
              J_5 ()
             )
            ))
           )) fun J_4 =>
           if r_4 = (1 : Int32) then (
            bd (f_X6_answer r_5 S_4) (u2 fun r_12 S_7 =>
             if r_12 = v12_1.toInt64 then (
              J_4 S_7
             ) else (
              some (.inl ((0 : Int32), S_7))
             )
            )
           ) else (
            J_4 S_4
           )
          )) fun J_3 =>
          if r_4 = (2 : Int32) then (
           J_3 S_3
          ) else (
           bd (f_X6_would r_3 v7_1 x_1 S_3) (u2 fun r_13 S_8 =>
            if r_13 = 0 then (
             bd (f_X6_ask r_3 v7_1 x_1 S_8) (u2 fun r_14 S_9 =>
              if r_14 = v12_1 then (
               J_3 S_9
              ) else (
               some (.inl ((0 : Int32), S_9))
              )
             )
            ) else (
             some (.inl ((0 : Int32), S_8))
            )
           )
          )
         ) else (
          some (.inl ((0 : Int32), S_3))
         )
        ) else (
         some (.inl ((0 : Int32), S_3))
        )
       )
      ))
     )
    )) fun J_2 =>
    if r_3 = (1 : Int32) then (
     if x_1 = 0 then (
      lt (v5 + (1 : Int32)) fun v5_4 =>
      L_L_law_385 ba Ls xs v2 v3 v4 n v5_4 S
     ) else (
      J_2 ()
     )
    ) else (
     J_2 ()
    )
   )) fun J_1 =>
   if r_3 = (1 : Int32) then (
    J_1 (((isr r_1 (10 : Int32)) &&& (255 : Int32)) &&& (v7_1 ^^^ (-1 : Int32)))
   ) else (
    bd (f_L_pick (isr r_1 (10 : Int32)) (3 : Int32)) fun r_15 =>
    J_1 ((1 : Int32) + r_15)
   )
  ) else (
   some (.inr S)
  )
def f_L_law (ba : Nat) (Ls : Nat) (xs : Nat → Int32) (S : Sg) : Option (Int32 × Sg) :=
  bd (f_L_guard ba Ls xs (14 : Int32) S) fun S_1 =>
  bd (f_X6_image S_1) (u2 fun r_1 S_2 =>
   bd (f_X6_count (1 : Int32) S_2) fun r_2 =>
   bs (L_L_law_29 ba Ls xs r_1 r_2 400 (0 : Int32) S_2) (fun q => some q) (fun S_3 => (
    lt ((f_X6_pivots S_3)) fun v4_1 =>
    if (f_J6_bitCount_0f7a4 v4_1) = r_1 then (
     if r_1 < r_2 then (
      bd (f_X6_sums (1 : Int32) S_3) (u2 fun r_3 S_4 =>
       bd (f_X6_sums (2 : Int32) S_4) (u2 fun r_4 S_5 =>
        bd (f_X6_sums (3 : Int32) S_5) (u2 fun r_5 S_6 =>
         if ((r_3 + r_4) + r_5) = (255 : Int32) then (
          bs (L_L_law_234 ba Ls xs r_1 r_2 v4_1 400 (0 : Int32) S_6) (fun q => some q) (fun S_7 => (
           bs (L_L_law_385 ba Ls xs r_1 r_2 v4_1 400 (0 : Int32) S_7) (fun q => some q) (fun S_8 => (
            bd (f_X6_on S_8) (u2 fun r_6 S_9 =>
             if r_6 = r_1 then (
              bd (f_X6_count (0 : Int32) S_9) fun r_7 =>
              if r_7 = r_1 then (
               bd (f_X6_count (1 : Int32) S_9) fun r_8 =>
               lt (if r_8 = r_2 then (if (f_X6_pivots S_9) = v4_1 then (1 : Int32) else (0 : Int32)) else (0 : Int32)) fun x_1 =>
               some (x_1, S_9)
              ) else (
               some ((0 : Int32), S_9)
              )
             ) else (
              some ((0 : Int32), S_9)
             )
            )
           ))
          ))
         ) else (
          some ((0 : Int32), S_6)
         )
        )
       )
      )
     ) else (
      some ((0 : Int32), S_3)
     )
    ) else (
     some ((0 : Int32), S_3)
    )
   ))
  )
