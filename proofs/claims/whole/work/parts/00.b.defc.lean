def fC_R_emit (N : Nat) (σ : St) (a1 : Int32) : Option (St × Unit) :=
  if (160 : Int32) ≤ (σ.1 9) then
    some (σ, ())
  else
    gi (σ.1 9) 160 <|
    bnd (sA σ 13 (σ.1 9) a1) fun σ3 =>
    bnd (sI σ3 9 ((σ3.1 9) + (1 : Int32))) fun σ4 =>
    some (σ4, ())
def fC_R_kindNow (N : Nat) (σ : St) : Option (St × Int32) :=
  if (σ.1 21) ≤ (σ.1 10) then
    some (σ, (-1 : Int32))
  else
    gi (σ.1 10) 161 <|
    some (σ, σ.2.1 54 (σ.1 10).toNatClampNeg)
def fC_R_pass (N : Nat) (σ : St) (a1 : Int32) : Option (St × Int32) :=
  cal (fC_R_kindNow N σ ) fun σ1 r2 =>
  if r2 = a1 then
    bnd (sI σ1 10 ((σ1.1 10) + (1 : Int32))) fun σ5 =>
    some (σ5, (1 : Int32))
  else
    some (σ1, (0 : Int32))
def fC_R_readOne_j57 (N : Nat) (kA kB kC : St → Int32 → Option (St × Int32)) (σ : St) (a1 : Int32) (a2 : Int32) : Option (St × Int32) :=
  if a1 < (5 : Int32) then
    bnd (sI σ 10 ((σ.1 10) + (1 : Int32))) fun σ2 =>
    if a2 = (40 : Int32) then
      cal (kA σ2 (a1 + (1 : Int32))) fun σ11 r12 =>
      if r12 = 0 then
        some (σ11, (0 : Int32))
      else
        cal (fC_R_pass N σ11 (41 : Int32)) fun σ15 r16 =>
        if r16 = 0 then
          some (σ15, (0 : Int32))
        else
          some (σ15, (1 : Int32))
    else
      cal (kB σ2 (a1 + (1 : Int32))) fun σ4 r5 =>
      if r5 = 0 then
        some (σ4, (0 : Int32))
      else
        cal (fC_R_emit N σ4 (-19 : Int32)) fun σ8 r9 =>
        some (σ8, (1 : Int32))
  else
    some (σ, (0 : Int32))
def fC_R_readOne_j17 (N : Nat) (kA kB kC : St → Int32 → Option (St × Int32)) (σ : St) : Option (St × Int32) :=
  gi (σ.1 10) 161 <|
  cal (fC_R_emit N σ (σ.2.1 55 (σ.1 10).toNatClampNeg)) fun σ20 r21 =>
  bnd (sI σ20 10 ((σ20.1 10) + (1 : Int32))) fun σ23 =>
  some (σ23, (1 : Int32))
def fC_R_readOne (N : Nat) (kA kB kC : St → Int32 → Option (St × Int32)) (σ : St) (a1 : Int32) : Option (St × Int32) :=
  cal (fC_R_kindNow N σ ) fun σ24 r25 =>
  if r25 = (-3 : Int32) then
    fC_R_readOne_j17 N kA kB kC  σ24 
  else
    if r25 = (-4 : Int32) then
      fC_R_readOne_j17 N kA kB kC  σ24 
    else
      if r25 = (40 : Int32) then
        fC_R_readOne_j57 N kA kB kC  σ24 a1 r25
      else
        if r25 = (45 : Int32) then
          fC_R_readOne_j57 N kA kB kC  σ24 a1 r25
        else
          some (σ24, (0 : Int32))
def fC_R_readTerm_l12 (N : Nat) (kA kB kC : St → Int32 → Option (St × Int32)) : Nat → St → Int32 → Int32 → Option (St × Int32)
  | 0, _, _, _ => none
  | n12 + 1, σ, a1, a2 =>
    if (160 : Int32) ≤ a2 then
      some (σ, (1 : Int32))
    else
      cal (fC_R_pass N σ (42 : Int32)) fun σ2 r3 =>
      if r3 = 0 then
        some (σ2, (1 : Int32))
      else
        cal (fC_R_readOne N kA kB kC σ2 a1) fun σ6 r7 =>
        if r7 = 0 then
          some (σ6, (0 : Int32))
        else
          cal (fC_R_emit N σ6 (-18 : Int32)) fun σ10 r11 =>
          bnd (a2 + (1 : Int32)) fun x13 =>
          (fC_R_readTerm_l12 N kA kB kC  n12) σ10 a1 x13
def fC_R_readTerm (N : Nat) (kA kB kC : St → Int32 → Option (St × Int32)) (σ : St) (a1 : Int32) : Option (St × Int32) :=
  cal (fC_R_readOne N kA kB kC σ a1) fun σ14 r15 =>
  if r15 = 0 then
    some (σ14, (0 : Int32))
  else
    fC_R_readTerm_l12 N kA kB kC  N σ14 a1 (0 : Int32)
def fC_R_readSum_j70 (N : Nat) (kA kB kC : St → Int32 → Option (St × Int32)) (k17 : St → Int32 → Int32 → Int32 → Option (St × Int32)) (σ : St) (a1 : Int32) (a3 : Int32) (t1 : Int32) : Option (St × Int32) :=
  cal (fC_R_emit N σ t1) fun σ1 r2 =>
  cal (fC_R_kindNow N σ1 ) fun σ4 r5 =>
  bnd (a3 + (1 : Int32)) fun x7 =>
  k17 σ4 a1 r5 x7
def fC_R_readSum_j36 (N : Nat) (kA kB kC : St → Int32 → Option (St × Int32)) (k17 : St → Int32 → Int32 → Int32 → Option (St × Int32)) (σ : St) (a1 : Int32) (a2 : Int32) (a3 : Int32) : Option (St × Int32) :=
  bnd (sI σ 10 ((σ.1 10) + (1 : Int32))) fun σ8 =>
  cal (fC_R_readTerm N kA kB kC σ8 a1) fun σ9 r10 =>
  if r10 = 0 then
    some (σ9, (0 : Int32))
  else
    if a2 = (43 : Int32) then
      fC_R_readSum_j70 N kA kB kC k17 σ9 a1 a3 (-16 : Int32)
    else
      fC_R_readSum_j70 N kA kB kC k17 σ9 a1 a3 (-17 : Int32)
def fC_R_readSum_l17 (N : Nat) (kA kB kC : St → Int32 → Option (St × Int32)) : Nat → St → Int32 → Int32 → Int32 → Option (St × Int32)
  | 0, _, _, _, _ => none
  | n17 + 1, σ, a1, a2, a3 =>
    if (160 : Int32) ≤ a3 then
      some (σ, (1 : Int32))
    else
      if a2 = (43 : Int32) then
        fC_R_readSum_j36 N kA kB kC (fC_R_readSum_l17 N kA kB kC  n17) σ a1 a2 a3
      else
        if a2 = (45 : Int32) then
          fC_R_readSum_j36 N kA kB kC (fC_R_readSum_l17 N kA kB kC  n17) σ a1 a2 a3
        else
          some (σ, (1 : Int32))
def fC_R_readSum (N : Nat) (kA kB kC : St → Int32 → Option (St × Int32)) (σ : St) (a1 : Int32) : Option (St × Int32) :=
  cal (fC_R_readTerm N kA kB kC σ a1) fun σ17 r18 =>
  if r18 = 0 then
    some (σ17, (0 : Int32))
  else
    cal (fC_R_kindNow N σ17 ) fun σ21 r22 =>
    fC_R_readSum_l17 N kA kB kC  N σ21 a1 r22 (0 : Int32)
def fC_R_readNot_j108 (N : Nat) (kA kB kC : St → Int32 → Option (St × Int32)) (σ : St) (t1 : Int32) : Option (St × Int32) :=
  cal (fC_R_emit N σ t1) fun σ1 r2 =>
  some (σ1, (1 : Int32))
def fC_R_readNot_j74 (N : Nat) (kA kB kC : St → Int32 → Option (St × Int32)) (σ : St) (a1 : Int32) (a2 : Int32) : Option (St × Int32) :=
  bnd (sI σ 10 ((σ.1 10) + (1 : Int32))) fun σ4 =>
  cal (fC_R_readSum N kA kB kC σ4 a1) fun σ5 r6 =>
  if r6 = 0 then
    some (σ5, (0 : Int32))
  else
    if a2 = (60 : Int32) then
      fC_R_readNot_j108 N kA kB kC  σ5 (-14 : Int32)
    else
      fC_R_readNot_j108 N kA kB kC  σ5 (-15 : Int32)
def fC_R_readNot (N : Nat) (kA kB kC : St → Int32 → Option (St × Int32)) (σ : St) (a1 : Int32) : Option (St × Int32) :=
  cal (fC_R_kindNow N σ ) fun σ10 r11 =>
  if r11 = (267 : Int32) then
    if a1 < (5 : Int32) then
      bnd (sI σ10 10 ((σ10.1 10) + (1 : Int32))) fun σ24 =>
      cal (kC σ24 (a1 + (1 : Int32))) fun σ25 r26 =>
      if r26 = 0 then
        some (σ25, (0 : Int32))
      else
        cal (fC_R_emit N σ25 (-13 : Int32)) fun σ29 r30 =>
        some (σ29, (1 : Int32))
    else
      some (σ10, (0 : Int32))
  else
    cal (fC_R_readSum N kA kB kC σ10 a1) fun σ14 r15 =>
    if r15 = 0 then
      some (σ14, (0 : Int32))
    else
      cal (fC_R_kindNow N σ14 ) fun σ18 r19 =>
      if r19 = (60 : Int32) then
        fC_R_readNot_j74 N kA kB kC  σ18 a1 r19
      else
        if r19 = (61 : Int32) then
          fC_R_readNot_j74 N kA kB kC  σ18 a1 r19
        else
          some (σ18, (1 : Int32))
def fC_R_readAnd_l12 (N : Nat) (kA kB kC : St → Int32 → Option (St × Int32)) : Nat → St → Int32 → Int32 → Option (St × Int32)
  | 0, _, _, _ => none
  | n12 + 1, σ, a1, a2 =>
    if (160 : Int32) ≤ a2 then
      some (σ, (1 : Int32))
    else
      cal (fC_R_pass N σ (266 : Int32)) fun σ2 r3 =>
      if r3 = 0 then
        some (σ2, (1 : Int32))
      else
        cal (fC_R_readNot N kA kB kC σ2 a1) fun σ6 r7 =>
        if r7 = 0 then
          some (σ6, (0 : Int32))
        else
          cal (fC_R_emit N σ6 (-12 : Int32)) fun σ10 r11 =>
          bnd (a2 + (1 : Int32)) fun x13 =>
          (fC_R_readAnd_l12 N kA kB kC  n12) σ10 a1 x13
def fC_R_readAnd (N : Nat) (kA kB kC : St → Int32 → Option (St × Int32)) (σ : St) (a1 : Int32) : Option (St × Int32) :=
  cal (fC_R_readNot N kA kB kC σ a1) fun σ14 r15 =>
  if r15 = 0 then
    some (σ14, (0 : Int32))
  else
    fC_R_readAnd_l12 N kA kB kC  N σ14 a1 (0 : Int32)
def fC_R_readOr_l12 (N : Nat) (kA kB kC : St → Int32 → Option (St × Int32)) : Nat → St → Int32 → Int32 → Option (St × Int32)
  | 0, _, _, _ => none
  | n12 + 1, σ, a1, a2 =>
    if (160 : Int32) ≤ a2 then
      some (σ, (1 : Int32))
    else
      cal (fC_R_pass N σ (265 : Int32)) fun σ2 r3 =>
      if r3 = 0 then
        some (σ2, (1 : Int32))
      else
        cal (fC_R_readAnd N kA kB kC σ2 a1) fun σ6 r7 =>
        if r7 = 0 then
          some (σ6, (0 : Int32))
        else
          cal (fC_R_emit N σ6 (-11 : Int32)) fun σ10 r11 =>
          bnd (a2 + (1 : Int32)) fun x13 =>
          (fC_R_readOr_l12 N kA kB kC  n12) σ10 a1 x13
def fC_R_readOr (N : Nat) (kA kB kC : St → Int32 → Option (St × Int32)) (σ : St) (a1 : Int32) : Option (St × Int32) :=
  cal (fC_R_readAnd N kA kB kC σ a1) fun σ14 r15 =>
  if r15 = 0 then
    some (σ14, (0 : Int32))
  else
    fC_R_readOr_l12 N kA kB kC  N σ14 a1 (0 : Int32)
def fC_lv (N : Nat) : Nat → (St → Int32 → Option (St × Int32)) × (St → Int32 → Option (St × Int32)) × (St → Int32 → Option (St × Int32))
  | 0 => (fun _ _ => none, fun _ _ => none, fun _ _ => none)
  | d + 1 => (fC_R_readOr N (fC_lv N d).1 (fC_lv N d).2.1 (fC_lv N d).2.2, fC_R_readOne N (fC_lv N d).1 (fC_lv N d).2.1 (fC_lv N d).2.2, fC_R_readNot N (fC_lv N d).1 (fC_lv N d).2.1 (fC_lv N d).2.2)
def fC_isWithin (N : Nat) (σ : St) (a0 : Int32) (a1 : Int32) (a2 : Int32) : Option (St × Int32) :=
  if a0 < a1 then
    some (σ, (0 : Int32))
  else
    if a2 < a0 then
      some (σ, (0 : Int32))
    else
      some (σ, (1 : Int32))
def fC_isSide (N : Nat) (σ : St) (a0 : Int32) : Option (St × Int32) :=
  cal (fC_isWithin N σ a0 (0 : Int32) (3 : Int32)) fun σ1 r2 =>
  gd (r2 = 0 ∨ r2 = 1) <|
  some (σ1, r2)
def fC_isPlace (N : Nat) (σ : St) (a0 : Int32) : Option (St × Int32) :=
  cal (fC_isWithin N σ a0 (0 : Int32) (9999 : Int32)) fun σ1 r2 =>
  gd (r2 = 0 ∨ r2 = 1) <|
  some (σ1, r2)
def fC_isSpeed (N : Nat) (σ : St) (a0 : Int32) : Option (St × Int32) :=
  cal (fC_isWithin N σ a0 (-99 : Int32) (99 : Int32)) fun σ1 r2 =>
  gd (r2 = 0 ∨ r2 = 1) <|
  some (σ1, r2)
def fC_S_add (N : Nat) (σ : St) (a1 : Int32) (a2 : Int32) (a3 : Int32) : Option (St × Int32) :=
  cal (fC_isSide N σ a1) fun σ1 r2 =>
  if r2 = 0 then
    some (σ1, (-2 : Int32))
  else
    cal (fC_isPlace N σ1 a2) fun σ5 r6 =>
    if r6 = 0 then
      some (σ5, (-2 : Int32))
    else
      cal (fC_isSpeed N σ5 a3) fun σ9 r10 =>
      if r10 = 0 then
        some (σ9, (-2 : Int32))
      else
        if (σ9.1 14) < (10 : Int32) then
          gi (σ9.1 14) 10 <|
          bnd (sA σ9 32 (σ9.1 14) a1) fun σ15 =>
          gi (σ15.1 14) 10 <|
          bnd (sA σ15 33 (σ15.1 14) a2) fun σ17 =>
          gi (σ17.1 14) 10 <|
          bnd (sA σ17 34 (σ17.1 14) a3) fun σ19 =>
          bnd (sI σ19 14 ((σ19.1 14) + (1 : Int32))) fun σ20 =>
          some (σ20, (σ20.1 14) - (1 : Int32))
        else
          some (σ9, (-4 : Int32))
def fC_man (N : Nat) (σ : St) (a1 : Int32) (a2 : Int32) (a3 : Int32) : Option (St × Int32) :=
  cal (fC_S_add N σ a1 a2 a3) fun σ1 r2 =>
  some (σ1, r2)
def fC_S_has (N : Nat) (σ : St) (a1 : Int32) : Option (St × Int32) :=
  if a1 < 0 then
    some (σ, (0 : Int32))
  else
    if (σ.1 14) ≤ a1 then
      some (σ, (0 : Int32))
    else
      some (σ, (1 : Int32))
def fC_isPart (N : Nat) (σ : St) (a0 : Int32) : Option (St × Int32) :=
  cal (fC_isWithin N σ a0 (0 : Int32) (3 : Int32)) fun σ1 r2 =>
  gd (r2 = 0 ∨ r2 = 1) <|
  some (σ1, r2)
def fC_S_offOf (N : Nat) (σ : St) (a1 : Int32) (a2 : Int32) : Option (St × Int32) :=
  bnd ((a1 * (4 : Int32)) + a2) fun x1 =>
  if x1 < 0 then
    some (σ, (0 : Int32))
  else
    if (40 : Int32) ≤ x1 then
      some (σ, (0 : Int32))
    else
      gi x1 40 <|
      some (σ, σ.2.1 35 x1.toNatClampNeg)
def fC_part (N : Nat) (σ : St) (a1 : Int32) (a2 : Int32) (a3 : Int32) : Option (St × Int32) :=
  cal (fC_S_has N σ a1) fun σ1 r2 =>
  if r2 = 0 then
    some (σ1, (-1000 : Int32))
  else
    cal (fC_isPart N σ1 a2) fun σ5 r6 =>
    if r6 = 0 then
      some (σ5, (-1000 : Int32))
    else
      cal (fC_isWithin N σ5 a3 (-199 : Int32) (199 : Int32)) fun σ9 r10 =>
      if r10 = 0 then
        some (σ9, (-1000 : Int32))
      else
        cal (fC_S_offOf N σ9 a1 a2) fun σ13 r14 =>
        gi ((a1 * (4 : Int32)) + a2) 40 <|
        bnd (sA σ13 35 ((a1 * (4 : Int32)) + a2) a3) fun σ17 =>
        some (σ17, r14)
def fC_move_j59 (N : Nat) (σ : St) (a1 : Int32) (a2 : Int32) (a3 : Int32) : Option (St × Int32) :=
  if a2 = (1 : Int32) then
    cal (fC_isSpeed N σ a3) fun σ2 r3 =>
    if r3 = 0 then
      some (σ2, (-1000 : Int32))
    else
      gi a1 10 <|
      bnd (σ2.2.1 34 a1.toNatClampNeg) fun x7 =>
      gi a1 10 <|
      bnd (sA σ2 34 a1 a3) fun σ9 =>
      some (σ9, x7)
  else
    some (σ, (-1000 : Int32))
def fC_move (N : Nat) (σ : St) (a1 : Int32) (a2 : Int32) (a3 : Int32) : Option (St × Int32) :=
  cal (fC_S_has N σ a1) fun σ10 r11 =>
  if r11 = 0 then
    some (σ10, (-1000 : Int32))
  else
    if a2 = 0 then
      cal (fC_isPlace N σ10 a3) fun σ15 r16 =>
      if r16 = 0 then
        fC_move_j59 N  σ15 a1 a2 a3
      else
        gi a1 10 <|
        bnd (σ15.2.1 33 a1.toNatClampNeg) fun x20 =>
        gi a1 10 <|
        bnd (sA σ15 33 a1 a3) fun σ22 =>
        some (σ22, x20)
    else
      fC_move_j59 N  σ10 a1 a2 a3
def fC_isTick (N : Nat) (σ : St) (a0 : Int32) : Option (St × Int32) :=
  cal (fC_isWithin N σ a0 (0 : Int32) (200 : Int32)) fun σ1 r2 =>
  gd (r2 = 0 ∨ r2 = 1) <|
  some (σ1, r2)
def fC_P_lookAsStanding (N : Nat) (σ : St) (a1 : Int32) (a2 : Int32) (a3 : Int32) : Option (St × Unit) :=
  bnd (sI σ 4 a1) fun σ1 =>
  bnd (sI σ1 5 a2) fun σ2 =>
  bnd (sI σ2 6 a3) fun σ3 =>
  some (σ3, ())
def fC_P_lookAs (N : Nat) (σ : St) (a1 : Int32) : Option (St × Unit) :=
  cal (fC_P_lookAsStanding N σ a1 (-1 : Int32) (0 : Int32)) fun σ1 r2 =>
  some (σ1, ())
def fC_P_whereIs_j24 (N : Nat) (σ : St) (a1 : Int32) (a2 : Int32) (t0 : Int32) : Option (St × Int32) :=
  gi a1 10 <|
  gi a1 10 <|
  some (σ, ((σ.2.1 33 a1.toNatClampNeg) - t0) + (a2 * (σ.2.1 34 a1.toNatClampNeg)))
def fC_P_whereIs (N : Nat) (σ : St) (a1 : Int32) (a2 : Int32) : Option (St × Int32) :=
  gi a1 10 <|
  if (σ.2.1 32 a1.toNatClampNeg) = (σ.1 5) then
    fC_P_whereIs_j24 N  σ a1 a2 (σ.1 6)
  else
    fC_P_whereIs_j24 N  σ a1 a2 (0 : Int32)
def fC_T_ofOne (N : Nat) (σ : St) (a0 : Int32) (a1 : Int32) : Option (St × Int32) :=
  if a0 = (-19 : Int32) then
    some (σ, -a1)
  else
    if a1 = 0 then
      some (σ, (1 : Int32))
    else
      some (σ, (0 : Int32))
def fC_T_ofTwo (N : Nat) (σ : St) (a0 : Int32) (a1 : Int32) (a2 : Int32) : Option (St × Int32) :=
  if a0 = (-17 : Int32) then
    some (σ, a1 - a2)
  else
  if a0 = (-16 : Int32) then
    some (σ, a1 + a2)
  else
  if a0 = (-15 : Int32) then
    if a1 = a2 then
      some (σ, (1 : Int32))
    else
      some (σ, (0 : Int32))
  else
  if a0 = (-14 : Int32) then
    if a2 ≤ a1 then
      some (σ, (0 : Int32))
    else
      some (σ, (1 : Int32))
  else
  if a0 = (-13 : Int32) then
    some (σ, a1 * a2)
  else
  if a0 = (-12 : Int32) then
    if a1 = 0 then
      some (σ, (0 : Int32))
    else
      if a2 = 0 then
        some (σ, (0 : Int32))
      else
        some (σ, (1 : Int32))
  else
  if a0 = (-11 : Int32) then
    if a1 = 0 then
      if a2 = 0 then
        some (σ, (0 : Int32))
      else
        some (σ, (1 : Int32))
    else
      some (σ, (1 : Int32))
  else
  some (σ, a1 * a2)
def fC_T_worth_j201 (N : Nat) (σ : St) (a5 : Int32) : Option (St × Int32) :=
  if a5 ≤ 0 then
    some (σ, (0 : Int32))
  else
    gi (a5 - (1 : Int32)) 160 <|
    some (σ, σ.2.1 45 (a5 - (1 : Int32)).toNatClampNeg)
def fC_T_worth_j195 (N : Nat) (k36 : St → Int32 → Int32 → Int32 → Option (St × Int32)) (σ : St) (a4 : Int32) (a5 : Int32) (a6 : Int32) : Option (St × Int32) :=
  bnd (a6 + (1 : Int32)) fun x3 =>
  k36 σ a4 a5 x3
def fC_T_worth_j120 (N : Nat) (k36 : St → Int32 → Int32 → Int32 → Option (St × Int32)) (σ : St) (a4 : Int32) (a5 : Int32) (a6 : Int32) (a7 : Int32) : Option (St × Int32) :=
  if (1 : Int32) ≤ a5 then
    gi (a5 - (1 : Int32)) 160 <|
    cal (fC_T_ofOne N σ a7 (σ.2.1 45 (a5 - (1 : Int32)).toNatClampNeg)) fun σ6 r7 =>
    gi (a5 - (1 : Int32)) 160 <|
    bnd (sA σ6 45 (a5 - (1 : Int32)) r7) fun σ10 =>
    fC_T_worth_j195 N k36 σ10 a4 a5 a6
  else
    some (σ, (0 : Int32))
def fC_T_worth_j99 (N : Nat) (k36 : St → Int32 → Int32 → Int32 → Option (St × Int32)) (σ : St) (a4 : Int32) (a5 : Int32) (a6 : Int32) (t1 : Int32) (t2 : Int32) : Option (St × Int32) :=
  gi t1 160 <|
  bnd (sA σ 45 t1 t2) fun σ12 =>
  bnd (a5 + (1 : Int32)) fun x13 =>
  fC_T_worth_j195 N k36 σ12 a4 x13 a6
def fC_T_worth_l36 (N : Nat) : Nat → St → Int32 → Int32 → Int32 → Option (St × Int32)
  | 0, _, _, _, _ => none
  | n36 + 1, σ, a4, a5, a6 =>
    gi a4 18 <|
    if (σ.2.1 43 a4.toNatClampNeg) ≤ a6 then
      fC_T_worth_j201 N  σ a5
    else
      gi a6 960 <|
      bnd (σ.2.1 41 a6.toNatClampNeg) fun x17 =>
      if x17 < (-6 : Int32) then
        if x17 = (-13 : Int32) then
          fC_T_worth_j120 N (fC_T_worth_l36 N  n36) σ a4 a5 a6 x17
        else
          if x17 = (-19 : Int32) then
            fC_T_worth_j120 N (fC_T_worth_l36 N  n36) σ a4 a5 a6 x17
          else
            if (2 : Int32) ≤ a5 then
              bnd (a5 + (-1 : Int32)) fun x22 =>
              gi (x22 - (1 : Int32)) 160 <|
              gi x22 160 <|
              cal (fC_T_ofTwo N σ x17 (σ.2.1 45 (x22 - (1 : Int32)).toNatClampNeg) (σ.2.1 45 x22.toNatClampNeg)) fun σ25 r26 =>
              gi (x22 - (1 : Int32)) 160 <|
              bnd (sA σ25 45 (x22 - (1 : Int32)) r26) fun σ29 =>
              fC_T_worth_j195 N (fC_T_worth_l36 N  n36) σ29 a4 x22 a6
            else
              some (σ, (0 : Int32))
      else
        if a5 < (160 : Int32) then
          if x17 < 0 then
            gi ((-1 : Int32) - x17) 6 <|
            fC_T_worth_j99 N (fC_T_worth_l36 N  n36) σ a4 a5 a6 a5 (σ.2.1 44 ((-1 : Int32) - x17).toNatClampNeg)
          else
            fC_T_worth_j99 N (fC_T_worth_l36 N  n36) σ a4 a5 a6 a5 x17
        else
          some (σ, (0 : Int32))
def fC_T_worth (N : Nat) (σ : St) (a1 : Int32) (a2 : Int32) (a3 : Int32) : Option (St × Int32) :=
  gi (0 : Int32) 6 <|
  bnd (sA σ 44 (0 : Int32) a2) fun σ34 =>
  gi (1 : Int32) 6 <|
  bnd (sA σ34 44 (1 : Int32) a3) fun σ36 =>
  bnd (((σ36.1 18) * (3 : Int32)) + a1) fun x37 =>
  gi x37 18 <|
  bnd (σ36.2.1 42 x37.toNatClampNeg) fun x39 =>
  fC_T_worth_l36 N  N σ36 x37 (0 : Int32) x39
def fC_T_regard (N : Nat) (σ : St) (a1 : Int32) (a2 : Int32) (a3 : Int32) (a4 : Int32) : Option (St × Unit) :=
  gi (2 : Int32) 6 <|
  bnd (sA σ 44 (2 : Int32) a1) fun σ2 =>
  gi (3 : Int32) 6 <|
  bnd (sA σ2 44 (3 : Int32) a2) fun σ4 =>
  gi (4 : Int32) 6 <|
  bnd (sA σ4 44 (4 : Int32) a3) fun σ6 =>
  gi (5 : Int32) 6 <|
  bnd (sA σ6 44 (5 : Int32) a4) fun σ8 =>
  some (σ8, ())
def fC_P_leadOf_j102 (N : Nat) (k35 : St → Int32 → Int32 → Int32 → Option (St × Int32)) (σ : St) (a1 : Int32) (a3 : Int32) (a4 : Int32) : Option (St × Int32) :=
  bnd (a4 + (1 : Int32)) fun x1 =>
  k35 σ a1 a3 x1
def fC_P_leadOf_j77 (N : Nat) (k35 : St → Int32 → Int32 → Int32 → Option (St × Int32)) (σ : St) (a1 : Int32) (a3 : Int32) (a4 : Int32) (a5 : Int32) (t0 : Int32) : Option (St × Int32) :=
  if t0 = 0 then
    fC_P_leadOf_j102 N k35 σ a1 a3 a4
  else
    cal (fC_T_worth N σ (0 : Int32) a4 a5) fun σ3 r4 =>
    if r4 = 0 then
      fC_P_leadOf_j102 N k35 σ3 a1 a3 a4
    else
      fC_P_leadOf_j102 N k35 σ3 a1 a4 a4
def fC_P_leadOf_j72 (N : Nat) (k35 : St → Int32 → Int32 → Int32 → Option (St × Int32)) (σ : St) (a1 : Int32) (a3 : Int32) (a4 : Int32) (a5 : Int32) : Option (St × Int32) :=
  fC_P_leadOf_j77 N k35 σ a1 a3 a4 a5 (1 : Int32)
def fC_P_leadOf_l35 (N : Nat) : Nat → St → Int32 → Int32 → Int32 → Option (St × Int32)
  | 0, _, _, _, _ => none
  | n35 + 1, σ, a1, a3, a4 =>
    if (4 : Int32) ≤ a4 then
      some (σ, a3)
    else
      cal (fC_S_offOf N σ a1 a4) fun σ8 r9 =>
      if a3 = (-1 : Int32) then
        fC_P_leadOf_j72 N (fC_P_leadOf_l35 N  n35) σ8 a1 a3 a4 r9
      else
        cal (fC_S_offOf N σ8 a1 a3) fun σ12 r13 =>
        if r9 ≤ r13 then
          fC_P_leadOf_j77 N (fC_P_leadOf_l35 N  n35) σ12 a1 a3 a4 r9 (0 : Int32)
        else
          fC_P_leadOf_j72 N (fC_P_leadOf_l35 N  n35) σ12 a1 a3 a4 r9
def fC_P_leadOf (N : Nat) (σ : St) (a1 : Int32) (a2 : Int32) : Option (St × Int32) :=
  gi a1 10 <|
  gi a1 10 <|
  cal (fC_T_regard N σ (σ.2.1 34 a1.toNatClampNeg) (σ.2.1 32 a1.toNatClampNeg) a2 (σ.1 4)) fun σ18 r19 =>
  fC_P_leadOf_l35 N  N σ18 a1 (-1 : Int32) (0 : Int32)
def fC_P_frontOf_j25 (N : Nat) (σ : St) (a1 : Int32) (a2 : Int32) (t0 : Int32) : Option (St × Int32) :=
  cal (fC_P_whereIs N σ a1 a2) fun σ1 r2 =>
  some (σ1, r2 + t0)
def fC_P_frontOf (N : Nat) (σ : St) (a1 : Int32) (a2 : Int32) : Option (St × Int32) :=
  cal (fC_P_leadOf N σ a1 a2) fun σ4 r5 =>
  if r5 = (-1 : Int32) then
    fC_P_frontOf_j25 N  σ4 a1 a2 (0 : Int32)
  else
    cal (fC_S_offOf N σ4 a1 r5) fun σ8 r9 =>
    fC_P_frontOf_j25 N  σ8 a1 a2 r9
def fC_footIfNone (N : Nat) (σ : St) (a0 : Int32) : Option (St × Int32) :=
  if a0 = (-1 : Int32) then
    some (σ, (3 : Int32))
  else
    some (σ, a0)
def fC_front (N : Nat) (σ : St) (a1 : Int32) (a2 : Int32) (a3 : Int32) : Option (St × Int64) :=
  cal (fC_S_has N σ a1) fun σ1 r2 =>
  if r2 = 0 then
    some (σ1, (-4611686018427387904 : Int64))
  else
    cal (fC_isTick N σ1 a2) fun σ5 r6 =>
    if r6 = 0 then
      some (σ5, (-4611686018427387904 : Int64))
    else
      cal (fC_P_lookAs N σ5 (σ5.1 3)) fun σ9 r10 =>
      if a3 = (0 : Int32) then
        cal (fC_P_frontOf N σ9 a1 a2) fun σ13 r14 =>
        some (σ13, r14.toInt64)
      else
      if a3 = (1 : Int32) then
        cal (fC_P_leadOf N σ9 a1 a2) fun σ17 r18 =>
        cal (fC_footIfNone N σ17 r18) fun σ20 r21 =>
        some (σ20, r21.toInt64)
      else
      if a3 = (2 : Int32) then
        cal (fC_P_whereIs N σ9 a1 a2) fun σ24 r25 =>
        some (σ24, r25.toInt64)
      else
      some (σ9, (-4611686018427387904 : Int64))
def fC_A_add (N : Nat) (σ : St) (a1 : Int32) (a2 : Int32) (a3 : Int32) : Option (St × Int32) :=
  cal (fC_isWithin N σ a1 (1 : Int32) (20 : Int32)) fun σ1 r2 =>
  if r2 = 0 then
    some (σ1, (-2 : Int32))
  else
    cal (fC_isWithin N σ1 a2 (0 : Int32) (19 : Int32)) fun σ5 r6 =>
    if r6 = 0 then
      some (σ5, (-2 : Int32))
    else
      cal (fC_isWithin N σ5 a3 (-9 : Int32) (9 : Int32)) fun σ9 r10 =>
      if r10 = 0 then
        some (σ9, (-2 : Int32))
      else
        if (σ9.1 15) < (4 : Int32) then
          gi (σ9.1 15) 4 <|
          bnd (sA σ9 36 (σ9.1 15) a1) fun σ15 =>
          gi (σ15.1 15) 4 <|
          bnd (sA σ15 37 (σ15.1 15) a2) fun σ17 =>
          gi (σ17.1 15) 4 <|
          bnd (sA σ17 38 (σ17.1 15) a3) fun σ19 =>
          bnd (sI σ19 15 ((σ19.1 15) + (1 : Int32))) fun σ20 =>
          some (σ20, (σ20.1 15) - (1 : Int32))
        else
          some (σ9, (-4 : Int32))
def fC_camera (N : Nat) (σ : St) (a1 : Int32) (a2 : Int32) (a3 : Int32) : Option (St × Int32) :=
  cal (fC_A_add N σ a1 a2 a3) fun σ1 r2 =>
  some (σ1, r2)
def fC_A_has (N : Nat) (σ : St) (a1 : Int32) : Option (St × Int32) :=
  if a1 < 0 then
    some (σ, (0 : Int32))
  else
    if (σ.1 15) ≤ a1 then
      some (σ, (0 : Int32))
    else
      some (σ, (1 : Int32))
def fC_A_frameFor (N : Nat) (σ : St) (a1 : Int32) (a2 : Int32) : Option (St × Int32) :=
  gi a1 4 <|
  bnd (σ.2.1 37 a1.toNatClampNeg) fun x2 =>
  gi a1 4 <|
  bnd (σ.2.1 36 a1.toNatClampNeg) fun x4 =>
  if a2 < x2 then
    some (σ, x2)
  else
    if (1 : Int32) ≤ x4 then
      gd (¬ x4 = 0) <|
      some (σ, a2 - ((a2 - x2) - (a2 - x2) / x4 * x4))
    else
      some (σ, x2)
def fC_frame (N : Nat) (σ : St) (a1 : Int32) (a2 : Int32) : Option (St × Int32) :=
  cal (fC_A_has N σ a1) fun σ1 r2 =>
  if r2 = 0 then
    some (σ1, (-2 : Int32))
  else
    cal (fC_isTick N σ1 a2) fun σ5 r6 =>
    if r6 = 0 then
      some (σ5, (-2 : Int32))
    else
      cal (fC_A_frameFor N σ5 a1 a2) fun σ9 r10 =>
      some (σ9, r10)
def fC_A_seenAt (N : Nat) (σ : St) (a1 : Int32) (a2 : Int32) : Option (St × Int32) :=
  gi a1 4 <|
  some (σ, a2 + (((σ.2.1 38 a1.toNatClampNeg) * a2) / (1000 : Int32)))
def fC_sees (N : Nat) (σ : St) (a1 : Int32) (a2 : Int32) : Option (St × Int64) :=
  cal (fC_A_has N σ a1) fun σ1 r2 =>
  if r2 = 0 then
    some (σ1, (-4611686018427387904 : Int64))
  else
    cal (fC_isWithin N σ1 a2 (-99999 : Int32) (99999 : Int32)) fun σ5 r6 =>
    if r6 = 0 then
      some (σ5, (-4611686018427387904 : Int64))
    else
      cal (fC_A_seenAt N σ5 a1 a2) fun σ9 r10 =>
      some (σ9, r10.toInt64)
def fC_O_add (N : Nat) (σ : St) (a1 : Int32) (a2 : Int32) : Option (St × Int32) :=
  cal (fC_isWithin N σ a1 (-20 : Int32) (20 : Int32)) fun σ1 r2 =>
  if r2 = 0 then
    some (σ1, (-2 : Int32))
  else
    cal (fC_isWithin N σ1 a2 (0 : Int32) (9 : Int32)) fun σ5 r6 =>
    if r6 = 0 then
      some (σ5, (-2 : Int32))
    else
      if (σ5.1 16) < (6 : Int32) then
        gi (σ5.1 16) 6 <|
        bnd (sA σ5 39 (σ5.1 16) a1) fun σ11 =>
        gi (σ11.1 16) 6 <|
        bnd (sA σ11 40 (σ11.1 16) a2) fun σ13 =>
        bnd (sI σ13 16 ((σ13.1 16) + (1 : Int32))) fun σ14 =>
        some (σ14, (σ14.1 16) - (1 : Int32))
      else
        some (σ5, (-4 : Int32))
def fC_crosser (N : Nat) (σ : St) (a1 : Int32) (a2 : Int32) : Option (St × Int32) :=
  cal (fC_O_add N σ a1 a2) fun σ1 r2 =>
  some (σ1, r2)
def fC_B_put (N : Nat) (σ : St) (a1 : Int32) : Option (St × Unit) :=
  if (160 : Int32) ≤ (σ.1 20) then
    some (σ, ())
  else
    gi (σ.1 20) 160 <|
    bnd (sA σ 53 (σ.1 20) a1) fun σ3 =>
    bnd (sI σ3 20 ((σ3.1 20) + (1 : Int32))) fun σ4 =>
    some (σ4, ())
def fC_feed_l37 (N : Nat) : Nat → St → Int32 → Int64 → Int32 → Option (St × Int32)
  | 0, _, _, _, _ => none
  | n37 + 1, σ, a1, a2, a4 =>
    if a1 ≤ a4 then
      some (σ, σ.1 20)
    else
      cal (fC_B_put N σ ((((a2.toUInt64 >>> (((8 : Int32) * a4).toInt64.toUInt64 &&& Int64.toUInt64 63)).toInt64).toInt32) &&& (255 : Int32))) fun σ2 r3 =>
      bnd (a4 + (1 : Int32)) fun x5 =>
      (fC_feed_l37 N  n37) σ2 a1 a2 x5
def fC_feed (N : Nat) (σ : St) (a1 : Int32) (a2 : Int64) : Option (St × Int32) :=
  cal (fC_isWithin N σ a1 (1 : Int32) (8 : Int32)) fun σ6 r7 =>
  if r7 = 0 then
    some (σ6, (-2 : Int32))
  else
    if ((σ6.1 20) + a1) ≤ (160 : Int32) then
      fC_feed_l37 N  N σ6 a1 a2 (0 : Int32)
    else
      some (σ6, (-4 : Int32))
def fC_B_note (N : Nat) (σ : St) (a1 : Int32) (a2 : Int32) (a3 : Int32) : Option (St × Unit) :=
  if (160 : Int32) < (σ.1 21) then
    some (σ, ())
  else
    gi (σ.1 21) 161 <|
    bnd (sA σ 54 (σ.1 21) a1) fun σ3 =>
    gi (σ3.1 21) 161 <|
    bnd (sA σ3 55 (σ3.1 21) a2) fun σ5 =>
    gi (σ5.1 21) 161 <|
    bnd (sA σ5 56 (σ5.1 21) a3) fun σ7 =>
    bnd (sI σ7 21 ((σ7.1 21) + (1 : Int32))) fun σ8 =>
    some (σ8, ())
def fC_B_byteAt (N : Nat) (σ : St) (a1 : Int32) : Option (St × Int32) :=
  if a1 < 0 then
    some (σ, (-1 : Int32))
  else
    if (σ.1 20) ≤ a1 then
      some (σ, (-1 : Int32))
    else
      gi a1 160 <|
      some (σ, σ.2.1 53 a1.toNatClampNeg)
def fC_B_isLetter (N : Nat) (σ : St) (a0 : Int32) : Option (St × Int32) :=
  cal (fC_isWithin N σ a0 (97 : Int32) (122 : Int32)) fun σ1 r2 =>
  gd (r2 = 0 ∨ r2 = 1) <|
  some (σ1, r2)
def fC_B_isDigit (N : Nat) (σ : St) (a0 : Int32) : Option (St × Int32) :=
  cal (fC_isWithin N σ a0 (48 : Int32) (57 : Int32)) fun σ1 r2 =>
  gd (r2 = 0 ∨ r2 = 1) <|
  some (σ1, r2)
def fC_B_isSign (N : Nat) (σ : St) (a0 : Int32) : Option (St × Int32) :=
  if a0 = (40 : Int32) then
    some (σ, (1 : Int32))
  else
    if a0 = (41 : Int32) then
      some (σ, (1 : Int32))
    else
      if a0 = (59 : Int32) then
        some (σ, (1 : Int32))
      else
        if a0 = (43 : Int32) then
          some (σ, (1 : Int32))
        else
          if a0 = (45 : Int32) then
            some (σ, (1 : Int32))
          else
            if a0 = (42 : Int32) then
              some (σ, (1 : Int32))
            else
              if a0 = (60 : Int32) then
                some (σ, (1 : Int32))
              else
                if a0 = (61 : Int32) then
                  some (σ, (1 : Int32))
                else
                  some (σ, (0 : Int32))
def fC_B_cutNumber_j72 (N : Nat) (σ : St) (a1 : Int32) (a2 : Int32) (a3 : Int32) (t1 : Int32) : Option (St × Int32) :=
  cal (fC_B_note N σ t1 a3 a1) fun σ1 r2 =>
  some (σ1, a2)
def fC_B_cutNumber_j57 (N : Nat) (σ : St) (a1 : Int32) (a2 : Int32) (a3 : Int32) (t0 : Int32) : Option (St × Int32) :=
  if t0 = 0 then
    fC_B_cutNumber_j72 N  σ a1 a2 a3 (-3 : Int32)
  else
    fC_B_cutNumber_j72 N  σ a1 a2 a3 (-2 : Int32)
def fC_B_cutNumber_j45 (N : Nat) (σ : St) (a1 : Int32) (a2 : Int32) (a3 : Int32) : Option (St × Int32) :=
  if (a2 - a1) ≤ (4 : Int32) then
    fC_B_cutNumber_j57 N  σ a1 a2 a3 (0 : Int32)
  else
    fC_B_cutNumber_j57 N  σ a1 a2 a3 (1 : Int32)
def fC_B_cutNumber_l4 (N : Nat) : Nat → St → Int32 → Int32 → Int32 → Option (St × Int32)
  | 0, _, _, _, _ => none
  | n4 + 1, σ, a1, a2, a3 =>
    if (σ.1 20) ≤ a2 then
      fC_B_cutNumber_j45 N  σ a1 a2 a3
    else
      gi a2 160 <|
      cal (fC_B_isDigit N σ (σ.2.1 53 a2.toNatClampNeg)) fun σ8 r9 =>
      if r9 = 0 then
        fC_B_cutNumber_j45 N  σ8 a1 a2 a3
      else
        gi a2 160 <|
        bnd (((a3 * (10 : Int32)) + (σ8.2.1 53 a2.toNatClampNeg)) - (48 : Int32)) fun x13 =>
        bnd (a2 + (1 : Int32)) fun x14 =>
        (fC_B_cutNumber_l4 N  n4) σ8 a1 x14 x13
def fC_B_cutNumber (N : Nat) (σ : St) (a1 : Int32) : Option (St × Int32) :=
  fC_B_cutNumber_l4 N  N σ a1 a1 (0 : Int32)
def fC_B_wordAmong_j78 (N : Nat) (k10 : St → Int32 → Int32 → Int32 → Option (St × Int32)) (σ : St) (a1 : Int32) (a2 : Int32) (a3 : Int32) : Option (St × Int32) :=
  bnd (a3 + (1 : Int32)) fun x1 =>
  k10 σ a1 a2 x1
def fC_B_wordAmong_j54 (N : Nat) (k10 : St → Int32 → Int32 → Int32 → Option (St × Int32)) (σ : St) (a1 : Int32) (a2 : Int32) (a3 : Int32) (a4 : Int32) : Option (St × Int32) :=
  if a4 = a2 then
    gi ((a3 * (6 : Int32)) + a2) 72 <|
    if (sch 1 ((a3 * (6 : Int32)) + a2).toNatClampNeg) = (32 : Int32) then
      some (σ, a3)
    else
      fC_B_wordAmong_j78 N k10 σ a1 a2 a3
  else
    fC_B_wordAmong_j78 N k10 σ a1 a2 a3
def fC_B_wordAmong_l19 (N : Nat) (k10 : St → Int32 → Int32 → Int32 → Option (St × Int32)) : Nat → St → Int32 → Int32 → Int32 → Int32 → Option (St × Int32)
  | 0, _, _, _, _, _ => none
  | n19 + 1, σ, a1, a2, a3, a4 =>
    if a2 ≤ a4 then
      fC_B_wordAmong_j54 N k10 σ a1 a2 a3 a4
    else
      gi ((a3 * (6 : Int32)) + a4) 72 <|
      cal (fC_B_byteAt N σ (a1 + a4)) fun σ7 r8 =>
      if (sch 1 ((a3 * (6 : Int32)) + a4).toNatClampNeg) = r8 then
        bnd (a4 + (1 : Int32)) fun x11 =>
        (fC_B_wordAmong_l19 N k10 n19) σ7 a1 a2 a3 x11
      else
        fC_B_wordAmong_j54 N k10 σ7 a1 a2 a3 a4
def fC_B_wordAmong_l10 (N : Nat) : Nat → St → Int32 → Int32 → Int32 → Option (St × Int32)
  | 0, _, _, _, _ => none
  | n10 + 1, σ, a1, a2, a3 =>
    if (12 : Int32) ≤ a3 then
      some (σ, (-1 : Int32))
    else
      fC_B_wordAmong_l19 N (fC_B_wordAmong_l10 N  n10) N σ a1 a2 a3 (0 : Int32)
def fC_B_wordAmong (N : Nat) (σ : St) (a1 : Int32) (a2 : Int32) : Option (St × Int32) :=
  if a2 < (6 : Int32) then
    fC_B_wordAmong_l10 N  N σ a1 a2 (0 : Int32)
  else
    some (σ, (-1 : Int32))
def fC_B_cutWord_j30 (N : Nat) (σ : St) (a1 : Int32) (a2 : Int32) : Option (St × Int32) :=
  cal (fC_B_wordAmong N σ a1 (a2 - a1)) fun σ1 r2 =>
  if r2 = (-1 : Int32) then
    cal (fC_B_note N σ1 (-2 : Int32) (0 : Int32) a1) fun σ12 r13 =>
    some (σ12, a2)
  else
    if (6 : Int32) ≤ r2 then
      cal (fC_B_note N σ1 ((256 : Int32) + r2) (0 : Int32) a1) fun σ6 r7 =>
      some (σ6, a2)
    else
      cal (fC_B_note N σ1 (-4 : Int32) ((-1 : Int32) - r2) a1) fun σ9 r10 =>
      some (σ9, a2)
def fC_B_cutWord_l4 (N : Nat) : Nat → St → Int32 → Int32 → Option (St × Int32)
  | 0, _, _, _ => none
  | n4 + 1, σ, a1, a2 =>
    if (σ.1 20) ≤ a2 then
      fC_B_cutWord_j30 N  σ a1 a2
    else
      gi a2 160 <|
      cal (fC_B_isLetter N σ (σ.2.1 53 a2.toNatClampNeg)) fun σ17 r18 =>
      if r18 = 0 then
        fC_B_cutWord_j30 N  σ17 a1 a2
      else
        bnd (a2 + (1 : Int32)) fun x21 =>
        (fC_B_cutWord_l4 N  n4) σ17 a1 x21
def fC_B_cutWord (N : Nat) (σ : St) (a1 : Int32) : Option (St × Int32) :=
  bnd (a1 + (1 : Int32)) fun x22 =>
  fC_B_cutWord_l4 N  N σ a1 x22
def fC_B_cut_j108 (N : Nat) (σ : St) : Option (St × Unit) :=
  cal (fC_B_note N σ (-1 : Int32) (0 : Int32) (σ.1 20)) fun σ1 r2 =>
  some (σ1, ())
def fC_B_cut_j102 (N : Nat) (k9 : St → Int32 → Int32 → Option (St × Unit)) (σ : St) (a1 : Int32) (a2 : Int32) : Option (St × Unit) :=
  bnd (a2 + (1 : Int32)) fun x4 =>
  k9 σ a1 x4
def fC_B_cut_j94 (N : Nat) (k9 : St → Int32 → Int32 → Option (St × Unit)) (σ : St) (a1 : Int32) (a2 : Int32) (t1 : Int32) : Option (St × Unit) :=
  cal (fC_B_note N σ t1 (0 : Int32) a1) fun σ5 r6 =>
  bnd (a1 + (1 : Int32)) fun x8 =>
  fC_B_cut_j102 N k9 σ5 x8 a2
def fC_B_cut_j42 (N : Nat) (k9 : St → Int32 → Int32 → Option (St × Unit)) (σ : St) (a1 : Int32) (a2 : Int32) : Option (St × Unit) :=
  bnd (a1 + (1 : Int32)) fun x9 =>
  fC_B_cut_j102 N k9 σ x9 a2
def fC_B_cut_l9 (N : Nat) : Nat → St → Int32 → Int32 → Option (St × Unit)
  | 0, _, _, _ => none
  | n9 + 1, σ, a1, a2 =>
    if (160 : Int32) ≤ a2 then
      fC_B_cut_j108 N  σ 
    else
      if (σ.1 20) ≤ a1 then
        fC_B_cut_j108 N  σ 
      else
        cal (fC_B_byteAt N σ a1) fun σ12 r13 =>
        if r13 = (32 : Int32) then
          fC_B_cut_j42 N (fC_B_cut_l9 N  n9) σ12 a1 a2
        else
          if r13 = (10 : Int32) then
            fC_B_cut_j42 N (fC_B_cut_l9 N  n9) σ12 a1 a2
          else
            cal (fC_B_isLetter N σ12 r13) fun σ17 r18 =>
            if r18 = 0 then
              cal (fC_B_isDigit N σ17 r13) fun σ21 r22 =>
              if r22 = 0 then
                cal (fC_B_isSign N σ21 r13) fun σ25 r26 =>
                if r26 = 0 then
                  fC_B_cut_j94 N (fC_B_cut_l9 N  n9) σ25 a1 a2 (-2 : Int32)
                else
                  fC_B_cut_j94 N (fC_B_cut_l9 N  n9) σ25 a1 a2 r13
              else
                cal (fC_B_cutNumber N σ21 a1) fun σ29 r30 =>
                fC_B_cut_j102 N (fC_B_cut_l9 N  n9) σ29 r30 a2
            else
              cal (fC_B_cutWord N σ17 a1) fun σ32 r33 =>
              fC_B_cut_j102 N (fC_B_cut_l9 N  n9) σ32 r33 a2
def fC_B_cut (N : Nat) (σ : St) : Option (St × Unit) :=
  bnd (sI σ 21 (0 : Int32)) fun σ35 =>
  fC_B_cut_l9 N  N σ35 (0 : Int32) (0 : Int32)
def fC_R_readKeys_j54 (N : Nat) (σ : St) : Option (St × Int32) :=
  cal (fC_R_kindNow N σ ) fun σ1 r2 =>
  if r2 = (-1 : Int32) then
    some (σ1, (1 : Int32))
  else
    some (σ1, (0 : Int32))
def fC_R_readKeys_l2 (N : Nat) : Nat → St → Int32 → Option (St × Int32)
  | 0, _, _ => none
  | n2 + 1, σ, a1 =>
    if (3 : Int32) ≤ a1 then
      fC_R_readKeys_j54 N  σ 
    else
      cal (fC_R_pass N σ ((262 : Int32) + a1)) fun σ6 r7 =>
      if r7 = 0 then
        some (σ6, (0 : Int32))
      else
        cal ((fC_lv N 7).1 σ6 (0 : Int32)) fun σ10 r11 =>
        if r11 = 0 then
          some (σ10, (0 : Int32))
        else
          cal (fC_R_pass N σ10 (59 : Int32)) fun σ14 r15 =>
          if r15 = 0 then
            some (σ14, (0 : Int32))
          else
            gi a1 3 <|
            bnd (sA σ14 14 a1 (σ14.1 9)) fun σ19 =>
            bnd (a1 + (1 : Int32)) fun x20 =>
            (fC_R_readKeys_l2 N  n2) σ19 x20
def fC_R_readKeys (N : Nat) (σ : St) : Option (St × Int32) :=
  fC_R_readKeys_l2 N  N σ (0 : Int32)
def fC_R_readTape_j56 (N : Nat) (σ : St) (t0 : Int32) : Option (St × Int32) :=
  bnd (sI σ 20 (0 : Int32)) fun σ1 =>
  some (σ1, t0)
def fC_R_readTape_j40 (N : Nat) (σ : St) : Option (St × Int32) :=
  fC_R_readTape_j56 N  σ (-1 : Int32)
def fC_R_readTape (N : Nat) (σ : St) : Option (St × Int32) :=
  cal (fC_B_cut N σ ) fun σ2 r3 =>
  bnd (sI σ2 10 (0 : Int32)) fun σ5 =>
  bnd (sI σ5 9 (0 : Int32)) fun σ6 =>
  cal (fC_R_readKeys N σ6 ) fun σ7 r8 =>
  if r8 = 0 then
    if (σ7.1 10) < (σ7.1 21) then
      gi (σ7.1 10) 161 <|
      fC_R_readTape_j56 N  σ7 (σ7.2.1 56 (σ7.1 10).toNatClampNeg)
    else
      fC_R_readTape_j40 N  σ7 
  else
    fC_R_readTape_j40 N  σ7
def fC_T_keep_j115 (N : Nat) (σ : St) : Option (St × Int32) :=
  bnd (sI σ 17 ((σ.1 17) + (1 : Int32))) fun σ1 =>
  some (σ1, (σ1.1 17) - (1 : Int32))
def fC_T_keep_l55 (N : Nat) : Nat → St → Int32 → Int32 → Int32 → Option (St × Int32)
  | 0, _, _, _, _ => none
  | n55 + 1, σ, a2, a3, a4 =>
    if (3 : Int32) ≤ a4 then
      fC_T_keep_j115 N  σ 
    else
      gi (((σ.1 17) * (3 : Int32)) + a4) 18 <|
      bnd (sA σ 42 (((σ.1 17) * (3 : Int32)) + a4) (a2 + a3)) fun σ4 =>
      gi a4 3 <|
      gi (((σ4.1 17) * (3 : Int32)) + a4) 18 <|
      bnd (sA σ4 43 (((σ4.1 17) * (3 : Int32)) + a4) (a2 + (σ4.2.1 14 a4.toNatClampNeg))) fun σ7 =>
      gi a4 3 <|
      bnd (σ7.2.1 14 a4.toNatClampNeg) fun x9 =>
      bnd (a4 + (1 : Int32)) fun x10 =>
      (fC_T_keep_l55 N  n55) σ7 a2 x9 x10
def fC_T_keep_j50 (N : Nat) (σ : St) (a2 : Int32) : Option (St × Int32) :=
  fC_T_keep_l55 N  N σ a2 (0 : Int32) (0 : Int32)
def fC_T_keep_l23 (N : Nat) : Nat → St → Int32 → Int32 → Option (St × Int32)
  | 0, _, _, _ => none
  | n23 + 1, σ, a2, a3 =>
    if (160 : Int32) ≤ a3 then
      fC_T_keep_j50 N  σ a2
    else
      gi a3 160 <|
      gi (a2 + a3) 960 <|
      bnd (sA σ 41 (a2 + a3) (σ.2.1 13 a3.toNatClampNeg)) fun σ14 =>
      bnd (a3 + (1 : Int32)) fun x15 =>
      (fC_T_keep_l23 N  n23) σ14 a2 x15
def fC_T_keep (N : Nat) (σ : St) : Option (St × Int32) :=
  if (σ.1 17) < (6 : Int32) then
    bnd ((σ.1 17) * (160 : Int32)) fun x17 =>
    fC_T_keep_l23 N  N σ x17 (0 : Int32)
  else
    some (σ, (-4 : Int32))
def fC_text (N : Nat) (σ : St) : Option (St × Int32) :=
  if (σ.1 17) < (6 : Int32) then
    cal (fC_R_readTape N σ ) fun σ2 r3 =>
    if r3 = (-1 : Int32) then
      cal (fC_T_keep N σ2 ) fun σ6 r7 =>
      some (σ6, r7)
    else
      some (σ2, (-100 : Int32) - r3)
  else
    some (σ, (-4 : Int32))
def fC_T_has (N : Nat) (σ : St) (a1 : Int32) : Option (St × Int32) :=
  if a1 < 0 then
    some (σ, (0 : Int32))
  else
    if (σ.1 17) ≤ a1 then
      some (σ, (0 : Int32))
    else
      some (σ, (1 : Int32))
def fC_force (N : Nat) (σ : St) (a1 : Int32) : Option (St × Int32) :=
  cal (fC_T_has N σ a1) fun σ1 r2 =>
  if r2 = 0 then
    some (σ1, (-2 : Int32))
  else
    bnd (σ1.1 18) fun x5 =>
    bnd (sI σ1 18 a1) fun σ6 =>
    some (σ6, x5)
def fC_P_worthOf (N : Nat) (σ : St) (a1 : Int32) (a2 : Int32) (a3 : Int32) (a4 : Int32) : Option (St × Int32) :=
  gi a1 10 <|
  gi a1 10 <|
  cal (fC_T_regard N σ (σ.2.1 34 a1.toNatClampNeg) (σ.2.1 32 a1.toNatClampNeg) a3 (σ.1 4)) fun σ3 r4 =>
  cal (fC_S_offOf N σ3 a1 a2) fun σ6 r7 =>
  cal (fC_T_worth N σ6 a4 a2 r7) fun σ9 r10 =>
  some (σ9, r10)
def fC_says (N : Nat) (σ : St) (a1 : Int32) (a2 : Int32) (a3 : Int32) (a4 : Int32) : Option (St × Int64) :=
  cal (fC_S_has N σ a1) fun σ1 r2 =>
  if r2 = 0 then
    some (σ1, (-4611686018427387904 : Int64))
  else
    cal (fC_isPart N σ1 a2) fun σ5 r6 =>
    if r6 = 0 then
      some (σ5, (-4611686018427387904 : Int64))
    else
      cal (fC_isTick N σ5 a3) fun σ9 r10 =>
      if r10 = 0 then
        some (σ9, (-4611686018427387904 : Int64))
      else
        cal (fC_isWithin N σ9 a4 (0 : Int32) (2 : Int32)) fun σ13 r14 =>
        if r14 = 0 then
          some (σ13, (-4611686018427387904 : Int64))
        else
          cal (fC_P_lookAs N σ13 (σ13.1 3)) fun σ17 r18 =>
          cal (fC_P_worthOf N σ17 a1 a2 a3 a4) fun σ20 r21 =>
          some (σ20, r21.toInt64)
def fC_isWidth (N : Nat) (σ : St) (a0 : Int32) : Option (St × Int32) :=
  cal (fC_isWithin N σ a0 (0 : Int32) (999 : Int32)) fun σ1 r2 =>
  gd (r2 = 0 ∨ r2 = 1) <|
  some (σ1, r2)
def fC_width (N : Nat) (σ : St) (a1 : Int32) : Option (St × Int32) :=
  cal (fC_isWidth N σ a1) fun σ1 r2 =>
  if r2 = 0 then
    some (σ1, (-2 : Int32))
  else
    bnd (σ1.1 3) fun x5 =>
    bnd (sI σ1 3 a1) fun σ6 =>
    some (σ6, x5)
def fC_O_has (N : Nat) (σ : St) (a1 : Int32) : Option (St × Int32) :=
  if a1 < 0 then
    some (σ, (0 : Int32))
  else
    if (σ.1 16) ≤ a1 then
      some (σ, (0 : Int32))
    else
      some (σ, (1 : Int32))
def fC_F_add (N : Nat) (σ : St) (a1 : Int32) (a2 : Int32) (a3 : Int32) (a4 : Int32) (a5 : Int32) (a6 : Int32) : Option (St × Int32) :=
  if (σ.1 19) < (24 : Int32) then
    gi (σ.1 19) 24 <|
    bnd (sA σ 46 (σ.1 19) a1) fun σ3 =>
    gi (σ3.1 19) 24 <|
    bnd (sA σ3 47 (σ3.1 19) a2) fun σ5 =>
    gi (σ5.1 19) 24 <|
    bnd (sA σ5 48 (σ5.1 19) a3) fun σ7 =>
    gi (σ7.1 19) 24 <|
    bnd (sA σ7 49 (σ7.1 19) a4) fun σ9 =>
    gi (σ9.1 19) 24 <|
    bnd (sA σ9 50 (σ9.1 19) (a5 / (10 : Int32))) fun σ11 =>
    gi (σ11.1 19) 24 <|
    bnd (sA σ11 51 (σ11.1 19) (a5 - a5 / (10 : Int32) * (10 : Int32))) fun σ13 =>
    gi (σ13.1 19) 24 <|
    bnd (sA σ13 52 (σ13.1 19) a6) fun σ15 =>
    bnd (sI σ15 19 ((σ15.1 19) + (1 : Int32))) fun σ16 =>
    some (σ16, (σ16.1 19) - (1 : Int32))
  else
    some (σ, (-4 : Int32))
def fC_call (N : Nat) (σ : St) (a1 : Int32) (a2 : Int32) (a3 : Int32) (a4 : Int32) (a5 : Int32) : Option (St × Int32) :=
  cal (fC_isWithin N σ a1 (0 : Int32) (5 : Int32)) fun σ1 r2 =>
  if r2 = 0 then
    some (σ1, (-2 : Int32))
  else
    cal (fC_S_has N σ1 a2) fun σ5 r6 =>
    if r6 = 0 then
      some (σ5, (-2 : Int32))
    else
      cal (fC_S_has N σ5 a3) fun σ9 r10 =>
      if r10 = 0 then
        some (σ9, (-2 : Int32))
      else
        if a2 = a3 then
          some (σ9, (-2 : Int32))
        else
          cal (fC_isTick N σ9 a4) fun σ14 r15 =>
          if r15 = 0 then
            some (σ14, (-2 : Int32))
          else
            if a5 < 0 then
              some (σ14, (-2 : Int32))
            else
              cal (fC_A_has N σ14 (a5 / (10 : Int32))) fun σ19 r20 =>
              if r20 = 0 then
                some (σ19, (-2 : Int32))
              else
                cal (fC_O_has N σ19 (a5 - a5 / (10 : Int32) * (10 : Int32))) fun σ23 r24 =>
                if r24 = 0 then
                  some (σ23, (-2 : Int32))
                else
                  gi a2 10 <|
                  cal (fC_F_add N σ23 a1 a2 a3 a4 a5 (σ23.2.1 32 a2.toNatClampNeg)) fun σ28 r29 =>
                  some (σ28, r29)
def fC_F_has (N : Nat) (σ : St) (a1 : Int32) : Option (St × Int32) :=
  if a1 < 0 then
    some (σ, (0 : Int32))
  else
    if (σ.1 19) ≤ a1 then
      some (σ, (0 : Int32))
    else
      some (σ, (1 : Int32))
def fC_isUnder_l4 (N : Nat) : Nat → St → Int32 → Int32 → Int32 → Option (St × Int32)
  | 0, _, _, _, _ => none
  | n4 + 1, σ, a1, a2, a3 =>
    if (6 : Int32) ≤ a3 then
      some (σ, (0 : Int32))
    else
      cal (fC_isWithin N σ a2 (0 : Int32) (5 : Int32)) fun σ2 r3 =>
      if r3 = 0 then
        some (σ2, (0 : Int32))
      else
        if a2 = a1 then
          some (σ2, (1 : Int32))
        else
          gi a2 6 <|
          bnd (kab a2.toNatClampNeg) fun x8 =>
          bnd (a3 + (1 : Int32)) fun x9 =>
          (fC_isUnder_l4 N  n4) σ2 a1 x8 x9
def fC_isUnder (N : Nat) (σ : St) (a0 : Int32) (a1 : Int32) : Option (St × Int32) :=
  fC_isUnder_l4 N  N σ a1 a0 (0 : Int32)
def fC_P_leanOn (N : Nat) (σ : St) (a1 : Int32) (a2 : Int32) : Option (St × Int32) :=
  gi a1 24 <|
  gi (σ.2.1 51 a1.toNatClampNeg) 6 <|
  bnd (σ.2.1 39 (σ.2.1 51 a1.toNatClampNeg).toNatClampNeg) fun x3 =>
  gi a2 10 <|
  if (σ.2.1 34 a2.toNatClampNeg) ≤ 0 then
    some (σ, -x3)
  else
    some (σ, x3)
def fC_P_marginOf_j93 (N : Nat) (σ : St) (a1 : Int32) (a6 : Int32) : Option (St × Int32) :=
  if a1 = (4 : Int32) then
    some (σ, a6 - (10 : Int32))
  else
    some (σ, a6)
def fC_P_marginOf (N : Nat) (σ : St) (a1 : Int32) (a2 : Int32) : Option (St × Int32) :=
  gi a2 24 <|
  bnd (σ.2.1 47 a2.toNatClampNeg) fun x3 =>
  gi a2 24 <|
  bnd (σ.2.1 48 a2.toNatClampNeg) fun x5 =>
  gi a2 24 <|
  bnd (σ.2.1 49 a2.toNatClampNeg) fun x7 =>
  cal (fC_isUnder N σ a1 (2 : Int32)) fun σ8 r9 =>
  if r9 = 0 then
    cal (fC_P_frontOf N σ8 x3 x7) fun σ37 r38 =>
    cal (fC_P_frontOf N σ37 x5 x7) fun σ40 r41 =>
    bnd (r38 - r41) fun x43 =>
    cal (fC_isUnder N σ40 a1 (1 : Int32)) fun σ44 r45 =>
    if r45 = 0 then
      fC_P_marginOf_j93 N  σ44 a1 x43
    else
      gi x3 10 <|
      gi x5 10 <|
      bnd (x43 + ((2 : Int32) * ((σ44.2.1 34 x3.toNatClampNeg) - (σ44.2.1 34 x5.toNatClampNeg)))) fun x50 =>
      fC_P_marginOf_j93 N  σ44 a1 x50
  else
    gi a2 24 <|
    bnd (σ8.2.1 50 a2.toNatClampNeg) fun x13 =>
    cal (fC_A_frameFor N σ8 x13 x7) fun σ14 r15 =>
    cal (fC_P_frontOf N σ14 x3 r15) fun σ17 r18 =>
    cal (fC_A_seenAt N σ17 x13 r18) fun σ20 r21 =>
    cal (fC_P_frontOf N σ20 x5 r15) fun σ23 r24 =>
    cal (fC_A_seenAt N σ23 x13 r24) fun σ26 r27 =>
    bnd (r21 - r27) fun x29 =>
    if a1 = (5 : Int32) then
      some (σ26, x29 - (2 : Int32))
    else
      cal (fC_P_leanOn N σ26 a2 x3) fun σ31 r32 =>
      cal (fC_P_leanOn N σ31 a2 x5) fun σ34 r35 =>
      some (σ34, (x29 + r32) - r35)
def fC_P_ruledOn (N : Nat) (σ : St) (a1 : Int32) (a2 : Int32) (a3 : Int32) : Option (St × Int32) :=
  cal (fC_P_leadOf N σ a1 a2) fun σ1 r2 =>
  cal (fC_footIfNone N σ1 r2) fun σ4 r5 =>
  cal (fC_P_worthOf N σ4 a1 r5 a2 a3) fun σ7 r8 =>
  some (σ7, r8)
def fC_P_bandOf (N : Nat) (σ : St) (a1 : Int32) (a2 : Int32) : Option (St × Int32) :=
  if a1 = (2 : Int32) then
    some (σ, (1 : Int32))
  else
  if a1 = (3 : Int32) then
    gi a2 24 <|
    gi a2 24 <|
    cal (fC_P_ruledOn N σ (σ.2.1 47 a2.toNatClampNeg) (σ.2.1 49 a2.toNatClampNeg) (1 : Int32)) fun σ5 r6 =>
    some (σ5, (1 : Int32) + (if (0 : Int32) < (if r6 < (999 : Int32) then r6 else (999 : Int32)) then (if r6 < (999 : Int32) then r6 else (999 : Int32)) else (0 : Int32)))
  else
  if a1 = (4 : Int32) then
    some (σ, (3 : Int32))
  else
  if a1 = (5 : Int32) then
    some (σ, (1 : Int32))
  else
  some (σ, (0 : Int32))
def fC_P_isOffside_j20 (N : Nat) (σ : St) (a2 : Int32) (t0 : Int32) : Option (St × Int32) :=
  if t0 = 0 then
    some (σ, (0 : Int32))
  else
    gi a2 24 <|
    gi a2 24 <|
    cal (fC_P_ruledOn N σ (σ.2.1 47 a2.toNatClampNeg) (σ.2.1 49 a2.toNatClampNeg) (2 : Int32)) fun σ4 r5 =>
    if r5 = 0 then
      some (σ4, (0 : Int32))
    else
      some (σ4, (1 : Int32))
def fC_P_isOffside (N : Nat) (σ : St) (a1 : Int32) (a2 : Int32) : Option (St × Int32) :=
  cal (fC_P_marginOf N σ a1 a2) fun σ8 r9 =>
  cal (fC_P_bandOf N σ8 a1 a2) fun σ11 r12 =>
  if r9 ≤ r12 then
    fC_P_isOffside_j20 N  σ11 a2 (0 : Int32)
  else
    fC_P_isOffside_j20 N  σ11 a2 (1 : Int32)
def fC_P_spreadOf (N : Nat) (σ : St) (a1 : Int32) : Option (St × Int32) :=
  gi a1 24 <|
  bnd (σ.2.1 46 a1.toNatClampNeg) fun x2 =>
  cal (fC_isUnder N σ x2 (2 : Int32)) fun σ3 r4 =>
  if r4 = 0 then
    some (σ3, (0 : Int32))
  else
    if x2 = (5 : Int32) then
      some (σ3, (0 : Int32))
    else
      gi a1 24 <|
      gi (σ3.2.1 51 a1.toNatClampNeg) 6 <|
      some (σ3, σ3.2.1 40 (σ3.2.1 51 a1.toNatClampNeg).toNatClampNeg)
def fC_P_waysOf_j84 (N : Nat) (k39 : St → Int32 → Int32 → Int32 → Int32 → Option (St × Int32)) (σ : St) (a3 : Int32) (a4 : Int32) (a5 : Int32) (a6 : Int32) : Option (St × Int32) :=
  bnd (a6 + (1 : Int32)) fun x1 =>
  k39 σ a3 a4 a5 x1
def fC_P_waysOf_j75 (N : Nat) (k39 : St → Int32 → Int32 → Int32 → Int32 → Option (St × Int32)) (k51 : St → Int32 → Int32 → Int32 → Int32 → Int32 → Option (St × Int32)) (σ : St) (a3 : Int32) (a4 : Int32) (a6 : Int32) (a7 : Int32) (t0 : Int32) (t1 : Int32) : Option (St × Int32) :=
  bnd (t0 + t1) fun x2 =>
  bnd (a7 + (1 : Int32)) fun x3 =>
  k51 σ a3 a4 x2 a6 x3
def fC_P_waysOf_l51 (N : Nat) (k39 : St → Int32 → Int32 → Int32 → Int32 → Option (St × Int32)) : Nat → St → Int32 → Int32 → Int32 → Int32 → Int32 → Option (St × Int32)
  | 0, _, _, _, _, _, _ => none
  | n51 + 1, σ, a3, a4, a5, a6, a7 =>
    if a4 < a7 then
      fC_P_waysOf_j84 N k39 σ a3 a4 a5 a6
    else
      if ((a3 + a6) - a7) ≤ 0 then
        fC_P_waysOf_j75 N k39 (fC_P_waysOf_l51 N k39 n51) σ a3 a4 a6 a7 a5 (0 : Int32)
      else
        fC_P_waysOf_j75 N k39 (fC_P_waysOf_l51 N k39 n51) σ a3 a4 a6 a7 a5 (1 : Int32)
def fC_P_waysOf_l39 (N : Nat) : Nat → St → Int32 → Int32 → Int32 → Int32 → Option (St × Int32)
  | 0, _, _, _, _, _ => none
  | n39 + 1, σ, a3, a4, a5, a6 =>
    if a4 < a6 then
      some (σ, a5)
    else
      bnd (-a4) fun x7 =>
      fC_P_waysOf_l51 N (fC_P_waysOf_l39 N  n39) N σ a3 a4 a5 a6 x7
def fC_P_waysOf (N : Nat) (σ : St) (a1 : Int32) : Option (St × Int32) :=
  gi a1 24 <|
  bnd (σ.2.1 46 a1.toNatClampNeg) fun x9 =>
  cal (fC_P_marginOf N σ x9 a1) fun σ10 r11 =>
  cal (fC_P_bandOf N σ10 x9 a1) fun σ13 r14 =>
  bnd (r11 - r14) fun x16 =>
  cal (fC_P_spreadOf N σ13 a1) fun σ17 r18 =>
  bnd (-r18) fun x20 =>
  fC_P_waysOf_l39 N  N σ17 x16 r18 (0 : Int32) x20
def fC_P_pairsOf (N : Nat) (σ : St) (a1 : Int32) : Option (St × Int32) :=
  cal (fC_P_spreadOf N σ a1) fun σ1 r2 =>
  bnd (((2 : Int32) * r2) + (1 : Int32)) fun x4 =>
  some (σ1, x4 * x4)
def fC_P_trueMargin (N : Nat) (σ : St) (a1 : Int32) (a2 : Int32) : Option (St × Int32) :=
  gi a1 24 <|
  cal (fC_P_frontOf N σ (σ.2.1 47 a1.toNatClampNeg) a2) fun σ2 r3 =>
  gi a1 24 <|
  cal (fC_P_frontOf N σ2 (σ2.2.1 48 a1.toNatClampNeg) a2) fun σ6 r7 =>
  some (σ6, r3 - r7)
def fC_P_frameErrorOf (N : Nat) (σ : St) (a1 : Int32) : Option (St × Int32) :=
  gi a1 24 <|
  bnd (σ.2.1 49 a1.toNatClampNeg) fun x2 =>
  gi a1 24 <|
  cal (fC_A_frameFor N σ (σ.2.1 50 a1.toNatClampNeg) x2) fun σ4 r5 =>
  cal (fC_P_trueMargin N σ4 a1 r5) fun σ7 r8 =>
  cal (fC_P_trueMargin N σ7 a1 x2) fun σ10 r11 =>
  some (σ10, r8 - r11)
def fC_T_mindsWidth_l16 (N : Nat) : Nat → St → Int32 → Int32 → Option (St × Int32)
  | 0, _, _, _ => none
  | n16 + 1, σ, a2, a3 =>
    gi a2 18 <|
    if (σ.2.1 43 a2.toNatClampNeg) ≤ a3 then
      some (σ, (0 : Int32))
    else
      gi a3 960 <|
      if (σ.2.1 41 a3.toNatClampNeg) = (-6 : Int32) then
        some (σ, (1 : Int32))
      else
        bnd (a3 + (1 : Int32)) fun x5 =>
        (fC_T_mindsWidth_l16 N  n16) σ a2 x5
def fC_T_mindsWidth (N : Nat) (σ : St) (a1 : Int32) : Option (St × Int32) :=
  bnd (((σ.1 18) * (3 : Int32)) + a1) fun x6 =>
  gi x6 18 <|
  bnd (σ.2.1 42 x6.toNatClampNeg) fun x8 =>
  fC_T_mindsWidth_l16 N  N σ x6 x8
def fC_P_turnOf_j96 (N : Nat) (k66 : St → Int32 → Int32 → Int32 → Int32 → Int32 → Int32 → Option (St × Int32)) (σ : St) (a1 : Int32) (a2 : Int32) (a3 : Int32) (a5 : Int32) (a6 : Int32) (a7 : Int32) : Option (St × Int32) :=
  cal (fC_P_bandOf N σ a2 a1) fun σ1 r2 =>
  if r2 < a6 then
    bnd (a7 + (1 : Int32)) fun x5 =>
    k66 σ1 a1 a2 a3 a5 a6 x5
  else
    some (σ1, a7)
def fC_P_turnOf_j88 (N : Nat) (k66 : St → Int32 → Int32 → Int32 → Int32 → Int32 → Int32 → Option (St × Int32)) (σ : St) (a1 : Int32) (a2 : Int32) (a3 : Int32) (a5 : Int32) (a7 : Int32) : Option (St × Int32) :=
  cal (fC_P_marginOf N σ a2 a1) fun σ6 r7 =>
  fC_P_turnOf_j96 N k66 σ6 a1 a2 a3 a5 r7 a7
def fC_P_turnOf_l66 (N : Nat) : Nat → St → Int32 → Int32 → Int32 → Int32 → Int32 → Int32 → Option (St × Int32)
  | 0, _, _, _, _, _, _, _ => none
  | n66 + 1, σ, a1, a2, a3, a5, a6, a7 =>
    if a5 < a7 then
      some (σ, (-1 : Int32))
    else
      cal (fC_P_lookAs N σ a7) fun σ10 r11 =>
      if a7 = 0 then
        fC_P_turnOf_j88 N (fC_P_turnOf_l66 N  n66) σ10 a1 a2 a3 a5 a7
      else
        if a3 = 0 then
          fC_P_turnOf_j96 N (fC_P_turnOf_l66 N  n66) σ10 a1 a2 a3 a5 a6 a7
        else
          fC_P_turnOf_j88 N (fC_P_turnOf_l66 N  n66) σ10 a1 a2 a3 a5 a7
def fC_P_turnOf_j58 (N : Nat) (σ : St) (a1 : Int32) (a2 : Int32) (a3 : Int32) (t0 : Int32) : Option (St × Int32) :=
  fC_P_turnOf_l66 N  N σ a1 a2 a3 t0 (0 : Int32) (0 : Int32)
def fC_P_turnOf_j51 (N : Nat) (σ : St) (a1 : Int32) (a2 : Int32) (a3 : Int32) : Option (St × Int32) :=
  fC_P_turnOf_j58 N  σ a1 a2 a3 (999 : Int32)
def fC_P_turnOf_j40 (N : Nat) (σ : St) (a1 : Int32) (a2 : Int32) (a3 : Int32) (t0 : Int32) : Option (St × Int32) :=
  if a3 = 0 then
    if t0 = 0 then
      fC_P_turnOf_j58 N  σ a1 a2 a3 (0 : Int32)
    else
      fC_P_turnOf_j51 N  σ a1 a2 a3
  else
    fC_P_turnOf_j51 N  σ a1 a2 a3
def fC_P_turnOf_j39 (N : Nat) (σ : St) (a1 : Int32) (a2 : Int32) (a3 : Int32) : Option (St × Int32) :=
  fC_P_turnOf_j40 N  σ a1 a2 a3 (0 : Int32)
def fC_P_turnOf (N : Nat) (σ : St) (a1 : Int32) : Option (St × Int32) :=
  gi a1 24 <|
  bnd (σ.2.1 46 a1.toNatClampNeg) fun x18 =>
  cal (fC_T_mindsWidth N σ (0 : Int32)) fun σ19 r20 =>
  if x18 = (3 : Int32) then
    cal (fC_T_mindsWidth N σ19 (1 : Int32)) fun σ23 r24 =>
    if r24 = 0 then
      fC_P_turnOf_j39 N  σ23 a1 x18 r20
    else
      fC_P_turnOf_j40 N  σ23 a1 x18 r20 (1 : Int32)
  else
    fC_P_turnOf_j39 N  σ19 a1 x18 r20
def fC_told (N : Nat) (σ : St) (a1 : Int32) (a2 : Int32) : Option (St × Int64) :=
  cal (fC_F_has N σ a1) fun σ1 r2 =>
  if r2 = 0 then
    some (σ1, (-4611686018427387904 : Int64))
  else
    cal (fC_P_lookAs N σ1 (σ1.1 3)) fun σ5 r6 =>
    gi a1 24 <|
    bnd (σ5.2.1 46 a1.toNatClampNeg) fun x9 =>
    if a2 = (0 : Int32) then
      some (σ5, x9.toInt64)
    else
    if a2 = (1 : Int32) then
      cal (fC_P_marginOf N σ5 x9 a1) fun σ12 r13 =>
      some (σ12, r13.toInt64)
    else
    if a2 = (2 : Int32) then
      cal (fC_P_bandOf N σ5 x9 a1) fun σ16 r17 =>
      some (σ16, r17.toInt64)
    else
    if a2 = (3 : Int32) then
      cal (fC_P_marginOf N σ5 x9 a1) fun σ20 r21 =>
      cal (fC_P_bandOf N σ20 x9 a1) fun σ23 r24 =>
      if r21 ≤ r24 then
        some (σ23, (0 : Int64))
      else
        some (σ23, (1 : Int64))
    else
    if a2 = (4 : Int32) then
      cal (fC_P_isOffside N σ5 x9 a1) fun σ28 r29 =>
      if r29 = 0 then
        some (σ28, (0 : Int64))
      else
        some (σ28, (1 : Int64))
    else
    if a2 = (5 : Int32) then
      cal (fC_P_isOffside N σ5 x9 a1) fun σ33 r34 =>
      cal (fC_P_isOffside N σ33 (0 : Int32) a1) fun σ36 r37 =>
      if r34 = r37 then
        some (σ36, (0 : Int64))
      else
        some (σ36, (1 : Int64))
    else
    if a2 = (6 : Int32) then
      cal (fC_P_waysOf N σ5 a1) fun σ41 r42 =>
      some (σ41, r42.toInt64)
    else
    if a2 = (7 : Int32) then
      cal (fC_P_pairsOf N σ5 a1) fun σ45 r46 =>
      some (σ45, r46.toInt64)
    else
    if a2 = (8 : Int32) then
      cal (fC_P_frameErrorOf N σ5 a1) fun σ49 r50 =>
      some (σ49, r50.toInt64)
    else
    if a2 = (9 : Int32) then
      cal (fC_P_turnOf N σ5 a1) fun σ53 r54 =>
      some (σ53, r54.toInt64)
    else
    some (σ5, (-4611686018427387904 : Int64))
def fC_F_all (N : Nat) (σ : St) : Option (St × Int32) :=
  some (σ, ((1 : Int32) <<< ((σ.1 19) &&& 31)) - (1 : Int32))
def fC_P_offsideAmong_j47 (N : Nat) (k4 : St → Int32 → Int32 → Int32 → Option (St × Int32)) (σ : St) (a1 : Int32) (a2 : Int32) (a3 : Int32) : Option (St × Int32) :=
  bnd (a3 + (1 : Int32)) fun x1 =>
  k4 σ a1 a2 x1
def fC_P_offsideAmong_l4 (N : Nat) : Nat → St → Int32 → Int32 → Int32 → Option (St × Int32)
  | 0, _, _, _, _ => none
  | n4 + 1, σ, a1, a2, a3 =>
    if (σ.1 19) ≤ a3 then
      some (σ, a2)
    else
      if ((a1 >>> (a3 &&& 31)) &&& (1 : Int32)) = (1 : Int32) then
        gi a3 24 <|
        cal (fC_P_isOffside N σ (σ.2.1 46 a3.toNatClampNeg) a3) fun σ5 r6 =>
        if r6 = 0 then
          fC_P_offsideAmong_j47 N (fC_P_offsideAmong_l4 N  n4) σ5 a1 a2 a3
        else
          bnd (a2 ||| ((1 : Int32) <<< (a3 &&& 31))) fun x9 =>
          fC_P_offsideAmong_j47 N (fC_P_offsideAmong_l4 N  n4) σ5 a1 x9 a3
      else
        fC_P_offsideAmong_j47 N (fC_P_offsideAmong_l4 N  n4) σ a1 a2 a3
def fC_P_offsideAmong (N : Nat) (σ : St) (a1 : Int32) : Option (St × Int32) :=
  fC_P_offsideAmong_l4 N  N σ a1 (0 : Int32) (0 : Int32)
def fC_offside (N : Nat) (σ : St) : Option (St × Int32) :=
  cal (fC_P_lookAs N σ (σ.1 3)) fun σ1 r2 =>
  cal (fC_F_all N σ1 ) fun σ4 r5 =>
  cal (fC_P_offsideAmong N σ4 r5) fun σ7 r8 =>
  some (σ7, r8)
def fC_isSheet (N : Nat) (σ : St) (a0 : Int32) : Option (St × Int32) :=
  cal (fC_isWithin N σ a0 (0 : Int32) (3 : Int32)) fun σ1 r2 =>
  gd (r2 = 0 ∨ r2 = 1) <|
  some (σ1, r2)
def fC_F_hasAll (N : Nat) (σ : St) (a1 : Int32) : Option (St × Int32) :=
  if a1 < 0 then
    some (σ, (0 : Int32))
  else
    cal (fC_F_all N σ ) fun σ2 r3 =>
    if r3 < a1 then
      some (σ2, (0 : Int32))
    else
      some (σ2, (1 : Int32))
def fC_H_has (N : Nat) (σ : St) (a1 : Int32) (a2 : Int32) : Option (St × Int32) :=
  if a2 < 0 then
    some (σ, (0 : Int32))
  else
    gi a1 4 <|
    if (σ.2.1 26 a1.toNatClampNeg) ≤ a2 then
      some (σ, (0 : Int32))
    else
      some (σ, (1 : Int32))
def fC_H_itemOf (N : Nat) (σ : St) (a1 : Int32) (a2 : Int32) : Option (St × Int32) :=
  cal (fC_H_has N σ a1 a2) fun σ1 r2 =>
  if r2 = 0 then
    some (σ1, (0 : Int32))
  else
    gi ((a1 * (40 : Int32)) + a2) 160 <|
    some (σ1, σ1.2.1 27 ((a1 * (40 : Int32)) + a2).toNatClampNeg)
def fC_H_isMissing (N : Nat) (σ : St) (a1 : Int32) : Option (St × Int32) :=
  gi a1 4 <|
  if (σ.2.1 25 a1.toNatClampNeg) = (-1 : Int32) then
    some (σ, (1 : Int32))
  else
    some (σ, (0 : Int32))
def fC_H_refusalAsWidths_l31 (N : Nat) : Nat → St → Int32 → Int32 → Option (St × Int32)
  | 0, _, _, _ => none
  | n31 + 1, σ, a1, a2 =>
    gi a1 4 <|
    if (σ.2.1 26 a1.toNatClampNeg) ≤ a2 then
      some (σ, (0 : Int32))
    else
      cal (fC_H_itemOf N σ a1 a2) fun σ3 r4 =>
      cal (fC_isWidth N σ3 r4) fun σ6 r7 =>
      if r7 = 0 then
        some (σ6, (-2 : Int32))
      else
        bnd (a2 + (1 : Int32)) fun x10 =>
        (fC_H_refusalAsWidths_l31 N  n31) σ6 a1 x10
def fC_H_refusalAsWidths (N : Nat) (σ : St) (a1 : Int32) : Option (St × Int32) :=
  cal (fC_H_isMissing N σ a1) fun σ11 r12 =>
  if r12 = 0 then
    gi a1 4 <|
    cal (fC_isWithin N σ11 (σ11.2.1 26 a1.toNatClampNeg) (1 : Int32) (8 : Int32)) fun σ16 r17 =>
    if r17 = 0 then
      some (σ16, (-2 : Int32))
    else
      fC_H_refusalAsWidths_l31 N  N σ16 a1 (0 : Int32)
  else
    some (σ11, (-11 : Int32))
def fC_P_weigh_j101 (N : Nat) (k12 : St → Int32 → Int32 → Option (St × Unit)) (σ : St) (a1 : Int32) (a2 : Int32) : Option (St × Unit) :=
  bnd (a2 + (1 : Int32)) fun x1 =>
  k12 σ a1 x1
def fC_P_weigh_j97 (N : Nat) (k12 : St → Int32 → Int32 → Option (St × Unit)) (σ : St) (a1 : Int32) (a2 : Int32) (t1 : Int32) (t2 : Int32) : Option (St × Unit) :=
  bnd (sI σ 8 (t1 + t2)) fun σ2 =>
  fC_P_weigh_j101 N k12 σ2 a1 a2
def fC_P_weigh_j96 (N : Nat) (k12 : St → Int32 → Int32 → Option (St × Unit)) (σ : St) (a1 : Int32) (a2 : Int32) (t1 : Int32) : Option (St × Unit) :=
  fC_P_weigh_j97 N k12 σ a1 a2 t1 (0 : Int32)
def fC_P_weigh_j74 (N : Nat) (k12 : St → Int32 → Int32 → Option (St × Unit)) (σ : St) (a1 : Int32) (a2 : Int32) (a3 : Int32) (a4 : Int32) (t1 : Int32) (t2 : Int32) : Option (St × Unit) :=
  bnd (sI σ 7 (t1 + t2)) fun σ3 =>
  if a3 = 0 then
    fC_P_weigh_j96 N k12 σ3 a1 a2 (σ3.1 8)
  else
    if a4 = 0 then
      fC_P_weigh_j97 N k12 σ3 a1 a2 (σ3.1 8) (1 : Int32)
    else
      fC_P_weigh_j96 N k12 σ3 a1 a2 (σ3.1 8)
def fC_P_weigh_j73 (N : Nat) (k12 : St → Int32 → Int32 → Option (St × Unit)) (σ : St) (a1 : Int32) (a2 : Int32) (a3 : Int32) (a4 : Int32) (t1 : Int32) : Option (St × Unit) :=
  fC_P_weigh_j74 N k12 σ a1 a2 a3 a4 t1 (0 : Int32)
def fC_P_weigh_l12 (N : Nat) : Nat → St → Int32 → Int32 → Option (St × Unit)
  | 0, _, _, _ => none
  | n12 + 1, σ, a1, a2 =>
    if (σ.1 19) ≤ a2 then
      some (σ, ())
    else
      if ((a1 >>> (a2 &&& 31)) &&& (1 : Int32)) = (1 : Int32) then
        gi a2 24 <|
        cal (fC_P_isOffside N σ (σ.2.1 46 a2.toNatClampNeg) a2) fun σ9 r10 =>
        cal (fC_P_isOffside N σ9 (0 : Int32) a2) fun σ12 r13 =>
        if r13 = 0 then
          fC_P_weigh_j73 N (fC_P_weigh_l12 N  n12) σ12 a1 a2 r10 r13 (σ12.1 7)
        else
          if r10 = 0 then
            fC_P_weigh_j74 N (fC_P_weigh_l12 N  n12) σ12 a1 a2 r10 r13 (σ12.1 7) (1 : Int32)
          else
            fC_P_weigh_j73 N (fC_P_weigh_l12 N  n12) σ12 a1 a2 r10 r13 (σ12.1 7)
      else
        fC_P_weigh_j101 N (fC_P_weigh_l12 N  n12) σ a1 a2
def fC_P_weigh (N : Nat) (σ : St) (a1 : Int32) : Option (St × Unit) :=
  bnd (sI σ 7 (0 : Int32)) fun σ17 =>
  bnd (sI σ17 8 (0 : Int32)) fun σ18 =>
  fC_P_weigh_l12 N  N σ18 a1 (0 : Int32)
def fC_wrong (N : Nat) (σ : St) (a1 : Int32) (a2 : Int32) (a3 : Int32) (a4 : Int32) : Option (St × Int32) :=
  cal (fC_isSheet N σ a1) fun σ1 r2 =>
  if r2 = 0 then
    some (σ1, (-2 : Int32))
  else
    cal (fC_F_hasAll N σ1 a2) fun σ5 r6 =>
    if r6 = 0 then
      some (σ5, (-2 : Int32))
    else
      cal (fC_isWithin N σ5 a4 (0 : Int32) (1 : Int32)) fun σ9 r10 =>
      if r10 = 0 then
        some (σ9, (-2 : Int32))
      else
        cal (fC_H_refusalAsWidths N σ9 a1) fun σ13 r14 =>
        if r14 = 0 then
          cal (fC_H_has N σ13 a1 a3) fun σ17 r18 =>
          if r18 = 0 then
            some (σ17, (-1 : Int32))
          else
            cal (fC_H_itemOf N σ17 a1 a3) fun σ21 r22 =>
            cal (fC_P_lookAs N σ21 r22) fun σ24 r25 =>
            cal (fC_P_weigh N σ24 a2) fun σ27 r28 =>
            if a4 = 0 then
              some (σ27, σ27.1 7)
            else
              some (σ27, σ27.1 8)
        else
          some (σ13, r14)
def fC_best_j160 (N : Nat) (k70 : St → Int32 → Int32 → Int32 → Int32 → Int32 → Int32 → Option (St × Int32)) (σ : St) (a1 : Int32) (a2 : Int32) (a3 : Int32) (a5 : Int32) (a6 : Int32) (a7 : Int32) : Option (St × Int32) :=
  bnd (a7 + (1 : Int32)) fun x1 =>
  k70 σ a1 a2 a3 a5 a6 x1
def fC_best_j152 (N : Nat) (k70 : St → Int32 → Int32 → Int32 → Int32 → Int32 → Int32 → Option (St × Int32)) (σ : St) (a1 : Int32) (a2 : Int32) (a3 : Int32) (a7 : Int32) (a8 : Int32) (a9 : Int32) : Option (St × Int32) :=
  fC_best_j160 N k70 σ a1 a2 a3 a8 a9 a7
def fC_best_l70 (N : Nat) : Nat → St → Int32 → Int32 → Int32 → Int32 → Int32 → Int32 → Option (St × Int32)
  | 0, _, _, _, _, _, _, _ => none
  | n70 + 1, σ, a1, a2, a3, a5, a6, a7 =>
    gi a1 4 <|
    if (σ.2.1 26 a1.toNatClampNeg) ≤ a7 then
      some (σ, a5)
    else
      cal (fC_H_itemOf N σ a1 a7) fun σ4 r5 =>
      cal (fC_P_lookAs N σ4 r5) fun σ7 r8 =>
      cal (fC_P_weigh N σ7 a2) fun σ10 r11 =>
      bnd (((a3 / (100 : Int32)) * (σ10.1 7)) + ((a3 - a3 / (100 : Int32) * (100 : Int32)) * (σ10.1 8))) fun x13 =>
      if a7 = 0 then
        fC_best_j152 N (fC_best_l70 N  n70) σ10 a1 a2 a3 a7 r5 x13
      else
        if a6 ≤ x13 then
          fC_best_j160 N (fC_best_l70 N  n70) σ10 a1 a2 a3 a5 a6 a7
        else
          fC_best_j152 N (fC_best_l70 N  n70) σ10 a1 a2 a3 a7 r5 x13
def fC_best (N : Nat) (σ : St) (a1 : Int32) (a2 : Int32) (a3 : Int32) : Option (St × Int32) :=
  cal (fC_isSheet N σ a1) fun σ16 r17 =>
  if r17 = 0 then
    some (σ16, (-2 : Int32))
  else
    cal (fC_F_hasAll N σ16 a2) fun σ20 r21 =>
    if r21 = 0 then
      some (σ20, (-2 : Int32))
    else
      cal (fC_isWithin N σ20 a3 (0 : Int32) (9999 : Int32)) fun σ24 r25 =>
      if r25 = 0 then
        some (σ24, (-2 : Int32))
      else
        cal (fC_H_refusalAsWidths N σ24 a1) fun σ28 r29 =>
        if r29 = 0 then
          cal (fC_H_itemOf N σ28 a1 (0 : Int32)) fun σ32 r33 =>
          fC_best_l70 N  N σ32 a1 a2 a3 r33 (0 : Int32) (0 : Int32)
        else
          some (σ28, r29)
def fC_L_add (N : Nat) (σ : St) (a1 : Int32) (a2 : Int32) (a3 : Int32) : Option (St × Int32) :=
  if (σ.1 11) < (12 : Int32) then
    gi (σ.1 11) 12 <|
    bnd (sA σ 15 (σ.1 11) (a1 / (10 : Int32))) fun σ3 =>
    gi (σ3.1 11) 12 <|
    bnd (sA σ3 16 (σ3.1 11) (a1 - a1 / (10 : Int32) * (10 : Int32))) fun σ5 =>
    gi (σ5.1 11) 12 <|
    bnd (sA σ5 17 (σ5.1 11) a2) fun σ7 =>
    gi (σ7.1 11) 12 <|
    bnd (sA σ7 18 (σ7.1 11) a3) fun σ9 =>
    bnd (sI σ9 11 ((σ9.1 11) + (1 : Int32))) fun σ10 =>
    some (σ10, (σ10.1 11) - (1 : Int32))
  else
    some (σ, (-4 : Int32))
def fC_match (N : Nat) (σ : St) (a1 : Int32) (a2 : Int32) (a3 : Int32) : Option (St × Int32) :=
  if a1 < 0 then
    some (σ, (-2 : Int32))
  else
    cal (fC_isSide N σ (a1 / (10 : Int32))) fun σ2 r3 =>
    if r3 = 0 then
      some (σ2, (-2 : Int32))
    else
      cal (fC_isSide N σ2 (a1 - a1 / (10 : Int32) * (10 : Int32))) fun σ6 r7 =>
      if r7 = 0 then
        some (σ6, (-2 : Int32))
      else
        if (a1 / (10 : Int32)) = (a1 - a1 / (10 : Int32) * (10 : Int32)) then
          some (σ6, (-2 : Int32))
        else
          cal (fC_isWithin N σ6 a2 (0 : Int32) (99 : Int32)) fun σ11 r12 =>
          if r12 = 0 then
            some (σ11, (-2 : Int32))
          else
            cal (fC_F_hasAll N σ11 a3) fun σ15 r16 =>
            if r16 = 0 then
              some (σ15, (-2 : Int32))
            else
              cal (fC_L_add N σ15 a1 a2 a3) fun σ19 r20 =>
              some (σ19, r20)
def fC_F_attackedBy_j42 (N : Nat) (k5 : St → Int32 → Int32 → Int32 → Int32 → Option (St × Int32)) (σ : St) (a1 : Int32) (a2 : Int32) (a3 : Int32) (a4 : Int32) : Option (St × Int32) :=
  bnd (a4 + (1 : Int32)) fun x1 =>
  k5 σ a1 a2 a3 x1
def fC_F_attackedBy_l5 (N : Nat) : Nat → St → Int32 → Int32 → Int32 → Int32 → Option (St × Int32)
  | 0, _, _, _, _, _ => none
  | n5 + 1, σ, a1, a2, a3, a4 =>
    if (σ.1 19) ≤ a4 then
      some (σ, a3)
    else
      if ((a2 >>> (a4 &&& 31)) &&& (1 : Int32)) = (1 : Int32) then
        gi a4 24 <|
        if (σ.2.1 52 a4.toNatClampNeg) = a1 then
          bnd (a3 ||| ((1 : Int32) <<< (a4 &&& 31))) fun x6 =>
          fC_F_attackedBy_j42 N (fC_F_attackedBy_l5 N  n5) σ a1 a2 x6 a4
        else
          fC_F_attackedBy_j42 N (fC_F_attackedBy_l5 N  n5) σ a1 a2 a3 a4
      else
        fC_F_attackedBy_j42 N (fC_F_attackedBy_l5 N  n5) σ a1 a2 a3 a4
def fC_F_attackedBy (N : Nat) (σ : St) (a1 : Int32) (a2 : Int32) : Option (St × Int32) :=
  fC_F_attackedBy_l5 N  N σ a1 a2 (0 : Int32) (0 : Int32)
def fC_Int_bitCount (N : Nat) (σ : St) (a0 : Int32) : Option (St × Int32) :=
  bnd (a0 - (((a0.toUInt32 >>> ((1 : Int32).toUInt32 &&& Int32.toUInt32 31)).toInt32) &&& (1431655765 : Int32))) fun x1 =>
  bnd ((x1 &&& (858993459 : Int32)) + (((x1.toUInt32 >>> ((2 : Int32).toUInt32 &&& Int32.toUInt32 31)).toInt32) &&& (858993459 : Int32))) fun x2 =>
  bnd ((x2 + ((x2.toUInt32 >>> ((4 : Int32).toUInt32 &&& Int32.toUInt32 31)).toInt32)) &&& (252645135 : Int32)) fun x3 =>
  bnd (x3 + ((x3.toUInt32 >>> ((8 : Int32).toUInt32 &&& Int32.toUInt32 31)).toInt32)) fun x4 =>
  bnd (x4 + ((x4.toUInt32 >>> ((16 : Int32).toUInt32 &&& Int32.toUInt32 31)).toInt32)) fun x5 =>
  some (σ, x5 &&& (63 : Int32))
def fC_L_score (N : Nat) (σ : St) (a1 : Int32) (a2 : Int32) (a3 : Int32) : Option (St × Unit) :=
  gi a1 4 <|
  gi a1 4 <|
  bnd (sA σ 20 a1 ((σ.2.1 20 a1.toNatClampNeg) + a2)) fun σ3 =>
  gi a1 4 <|
  gi a1 4 <|
  bnd (sA σ3 21 a1 ((σ3.2.1 21 a1.toNatClampNeg) + a3)) fun σ6 =>
  if a2 ≤ a3 then
    if a2 = a3 then
      gi a1 4 <|
      gi a1 4 <|
      bnd (sA σ6 19 a1 ((σ6.2.1 19 a1.toNatClampNeg) + (1 : Int32))) fun σ11 =>
      some (σ11, ())
    else
      some (σ6, ())
  else
    gi a1 4 <|
    gi a1 4 <|
    bnd (sA σ6 19 a1 ((σ6.2.1 19 a1.toNatClampNeg) + (3 : Int32))) fun σ14 =>
    some (σ14, ())
def fC_L_playAll_l36 (N : Nat) : Nat → St → Int32 → Int32 → Option (St × Unit)
  | 0, _, _, _ => none
  | n36 + 1, σ, a1, a3 =>
    if (σ.1 11) ≤ a3 then
      some (σ, ())
    else
      gi a3 12 <|
      bnd ((σ.2.1 18 a3.toNatClampNeg) &&& (a1 ^^^ (-1 : Int32))) fun x3 =>
      gi a3 12 <|
      gi a3 12 <|
      cal (fC_F_attackedBy N σ (σ.2.1 15 a3.toNatClampNeg) x3) fun σ6 r7 =>
      cal (fC_Int_bitCount N σ6 r7) fun σ9 r10 =>
      bnd (((σ.2.1 17 a3.toNatClampNeg) / (10 : Int32)) + r10) fun x12 =>
      gi a3 12 <|
      gi a3 12 <|
      cal (fC_F_attackedBy N σ9 (σ9.2.1 16 a3.toNatClampNeg) x3) fun σ15 r16 =>
      cal (fC_Int_bitCount N σ15 r16) fun σ18 r19 =>
      bnd (((σ9.2.1 17 a3.toNatClampNeg) - (σ9.2.1 17 a3.toNatClampNeg) / (10 : Int32) * (10 : Int32)) + r19) fun x21 =>
      gi a3 12 <|
      cal (fC_L_score N σ18 (σ18.2.1 15 a3.toNatClampNeg) x12 x21) fun σ23 r24 =>
      gi a3 12 <|
      cal (fC_L_score N σ23 (σ23.2.1 16 a3.toNatClampNeg) x21 x12) fun σ27 r28 =>
      bnd (a3 + (1 : Int32)) fun x30 =>
      (fC_L_playAll_l36 N  n36) σ27 a1 x30
def fC_L_playAll_j34 (N : Nat) (σ : St) (a1 : Int32) : Option (St × Unit) :=
  fC_L_playAll_l36 N  N σ a1 (0 : Int32)
def fC_L_playAll_l2 (N : Nat) : Nat → St → Int32 → Int32 → Option (St × Unit)
  | 0, _, _, _ => none
  | n2 + 1, σ, a1, a3 =>
    if (4 : Int32) ≤ a3 then
      fC_L_playAll_j34 N  σ a1
    else
      gi a3 4 <|
      bnd (sA σ 19 a3 (0 : Int32)) fun σ33 =>
      gi a3 4 <|
      bnd (sA σ33 20 a3 (0 : Int32)) fun σ35 =>
      gi a3 4 <|
      bnd (sA σ35 21 a3 (0 : Int32)) fun σ37 =>
      bnd (a3 + (1 : Int32)) fun x38 =>
      (fC_L_playAll_l2 N  n2) σ37 a1 x38
def fC_L_playAll (N : Nat) (σ : St) (a1 : Int32) : Option (St × Unit) :=
  fC_L_playAll_l2 N  N σ a1 (0 : Int32)
def fC_L_isAbove (N : Nat) (σ : St) (a1 : Int32) (a2 : Int32) : Option (St × Int32) :=
  gi a1 4 <|
  gi a2 4 <|
  if (σ.2.1 19 a1.toNatClampNeg) = (σ.2.1 19 a2.toNatClampNeg) then
    gi a1 4 <|
    gi a1 4 <|
    bnd ((σ.2.1 20 a1.toNatClampNeg) - (σ.2.1 21 a1.toNatClampNeg)) fun x6 =>
    gi a2 4 <|
    gi a2 4 <|
    bnd ((σ.2.1 20 a2.toNatClampNeg) - (σ.2.1 21 a2.toNatClampNeg)) fun x9 =>
    if x6 = x9 then
      gi a1 4 <|
      gi a2 4 <|
      if (σ.2.1 20 a1.toNatClampNeg) ≤ (σ.2.1 20 a2.toNatClampNeg) then
        some (σ, (0 : Int32))
      else
        some (σ, (1 : Int32))
    else
      if x6 ≤ x9 then
        some (σ, (0 : Int32))
      else
        some (σ, (1 : Int32))
  else
    gi a1 4 <|
    gi a2 4 <|
    if (σ.2.1 19 a1.toNatClampNeg) ≤ (σ.2.1 19 a2.toNatClampNeg) then
      some (σ, (0 : Int32))
    else
      some (σ, (1 : Int32))
def fC_L_rankOf_j24 (N : Nat) (k4 : St → Int32 → Int32 → Int32 → Option (St × Int32)) (σ : St) (a1 : Int32) (a3 : Int32) (t0 : Int32) (t1 : Int32) : Option (St × Int32) :=
  bnd (t0 + t1) fun x1 =>
  bnd (a3 + (1 : Int32)) fun x2 =>
  k4 σ a1 x1 x2
def fC_L_rankOf_l4 (N : Nat) : Nat → St → Int32 → Int32 → Int32 → Option (St × Int32)
  | 0, _, _, _, _ => none
  | n4 + 1, σ, a1, a2, a3 =>
    if (4 : Int32) ≤ a3 then
      some (σ, a2)
    else
      cal (fC_L_isAbove N σ a3 a1) fun σ4 r5 =>
      if r5 = 0 then
        fC_L_rankOf_j24 N (fC_L_rankOf_l4 N  n4) σ4 a1 a3 a2 (0 : Int32)
      else
        fC_L_rankOf_j24 N (fC_L_rankOf_l4 N  n4) σ4 a1 a3 a2 (1 : Int32)
def fC_L_rankOf (N : Nat) (σ : St) (a1 : Int32) : Option (St × Int32) :=
  fC_L_rankOf_l4 N  N σ a1 (0 : Int32) (0 : Int32)
def fC_table (N : Nat) (σ : St) (a1 : Int32) (a2 : Int32) (a3 : Int32) : Option (St × Int32) :=
  cal (fC_isWidth N σ a1) fun σ1 r2 =>
  if r2 = 0 then
    some (σ1, (-2 : Int32))
  else
    cal (fC_isSide N σ1 a2) fun σ5 r6 =>
    if r6 = 0 then
      some (σ5, (-2 : Int32))
    else
      cal (fC_isWithin N σ5 a3 (0 : Int32) (3 : Int32)) fun σ9 r10 =>
      if r10 = 0 then
        some (σ9, (-2 : Int32))
      else
        cal (fC_P_lookAs N σ9 a1) fun σ13 r14 =>
        cal (fC_F_all N σ13 ) fun σ16 r17 =>
        cal (fC_P_offsideAmong N σ16 r17) fun σ19 r20 =>
        cal (fC_L_playAll N σ19 r20) fun σ22 r23 =>
        if a3 = (0 : Int32) then
          gi a2 4 <|
          some (σ22, σ22.2.1 19 a2.toNatClampNeg)
        else
        if a3 = (1 : Int32) then
          gi a2 4 <|
          some (σ22, σ22.2.1 20 a2.toNatClampNeg)
        else
        if a3 = (2 : Int32) then
          gi a2 4 <|
          some (σ22, σ22.2.1 21 a2.toNatClampNeg)
        else
        cal (fC_L_rankOf N σ22 a2) fun σ31 r32 =>
        some (σ31, r32)
def fC_L_allRanks_l4 (N : Nat) : Nat → St → Int32 → Int32 → Option (St × Int32)
  | 0, _, _, _ => none
  | n4 + 1, σ, a1, a2 =>
    if (4 : Int32) ≤ a2 then
      some (σ, a1)
    else
      cal (fC_L_rankOf N σ a2) fun σ2 r3 =>
      bnd ((a1 * (4 : Int32)) + r3) fun x5 =>
      bnd (a2 + (1 : Int32)) fun x6 =>
      (fC_L_allRanks_l4 N  n4) σ2 x5 x6
def fC_L_allRanks (N : Nat) (σ : St) : Option (St × Int32) :=
  fC_L_allRanks_l4 N  N σ (0 : Int32) (0 : Int32)
def fC_season_j119 (N : Nat) (k33 : St → Int32 → Int32 → Int32 → Int32 → Option (St × Int32)) (σ : St) (a1 : Int32) (a3 : Int32) (a5 : Int32) (a6 : Int32) : Option (St × Int32) :=
  bnd (a5 + (1 : Int32)) fun x1 =>
  k33 σ a1 a3 a6 x1
def fC_season_l33 (N : Nat) : Nat → St → Int32 → Int32 → Int32 → Int32 → Option (St × Int32)
  | 0, _, _, _, _, _ => none
  | n33 + 1, σ, a1, a3, a4, a5 =>
    gi a1 4 <|
    if (σ.2.1 26 a1.toNatClampNeg) ≤ a5 then
      some (σ, a3)
    else
      cal (fC_H_itemOf N σ a1 a5) fun σ4 r5 =>
      cal (fC_P_lookAs N σ4 r5) fun σ7 r8 =>
      cal (fC_F_all N σ7 ) fun σ10 r11 =>
      cal (fC_P_offsideAmong N σ10 r11) fun σ13 r14 =>
      cal (fC_L_playAll N σ13 r14) fun σ16 r17 =>
      cal (fC_L_allRanks N σ16 ) fun σ19 r20 =>
      if a5 ≤ 0 then
        fC_season_j119 N (fC_season_l33 N  n33) σ19 a1 a3 a5 r20
      else
        if r20 = a4 then
          fC_season_j119 N (fC_season_l33 N  n33) σ19 a1 a3 a5 r20
        else
          bnd (a3 + (1 : Int32)) fun x24 =>
          fC_season_j119 N (fC_season_l33 N  n33) σ19 a1 x24 a5 r20
def fC_season (N : Nat) (σ : St) (a1 : Int32) : Option (St × Int32) :=
  cal (fC_isSheet N σ a1) fun σ25 r26 =>
  if r26 = 0 then
    some (σ25, (-2 : Int32))
  else
    cal (fC_H_refusalAsWidths N σ25 a1) fun σ29 r30 =>
    if r30 = 0 then
      fC_season_l33 N  N σ29 a1 (0 : Int32) (0 : Int32) (0 : Int32)
    else
      some (σ29, r30)
def fC_stand (N : Nat) (σ : St) (a1 : Int32) (a2 : Int32) (a3 : Int32) : Option (St × Int32) :=
  cal (fC_isSide N σ a1) fun σ1 r2 =>
  if r2 = 0 then
    some (σ1, (-2 : Int32))
  else
    cal (fC_isWidth N σ1 a2) fun σ5 r6 =>
    if r6 = 0 then
      some (σ5, (-2 : Int32))
    else
      cal (fC_F_hasAll N σ5 a3) fun σ9 r10 =>
      if r10 = 0 then
        some (σ9, (-2 : Int32))
      else
        cal (fC_P_lookAsStanding N σ9 a2 a1 ((a2 - (σ9.1 3)) / (2 : Int32))) fun σ13 r14 =>
        cal (fC_F_attackedBy N σ13 a1 a3) fun σ16 r17 =>
        cal (fC_P_offsideAmong N σ16 r17) fun σ19 r20 =>
        some (σ19, r20)
def fC_K_add (N : Nat) (σ : St) (a1 : Int32) (a2 : Int32) : Option (St × Int32) :=
  cal (fC_isWithin N σ a1 (0 : Int32) (63 : Int32)) fun σ1 r2 =>
  if r2 = 0 then
    some (σ1, (-2 : Int32))
  else
    cal (fC_isWithin N σ1 a2 (0 : Int32) (3 : Int32)) fun σ5 r6 =>
    if r6 = 0 then
      some (σ5, (-2 : Int32))
    else
      if (σ5.1 12) < (40 : Int32) then
        gi (σ5.1 12) 40 <|
        bnd (sA σ5 22 (σ5.1 12) a1) fun σ11 =>
        gi (σ11.1 12) 40 <|
        bnd (sA σ11 23 (σ11.1 12) a2) fun σ13 =>
        bnd (sI σ13 12 ((σ13.1 12) + (1 : Int32))) fun σ14 =>
        some (σ14, (σ14.1 12) - (1 : Int32))
      else
        some (σ5, (-4 : Int32))
def fC_shown (N : Nat) (σ : St) (a1 : Int32) (a2 : Int32) : Option (St × Int32) :=
  cal (fC_K_add N σ a1 a2) fun σ1 r2 =>
  some (σ1, r2)
def fC_K_isSplitBy_j67 (N : Nat) (k23 : St → Int32 → Int32 → Option (St × Int32)) (σ : St) (a1 : Int32) (a2 : Int32) (a3 : Int32) : Option (St × Int32) :=
  gi a2 40 <|
  gi a3 64 <|
  bnd (sA σ 24 a3 (σ.2.1 23 a2.toNatClampNeg)) fun σ3 =>
  bnd (a2 + (1 : Int32)) fun x4 =>
  k23 σ3 a1 x4
def fC_K_isSplitBy_l23 (N : Nat) : Nat → St → Int32 → Int32 → Option (St × Int32)
  | 0, _, _, _ => none
  | n23 + 1, σ, a1, a2 =>
    if (σ.1 12) ≤ a2 then
      some (σ, (1 : Int32))
    else
      gi a2 40 <|
      bnd ((σ.2.1 22 a2.toNatClampNeg) &&& a1) fun x7 =>
      gi x7 64 <|
      if (σ.2.1 24 x7.toNatClampNeg) = (-1 : Int32) then
        fC_K_isSplitBy_j67 N (fC_K_isSplitBy_l23 N  n23) σ a1 a2 x7
      else
        gi x7 64 <|
        gi a2 40 <|
        if (σ.2.1 24 x7.toNatClampNeg) = (σ.2.1 23 a2.toNatClampNeg) then
          fC_K_isSplitBy_j67 N (fC_K_isSplitBy_l23 N  n23) σ a1 a2 x7
        else
          some (σ, (0 : Int32))
def fC_K_isSplitBy_j21 (N : Nat) (σ : St) (a1 : Int32) : Option (St × Int32) :=
  fC_K_isSplitBy_l23 N  N σ a1 (0 : Int32)
def fC_K_isSplitBy_l2 (N : Nat) : Nat → St → Int32 → Int32 → Option (St × Int32)
  | 0, _, _, _ => none
  | n2 + 1, σ, a1, a2 =>
    if (64 : Int32) ≤ a2 then
      fC_K_isSplitBy_j21 N  σ a1
    else
      gi a2 64 <|
      bnd (sA σ 24 a2 (-1 : Int32)) fun σ15 =>
      bnd (a2 + (1 : Int32)) fun x16 =>
      (fC_K_isSplitBy_l2 N  n2) σ15 a1 x16
def fC_K_isSplitBy (N : Nat) (σ : St) (a1 : Int32) : Option (St × Int32) :=
  fC_K_isSplitBy_l2 N  N σ a1 (0 : Int32)
def fC_K_fewestMarks_j46 (N : Nat) (k4 : St → Int32 → Int32 → Option (St × Int32)) (σ : St) (a1 : Int32) (a2 : Int32) : Option (St × Int32) :=
  bnd (a2 + (1 : Int32)) fun x1 =>
  k4 σ a1 x1
def fC_K_fewestMarks_j31 (N : Nat) (k4 : St → Int32 → Int32 → Option (St × Int32)) (σ : St) (a1 : Int32) (a2 : Int32) (t0 : Int32) : Option (St × Int32) :=
  if t0 = 0 then
    fC_K_fewestMarks_j46 N k4 σ a1 a2
  else
    cal (fC_K_isSplitBy N σ a2) fun σ3 r4 =>
    if r4 = 0 then
      fC_K_fewestMarks_j46 N k4 σ3 a1 a2
    else
      fC_K_fewestMarks_j46 N k4 σ3 a2 a2
def fC_K_fewestMarks_j26 (N : Nat) (k4 : St → Int32 → Int32 → Option (St × Int32)) (σ : St) (a1 : Int32) (a2 : Int32) : Option (St × Int32) :=
  fC_K_fewestMarks_j31 N k4 σ a1 a2 (1 : Int32)
def fC_K_fewestMarks_l4 (N : Nat) : Nat → St → Int32 → Int32 → Option (St × Int32)
  | 0, _, _, _ => none
  | n4 + 1, σ, a1, a2 =>
    if (64 : Int32) ≤ a2 then
      some (σ, a1)
    else
      if a1 = (-1 : Int32) then
        fC_K_fewestMarks_j26 N (fC_K_fewestMarks_l4 N  n4) σ a1 a2
      else
        cal (fC_Int_bitCount N σ a2) fun σ9 r10 =>
        cal (fC_Int_bitCount N σ9 a1) fun σ12 r13 =>
        if r13 ≤ r10 then
          fC_K_fewestMarks_j31 N (fC_K_fewestMarks_l4 N  n4) σ12 a1 a2 (0 : Int32)
        else
          fC_K_fewestMarks_j26 N (fC_K_fewestMarks_l4 N  n4) σ12 a1 a2
def fC_K_fewestMarks (N : Nat) (σ : St) : Option (St × Int32) :=
  fC_K_fewestMarks_l4 N  N σ (-1 : Int32) (0 : Int32)
def fC_split (N : Nat) (σ : St) : Option (St × Int32) :=
  cal (fC_K_fewestMarks N σ ) fun σ1 r2 =>
  some (σ1, r2)
def fC_S_takeMenOf_6_j71 (N : Nat) (k2 : St → Int32 → Option (St × Unit)) (σ : St) (a2 : Int32) : Option (St × Unit) :=
  bnd (a2 + (1 : Int32)) fun x1 =>
  k2 σ x1
def fC_S_takeMenOf_6_l44 (N : Nat) (k2 : St → Int32 → Option (St × Unit)) : Nat → St → Int32 → Int32 → Option (St × Unit)
  | 0, _, _, _ => none
  | n44 + 1, σ, a2, a3 =>
    if ((a2 * (4 : Int32)) + (4 : Int32)) ≤ a3 then
      fC_S_takeMenOf_6_j71 N k2 σ a2
    else
      gi a3 40 <|
      gi a3 40 <|
      bnd (sA σ 31 a3 (σ.2.1 35 a3.toNatClampNeg)) fun σ5 =>
      bnd (a3 + (1 : Int32)) fun x6 =>
      (fC_S_takeMenOf_6_l44 N k2 n44) σ5 a2 x6
def fC_S_takeMenOf_6_l2 (N : Nat) : Nat → St → Int32 → Option (St × Unit)
  | 0, _, _ => none
  | n2 + 1, σ, a2 =>
    if (σ.1 14) ≤ a2 then
      some (σ, ())
    else
      if (10 : Int32) ≤ a2 then
        some (σ, ())
      else
        gi a2 10 <|
        gi a2 10 <|
        bnd (sA σ 29 a2 (σ.2.1 33 a2.toNatClampNeg)) fun σ11 =>
        gi a2 10 <|
        gi a2 10 <|
        bnd (sA σ11 30 a2 (σ11.2.1 34 a2.toNatClampNeg)) fun σ14 =>
        bnd (a2 * (4 : Int32)) fun x15 =>
        fC_S_takeMenOf_6_l44 N (fC_S_takeMenOf_6_l2 N  n2) N σ14 a2 x15
def fC_S_takeMenOf_6 (N : Nat) (σ : St) : Option (St × Unit) :=
  fC_S_takeMenOf_6_l2 N  N σ (0 : Int32)
def fC_image (N : Nat) (σ : St) : Option (St × Int32) :=
  bnd (sI σ 13 (σ.1 14)) fun σ1 =>
  cal (fC_S_takeMenOf_6 N σ1 ) fun σ2 r3 =>
  bnd (sI σ2 0 (σ2.1 3)) fun σ5 =>
  bnd (sI σ5 1 (σ5.1 18)) fun σ6 =>
  bnd (sI σ6 2 (1 : Int32)) fun σ7 =>
  some (σ7, σ7.1 3)
def fC_S_takeMenOf_7_j71 (N : Nat) (k2 : St → Int32 → Option (St × Unit)) (σ : St) (a2 : Int32) : Option (St × Unit) :=
  bnd (a2 + (1 : Int32)) fun x1 =>
  k2 σ x1
def fC_S_takeMenOf_7_l44 (N : Nat) (k2 : St → Int32 → Option (St × Unit)) : Nat → St → Int32 → Int32 → Option (St × Unit)
  | 0, _, _, _ => none
  | n44 + 1, σ, a2, a3 =>
    if ((a2 * (4 : Int32)) + (4 : Int32)) ≤ a3 then
      fC_S_takeMenOf_7_j71 N k2 σ a2
    else
      gi a3 40 <|
      gi a3 40 <|
      bnd (sA σ 35 a3 (σ.2.1 31 a3.toNatClampNeg)) fun σ5 =>
      bnd (a3 + (1 : Int32)) fun x6 =>
      (fC_S_takeMenOf_7_l44 N k2 n44) σ5 a2 x6
def fC_S_takeMenOf_7_l2 (N : Nat) : Nat → St → Int32 → Option (St × Unit)
  | 0, _, _ => none
  | n2 + 1, σ, a2 =>
    if (σ.1 13) ≤ a2 then
      some (σ, ())
    else
      if (10 : Int32) ≤ a2 then
        some (σ, ())
      else
        gi a2 10 <|
        gi a2 10 <|
        bnd (sA σ 33 a2 (σ.2.1 29 a2.toNatClampNeg)) fun σ11 =>
        gi a2 10 <|
        gi a2 10 <|
        bnd (sA σ11 34 a2 (σ11.2.1 30 a2.toNatClampNeg)) fun σ14 =>
        bnd (a2 * (4 : Int32)) fun x15 =>
        fC_S_takeMenOf_7_l44 N (fC_S_takeMenOf_7_l2 N  n2) N σ14 a2 x15
def fC_S_takeMenOf_7 (N : Nat) (σ : St) : Option (St × Unit) :=
  fC_S_takeMenOf_7_l2 N  N σ (0 : Int32)
def fC_back (N : Nat) (σ : St) : Option (St × Int32) :=
  if (σ.1 2) = 0 then
    some (σ, (-3 : Int32))
  else
    cal (fC_S_takeMenOf_7 N σ ) fun σ2 r3 =>
    bnd (sI σ2 3 (σ2.1 0)) fun σ5 =>
    bnd (sI σ5 18 (σ5.1 1)) fun σ6 =>
    some (σ6, σ6.1 3)
def fC_count (N : Nat) (σ : St) (a1 : Int32) : Option (St × Int32) :=
  if a1 = (0 : Int32) then
    some (σ, σ.1 14)
  else
  if a1 = (1 : Int32) then
    some (σ, σ.1 15)
  else
  if a1 = (2 : Int32) then
    some (σ, σ.1 16)
  else
  if a1 = (3 : Int32) then
    some (σ, σ.1 19)
  else
  if a1 = (4 : Int32) then
    some (σ, σ.1 11)
  else
  if a1 = (5 : Int32) then
    some (σ, σ.1 12)
  else
  if a1 = (6 : Int32) then
    some (σ, σ.1 17)
  else
  if a1 = (7 : Int32) then
    some (σ, σ.1 20)
  else
  if a1 = (8 : Int32) then
    some (σ, σ.1 18)
  else
  if a1 = (9 : Int32) then
    some (σ, σ.1 3)
  else
  some (σ, (-2 : Int32))
def fC_H_layOut_l17 (N : Nat) : Nat → St → Int32 → Int32 → Option (St × Unit)
  | 0, _, _, _ => none
  | n17 + 1, σ, a1, a4 =>
    if (40 : Int32) ≤ a4 then
      some (σ, ())
    else
      gi ((a1 * (40 : Int32)) + a4) 160 <|
      bnd (sA σ 27 ((a1 * (40 : Int32)) + a4) (0 : Int32)) fun σ3 =>
      bnd (a4 + (1 : Int32)) fun x4 =>
      (fC_H_layOut_l17 N  n17) σ3 a1 x4
def fC_H_layOut (N : Nat) (σ : St) (a1 : Int32) (a2 : Int32) (a3 : Int32) : Option (St × Unit) :=
  gi a1 4 <|
  bnd (sA σ 25 a1 a2) fun σ6 =>
  gi a1 4 <|
  bnd (sA σ6 26 a1 a3) fun σ8 =>
  fC_H_layOut_l17 N  N σ8 a1 (0 : Int32)
def fC_sheet (N : Nat) (σ : St) (a1 : Int32) (a2 : Int32) (a3 : Int32) : Option (St × Int32) :=
  cal (fC_isSheet N σ a1) fun σ1 r2 =>
  if r2 = 0 then
    some (σ1, (-2 : Int32))
  else
    cal (fC_isWithin N σ1 a2 (-1 : Int32) (2 : Int32)) fun σ5 r6 =>
    if r6 = 0 then
      some (σ5, (-2 : Int32))
    else
      if a2 = (-1 : Int32) then
        cal (fC_H_layOut N σ5 a1 (-1 : Int32) (0 : Int32)) fun σ15 r16 =>
        some (σ15, (1 : Int32))
      else
        if a3 ≤ (40 : Int32) then
          if 0 ≤ a3 then
            cal (fC_H_layOut N σ5 a1 a2 a3) fun σ12 r13 =>
            some (σ12, (1 : Int32))
          else
            some (σ5, (-14 : Int32))
        else
          some (σ5, (-2 : Int32))
def fC_H_put_j33 (N : Nat) (σ : St) (a1 : Int32) (a2 : Int32) (a4 : Int32) : Option (St × Unit) :=
  gi ((a1 * (40 : Int32)) + a2) 160 <|
  bnd (sA σ 27 ((a1 * (40 : Int32)) + a2) a4) fun σ2 =>
  some (σ2, ())
def fC_H_put (N : Nat) (σ : St) (a1 : Int32) (a2 : Int32) (a3 : Int32) : Option (St × Unit) :=
  gi a1 4 <|
  if (σ.2.1 25 a1.toNatClampNeg) = 0 then
    bnd (a3.toInt8.toInt32) fun x8 =>
    fC_H_put_j33 N  σ a1 a2 x8
  else
    gi a1 4 <|
    if (σ.2.1 25 a1.toNatClampNeg) = (1 : Int32) then
      bnd (a3.toInt16.toInt32) fun x7 =>
      fC_H_put_j33 N  σ a1 a2 x7
    else
      fC_H_put_j33 N  σ a1 a2 a3
def fC_cell (N : Nat) (σ : St) (a1 : Int32) (a2 : Int32) (a3 : Int32) : Option (St × Int32) :=
  cal (fC_isSheet N σ a1) fun σ1 r2 =>
  if r2 = 0 then
    some (σ1, (-2 : Int32))
  else
    cal (fC_H_isMissing N σ1 a1) fun σ5 r6 =>
    if r6 = 0 then
      cal (fC_H_has N σ5 a1 a2) fun σ9 r10 =>
      if r10 = 0 then
        some (σ9, (-12 : Int32))
      else
        cal (fC_H_put N σ9 a1 a2 a3) fun σ13 r14 =>
        some (σ13, (1 : Int32))
    else
      some (σ5, (-11 : Int32))
def fC_H_hasRun (N : Nat) (σ : St) (a1 : Int32) (a2 : Int32) (a3 : Int32) : Option (St × Int32) :=
  if a2 < 0 then
    some (σ, (0 : Int32))
  else
    if a3 < 0 then
      some (σ, (0 : Int32))
    else
      gi a1 4 <|
      if (σ.2.1 26 a1.toNatClampNeg) < a2 then
        some (σ, (0 : Int32))
      else
        gi a1 4 <|
        if ((σ.2.1 26 a1.toNatClampNeg) - a2) < a3 then
          some (σ, (0 : Int32))
        else
          some (σ, (1 : Int32))
def fC_copy (N : Nat) (σ : St) (a1 : Int32) (a2 : Int32) (a3 : Int32) (a4 : Int32) (a5 : Int32) : Option (St × Int32) :=
  cal (fC_isSheet N σ a1) fun σ1 r2 =>
  if r2 = 0 then
    some (σ1, (-2 : Int32))
  else
    cal (fC_isSheet N σ1 a3) fun σ5 r6 =>
    if r6 = 0 then
      some (σ5, (-2 : Int32))
    else
      cal (fC_H_isMissing N σ5 a1) fun σ9 r10 =>
      if r10 = 0 then
        cal (fC_H_isMissing N σ9 a3) fun σ13 r14 =>
        if r14 = 0 then
          gi a1 4 <|
          gi a3 4 <|
          if (σ13.2.1 25 a1.toNatClampNeg) = (σ13.2.1 25 a3.toNatClampNeg) then
            cal (fC_H_hasRun N σ13 a1 a2 a5) fun σ20 r21 =>
            if r21 = 0 then
              some (σ20, (-12 : Int32))
            else
              cal (fC_H_hasRun N σ20 a3 a4 a5) fun σ24 r25 =>
              if r25 = 0 then
                some (σ24, (-12 : Int32))
              else
                gcp 160 ((a1 * (40 : Int32)) + a2) ((a3 * (40 : Int32)) + a4) a5 <|
                bnd (sCp σ24 27 ((a1 * (40 : Int32)) + a2) ((a3 * (40 : Int32)) + a4) a5) fun σ29 =>
                some (σ29, a5)
          else
            some (σ13, (-13 : Int32))
        else
          some (σ13, (-11 : Int32))
      else
        some (σ9, (-11 : Int32))
def fC_men_j163 (N : Nat) (k77 : St → Int32 → Int32 → Int32 → Int32 → Int32 → Option (St × Int32)) (σ : St) (a1 : Int32) (a3 : Int32) (a4 : Int32) (a5 : Int32) (a6 : Int32) : Option (St × Int32) :=
  bnd (a6 + (1 : Int32)) fun x1 =>
  k77 σ a1 a3 a4 a5 x1
def fC_men_l77 (N : Nat) : Nat → St → Int32 → Int32 → Int32 → Int32 → Int32 → Option (St × Int32)
  | 0, _, _, _, _, _, _ => none
  | n77 + 1, σ, a1, a3, a4, a5, a6 =>
    if a4 ≤ a6 then
      some (σ, a5)
    else
      bnd (a3 + ((3 : Int32) * a6)) fun x3 =>
      cal (fC_H_hasRun N σ a1 x3 (3 : Int32)) fun σ4 r5 =>
      if r5 = 0 then
        some (σ4, (-12 : Int32))
      else
        cal (fC_H_itemOf N σ4 a1 x3) fun σ8 r9 =>
        cal (fC_H_itemOf N σ8 a1 (x3 + (1 : Int32))) fun σ11 r12 =>
        cal (fC_H_itemOf N σ11 a1 (x3 + (2 : Int32))) fun σ14 r15 =>
        cal (fC_S_add N σ14 r9 r12 r15) fun σ17 r18 =>
        if r18 < 0 then
          fC_men_j163 N (fC_men_l77 N  n77) σ17 a1 a3 a4 a5 a6
        else
          bnd (a5 + (1 : Int32)) fun x21 =>
          fC_men_j163 N (fC_men_l77 N  n77) σ17 a1 a3 a4 x21 a6
def fC_men_j57 (N : Nat) (σ : St) (a1 : Int32) (a3 : Int32) (a4 : Int32) : Option (St × Int32) :=
  cal (fC_H_isMissing N σ a1) fun σ22 r23 =>
  if r23 = 0 then
    fC_men_l77 N  N σ22 a1 a3 a4 (0 : Int32) (0 : Int32)
  else
    some (σ22, (-11 : Int32))
def fC_men (N : Nat) (σ : St) (a1 : Int32) (a2 : Int32) (a3 : Int32) (a4 : Int32) : Option (St × Int32) :=
  cal (fC_isSheet N σ a1) fun σ26 r27 =>
  if r27 = 0 then
    some (σ26, (-2 : Int32))
  else
    cal (fC_isWithin N σ26 a2 (0 : Int32) (2 : Int32)) fun σ30 r31 =>
    if r31 = 0 then
      some (σ30, (-2 : Int32))
    else
      cal (fC_isWithin N σ30 a4 (0 : Int32) (10 : Int32)) fun σ34 r35 =>
      if r35 = 0 then
        some (σ34, (-2 : Int32))
      else
        cal (fC_H_isMissing N σ34 a1) fun σ38 r39 =>
        if r39 = 0 then
          gi a1 4 <|
          if (σ38.2.1 25 a1.toNatClampNeg) = a2 then
            fC_men_j57 N  σ38 a1 a3 a4
          else
            some (σ38, (-13 : Int32))
        else
          fC_men_j57 N  σ38 a1 a3 a4
def fC_taken (N : Nat) (σ : St) (a1 : Int32) (a2 : Int32) : Option (St × Int32) :=
  cal (fC_isWithin N σ a2 (0 : Int32) (5 : Int32)) fun σ1 r2 =>
  if r2 = 0 then
    some (σ1, (-2 : Int32))
  else
    cal (fC_F_has N σ1 a1) fun σ5 r6 =>
    if r6 = 0 then
      some (σ5, (-11 : Int32))
    else
      gi a1 24 <|
      cal (fC_isUnder N σ5 (σ5.2.1 46 a1.toNatClampNeg) a2) fun σ10 r11 =>
      if r11 = 0 then
        some (σ10, (-13 : Int32))
      else
        gi a1 24 <|
        some (σ10, σ10.2.1 49 a1.toNatClampNeg)
def σC0 : St := (fun k => if k = 5 then -1 else 0, fun k => if k = 25 then upd (upd (upd (upd (fun _ => 0) (Int32.toNatClampNeg 0) (-1)) (Int32.toNatClampNeg 1) (-1)) (Int32.toNatClampNeg 2) (-1)) (Int32.toNatClampNeg 3) (-1) else fun _ => 0, fun _ => 0)
def fC_init_j103 (N : Nat) (σ : St) : Option (St × Unit) :=
  cal (fC_R_readTape N σ ) fun σ1 r2 =>
  cal (fC_T_keep N σ1 ) fun σ4 r5 =>
  some (σ4, ())
def fC_init_l72 (N : Nat) : Nat → St → Int32 → Option (St × Unit)
  | 0, _, _ => none
  | n72 + 1, σ, a1 =>
    if (42 : Int32) ≤ a1 then
      fC_init_j103 N  σ 
    else
      gi a1 42 <|
      cal (fC_B_put N σ (sch 0 a1.toNatClampNeg)) fun σ9 r10 =>
      bnd (a1 + (1 : Int32)) fun x12 =>
      (fC_init_l72 N  n72) σ9 x12
def fC_init (N : Nat) (σ : St) : Option (St × Unit) :=
  fC_init_l72 N  N σ (0 : Int32)
