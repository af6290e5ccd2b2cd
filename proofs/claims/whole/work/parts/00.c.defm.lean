def fM_fail (N : Nat) (σ : St) : Option (St × Unit) :=
  if (σ.1 13) = 0 then
    bnd (sI σ 13 (1 : Int32)) fun σ2 =>
    bnd (sI σ2 14 (σ2.1 9)) fun σ3 =>
    some (σ3, ())
  else
    some (σ, ())
def fM_isWord (N : Nat) (σ : St) (a1 : Int64) : Option (St × Int32) :=
  if (σ.1 13) = 0 then
    if (σ.1 8) = (1 : Int32) then
      if (lg_cmp (σ.2.2 10) a1) = 0 then
        some (σ, (1 : Int32))
      else
        some (σ, (0 : Int32))
    else
      some (σ, (0 : Int32))
  else
    some (σ, (0 : Int32))
def fM_name (N : Nat) (σ : St) : Option (St × Int32) :=
  cal (fM_isWord N σ (316163 : Int64)) fun σ1 r2 =>
  if r2 = 0 then
    cal (fM_isWord N σ1 (11103 : Int64)) fun σ5 r6 =>
    if r6 = 0 then
      cal (fM_isWord N σ5 (10416091 : Int64)) fun σ9 r10 =>
      if r10 = 0 then
        cal (fM_isWord N σ9 (397345 : Int64)) fun σ13 r14 =>
        if r14 = 0 then
          cal (fM_isWord N σ13 (400313 : Int64)) fun σ17 r18 =>
          if r18 = 0 then
            cal (fM_isWord N σ17 (12403754 : Int64)) fun σ21 r22 =>
            if r22 = 0 then
              cal (fM_fail N σ21 ) fun σ25 r26 =>
              some (σ25, (0 : Int32))
            else
              some (σ21, σ21.1 5)
          else
            some (σ17, σ17.1 17)
        else
          gi (σ13.1 15) 10 <|
          some (σ13, σ13.2.1 4 (σ13.1 15).toNatClampNeg)
      else
        gi (σ9.1 15) 10 <|
        some (σ9, σ9.2.1 6 (σ9.1 15).toNatClampNeg)
    else
      gi (((4 : Int32) * (σ5.1 15)) + (σ5.1 16)) 40 <|
      some (σ5, σ5.2.1 7 (((4 : Int32) * (σ5.1 15)) + (σ5.1 16)).toNatClampNeg)
  else
    some (σ1, σ1.1 16)
def fM_byteAt (N : Nat) (σ : St) (a1 : Int32) : Option (St × Int32) :=
  if (σ.1 7) ≤ a1 then
    some (σ, (-1 : Int32))
  else
    gi ((σ.1 6) + a1) 960 <|
    some (σ, σ.2.1 1 ((σ.1 6) + a1).toNatClampNeg)
def fM_in (N : Nat) (σ : St) (a0 : Int64) (a2 : Int64) (a4 : Int64) : Option (St × Int32) :=
  if (lg_cmp a0 a2) < 0 then
    some (σ, (0 : Int32))
  else
    if 0 < (lg_cmp a0 a4) then
      some (σ, (0 : Int32))
    else
      some (σ, (1 : Int32))
def fM_next_j351 (N : Nat) (σ : St) (a1 : Int32) : Option (St × Unit) :=
  bnd (sI σ 8 (3 : Int32)) fun σ1 =>
  bnd (sL σ1 10 a1.toInt64) fun σ2 =>
  bnd (sI σ2 11 ((σ2.1 11) + (1 : Int32))) fun σ3 =>
  some (σ3, ())
def fM_next_j297 (N : Nat) (σ : St) (t1 : Int32) : Option (St × Unit) :=
  bnd (sI σ 8 t1) fun σ4 =>
  some (σ4, ())
def fM_next_j286 (N : Nat) (σ : St) (a2 : Int32) : Option (St × Unit) :=
  if a2 ≤ (4 : Int32) then
    fM_next_j297 N  σ (2 : Int32)
  else
    fM_next_j297 N  σ (4 : Int32)
def fM_next_j267 (N : Nat) (k211 : St → Int32 → Option (St × Unit)) (σ : St) (a2 : Int32) (t1 : Int64) : Option (St × Unit) :=
  bnd (sL σ 10 t1) fun σ6 =>
  bnd (a2 + (1 : Int32)) fun x7 =>
  bnd (sI σ6 11 ((σ6.1 11) + (1 : Int32))) fun σ8 =>
  k211 σ8 x7
def fM_next_l211 (N : Nat) : Nat → St → Int32 → Option (St × Unit)
  | 0, _, _ => none
  | n211 + 1, σ, a2 =>
    cal (fM_byteAt N σ (σ.1 11)) fun σ9 r10 =>
    cal (fM_in N σ9 r10.toInt64 (48 : Int64) (57 : Int64)) fun σ12 r13 =>
    if r13 = 0 then
      fM_next_j286 N  σ12 a2
    else
      if (4 : Int32) ≤ a2 then
        fM_next_j267 N (fM_next_l211 N  n211) σ12 a2 (σ12.2.2 10)
      else
        cal (fM_byteAt N σ12 (σ12.1 11)) fun σ17 r18 =>
        fM_next_j267 N (fM_next_l211 N  n211) σ17 a2 ((((10 : Int64) * (σ12.2.2 10)) + r18.toInt64) - (48 : Int64))
def fM_next_j163 (N : Nat) (k107 : St → Int32 → Option (St × Unit)) (σ : St) (a2 : Int32) (t1 : Int64) : Option (St × Unit) :=
  bnd (sL σ 10 t1) fun σ20 =>
  bnd (a2 + (1 : Int32)) fun x21 =>
  bnd (sI σ20 11 ((σ20.1 11) + (1 : Int32))) fun σ22 =>
  k107 σ22 x21
def fM_next_l107 (N : Nat) : Nat → St → Int32 → Option (St × Unit)
  | 0, _, _ => none
  | n107 + 1, σ, a2 =>
    cal (fM_byteAt N σ (σ.1 11)) fun σ23 r24 =>
    cal (fM_in N σ23 r24.toInt64 (97 : Int64) (122 : Int64)) fun σ26 r27 =>
    if r27 = 0 then
      some (σ26, ())
    else
      if (8 : Int32) ≤ a2 then
        fM_next_j163 N (fM_next_l107 N  n107) σ26 a2 (-1 : Int64)
      else
        cal (fM_byteAt N σ26 (σ26.1 11)) fun σ31 r32 =>
        fM_next_j163 N (fM_next_l107 N  n107) σ31 a2 ((((27 : Int64) * (σ26.2.2 10)) + r32.toInt64) - (96 : Int64))
def fM_next_j39 (N : Nat) (σ : St) : Option (St × Unit) :=
  bnd (sI σ 9 (σ.1 11)) fun σ34 =>
  cal (fM_byteAt N σ34 (σ34.1 11)) fun σ35 r36 =>
  bnd (sI σ35 8 (4 : Int32)) fun σ38 =>
  if 0 ≤ r36 then
    cal (fM_in N σ38 r36.toInt64 (97 : Int64) (122 : Int64)) fun σ40 r41 =>
    if r41 = 0 then
      cal (fM_in N σ40 r36.toInt64 (48 : Int64) (57 : Int64)) fun σ44 r45 =>
      if r45 = 0 then
        if r36 = (40 : Int32) then
          fM_next_j351 N  σ44 r36
        else
          if r36 = (41 : Int32) then
            fM_next_j351 N  σ44 r36
          else
            if r36 = (59 : Int32) then
              fM_next_j351 N  σ44 r36
            else
              if r36 = (43 : Int32) then
                fM_next_j351 N  σ44 r36
              else
                if r36 = (45 : Int32) then
                  fM_next_j351 N  σ44 r36
                else
                  if r36 = (42 : Int32) then
                    fM_next_j351 N  σ44 r36
                  else
                    if r36 = (60 : Int32) then
                      fM_next_j351 N  σ44 r36
                    else
                      if r36 = (61 : Int32) then
                        fM_next_j351 N  σ44 r36
                      else
                        some (σ44, ())
      else
        bnd (sI σ44 8 (2 : Int32)) fun σ56 =>
        bnd (sL σ56 10 (0 : Int64)) fun σ57 =>
        fM_next_l211 N  N σ57 (0 : Int32)
    else
      bnd (sI σ40 8 (1 : Int32)) fun σ58 =>
      bnd (sL σ58 10 (0 : Int64)) fun σ59 =>
      fM_next_l107 N  N σ59 (0 : Int32)
  else
    bnd (sI σ38 8 (0 : Int32)) fun σ60 =>
    bnd (sI σ60 9 (σ60.1 7)) fun σ61 =>
    some (σ61, ())
def fM_next_j26 (N : Nat) (k0 : St → Option (St × Unit)) (σ : St) : Option (St × Unit) :=
  bnd (sI σ 11 ((σ.1 11) + (1 : Int32))) fun σ62 =>
  k0 σ62
def fM_next_l0 (N : Nat) : Nat → St → Option (St × Unit)
  | 0, _ => none
  | n0 + 1, σ =>
    cal (fM_byteAt N σ (σ.1 11)) fun σ63 r64 =>
    if r64 = (32 : Int32) then
      fM_next_j26 N (fM_next_l0 N  n0) σ63 
    else
      cal (fM_byteAt N σ63 (σ63.1 11)) fun σ67 r68 =>
      if r68 = (10 : Int32) then
        fM_next_j26 N (fM_next_l0 N  n0) σ67 
      else
        fM_next_j39 N  σ67
def fM_next (N : Nat) (σ : St) : Option (St × Unit) :=
  fM_next_l0 N  N σ
def fM_isSign (N : Nat) (σ : St) (a1 : Int32) : Option (St × Int32) :=
  if (σ.1 13) = 0 then
    if (σ.1 8) = (3 : Int32) then
      if (lg_cmp (σ.2.2 10) a1.toInt64) = 0 then
        some (σ, (1 : Int32))
      else
        some (σ, (0 : Int32))
    else
      some (σ, (0 : Int32))
  else
    some (σ, (0 : Int32))
def fM_opens (N : Nat) (σ : St) : Option (St × Int32) :=
  if (σ.1 12) = (5 : Int32) then
    cal (fM_fail N σ ) fun σ6 r7 =>
    some (σ6, (0 : Int32))
  else
    bnd (sI σ 12 ((σ.1 12) + (1 : Int32))) fun σ2 =>
    cal (fM_next N σ2 ) fun σ3 r4 =>
    some (σ3, (1 : Int32))
def fM_one_j157 (N : Nat) (kA kB kC : St → Option (St × Int32)) (σ : St) (a1 : Int32) : Option (St × Int32) :=
  cal (fM_fail N σ ) fun σ1 r2 =>
  some (σ1, a1)
def fM_one_j123 (N : Nat) (kA kB kC : St → Option (St × Int32)) (σ : St) (a1 : Int32) : Option (St × Int32) :=
  if (σ.1 13) = 0 then
    if (σ.1 8) = (1 : Int32) then
      cal (fM_name N σ ) fun σ6 r7 =>
      if (σ6.1 13) = 0 then
        cal (fM_next N σ6 ) fun σ10 r11 =>
        some (σ10, r7)
      else
        some (σ6, r7)
    else
      fM_one_j157 N kA kB kC  σ a1
  else
    fM_one_j157 N kA kB kC  σ a1
def fM_one_j71 (N : Nat) (kA kB kC : St → Option (St × Int32)) (σ : St) (a1 : Int32) : Option (St × Int32) :=
  bnd (sI σ 12 ((σ.1 12) - (1 : Int32))) fun σ13 =>
  if (σ13.1 13) = 0 then
    cal (fM_next N σ13 ) fun σ15 r16 =>
    some (σ15, a1)
  else
    some (σ13, a1)
def fM_one (N : Nat) (kA kB kC : St → Option (St × Int32)) (σ : St) : Option (St × Int32) :=
  cal (fM_isSign N σ (45 : Int32)) fun σ18 r19 =>
  if r19 = 0 then
    cal (fM_isSign N σ18 (40 : Int32)) fun σ22 r23 =>
    if r23 = 0 then
      if (σ22.1 13) = 0 then
        if (σ22.1 8) = (2 : Int32) then
          bnd ((σ22.2.2 10).toInt32) fun x28 =>
          cal (fM_next N σ22 ) fun σ29 r30 =>
          some (σ29, x28)
        else
          fM_one_j123 N kA kB kC  σ22 (0 : Int32)
      else
        fM_one_j123 N kA kB kC  σ22 (0 : Int32)
    else
      cal (fM_opens N σ22 ) fun σ32 r33 =>
      if r33 = 0 then
        some (σ32, (0 : Int32))
      else
        cal (kA σ32 ) fun σ36 r37 =>
        cal (fM_isSign N σ36 (41 : Int32)) fun σ39 r40 =>
        if r40 = 0 then
          cal (fM_fail N σ39 ) fun σ43 r44 =>
          fM_one_j71 N kA kB kC  σ43 r37
        else
          fM_one_j71 N kA kB kC  σ39 r37
  else
    cal (fM_opens N σ18 ) fun σ46 r47 =>
    if r47 = 0 then
      some (σ46, (0 : Int32))
    else
      cal (kB σ46 ) fun σ50 r51 =>
      bnd (-r51) fun x53 =>
      bnd (sI σ50 12 ((σ50.1 12) - (1 : Int32))) fun σ54 =>
      some (σ54, x53)
def fM_term_l5 (N : Nat) (kA kB kC : St → Option (St × Int32)) : Nat → St → Int32 → Option (St × Int32)
  | 0, _, _ => none
  | n5 + 1, σ, a1 =>
    cal (fM_isSign N σ (42 : Int32)) fun σ1 r2 =>
    if r2 = 0 then
      some (σ1, a1)
    else
      cal (fM_next N σ1 ) fun σ5 r6 =>
      cal (fM_one N kA kB kC σ5 ) fun σ8 r9 =>
      bnd (a1 * r9) fun x11 =>
      (fM_term_l5 N kA kB kC  n5) σ8 x11
def fM_term (N : Nat) (kA kB kC : St → Option (St × Int32)) (σ : St) : Option (St × Int32) :=
  cal (fM_one N kA kB kC σ ) fun σ12 r13 =>
  fM_term_l5 N kA kB kC  N σ12 r13
def fM_added_j62 (N : Nat) (kA kB kC : St → Option (St × Int32)) (k5 : St → Int32 → Option (St × Int32)) (σ : St) (t0 : Int32) : Option (St × Int32) :=
  k5 σ t0
def fM_added_j39 (N : Nat) (kA kB kC : St → Option (St × Int32)) (k5 : St → Int32 → Option (St × Int32)) (σ : St) (a1 : Int32) (t0 : Int32) : Option (St × Int32) :=
  cal (fM_next N σ ) fun σ1 r2 =>
  cal (fM_term N kA kB kC σ1 ) fun σ4 r5 =>
  if t0 = 0 then
    fM_added_j62 N kA kB kC k5 σ4 (a1 - r5)
  else
    fM_added_j62 N kA kB kC k5 σ4 (a1 + r5)
def fM_added_j23 (N : Nat) (kA kB kC : St → Option (St × Int32)) (k5 : St → Int32 → Option (St × Int32)) (σ : St) (a1 : Int32) : Option (St × Int32) :=
  if (lg_cmp (σ.2.2 10) (43 : Int64)) = 0 then
    fM_added_j39 N kA kB kC k5 σ a1 (1 : Int32)
  else
    fM_added_j39 N kA kB kC k5 σ a1 (0 : Int32)
def fM_added_l5 (N : Nat) (kA kB kC : St → Option (St × Int32)) : Nat → St → Int32 → Option (St × Int32)
  | 0, _, _ => none
  | n5 + 1, σ, a1 =>
    cal (fM_isSign N σ (43 : Int32)) fun σ9 r10 =>
    if r10 = 0 then
      cal (fM_isSign N σ9 (45 : Int32)) fun σ13 r14 =>
      if r14 = 0 then
        some (σ13, a1)
      else
        fM_added_j23 N kA kB kC (fM_added_l5 N kA kB kC  n5) σ13 a1
    else
      fM_added_j23 N kA kB kC (fM_added_l5 N kA kB kC  n5) σ9 a1
def fM_added (N : Nat) (kA kB kC : St → Option (St × Int32)) (σ : St) : Option (St × Int32) :=
  cal (fM_term N kA kB kC σ ) fun σ17 r18 =>
  fM_added_l5 N kA kB kC  N σ17 r18
def fM_not_j85 (N : Nat) (kA kB kC : St → Option (St × Int32)) (σ : St) (a1 : Int32) (t0 : Int32) : Option (St × Int32) :=
  cal (fM_next N σ ) fun σ1 r2 =>
  cal (fM_added N kA kB kC σ1 ) fun σ4 r5 =>
  if t0 = 0 then
    if a1 = r5 then
      some (σ4, (1 : Int32))
    else
      some (σ4, (0 : Int32))
  else
    if r5 ≤ a1 then
      some (σ4, (0 : Int32))
    else
      some (σ4, (1 : Int32))
def fM_not_j69 (N : Nat) (kA kB kC : St → Option (St × Int32)) (σ : St) (a1 : Int32) : Option (St × Int32) :=
  if (lg_cmp (σ.2.2 10) (60 : Int64)) = 0 then
    fM_not_j85 N kA kB kC  σ a1 (1 : Int32)
  else
    fM_not_j85 N kA kB kC  σ a1 (0 : Int32)
def fM_not (N : Nat) (kA kB kC : St → Option (St × Int32)) (σ : St) : Option (St × Int32) :=
  cal (fM_isWord N σ (10631 : Int64)) fun σ11 r12 =>
  if r12 = 0 then
    cal (fM_added N kA kB kC σ11 ) fun σ15 r16 =>
    cal (fM_isSign N σ15 (60 : Int32)) fun σ18 r19 =>
    if r19 = 0 then
      cal (fM_isSign N σ18 (61 : Int32)) fun σ22 r23 =>
      if r23 = 0 then
        some (σ22, r16)
      else
        fM_not_j69 N kA kB kC  σ22 r16
    else
      fM_not_j69 N kA kB kC  σ18 r16
  else
    cal (fM_opens N σ11 ) fun σ26 r27 =>
    if r27 = 0 then
      some (σ26, (0 : Int32))
    else
      cal (kC σ26 ) fun σ30 r31 =>
      bnd (sI σ30 12 ((σ30.1 12) - (1 : Int32))) fun σ33 =>
      if r31 = 0 then
        some (σ33, (1 : Int32))
      else
        some (σ33, (0 : Int32))
def fM_both_j37 (N : Nat) (kA kB kC : St → Option (St × Int32)) (k5 : St → Int32 → Option (St × Int32)) (σ : St) (t0 : Int32) : Option (St × Int32) :=
  k5 σ t0
def fM_both_j36 (N : Nat) (kA kB kC : St → Option (St × Int32)) (k5 : St → Int32 → Option (St × Int32)) (σ : St) : Option (St × Int32) :=
  fM_both_j37 N kA kB kC k5 σ (0 : Int32)
def fM_both_l5 (N : Nat) (kA kB kC : St → Option (St × Int32)) : Nat → St → Int32 → Option (St × Int32)
  | 0, _, _ => none
  | n5 + 1, σ, a1 =>
    cal (fM_isWord N σ (1111 : Int64)) fun σ1 r2 =>
    if r2 = 0 then
      some (σ1, a1)
    else
      cal (fM_next N σ1 ) fun σ5 r6 =>
      cal (fM_not N kA kB kC σ5 ) fun σ8 r9 =>
      if a1 = 0 then
        fM_both_j36 N kA kB kC (fM_both_l5 N kA kB kC  n5) σ8 
      else
        if r9 = 0 then
          fM_both_j36 N kA kB kC (fM_both_l5 N kA kB kC  n5) σ8 
        else
          fM_both_j37 N kA kB kC (fM_both_l5 N kA kB kC  n5) σ8 (1 : Int32)
def fM_both (N : Nat) (kA kB kC : St → Option (St × Int32)) (σ : St) : Option (St × Int32) :=
  cal (fM_not N kA kB kC σ ) fun σ13 r14 =>
  fM_both_l5 N kA kB kC  N σ13 r14
def fM_either_j37 (N : Nat) (kA kB kC : St → Option (St × Int32)) (k5 : St → Int32 → Option (St × Int32)) (σ : St) (t0 : Int32) : Option (St × Int32) :=
  k5 σ t0
def fM_either_j32 (N : Nat) (kA kB kC : St → Option (St × Int32)) (k5 : St → Int32 → Option (St × Int32)) (σ : St) : Option (St × Int32) :=
  fM_either_j37 N kA kB kC k5 σ (1 : Int32)
def fM_either_l5 (N : Nat) (kA kB kC : St → Option (St × Int32)) : Nat → St → Int32 → Option (St × Int32)
  | 0, _, _ => none
  | n5 + 1, σ, a1 =>
    cal (fM_isWord N σ (423 : Int64)) fun σ1 r2 =>
    if r2 = 0 then
      some (σ1, a1)
    else
      cal (fM_next N σ1 ) fun σ5 r6 =>
      cal (fM_both N kA kB kC σ5 ) fun σ8 r9 =>
      if a1 = 0 then
        if r9 = 0 then
          fM_either_j37 N kA kB kC (fM_either_l5 N kA kB kC  n5) σ8 (0 : Int32)
        else
          fM_either_j32 N kA kB kC (fM_either_l5 N kA kB kC  n5) σ8 
      else
        fM_either_j32 N kA kB kC (fM_either_l5 N kA kB kC  n5) σ8
def fM_either (N : Nat) (kA kB kC : St → Option (St × Int32)) (σ : St) : Option (St × Int32) :=
  cal (fM_both N kA kB kC σ ) fun σ13 r14 =>
  fM_either_l5 N kA kB kC  N σ13 r14
def fM_lv (N : Nat) : Nat → (St → Option (St × Int32)) × (St → Option (St × Int32)) × (St → Option (St × Int32))
  | 0 => (fun _ => none, fun _ => none, fun _ => none)
  | d + 1 => (fM_either N (fM_lv N d).1 (fM_lv N d).2.1 (fM_lv N d).2.2, fM_one N (fM_lv N d).1 (fM_lv N d).2.1 (fM_lv N d).2.2, fM_not N (fM_lv N d).1 (fM_lv N d).2.1 (fM_lv N d).2.2)
def fM_spell_l3 (N : Nat) : Nat → St → Int32 → Int64 → Int32 → Option (St × Unit)
  | 0, _, _, _, _ => none
  | n3 + 1, σ, a1, a2, a4 =>
    if (8 : Int32) ≤ a4 then
      some (σ, ())
    else
      gi (a1 + a4) 960 <|
      bnd (sA σ 1 (a1 + a4) (((a2 >>> (((56 : Int32) - ((8 : Int32) * a4)).toInt64 &&& 63)) &&& (255 : Int64)).toInt32)) fun σ3 =>
      bnd (a4 + (1 : Int32)) fun x4 =>
      (fM_spell_l3 N  n3) σ3 a1 a2 x4
def fM_spell (N : Nat) (σ : St) (a1 : Int32) (a2 : Int64) : Option (St × Unit) :=
  fM_spell_l3 N  N σ a1 a2 (0 : Int32)
def fM_man_j113 (N : Nat) (σ : St) : Option (St × Int32) :=
  bnd (sI σ 4 ((σ.1 4) + (1 : Int32))) fun σ1 =>
  some (σ1, (σ1.1 4) - (1 : Int32))
def fM_man_l86 (N : Nat) : Nat → St → Int32 → Option (St × Int32)
  | 0, _, _ => none
  | n86 + 1, σ, a4 =>
    if (4 : Int32) ≤ a4 then
      fM_man_j113 N  σ 
    else
      gi (((4 : Int32) * (σ.1 4)) + a4) 40 <|
      bnd (sA σ 7 (((4 : Int32) * (σ.1 4)) + a4) (0 : Int32)) fun σ4 =>
      bnd (a4 + (1 : Int32)) fun x5 =>
      (fM_man_l86 N  n86) σ4 x5
def fM_man (N : Nat) (σ : St) (a1 : Int32) (a2 : Int32) (a3 : Int32) : Option (St × Int32) :=
  cal (fM_in N σ a1.toInt64 (0 : Int64) (3 : Int64)) fun σ6 r7 =>
  if r7 = 0 then
    some (σ6, (-2 : Int32))
  else
    cal (fM_in N σ6 a2.toInt64 (0 : Int64) (9999 : Int64)) fun σ10 r11 =>
    if r11 = 0 then
      some (σ10, (-2 : Int32))
    else
      cal (fM_in N σ10 a3.toInt64 (-99 : Int64) (99 : Int64)) fun σ14 r15 =>
      if r15 = 0 then
        some (σ14, (-2 : Int32))
      else
        if (σ14.1 4) = (10 : Int32) then
          some (σ14, (-4 : Int32))
        else
          gi (σ14.1 4) 10 <|
          bnd (sA σ14 4 (σ14.1 4) a1) fun σ20 =>
          gi (σ20.1 4) 10 <|
          bnd (sA σ20 5 (σ20.1 4) a2) fun σ22 =>
          gi (σ22.1 4) 10 <|
          bnd (sA σ22 6 (σ22.1 4) a3) fun σ24 =>
          fM_man_l86 N  N σ24 (0 : Int32)
def fM_isMan (N : Nat) (σ : St) (a1 : Int32) : Option (St × Int32) :=
  cal (fM_in N σ a1.toInt64 (0 : Int64) (((σ.1 4) - (1 : Int32)).toInt64)) fun σ1 r2 =>
  gd (r2 = 0 ∨ r2 = 1) <|
  some (σ1, r2)
def fM_part (N : Nat) (σ : St) (a1 : Int32) (a2 : Int32) (a3 : Int32) : Option (St × Int32) :=
  cal (fM_isMan N σ a1) fun σ1 r2 =>
  if r2 = 0 then
    some (σ1, (-1000 : Int32))
  else
    cal (fM_in N σ1 a2.toInt64 (0 : Int64) (3 : Int64)) fun σ5 r6 =>
    if r6 = 0 then
      some (σ5, (-1000 : Int32))
    else
      cal (fM_in N σ5 a3.toInt64 (-199 : Int64) (199 : Int64)) fun σ9 r10 =>
      if r10 = 0 then
        some (σ9, (-1000 : Int32))
      else
        gi (((4 : Int32) * a1) + a2) 40 <|
        bnd (σ9.2.1 7 (((4 : Int32) * a1) + a2).toNatClampNeg) fun x14 =>
        gi (((4 : Int32) * a1) + a2) 40 <|
        bnd (sA σ9 7 (((4 : Int32) * a1) + a2) a3) fun σ16 =>
        some (σ16, x14)
def fM_move_j73 (N : Nat) (σ : St) (a1 : Int32) (a2 : Int32) (a3 : Int32) (t0 : Int32) : Option (St × Int32) :=
  if a2 = 0 then
    gi a1 10 <|
    bnd (sA σ 5 a1 a3) fun σ5 =>
    some (σ5, t0)
  else
    gi a1 10 <|
    bnd (sA σ 6 a1 a3) fun σ3 =>
    some (σ3, t0)
def fM_move_j44 (N : Nat) (σ : St) (a1 : Int32) (a2 : Int32) (a3 : Int32) (t0 : Int64) (t1 : Int64) (t2 : Int64) : Option (St × Int32) :=
  cal (fM_in N σ t0 t1 t2) fun σ6 r7 =>
  if r7 = 0 then
    some (σ6, (-1000 : Int32))
  else
    if a2 = 0 then
      gi a1 10 <|
      fM_move_j73 N  σ6 a1 a2 a3 (σ6.2.1 5 a1.toNatClampNeg)
    else
      gi a1 10 <|
      fM_move_j73 N  σ6 a1 a2 a3 (σ6.2.1 6 a1.toNatClampNeg)
def fM_move_j31 (N : Nat) (σ : St) (a1 : Int32) (a2 : Int32) (a3 : Int32) (t0 : Int64) (t1 : Int64) : Option (St × Int32) :=
  if a2 = 0 then
    fM_move_j44 N  σ a1 a2 a3 t0 t1 (9999 : Int64)
  else
    fM_move_j44 N  σ a1 a2 a3 t0 t1 (99 : Int64)
def fM_move (N : Nat) (σ : St) (a1 : Int32) (a2 : Int32) (a3 : Int32) : Option (St × Int32) :=
  cal (fM_isMan N σ a1) fun σ14 r15 =>
  if r15 = 0 then
    some (σ14, (-1000 : Int32))
  else
    cal (fM_in N σ14 a2.toInt64 (0 : Int64) (1 : Int64)) fun σ18 r19 =>
    if r19 = 0 then
      some (σ18, (-1000 : Int32))
    else
      if a2 = 0 then
        fM_move_j31 N  σ18 a1 a2 a3 a3.toInt64 (0 : Int64)
      else
        fM_move_j31 N  σ18 a1 a2 a3 a3.toInt64 (-99 : Int64)
def fM_feed_l33 (N : Nat) : Nat → St → Int32 → Int64 → Int32 → Option (St × Int32)
  | 0, _, _, _, _ => none
  | n33 + 1, σ, a1, a2, a4 =>
    if a1 ≤ a4 then
      some (σ, σ.1 3)
    else
      gi (σ.1 3) 160 <|
      bnd (sA σ 3 (σ.1 3) (((a2 >>> (((8 : Int32) * a4).toInt64 &&& 63)) &&& (255 : Int64)).toInt32)) fun σ3 =>
      bnd (sI σ3 3 ((σ3.1 3) + (1 : Int32))) fun σ4 =>
      bnd (a4 + (1 : Int32)) fun x5 =>
      (fM_feed_l33 N  n33) σ4 a1 a2 x5
def fM_feed (N : Nat) (σ : St) (a1 : Int32) (a2 : Int64) : Option (St × Int32) :=
  cal (fM_in N σ a1.toInt64 (1 : Int64) (8 : Int64)) fun σ6 r7 =>
  if r7 = 0 then
    some (σ6, (-2 : Int32))
  else
    if ((σ6.1 3) + a1) ≤ (160 : Int32) then
      fM_feed_l33 N  N σ6 a1 a2 (0 : Int32)
    else
      some (σ6, (-4 : Int32))
def fM_section_j52 (N : Nat) (σ : St) (a3 : Int32) : Option (St × Int32) :=
  if (σ.1 13) = 0 then
    cal (fM_next N σ ) fun σ2 r3 =>
    some (σ2, a3)
  else
    some (σ, a3)
def fM_section_j38 (N : Nat) (σ : St) (t0 : Int32) : Option (St × Int32) :=
  cal (fM_isSign N σ (59 : Int32)) fun σ5 r6 =>
  if r6 = 0 then
    cal (fM_fail N σ5 ) fun σ9 r10 =>
    fM_section_j52 N  σ9 t0
  else
    fM_section_j52 N  σ5 t0
def fM_section_j23 (N : Nat) (σ : St) : Option (St × Int32) :=
  if (σ.1 13) = 0 then
    cal ((fM_lv N 7).1 σ ) fun σ13 r14 =>
    fM_section_j38 N  σ13 r14
  else
    fM_section_j38 N  σ (0 : Int32)
def fM_section_j12 (N : Nat) (σ : St) : Option (St × Int32) :=
  if (σ.1 13) = 0 then
    cal (fM_next N σ ) fun σ17 r18 =>
    fM_section_j23 N  σ17 
  else
    fM_section_j23 N  σ
def fM_section (N : Nat) (σ : St) (a1 : Int64) : Option (St × Int32) :=
  cal (fM_isWord N σ a1) fun σ20 r21 =>
  if r21 = 0 then
    cal (fM_fail N σ20 ) fun σ24 r25 =>
    fM_section_j12 N  σ24 
  else
    fM_section_j12 N  σ20
def fM_read_j121 (N : Nat) (σ : St) (a5 : Int32) (a6 : Int32) (a7 : Int32) (a8 : Int32) : Option (St × Int32) :=
  if a5 = 0 then
    some (σ, a6)
  else
    if a5 = (1 : Int32) then
      some (σ, a7)
    else
      some (σ, a8)
def fM_read_j101 (N : Nat) (σ : St) (a5 : Int32) (a6 : Int32) (a7 : Int32) (t0 : Int32) : Option (St × Int32) :=
  if (σ.1 13) = 0 then
    if (σ.1 8) = 0 then
      fM_read_j121 N  σ a5 a6 a7 t0
    else
      cal (fM_fail N σ ) fun σ5 r6 =>
      fM_read_j121 N  σ5 a5 a6 a7 t0
  else
    fM_read_j121 N  σ a5 a6 a7 t0
def fM_read_j81 (N : Nat) (σ : St) (a5 : Int32) (a6 : Int32) (t0 : Int32) : Option (St × Int32) :=
  if (σ.1 13) = 0 then
    cal (fM_section N σ (323728 : Int64)) fun σ9 r10 =>
    fM_read_j101 N  σ9 a5 a6 t0 r10
  else
    fM_read_j101 N  σ a5 a6 t0 (0 : Int32)
def fM_read (N : Nat) (σ : St) (a1 : Int32) (a2 : Int32) (a3 : Int32) (a4 : Int32) (a5 : Int32) : Option (St × Int32) :=
  bnd (sI σ 15 a2) fun σ12 =>
  bnd (sI σ12 16 a3) fun σ13 =>
  bnd (sI σ13 17 a4) fun σ14 =>
  bnd (sI σ14 6 ((160 : Int32) * a1)) fun σ15 =>
  gi a1 6 <|
  bnd (sI σ15 7 (σ15.2.1 2 a1.toNatClampNeg)) fun σ17 =>
  bnd (sI σ17 11 (0 : Int32)) fun σ18 =>
  bnd (sI σ18 12 (0 : Int32)) fun σ19 =>
  bnd (sI σ19 13 (0 : Int32)) fun σ20 =>
  cal (fM_next N σ20 ) fun σ21 r22 =>
  cal (fM_section N σ21 (1905275 : Int64)) fun σ24 r25 =>
  if (σ24.1 13) = 0 then
    cal (fM_section N σ24 (279252 : Int64)) fun σ28 r29 =>
    fM_read_j81 N  σ28 a5 r25 r29
  else
    fM_read_j81 N  σ24 a5 r25 (0 : Int32)
def fM_text_j49 (N : Nat) (σ : St) : Option (St × Int32) :=
  gi (σ.1 1) 6 <|
  bnd (sA σ 2 (σ.1 1) (σ.1 3)) fun σ2 =>
  bnd (sI σ2 3 (0 : Int32)) fun σ3 =>
  cal (fM_read N σ3 (σ3.1 1) (0 : Int32) (0 : Int32) (0 : Int32) (0 : Int32)) fun σ4 r5 =>
  if (σ4.1 13) = 0 then
    bnd (sI σ4 1 ((σ4.1 1) + (1 : Int32))) fun σ8 =>
    some (σ8, (σ8.1 1) - (1 : Int32))
  else
    some (σ4, (-100 : Int32) - (σ4.1 14))
def fM_text_l14 (N : Nat) : Nat → St → Int32 → Option (St × Int32)
  | 0, _, _ => none
  | n14 + 1, σ, a1 =>
    if (σ.1 3) ≤ a1 then
      fM_text_j49 N  σ 
    else
      gi a1 160 <|
      gi (((160 : Int32) * (σ.1 1)) + a1) 960 <|
      bnd (sA σ 1 (((160 : Int32) * (σ.1 1)) + a1) (σ.2.1 3 a1.toNatClampNeg)) fun σ12 =>
      bnd (a1 + (1 : Int32)) fun x13 =>
      (fM_text_l14 N  n14) σ12 x13
def fM_text (N : Nat) (σ : St) : Option (St × Int32) :=
  if (σ.1 1) = (6 : Int32) then
    some (σ, (-4 : Int32))
  else
    fM_text_l14 N  N σ (0 : Int32)
def fM_force (N : Nat) (σ : St) (a1 : Int32) : Option (St × Int32) :=
  cal (fM_in N σ a1.toInt64 (0 : Int64) (((σ.1 1) - (1 : Int32)).toInt64)) fun σ1 r2 =>
  if r2 = 0 then
    some (σ1, (-2 : Int32))
  else
    bnd (σ1.1 2) fun x5 =>
    bnd (sI σ1 2 a1) fun σ6 =>
    some (σ6, x5)
def fM_isTick (N : Nat) (σ : St) (a0 : Int32) : Option (St × Int32) :=
  cal (fM_in N σ a0.toInt64 (0 : Int64) (200 : Int64)) fun σ1 r2 =>
  gd (r2 = 0 ∨ r2 = 1) <|
  some (σ1, r2)
def fM_says (N : Nat) (σ : St) (a1 : Int32) (a2 : Int32) (a3 : Int32) (a4 : Int32) : Option (St × Int64) :=
  cal (fM_isMan N σ a1) fun σ1 r2 =>
  if r2 = 0 then
    some (σ1, (-4611686018427387904 : Int64))
  else
    cal (fM_in N σ1 a2.toInt64 (0 : Int64) (3 : Int64)) fun σ5 r6 =>
    if r6 = 0 then
      some (σ5, (-4611686018427387904 : Int64))
    else
      cal (fM_isTick N σ5 a3) fun σ9 r10 =>
      if r10 = 0 then
        some (σ9, (-4611686018427387904 : Int64))
      else
        cal (fM_in N σ9 a4.toInt64 (0 : Int64) (2 : Int64)) fun σ13 r14 =>
        if r14 = 0 then
          some (σ13, (-4611686018427387904 : Int64))
        else
          cal (fM_read N σ13 (σ13.1 2) a1 a2 a3 a4) fun σ17 r18 =>
          some (σ17, r18.toInt64)
def fM_isWidth (N : Nat) (σ : St) (a0 : Int32) : Option (St × Int32) :=
  cal (fM_in N σ a0.toInt64 (0 : Int64) (999 : Int64)) fun σ1 r2 =>
  gd (r2 = 0 ∨ r2 = 1) <|
  some (σ1, r2)
def fM_width (N : Nat) (σ : St) (a1 : Int32) : Option (St × Int32) :=
  cal (fM_isWidth N σ a1) fun σ1 r2 =>
  if r2 = 0 then
    some (σ1, (-2 : Int32))
  else
    bnd (σ1.1 5) fun x5 =>
    bnd (sI σ1 5 a1) fun σ6 =>
    some (σ6, x5)
def fM_whereOf_j34 (N : Nat) (σ : St) (a1 : Int32) (a2 : Int32) (t0 : Int32) (t1 : Int32) : Option (St × Int32) :=
  gi a1 10 <|
  some (σ, (t0 - t1) + (a2 * (σ.2.1 6 a1.toNatClampNeg)))
def fM_whereOf_j33 (N : Nat) (σ : St) (a1 : Int32) (a2 : Int32) (t0 : Int32) : Option (St × Int32) :=
  fM_whereOf_j34 N  σ a1 a2 t0 (0 : Int32)
def fM_whereOf (N : Nat) (σ : St) (a1 : Int32) (a2 : Int32) : Option (St × Int32) :=
  gi a1 10 <|
  if (σ.1 19) = 0 then
    fM_whereOf_j33 N  σ a1 a2 (σ.2.1 5 a1.toNatClampNeg)
  else
    gi a1 10 <|
    if (σ.2.1 4 a1.toNatClampNeg) = (σ.1 18) then
      fM_whereOf_j34 N  σ a1 a2 (σ.2.1 5 a1.toNatClampNeg) (σ.1 19)
    else
      fM_whereOf_j33 N  σ a1 a2 (σ.2.1 5 a1.toNatClampNeg)
def fM_foremost_j74 (N : Nat) (k10 : St → Int32 → Int32 → Int32 → Int32 → Option (St × Int32)) (σ : St) (a1 : Int32) (a2 : Int32) (a3 : Int32) (a4 : Int32) : Option (St × Int32) :=
  bnd (a4 + (1 : Int32)) fun x1 =>
  k10 σ a1 a2 a3 x1
def fM_foremost_j69 (N : Nat) (k10 : St → Int32 → Int32 → Int32 → Int32 → Option (St × Int32)) (σ : St) (a1 : Int32) (a2 : Int32) (a3 : Int32) (a4 : Int32) : Option (St × Int32) :=
  bnd (sI σ 20 (1 : Int32)) fun σ2 =>
  fM_foremost_j74 N k10 σ2 a1 a2 a3 a4
def fM_foremost_j66 (N : Nat) (k10 : St → Int32 → Int32 → Int32 → Int32 → Option (St × Int32)) (σ : St) (a1 : Int32) (a2 : Int32) (a4 : Int32) : Option (St × Int32) :=
  fM_foremost_j69 N k10 σ a1 a2 a4 a4
def fM_foremost_l10 (N : Nat) : Nat → St → Int32 → Int32 → Int32 → Int32 → Option (St × Int32)
  | 0, _, _, _, _, _ => none
  | n10 + 1, σ, a1, a2, a3, a4 =>
    if (4 : Int32) ≤ a4 then
      some (σ, a3)
    else
      cal (fM_read N σ (σ.1 2) a1 a4 a2 (0 : Int32)) fun σ4 r5 =>
      if r5 = 0 then
        fM_foremost_j74 N (fM_foremost_l10 N  n10) σ4 a1 a2 a3 a4
      else
        if (σ4.1 20) = 0 then
          fM_foremost_j66 N (fM_foremost_l10 N  n10) σ4 a1 a2 a4
        else
          gi (((4 : Int32) * a1) + a4) 40 <|
          gi (((4 : Int32) * a1) + a3) 40 <|
          if (σ4.2.1 7 (((4 : Int32) * a1) + a4).toNatClampNeg) ≤ (σ4.2.1 7 (((4 : Int32) * a1) + a3).toNatClampNeg) then
            fM_foremost_j69 N (fM_foremost_l10 N  n10) σ4 a1 a2 a3 a4
          else
            fM_foremost_j66 N (fM_foremost_l10 N  n10) σ4 a1 a2 a4
def fM_foremost (N : Nat) (σ : St) (a1 : Int32) (a2 : Int32) : Option (St × Int32) :=
  bnd (sI σ 20 (0 : Int32)) fun σ12 =>
  fM_foremost_l10 N  N σ12 a1 a2 (3 : Int32) (0 : Int32)
def fM_frontOf (N : Nat) (σ : St) (a1 : Int32) (a2 : Int32) : Option (St × Int32) :=
  cal (fM_foremost N σ a1 a2) fun σ1 r2 =>
  cal (fM_whereOf N σ1 a1 a2) fun σ4 r5 =>
  if (σ4.1 20) = 0 then
    some (σ4, r5 + (0 : Int32))
  else
    gi (((4 : Int32) * a1) + r2) 40 <|
    some (σ4, r5 + (σ4.2.1 7 (((4 : Int32) * a1) + r2).toNatClampNeg))
def fM_front (N : Nat) (σ : St) (a1 : Int32) (a2 : Int32) (a3 : Int32) : Option (St × Int64) :=
  cal (fM_isMan N σ a1) fun σ1 r2 =>
  if r2 = 0 then
    some (σ1, (-4611686018427387904 : Int64))
  else
    cal (fM_isTick N σ1 a2) fun σ5 r6 =>
    if r6 = 0 then
      some (σ5, (-4611686018427387904 : Int64))
    else
      cal (fM_in N σ5 a3.toInt64 (0 : Int64) (2 : Int64)) fun σ9 r10 =>
      if r10 = 0 then
        some (σ9, (-4611686018427387904 : Int64))
      else
        if a3 = 0 then
          cal (fM_frontOf N σ9 a1 a2) fun σ21 r22 =>
          some (σ21, r22.toInt64)
        else
          if a3 = (1 : Int32) then
            cal (fM_foremost N σ9 a1 a2) fun σ18 r19 =>
            some (σ18, r19.toInt64)
          else
            cal (fM_whereOf N σ9 a1 a2) fun σ15 r16 =>
            some (σ15, r16.toInt64)
def fM_camera (N : Nat) (σ : St) (a1 : Int32) (a2 : Int32) (a3 : Int32) : Option (St × Int32) :=
  cal (fM_in N σ a1.toInt64 (1 : Int64) (20 : Int64)) fun σ1 r2 =>
  if r2 = 0 then
    some (σ1, (-2 : Int32))
  else
    cal (fM_in N σ1 a2.toInt64 (0 : Int64) (19 : Int64)) fun σ5 r6 =>
    if r6 = 0 then
      some (σ5, (-2 : Int32))
    else
      cal (fM_in N σ5 a3.toInt64 (-9 : Int64) (9 : Int64)) fun σ9 r10 =>
      if r10 = 0 then
        some (σ9, (-2 : Int32))
      else
        if (σ9.1 21) = (4 : Int32) then
          some (σ9, (-4 : Int32))
        else
          gi (σ9.1 21) 4 <|
          bnd (sA σ9 8 (σ9.1 21) a1) fun σ15 =>
          gi (σ15.1 21) 4 <|
          bnd (sA σ15 9 (σ15.1 21) a2) fun σ17 =>
          gi (σ17.1 21) 4 <|
          bnd (sA σ17 10 (σ17.1 21) a3) fun σ19 =>
          bnd (sI σ19 21 ((σ19.1 21) + (1 : Int32))) fun σ20 =>
          some (σ20, (σ20.1 21) - (1 : Int32))
def fM_frameOf (N : Nat) (σ : St) (a1 : Int32) (a2 : Int32) : Option (St × Int32) :=
  gi a1 4 <|
  if (σ.2.1 9 a1.toNatClampNeg) ≤ a2 then
    gi a1 4 <|
    gi a1 4 <|
    gd (¬ (σ.2.1 8 a1.toNatClampNeg) = 0) <|
    some (σ, a2 - ((a2 - (σ.2.1 9 a1.toNatClampNeg)) - (a2 - (σ.2.1 9 a1.toNatClampNeg)) / (σ.2.1 8 a1.toNatClampNeg) * (σ.2.1 8 a1.toNatClampNeg)))
  else
    gi a1 4 <|
    some (σ, σ.2.1 9 a1.toNatClampNeg)
def fM_frame (N : Nat) (σ : St) (a1 : Int32) (a2 : Int32) : Option (St × Int32) :=
  cal (fM_in N σ a1.toInt64 (0 : Int64) (((σ.1 21) - (1 : Int32)).toInt64)) fun σ1 r2 =>
  if r2 = 0 then
    some (σ1, (-2 : Int32))
  else
    cal (fM_isTick N σ1 a2) fun σ5 r6 =>
    if r6 = 0 then
      some (σ5, (-2 : Int32))
    else
      cal (fM_frameOf N σ5 a1 a2) fun σ9 r10 =>
      some (σ9, r10)
def fM_seen (N : Nat) (σ : St) (a1 : Int32) (a2 : Int32) : Option (St × Int32) :=
  gi a1 4 <|
  some (σ, a2 + (((σ.2.1 10 a1.toNatClampNeg) * a2) / (1000 : Int32)))
def fM_sees (N : Nat) (σ : St) (a1 : Int32) (a2 : Int32) : Option (St × Int64) :=
  cal (fM_in N σ a1.toInt64 (0 : Int64) (((σ.1 21) - (1 : Int32)).toInt64)) fun σ1 r2 =>
  if r2 = 0 then
    some (σ1, (-4611686018427387904 : Int64))
  else
    cal (fM_in N σ1 a2.toInt64 (-99999 : Int64) (99999 : Int64)) fun σ5 r6 =>
    if r6 = 0 then
      some (σ5, (-4611686018427387904 : Int64))
    else
      cal (fM_seen N σ5 a1 a2) fun σ9 r10 =>
      some (σ9, r10.toInt64)
def fM_crosser (N : Nat) (σ : St) (a1 : Int32) (a2 : Int32) : Option (St × Int32) :=
  cal (fM_in N σ a1.toInt64 (-20 : Int64) (20 : Int64)) fun σ1 r2 =>
  if r2 = 0 then
    some (σ1, (-2 : Int32))
  else
    cal (fM_in N σ1 a2.toInt64 (0 : Int64) (9 : Int64)) fun σ5 r6 =>
    if r6 = 0 then
      some (σ5, (-2 : Int32))
    else
      if (σ5.1 22) = (6 : Int32) then
        some (σ5, (-4 : Int32))
      else
        gi (σ5.1 22) 6 <|
        bnd (sA σ5 11 (σ5.1 22) a1) fun σ11 =>
        gi (σ11.1 22) 6 <|
        bnd (sA σ11 12 (σ11.1 22) a2) fun σ13 =>
        bnd (sI σ13 22 ((σ13.1 22) + (1 : Int32))) fun σ14 =>
        some (σ14, (σ14.1 22) - (1 : Int32))
def fM_call (N : Nat) (σ : St) (a1 : Int32) (a2 : Int32) (a3 : Int32) (a4 : Int32) (a5 : Int32) : Option (St × Int32) :=
  cal (fM_in N σ a1.toInt64 (0 : Int64) (5 : Int64)) fun σ1 r2 =>
  if r2 = 0 then
    some (σ1, (-2 : Int32))
  else
    cal (fM_isMan N σ1 a2) fun σ5 r6 =>
    if r6 = 0 then
      some (σ5, (-2 : Int32))
    else
      cal (fM_isMan N σ5 a3) fun σ9 r10 =>
      if r10 = 0 then
        some (σ9, (-2 : Int32))
      else
        if a2 = a3 then
          some (σ9, (-2 : Int32))
        else
          cal (fM_isTick N σ9 a4) fun σ14 r15 =>
          if r15 = 0 then
            some (σ14, (-2 : Int32))
          else
            if a5 < 0 then
              some (σ14, (-2 : Int32))
            else
              cal (fM_in N σ14 ((a5 / (10 : Int32)).toInt64) (0 : Int64) (((σ14.1 21) - (1 : Int32)).toInt64)) fun σ19 r20 =>
              if r20 = 0 then
                some (σ19, (-2 : Int32))
              else
                cal (fM_in N σ19 ((a5 - a5 / (10 : Int32) * (10 : Int32)).toInt64) (0 : Int64) (((σ19.1 22) - (1 : Int32)).toInt64)) fun σ23 r24 =>
                if r24 = 0 then
                  some (σ23, (-2 : Int32))
                else
                  if (σ23.1 23) = (24 : Int32) then
                    some (σ23, (-4 : Int32))
                  else
                    gi (σ23.1 23) 24 <|
                    bnd (sA σ23 13 (σ23.1 23) a1) fun σ29 =>
                    gi (σ29.1 23) 24 <|
                    bnd (sA σ29 14 (σ29.1 23) a2) fun σ31 =>
                    gi (σ31.1 23) 24 <|
                    bnd (sA σ31 15 (σ31.1 23) a3) fun σ33 =>
                    gi (σ33.1 23) 24 <|
                    bnd (sA σ33 16 (σ33.1 23) a4) fun σ35 =>
                    gi (σ35.1 23) 24 <|
                    bnd (sA σ35 17 (σ35.1 23) (a5 / (10 : Int32))) fun σ37 =>
                    gi (σ37.1 23) 24 <|
                    bnd (sA σ37 18 (σ37.1 23) (a5 - a5 / (10 : Int32) * (10 : Int32))) fun σ39 =>
                    bnd (sI σ39 23 ((σ39.1 23) + (1 : Int32))) fun σ40 =>
                    some (σ40, (σ40.1 23) - (1 : Int32))
def fM_isCall (N : Nat) (σ : St) (a1 : Int32) : Option (St × Int32) :=
  cal (fM_in N σ a1.toInt64 (0 : Int64) (((σ.1 23) - (1 : Int32)).toInt64)) fun σ1 r2 =>
  gd (r2 = 0 ∨ r2 = 1) <|
  some (σ1, r2)
def fM_spreadOf_j20 (N : Nat) (σ : St) (a1 : Int32) : Option (St × Int32) :=
  gi a1 24 <|
  gi (σ.2.1 18 a1.toNatClampNeg) 6 <|
  some (σ, σ.2.1 12 (σ.2.1 18 a1.toNatClampNeg).toNatClampNeg)
def fM_spreadOf (N : Nat) (σ : St) (a1 : Int32) : Option (St × Int32) :=
  gi a1 24 <|
  if (σ.2.1 13 a1.toNatClampNeg) = (2 : Int32) then
    fM_spreadOf_j20 N  σ a1
  else
    gi a1 24 <|
    if (σ.2.1 13 a1.toNatClampNeg) = (3 : Int32) then
      fM_spreadOf_j20 N  σ a1
    else
      some (σ, (0 : Int32))
def fM_trueMargin (N : Nat) (σ : St) (a1 : Int32) (a2 : Int32) : Option (St × Int32) :=
  gi a1 24 <|
  cal (fM_frontOf N σ (σ.2.1 14 a1.toNatClampNeg) a2) fun σ2 r3 =>
  gi a1 24 <|
  cal (fM_frontOf N σ2 (σ2.2.1 15 a1.toNatClampNeg) a2) fun σ6 r7 =>
  some (σ6, r3 - r7)
def fM_crossed_j38 (N : Nat) (σ : St) (a2 : Int32) (a5 : Int32) (t0 : Int32) : Option (St × Int32) :=
  gi a2 10 <|
  if (σ.2.1 6 a2.toNatClampNeg) ≤ 0 then
    some (σ, a5 - t0)
  else
    some (σ, a5 + t0)
def fM_crossed (N : Nat) (σ : St) (a1 : Int32) (a2 : Int32) (a3 : Int32) (a4 : Int32) : Option (St × Int32) :=
  gi a1 24 <|
  cal (fM_frontOf N σ a2 a3) fun σ4 r5 =>
  cal (fM_seen N σ4 (σ.2.1 17 a1.toNatClampNeg) r5) fun σ7 r8 =>
  if a4 = 0 then
    fM_crossed_j38 N  σ7 a2 r8 (0 : Int32)
  else
    gi a1 24 <|
    gi (σ7.2.1 18 a1.toNatClampNeg) 6 <|
    fM_crossed_j38 N  σ7 a2 r8 (σ7.2.1 11 (σ7.2.1 18 a1.toNatClampNeg).toNatClampNeg)
def fM_marginBy (N : Nat) (σ : St) (a1 : Int32) (a2 : Int32) : Option (St × Int32) :=
  gi a1 24 <|
  gi a1 24 <|
  cal (fM_frameOf N σ (σ.2.1 17 a1.toNatClampNeg) (σ.2.1 16 a1.toNatClampNeg)) fun σ3 r4 =>
  gi a1 24 <|
  gi (σ3.2.1 14 a1.toNatClampNeg) 10 <|
  gi a1 24 <|
  gi (σ3.2.1 15 a1.toNatClampNeg) 10 <|
  bnd ((2 : Int32) * ((σ3.2.1 6 (σ3.2.1 14 a1.toNatClampNeg).toNatClampNeg) - (σ3.2.1 6 (σ3.2.1 15 a1.toNatClampNeg).toNatClampNeg))) fun x10 =>
  if a2 = (1 : Int32) then
    gi a1 24 <|
    cal (fM_trueMargin N σ3 a1 (σ3.2.1 16 a1.toNatClampNeg)) fun σ13 r14 =>
    some (σ13, r14 + x10)
  else
  if a2 = (2 : Int32) then
    gi a1 24 <|
    cal (fM_crossed N σ3 a1 (σ3.2.1 14 a1.toNatClampNeg) r4 (1 : Int32)) fun σ18 r19 =>
    gi a1 24 <|
    cal (fM_crossed N σ18 a1 (σ18.2.1 15 a1.toNatClampNeg) r4 (1 : Int32)) fun σ22 r23 =>
    some (σ22, r19 - r23)
  else
  if a2 = (3 : Int32) then
    gi a1 24 <|
    cal (fM_crossed N σ3 a1 (σ3.2.1 14 a1.toNatClampNeg) r4 (1 : Int32)) fun σ27 r28 =>
    gi a1 24 <|
    cal (fM_crossed N σ27 a1 (σ27.2.1 15 a1.toNatClampNeg) r4 (1 : Int32)) fun σ31 r32 =>
    some (σ31, r28 - r32)
  else
  if a2 = (4 : Int32) then
    gi a1 24 <|
    cal (fM_trueMargin N σ3 a1 (σ3.2.1 16 a1.toNatClampNeg)) fun σ36 r37 =>
    some (σ36, (r37 + x10) - (10 : Int32))
  else
  if a2 = (5 : Int32) then
    gi a1 24 <|
    cal (fM_crossed N σ3 a1 (σ3.2.1 14 a1.toNatClampNeg) r4 (0 : Int32)) fun σ41 r42 =>
    gi a1 24 <|
    cal (fM_crossed N σ41 a1 (σ41.2.1 15 a1.toNatClampNeg) r4 (0 : Int32)) fun σ45 r46 =>
    some (σ45, (r42 - r46) - (2 : Int32))
  else
  gi a1 24 <|
  cal (fM_trueMargin N σ3 a1 (σ3.2.1 16 a1.toNatClampNeg)) fun σ49 r50 =>
  some (σ49, r50)
def fM_nearOf (N : Nat) (σ : St) (a1 : Int32) : Option (St × Int32) :=
  gi a1 24 <|
  gi a1 24 <|
  gi a1 24 <|
  cal (fM_foremost N σ (σ.2.1 14 a1.toNatClampNeg) (σ.2.1 16 a1.toNatClampNeg)) fun σ4 r5 =>
  gi a1 24 <|
  cal (fM_read N σ4 (σ.1 2) (σ.2.1 14 a1.toNatClampNeg) r5 (σ4.2.1 16 a1.toNatClampNeg) (1 : Int32)) fun σ8 r9 =>
  if 0 ≤ r9 then
    if r9 ≤ (999 : Int32) then
      some (σ8, r9)
    else
      some (σ8, (999 : Int32))
  else
    some (σ8, (0 : Int32))
def fM_bandBy (N : Nat) (σ : St) (a1 : Int32) (a2 : Int32) : Option (St × Int32) :=
  if a2 = (2 : Int32) then
    some (σ, (1 : Int32))
  else
  if a2 = (3 : Int32) then
    cal (fM_nearOf N σ a1) fun σ3 r4 =>
    some (σ3, (1 : Int32) + r4)
  else
  if a2 = (4 : Int32) then
    some (σ, (3 : Int32))
  else
  if a2 = (5 : Int32) then
    some (σ, (1 : Int32))
  else
  some (σ, (0 : Int32))
def fM_isAhead (N : Nat) (σ : St) (a1 : Int32) (a2 : Int32) : Option (St × Int32) :=
  cal (fM_marginBy N σ a1 a2) fun σ1 r2 =>
  cal (fM_bandBy N σ1 a1 a2) fun σ4 r5 =>
  if r2 ≤ r5 then
    some (σ4, (0 : Int32))
  else
    some (σ4, (1 : Int32))
def fM_isOffside (N : Nat) (σ : St) (a1 : Int32) (a2 : Int32) : Option (St × Int32) :=
  cal (fM_isAhead N σ a1 a2) fun σ1 r2 =>
  if r2 = 0 then
    some (σ1, (0 : Int32))
  else
    gi a1 24 <|
    gi a1 24 <|
    gi a1 24 <|
    cal (fM_foremost N σ1 (σ1.2.1 14 a1.toNatClampNeg) (σ1.2.1 16 a1.toNatClampNeg)) fun σ8 r9 =>
    gi a1 24 <|
    cal (fM_read N σ8 (σ1.1 2) (σ1.2.1 14 a1.toNatClampNeg) r9 (σ8.2.1 16 a1.toNatClampNeg) (2 : Int32)) fun σ12 r13 =>
    if r13 = 0 then
      some (σ12, (0 : Int32))
    else
      some (σ12, (1 : Int32))
def fM_waysOf_j85 (N : Nat) (k39 : St → Int32 → Int32 → Int32 → Int32 → Int32 → Option (St × Int32)) (σ : St) (a2 : Int32) (a3 : Int32) (a4 : Int32) (a5 : Int32) (a6 : Int32) : Option (St × Int32) :=
  bnd (a6 + (1 : Int32)) fun x1 =>
  k39 σ a2 a3 a4 a5 x1
def fM_waysOf_j76 (N : Nat) (k39 : St → Int32 → Int32 → Int32 → Int32 → Int32 → Option (St × Int32)) (k51 : St → Int32 → Int32 → Int32 → Int32 → Int32 → Int32 → Option (St × Int32)) (σ : St) (a2 : Int32) (a3 : Int32) (a4 : Int32) (a6 : Int32) (a7 : Int32) (t0 : Int32) (t1 : Int32) : Option (St × Int32) :=
  bnd (t0 + t1) fun x2 =>
  bnd (a7 + (1 : Int32)) fun x3 =>
  k51 σ a2 a3 a4 x2 a6 x3
def fM_waysOf_l51 (N : Nat) (k39 : St → Int32 → Int32 → Int32 → Int32 → Int32 → Option (St × Int32)) : Nat → St → Int32 → Int32 → Int32 → Int32 → Int32 → Int32 → Option (St × Int32)
  | 0, _, _, _, _, _, _, _ => none
  | n51 + 1, σ, a2, a3, a4, a5, a6, a7 =>
    if a4 < a7 then
      fM_waysOf_j85 N k39 σ a2 a3 a4 a5 a6
    else
      if ((a2 + a6) - a7) ≤ a3 then
        fM_waysOf_j76 N k39 (fM_waysOf_l51 N k39 n51) σ a2 a3 a4 a6 a7 a5 (0 : Int32)
      else
        fM_waysOf_j76 N k39 (fM_waysOf_l51 N k39 n51) σ a2 a3 a4 a6 a7 a5 (1 : Int32)
def fM_waysOf_l39 (N : Nat) : Nat → St → Int32 → Int32 → Int32 → Int32 → Int32 → Option (St × Int32)
  | 0, _, _, _, _, _, _ => none
  | n39 + 1, σ, a2, a3, a4, a5, a6 =>
    if a4 < a6 then
      some (σ, a5)
    else
      bnd (-a4) fun x7 =>
      fM_waysOf_l51 N (fM_waysOf_l39 N  n39) N σ a2 a3 a4 a5 a6 x7
def fM_waysOf (N : Nat) (σ : St) (a1 : Int32) : Option (St × Int32) :=
  gi a1 24 <|
  cal (fM_marginBy N σ a1 (σ.2.1 13 a1.toNatClampNeg)) fun σ9 r10 =>
  gi a1 24 <|
  cal (fM_bandBy N σ9 a1 (σ9.2.1 13 a1.toNatClampNeg)) fun σ13 r14 =>
  cal (fM_spreadOf N σ13 a1) fun σ16 r17 =>
  bnd (-r17) fun x19 =>
  fM_waysOf_l39 N  N σ16 r10 r14 r17 (0 : Int32) x19
def fM_turnsOf_j52 (N : Nat) (σ : St) (a2 : Int32) (a3 : Int32) : Option (St × Int32) :=
  bnd (sI σ 5 a2) fun σ1 =>
  some (σ1, a3)
def fM_turnsOf_j46 (N : Nat) (k10 : St → Int32 → Int32 → Int32 → Int32 → Option (St × Int32)) (σ : St) (a1 : Int32) (a2 : Int32) (a3 : Int32) (a4 : Int32) : Option (St × Int32) :=
  bnd (a4 + (1 : Int32)) fun x2 =>
  k10 σ a1 a2 a3 x2
def fM_turnsOf_l10 (N : Nat) : Nat → St → Int32 → Int32 → Int32 → Int32 → Option (St × Int32)
  | 0, _, _, _, _, _ => none
  | n10 + 1, σ, a1, a2, a3, a4 =>
    if (999 : Int32) < a4 then
      fM_turnsOf_j52 N  σ a2 a3
    else
      if a3 = (-1 : Int32) then
        bnd (sI σ 5 a4) fun σ5 =>
        gi a1 24 <|
        cal (fM_isAhead N σ5 a1 (σ5.2.1 13 a1.toNatClampNeg)) fun σ7 r8 =>
        if r8 = 0 then
          fM_turnsOf_j46 N (fM_turnsOf_l10 N  n10) σ7 a1 a2 a4 a4
        else
          fM_turnsOf_j46 N (fM_turnsOf_l10 N  n10) σ7 a1 a2 a3 a4
      else
        fM_turnsOf_j52 N  σ a2 a3
def fM_turnsOf (N : Nat) (σ : St) (a1 : Int32) : Option (St × Int32) :=
  bnd (σ.1 5) fun x11 =>
  fM_turnsOf_l10 N  N σ a1 x11 (-1 : Int32) (0 : Int32)
def fM_told (N : Nat) (σ : St) (a1 : Int32) (a2 : Int32) : Option (St × Int64) :=
  cal (fM_isCall N σ a1) fun σ1 r2 =>
  if r2 = 0 then
    some (σ1, (-4611686018427387904 : Int64))
  else
    gi a1 24 <|
    bnd (σ1.2.1 13 a1.toNatClampNeg) fun x6 =>
    cal (fM_spreadOf N σ1 a1) fun σ7 r8 =>
    bnd (((2 : Int32) * r8) + (1 : Int32)) fun x10 =>
    if a2 = (0 : Int32) then
      some (σ7, x6.toInt64)
    else
    if a2 = (1 : Int32) then
      cal (fM_marginBy N σ7 a1 x6) fun σ13 r14 =>
      some (σ13, r14.toInt64)
    else
    if a2 = (2 : Int32) then
      cal (fM_bandBy N σ7 a1 x6) fun σ17 r18 =>
      some (σ17, r18.toInt64)
    else
    if a2 = (3 : Int32) then
      cal (fM_isAhead N σ7 a1 x6) fun σ21 r22 =>
      if r22 = 0 then
        some (σ21, (0 : Int64))
      else
        some (σ21, (1 : Int64))
    else
    if a2 = (4 : Int32) then
      cal (fM_isOffside N σ7 a1 x6) fun σ26 r27 =>
      if r27 = 0 then
        some (σ26, (0 : Int64))
      else
        some (σ26, (1 : Int64))
    else
    if a2 = (5 : Int32) then
      cal (fM_isOffside N σ7 a1 x6) fun σ31 r32 =>
      cal (fM_isOffside N σ31 a1 (0 : Int32)) fun σ34 r35 =>
      if r32 = r35 then
        some (σ34, (0 : Int64))
      else
        some (σ34, (1 : Int64))
    else
    if a2 = (6 : Int32) then
      cal (fM_waysOf N σ7 a1) fun σ39 r40 =>
      some (σ39, r40.toInt64)
    else
    if a2 = (7 : Int32) then
      some (σ7, (x10 * x10).toInt64)
    else
    if a2 = (8 : Int32) then
      gi a1 24 <|
      gi a1 24 <|
      cal (fM_frameOf N σ7 (σ7.2.1 17 a1.toNatClampNeg) (σ7.2.1 16 a1.toNatClampNeg)) fun σ46 r47 =>
      cal (fM_trueMargin N σ46 a1 r47) fun σ49 r50 =>
      gi a1 24 <|
      cal (fM_trueMargin N σ49 a1 (σ49.2.1 16 a1.toNatClampNeg)) fun σ53 r54 =>
      some (σ53, (r50 - r54).toInt64)
    else
    if a2 = (9 : Int32) then
      cal (fM_turnsOf N σ7 a1) fun σ57 r58 =>
      some (σ57, r58.toInt64)
    else
    some (σ7, (-4611686018427387904 : Int64))
def fM_all (N : Nat) (σ : St) : Option (St × Int32) :=
  some (σ, ((1 : Int32) <<< ((σ.1 23) &&& 31)) - (1 : Int32))
def fM_offsides_j43 (N : Nat) (k4 : St → Int32 → Int32 → Int32 → Option (St × Int32)) (σ : St) (a1 : Int32) (a3 : Int32) (t0 : Int32) (t1 : Int32) : Option (St × Int32) :=
  bnd (t0 ||| t1) fun x1 =>
  bnd (a3 + (1 : Int32)) fun x2 =>
  k4 σ a1 x1 x2
def fM_offsides_j42 (N : Nat) (k4 : St → Int32 → Int32 → Int32 → Option (St × Int32)) (σ : St) (a1 : Int32) (a3 : Int32) (t0 : Int32) : Option (St × Int32) :=
  fM_offsides_j43 N k4 σ a1 a3 t0 (0 : Int32)
def fM_offsides_l4 (N : Nat) : Nat → St → Int32 → Int32 → Int32 → Option (St × Int32)
  | 0, _, _, _, _ => none
  | n4 + 1, σ, a1, a2, a3 =>
    if (σ.1 23) ≤ a3 then
      some (σ, a2)
    else
      if ((a1 >>> (a3 &&& 31)) &&& (1 : Int32)) = (1 : Int32) then
        gi a3 24 <|
        cal (fM_isOffside N σ a3 (σ.2.1 13 a3.toNatClampNeg)) fun σ6 r7 =>
        if r7 = 0 then
          fM_offsides_j42 N (fM_offsides_l4 N  n4) σ6 a1 a3 a2
        else
          fM_offsides_j43 N (fM_offsides_l4 N  n4) σ6 a1 a3 a2 ((1 : Int32) <<< (a3 &&& 31))
      else
        fM_offsides_j42 N (fM_offsides_l4 N  n4) σ a1 a3 a2
def fM_offsides (N : Nat) (σ : St) (a1 : Int32) : Option (St × Int32) :=
  fM_offsides_l4 N  N σ a1 (0 : Int32) (0 : Int32)
def fM_offside (N : Nat) (σ : St) : Option (St × Int32) :=
  cal (fM_all N σ ) fun σ1 r2 =>
  cal (fM_offsides N σ1 r2) fun σ4 r5 =>
  some (σ4, r5)
def fM_isSheet (N : Nat) (σ : St) (a0 : Int32) : Option (St × Int32) :=
  cal (fM_in N σ a0.toInt64 (0 : Int64) (3 : Int64)) fun σ1 r2 =>
  gd (r2 = 0 ∨ r2 = 1) <|
  some (σ1, r2)
def fM_widths_l34 (N : Nat) : Nat → St → Int32 → Int32 → Option (St × Int32)
  | 0, _, _, _ => none
  | n34 + 1, σ, a1, a2 =>
    gi a1 4 <|
    if (σ.2.1 32 a1.toNatClampNeg) ≤ a2 then
      some (σ, (0 : Int32))
    else
      gi (((40 : Int32) * a1) + a2) 160 <|
      cal (fM_isWidth N σ (σ.2.1 33 (((40 : Int32) * a1) + a2).toNatClampNeg)) fun σ4 r5 =>
      if r5 = 0 then
        some (σ4, (-2 : Int32))
      else
        bnd (a2 + (1 : Int32)) fun x8 =>
        (fM_widths_l34 N  n34) σ4 a1 x8
def fM_widths (N : Nat) (σ : St) (a1 : Int32) : Option (St × Int32) :=
  gi a1 4 <|
  if (σ.2.1 30 a1.toNatClampNeg) = 0 then
    some (σ, (-11 : Int32))
  else
    gi a1 4 <|
    cal (fM_in N σ ((σ.2.1 32 a1.toNatClampNeg).toInt64) (1 : Int64) (8 : Int64)) fun σ12 r13 =>
    if r13 = 0 then
      some (σ12, (-2 : Int32))
    else
      fM_widths_l34 N  N σ12 a1 (0 : Int32)
def fM_wrongs_j105 (N : Nat) (σ : St) (a4 : Int32) (a5 : Int32) : Option (St × Int32) :=
  bnd (sI σ 5 a4) fun σ1 =>
  some (σ1, a5)
def fM_wrongs_j99 (N : Nat) (k17 : St → Int32 → Int32 → Int32 → Int32 → Int32 → Option (St × Int32)) (σ : St) (a1 : Int32) (a3 : Int32) (a4 : Int32) (a5 : Int32) (a6 : Int32) : Option (St × Int32) :=
  bnd (a6 + (1 : Int32)) fun x2 =>
  k17 σ a1 a3 a4 a5 x2
def fM_wrongs_j96 (N : Nat) (k17 : St → Int32 → Int32 → Int32 → Int32 → Int32 → Option (St × Int32)) (σ : St) (a1 : Int32) (a3 : Int32) (a4 : Int32) (a6 : Int32) (t0 : Int32) (t1 : Int32) : Option (St × Int32) :=
  bnd (t0 + t1) fun x3 =>
  fM_wrongs_j99 N k17 σ a1 a3 a4 x3 a6
def fM_wrongs_j95 (N : Nat) (k17 : St → Int32 → Int32 → Int32 → Int32 → Int32 → Option (St × Int32)) (σ : St) (a1 : Int32) (a3 : Int32) (a4 : Int32) (a6 : Int32) (t0 : Int32) : Option (St × Int32) :=
  fM_wrongs_j96 N k17 σ a1 a3 a4 a6 t0 (0 : Int32)
def fM_wrongs_j91 (N : Nat) (k17 : St → Int32 → Int32 → Int32 → Int32 → Int32 → Option (St × Int32)) (σ : St) (a1 : Int32) (a3 : Int32) (a4 : Int32) (a6 : Int32) (t0 : Int32) : Option (St × Int32) :=
  fM_wrongs_j96 N k17 σ a1 a3 a4 a6 t0 (1 : Int32)
def fM_wrongs_l17 (N : Nat) : Nat → St → Int32 → Int32 → Int32 → Int32 → Int32 → Option (St × Int32)
  | 0, _, _, _, _, _, _ => none
  | n17 + 1, σ, a1, a3, a4, a5, a6 =>
    if (σ.1 23) ≤ a6 then
      fM_wrongs_j105 N  σ a4 a5
    else
      if ((a1 >>> (a6 &&& 31)) &&& (1 : Int32)) = 0 then
        fM_wrongs_j99 N (fM_wrongs_l17 N  n17) σ a1 a3 a4 a5 a6
      else
        cal (fM_isOffside N σ a6 (0 : Int32)) fun σ6 r7 =>
        gi a6 24 <|
        cal (fM_isOffside N σ6 a6 (σ6.2.1 13 a6.toNatClampNeg)) fun σ10 r11 =>
        if a3 = 0 then
          if r7 = 0 then
            fM_wrongs_j95 N (fM_wrongs_l17 N  n17) σ10 a1 a3 a4 a6 a5
          else
            if r11 = 0 then
              fM_wrongs_j91 N (fM_wrongs_l17 N  n17) σ10 a1 a3 a4 a6 a5
            else
              fM_wrongs_j95 N (fM_wrongs_l17 N  n17) σ10 a1 a3 a4 a6 a5
        else
          if r11 = 0 then
            fM_wrongs_j95 N (fM_wrongs_l17 N  n17) σ10 a1 a3 a4 a6 a5
          else
            if r7 = 0 then
              fM_wrongs_j91 N (fM_wrongs_l17 N  n17) σ10 a1 a3 a4 a6 a5
            else
              fM_wrongs_j95 N (fM_wrongs_l17 N  n17) σ10 a1 a3 a4 a6 a5
def fM_wrongs (N : Nat) (σ : St) (a1 : Int32) (a2 : Int32) (a3 : Int32) : Option (St × Int32) :=
  bnd (σ.1 5) fun x18 =>
  bnd (sI σ 5 a2) fun σ19 =>
  fM_wrongs_l17 N  N σ19 a1 a3 x18 (0 : Int32) (0 : Int32)
def fM_wrong (N : Nat) (σ : St) (a1 : Int32) (a2 : Int32) (a3 : Int32) (a4 : Int32) : Option (St × Int32) :=
  cal (fM_isSheet N σ a1) fun σ1 r2 =>
  if r2 = 0 then
    some (σ1, (-2 : Int32))
  else
    cal (fM_all N σ1 ) fun σ5 r6 =>
    cal (fM_in N σ5 a2.toInt64 (0 : Int64) r6.toInt64) fun σ8 r9 =>
    if r9 = 0 then
      some (σ8, (-2 : Int32))
    else
      cal (fM_in N σ8 a4.toInt64 (0 : Int64) (1 : Int64)) fun σ12 r13 =>
      if r13 = 0 then
        some (σ12, (-2 : Int32))
      else
        cal (fM_widths N σ12 a1) fun σ16 r17 =>
        if r17 = 0 then
          gi a1 4 <|
          cal (fM_in N σ16 a3.toInt64 (0 : Int64) (((σ16.2.1 32 a1.toNatClampNeg) - (1 : Int32)).toInt64)) fun σ21 r22 =>
          if r22 = 0 then
            some (σ21, (-1 : Int32))
          else
            gi (((40 : Int32) * a1) + a3) 160 <|
            cal (fM_wrongs N σ21 a2 (σ21.2.1 33 (((40 : Int32) * a1) + a3).toNatClampNeg) a4) fun σ26 r27 =>
            some (σ26, r27)
        else
          some (σ16, r17)
def fM_best_j138 (N : Nat) (k60 : St → Int32 → Int32 → Int32 → Int32 → Int32 → Int32 → Option (St × Int32)) (σ : St) (a1 : Int32) (a2 : Int32) (a3 : Int32) (a5 : Int32) (a6 : Int32) (a7 : Int32) : Option (St × Int32) :=
  bnd (a7 + (1 : Int32)) fun x1 =>
  k60 σ a1 a2 a3 a5 a6 x1
def fM_best_j130 (N : Nat) (k60 : St → Int32 → Int32 → Int32 → Int32 → Int32 → Int32 → Option (St × Int32)) (σ : St) (a1 : Int32) (a2 : Int32) (a3 : Int32) (a7 : Int32) (a8 : Int32) (a9 : Int32) : Option (St × Int32) :=
  fM_best_j138 N k60 σ a1 a2 a3 a8 a9 a7
def fM_best_l60 (N : Nat) : Nat → St → Int32 → Int32 → Int32 → Int32 → Int32 → Int32 → Option (St × Int32)
  | 0, _, _, _, _, _, _, _ => none
  | n60 + 1, σ, a1, a2, a3, a5, a6, a7 =>
    gi a1 4 <|
    if (σ.2.1 32 a1.toNatClampNeg) ≤ a7 then
      some (σ, a5)
    else
      gi (((40 : Int32) * a1) + a7) 160 <|
      bnd (σ.2.1 33 (((40 : Int32) * a1) + a7).toNatClampNeg) fun x5 =>
      cal (fM_wrongs N σ a2 x5 (0 : Int32)) fun σ6 r7 =>
      cal (fM_wrongs N σ6 a2 x5 (1 : Int32)) fun σ9 r10 =>
      bnd ((r7 * (a3 / (100 : Int32))) + (r10 * (a3 - a3 / (100 : Int32) * (100 : Int32)))) fun x12 =>
      if a6 = (-1 : Int32) then
        fM_best_j130 N (fM_best_l60 N  n60) σ9 a1 a2 a3 a7 x5 x12
      else
        if x12 < a6 then
          fM_best_j130 N (fM_best_l60 N  n60) σ9 a1 a2 a3 a7 x5 x12
        else
          fM_best_j138 N (fM_best_l60 N  n60) σ9 a1 a2 a3 a5 a6 a7
def fM_best (N : Nat) (σ : St) (a1 : Int32) (a2 : Int32) (a3 : Int32) : Option (St × Int32) :=
  cal (fM_isSheet N σ a1) fun σ15 r16 =>
  if r16 = 0 then
    some (σ15, (-2 : Int32))
  else
    cal (fM_all N σ15 ) fun σ19 r20 =>
    cal (fM_in N σ19 a2.toInt64 (0 : Int64) r20.toInt64) fun σ22 r23 =>
    if r23 = 0 then
      some (σ22, (-2 : Int32))
    else
      cal (fM_in N σ22 a3.toInt64 (0 : Int64) (9999 : Int64)) fun σ26 r27 =>
      if r27 = 0 then
        some (σ26, (-2 : Int32))
      else
        cal (fM_widths N σ26 a1) fun σ30 r31 =>
        if r31 = 0 then
          fM_best_l60 N  N σ30 a1 a2 a3 (0 : Int32) (-1 : Int32) (0 : Int32)
        else
          some (σ30, r31)
def fM_match (N : Nat) (σ : St) (a1 : Int32) (a2 : Int32) (a3 : Int32) : Option (St × Int32) :=
  if a1 < 0 then
    some (σ, (-2 : Int32))
  else
    cal (fM_in N σ ((a1 / (10 : Int32)).toInt64) (0 : Int64) (3 : Int64)) fun σ2 r3 =>
    if r3 = 0 then
      some (σ2, (-2 : Int32))
    else
      cal (fM_in N σ2 ((a1 - a1 / (10 : Int32) * (10 : Int32)).toInt64) (0 : Int64) (3 : Int64)) fun σ6 r7 =>
      if r7 = 0 then
        some (σ6, (-2 : Int32))
      else
        if (a1 / (10 : Int32)) = (a1 - a1 / (10 : Int32) * (10 : Int32)) then
          some (σ6, (-2 : Int32))
        else
          cal (fM_in N σ6 a2.toInt64 (0 : Int64) (99 : Int64)) fun σ11 r12 =>
          if r12 = 0 then
            some (σ11, (-2 : Int32))
          else
            cal (fM_all N σ11 ) fun σ15 r16 =>
            cal (fM_in N σ15 a3.toInt64 (0 : Int64) r16.toInt64) fun σ18 r19 =>
            if r19 = 0 then
              some (σ18, (-2 : Int32))
            else
              if (σ18.1 24) = (12 : Int32) then
                some (σ18, (-4 : Int32))
              else
                gi (σ18.1 24) 12 <|
                bnd (sA σ18 19 (σ18.1 24) (a1 / (10 : Int32))) fun σ24 =>
                gi (σ24.1 24) 12 <|
                bnd (sA σ24 20 (σ24.1 24) (a1 - a1 / (10 : Int32) * (10 : Int32))) fun σ26 =>
                gi (σ26.1 24) 12 <|
                bnd (sA σ26 21 (σ26.1 24) (a2 / (10 : Int32))) fun σ28 =>
                gi (σ28.1 24) 12 <|
                bnd (sA σ28 22 (σ28.1 24) (a2 - a2 / (10 : Int32) * (10 : Int32))) fun σ30 =>
                gi (σ30.1 24) 12 <|
                bnd (sA σ30 23 (σ30.1 24) a3) fun σ32 =>
                bnd (sI σ32 24 ((σ32.1 24) + (1 : Int32))) fun σ33 =>
                some (σ33, (σ33.1 24) - (1 : Int32))
def fM_counts_j26 (N : Nat) (σ : St) (a1 : Int32) (a2 : Int32) (a3 : Int32) (t1 : Int32) (t2 : Int32) (t3 : Int32) : Option (St × Unit) :=
  gi t1 4 <|
  bnd (sA σ 24 t1 (t2 + t3)) fun σ2 =>
  gi a1 4 <|
  gi a1 4 <|
  bnd (sA σ2 25 a1 ((σ2.2.1 25 a1.toNatClampNeg) + a2)) fun σ5 =>
  gi a1 4 <|
  gi a1 4 <|
  bnd (sA σ5 26 a1 ((σ5.2.1 26 a1.toNatClampNeg) + a3)) fun σ8 =>
  some (σ8, ())
def fM_counts (N : Nat) (σ : St) (a1 : Int32) (a2 : Int32) (a3 : Int32) : Option (St × Unit) :=
  gi a1 4 <|
  if a2 ≤ a3 then
    if a2 = a3 then
      fM_counts_j26 N  σ a1 a2 a3 a1 (σ.2.1 24 a1.toNatClampNeg) (1 : Int32)
    else
      fM_counts_j26 N  σ a1 a2 a3 a1 (σ.2.1 24 a1.toNatClampNeg) (0 : Int32)
  else
    fM_counts_j26 N  σ a1 a2 a3 a1 (σ.2.1 24 a1.toNatClampNeg) (3 : Int32)
def fM_tables_j228 (N : Nat) (σ : St) (a2 : Int32) : Option (St × Unit) :=
  bnd (sI σ 5 a2) fun σ1 =>
  some (σ1, ())
def fM_tables_j192 (N : Nat) (k61 : St → Int32 → Int32 → Int32 → Option (St × Unit)) (σ : St) (a2 : Int32) (a3 : Int32) (a4 : Int32) (a5 : Int32) (a6 : Int32) : Option (St × Unit) :=
  gi a4 12 <|
  cal (fM_counts N σ (σ.2.1 19 a4.toNatClampNeg) a5 a6) fun σ3 r4 =>
  gi a4 12 <|
  cal (fM_counts N σ3 (σ3.2.1 20 a4.toNatClampNeg) a6 a5) fun σ7 r8 =>
  bnd (a4 + (1 : Int32)) fun x10 =>
  k61 σ7 a2 a3 x10
def fM_tables_j186 (N : Nat) (k61 : St → Int32 → Int32 → Int32 → Option (St × Unit)) (k91 : St → Int32 → Int32 → Int32 → Int32 → Int32 → Int32 → Option (St × Unit)) (σ : St) (a2 : Int32) (a3 : Int32) (a4 : Int32) (a5 : Int32) (a6 : Int32) (a7 : Int32) : Option (St × Unit) :=
  bnd (a7 + (1 : Int32)) fun x11 =>
  k91 σ a2 a3 a4 a5 a6 x11
def fM_tables_j183 (N : Nat) (k61 : St → Int32 → Int32 → Int32 → Option (St × Unit)) (k91 : St → Int32 → Int32 → Int32 → Int32 → Int32 → Int32 → Option (St × Unit)) (σ : St) (a2 : Int32) (a3 : Int32) (a4 : Int32) (a5 : Int32) (a7 : Int32) (t0 : Int32) (t1 : Int32) : Option (St × Unit) :=
  bnd (t0 + t1) fun x12 =>
  fM_tables_j186 N k61 k91 σ a2 a3 a4 a5 x12 a7
def fM_tables_j161 (N : Nat) (k61 : St → Int32 → Int32 → Int32 → Option (St × Unit)) (k91 : St → Int32 → Int32 → Int32 → Int32 → Int32 → Int32 → Option (St × Unit)) (σ : St) (a2 : Int32) (a3 : Int32) (a4 : Int32) (a6 : Int32) (a7 : Int32) (a8 : Int32) (t0 : Int32) (t1 : Int32) : Option (St × Unit) :=
  bnd (t0 + t1) fun x13 =>
  gi a4 12 <|
  if a8 = (σ.2.1 20 a4.toNatClampNeg) then
    fM_tables_j183 N k61 k91 σ a2 a3 a4 x13 a7 a6 (1 : Int32)
  else
    fM_tables_j183 N k61 k91 σ a2 a3 a4 x13 a7 a6 (0 : Int32)
def fM_tables_l91 (N : Nat) (k61 : St → Int32 → Int32 → Int32 → Option (St × Unit)) : Nat → St → Int32 → Int32 → Int32 → Int32 → Int32 → Int32 → Option (St × Unit)
  | 0, _, _, _, _, _, _, _ => none
  | n91 + 1, σ, a2, a3, a4, a5, a6, a7 =>
    if (σ.1 23) ≤ a7 then
      fM_tables_j192 N k61 σ a2 a3 a4 a5 a6
    else
      gi a4 12 <|
      if (((σ.2.1 23 a4.toNatClampNeg) >>> (a7 &&& 31)) &&& (1 : Int32)) = 0 then
        fM_tables_j186 N k61 (fM_tables_l91 N k61 n91) σ a2 a3 a4 a5 a6 a7
      else
        if ((a3 >>> (a7 &&& 31)) &&& (1 : Int32)) = (1 : Int32) then
          fM_tables_j186 N k61 (fM_tables_l91 N k61 n91) σ a2 a3 a4 a5 a6 a7
        else
          gi a7 24 <|
          gi (σ.2.1 14 a7.toNatClampNeg) 10 <|
          bnd (σ.2.1 4 (σ.2.1 14 a7.toNatClampNeg).toNatClampNeg) fun x22 =>
          gi a4 12 <|
          if x22 = (σ.2.1 19 a4.toNatClampNeg) then
            fM_tables_j161 N k61 (fM_tables_l91 N k61 n91) σ a2 a3 a4 a6 a7 x22 a5 (1 : Int32)
          else
            fM_tables_j161 N k61 (fM_tables_l91 N k61 n91) σ a2 a3 a4 a6 a7 x22 a5 (0 : Int32)
def fM_tables_l61 (N : Nat) : Nat → St → Int32 → Int32 → Int32 → Option (St × Unit)
  | 0, _, _, _, _ => none
  | n61 + 1, σ, a2, a3, a4 =>
    if (σ.1 24) ≤ a4 then
      fM_tables_j228 N  σ a2
    else
      gi a4 12 <|
      bnd (σ.2.1 21 a4.toNatClampNeg) fun x27 =>
      gi a4 12 <|
      bnd (σ.2.1 22 a4.toNatClampNeg) fun x29 =>
      fM_tables_l91 N (fM_tables_l61 N  n61) N σ a2 a3 a4 x27 x29 (0 : Int32)
def fM_tables_j58 (N : Nat) (σ : St) (a2 : Int32) (a3 : Int32) : Option (St × Unit) :=
  fM_tables_l61 N  N σ a2 a3 (0 : Int32)
def fM_tables_l22 (N : Nat) : Nat → St → Int32 → Int32 → Int32 → Option (St × Unit)
  | 0, _, _, _, _ => none
  | n22 + 1, σ, a2, a3, a4 =>
    if (4 : Int32) ≤ a4 then
      fM_tables_j58 N  σ a2 a3
    else
      gi a4 4 <|
      bnd (sA σ 24 a4 (0 : Int32)) fun σ32 =>
      gi a4 4 <|
      bnd (sA σ32 25 a4 (0 : Int32)) fun σ34 =>
      gi a4 4 <|
      bnd (sA σ34 26 a4 (0 : Int32)) fun σ36 =>
      bnd (a4 + (1 : Int32)) fun x37 =>
      (fM_tables_l22 N  n22) σ36 a2 a3 x37
def fM_tables (N : Nat) (σ : St) (a1 : Int32) : Option (St × Unit) :=
  bnd (σ.1 5) fun x38 =>
  bnd (sI σ 5 a1) fun σ39 =>
  cal (fM_all N σ39 ) fun σ40 r41 =>
  cal (fM_offsides N σ40 r41) fun σ43 r44 =>
  fM_tables_l22 N  N σ43 x38 r44 (0 : Int32)
def fM_isAbove (N : Nat) (σ : St) (a1 : Int32) (a2 : Int32) : Option (St × Int32) :=
  gi a1 4 <|
  gi a2 4 <|
  if (σ.2.1 24 a1.toNatClampNeg) = (σ.2.1 24 a2.toNatClampNeg) then
    gi a1 4 <|
    gi a1 4 <|
    bnd ((σ.2.1 25 a1.toNatClampNeg) - (σ.2.1 26 a1.toNatClampNeg)) fun x6 =>
    gi a2 4 <|
    gi a2 4 <|
    bnd ((σ.2.1 25 a2.toNatClampNeg) - (σ.2.1 26 a2.toNatClampNeg)) fun x9 =>
    if x6 = x9 then
      gi a1 4 <|
      gi a2 4 <|
      if (σ.2.1 25 a1.toNatClampNeg) ≤ (σ.2.1 25 a2.toNatClampNeg) then
        some (σ, (0 : Int32))
      else
        some (σ, (1 : Int32))
    else
      if x6 ≤ x9 then
        some (σ, (0 : Int32))
      else
        some (σ, (1 : Int32))
  else
    gi a1 4 <|
    gi a2 4 <|
    if (σ.2.1 24 a1.toNatClampNeg) ≤ (σ.2.1 24 a2.toNatClampNeg) then
      some (σ, (0 : Int32))
    else
      some (σ, (1 : Int32))
def fM_rankOf_j24 (N : Nat) (k4 : St → Int32 → Int32 → Int32 → Option (St × Int32)) (σ : St) (a1 : Int32) (a3 : Int32) (t0 : Int32) (t1 : Int32) : Option (St × Int32) :=
  bnd (t0 + t1) fun x1 =>
  bnd (a3 + (1 : Int32)) fun x2 =>
  k4 σ a1 x1 x2
def fM_rankOf_l4 (N : Nat) : Nat → St → Int32 → Int32 → Int32 → Option (St × Int32)
  | 0, _, _, _, _ => none
  | n4 + 1, σ, a1, a2, a3 =>
    if (4 : Int32) ≤ a3 then
      some (σ, a2)
    else
      cal (fM_isAbove N σ a3 a1) fun σ4 r5 =>
      if r5 = 0 then
        fM_rankOf_j24 N (fM_rankOf_l4 N  n4) σ4 a1 a3 a2 (0 : Int32)
      else
        fM_rankOf_j24 N (fM_rankOf_l4 N  n4) σ4 a1 a3 a2 (1 : Int32)
def fM_rankOf (N : Nat) (σ : St) (a1 : Int32) : Option (St × Int32) :=
  fM_rankOf_l4 N  N σ a1 (0 : Int32) (0 : Int32)
def fM_table (N : Nat) (σ : St) (a1 : Int32) (a2 : Int32) (a3 : Int32) : Option (St × Int32) :=
  cal (fM_isWidth N σ a1) fun σ1 r2 =>
  if r2 = 0 then
    some (σ1, (-2 : Int32))
  else
    cal (fM_in N σ1 a2.toInt64 (0 : Int64) (3 : Int64)) fun σ5 r6 =>
    if r6 = 0 then
      some (σ5, (-2 : Int32))
    else
      cal (fM_in N σ5 a3.toInt64 (0 : Int64) (3 : Int64)) fun σ9 r10 =>
      if r10 = 0 then
        some (σ9, (-2 : Int32))
      else
        cal (fM_tables N σ9 a1) fun σ13 r14 =>
        if a3 = 0 then
          gi a2 4 <|
          some (σ13, σ13.2.1 24 a2.toNatClampNeg)
        else
          if a3 = (1 : Int32) then
            gi a2 4 <|
            some (σ13, σ13.2.1 25 a2.toNatClampNeg)
          else
            if a3 = (2 : Int32) then
              gi a2 4 <|
              some (σ13, σ13.2.1 26 a2.toNatClampNeg)
            else
              cal (fM_rankOf N σ13 a2) fun σ19 r20 =>
              some (σ19, r20)
def fM_ranks_l9 (N : Nat) : Nat → St → Int32 → Int32 → Option (St × Int32)
  | 0, _, _, _ => none
  | n9 + 1, σ, a2, a3 =>
    if (4 : Int32) ≤ a3 then
      some (σ, a2)
    else
      cal (fM_rankOf N σ a3) fun σ2 r3 =>
      bnd (((10 : Int32) * a2) + r3) fun x5 =>
      bnd (a3 + (1 : Int32)) fun x6 =>
      (fM_ranks_l9 N  n9) σ2 x5 x6
def fM_ranks (N : Nat) (σ : St) (a1 : Int32) : Option (St × Int32) :=
  cal (fM_tables N σ a1) fun σ7 r8 =>
  fM_ranks_l9 N  N σ7 (0 : Int32) (0 : Int32)
def fM_season_j84 (N : Nat) (k42 : St → Int32 → Int32 → Int32 → Int32 → Option (St × Int32)) (σ : St) (a1 : Int32) (a5 : Int32) (a6 : Int32) (t0 : Int32) (t1 : Int32) : Option (St × Int32) :=
  bnd (t0 + t1) fun x1 =>
  bnd (a5 + (1 : Int32)) fun x2 =>
  k42 σ a1 x1 a6 x2
def fM_season_l42 (N : Nat) : Nat → St → Int32 → Int32 → Int32 → Int32 → Option (St × Int32)
  | 0, _, _, _, _, _ => none
  | n42 + 1, σ, a1, a3, a4, a5 =>
    gi a1 4 <|
    if (σ.2.1 32 a1.toNatClampNeg) ≤ a5 then
      some (σ, a3)
    else
      gi (((40 : Int32) * a1) + a5) 160 <|
      cal (fM_ranks N σ (σ.2.1 33 (((40 : Int32) * a1) + a5).toNatClampNeg)) fun σ6 r7 =>
      if r7 = a4 then
        fM_season_j84 N (fM_season_l42 N  n42) σ6 a1 a5 r7 a3 (0 : Int32)
      else
        fM_season_j84 N (fM_season_l42 N  n42) σ6 a1 a5 r7 a3 (1 : Int32)
def fM_season (N : Nat) (σ : St) (a1 : Int32) : Option (St × Int32) :=
  cal (fM_isSheet N σ a1) fun σ10 r11 =>
  if r11 = 0 then
    some (σ10, (-2 : Int32))
  else
    cal (fM_widths N σ10 a1) fun σ14 r15 =>
    if r15 = 0 then
      gi ((40 : Int32) * a1) 160 <|
      cal (fM_ranks N σ14 (σ14.2.1 33 ((40 : Int32) * a1).toNatClampNeg)) fun σ19 r20 =>
      fM_season_l42 N  N σ19 a1 (0 : Int32) r20 (1 : Int32)
    else
      some (σ14, r15)
def fM_stand_j124 (N : Nat) (σ : St) (a4 : Int32) (a5 : Int32) : Option (St × Int32) :=
  cal (fM_offsides N σ a5) fun σ1 r2 =>
  bnd (sI σ1 19 (0 : Int32)) fun σ4 =>
  bnd (sI σ4 5 a4) fun σ5 =>
  some (σ5, r2)
def fM_stand_j115 (N : Nat) (k70 : St → Int32 → Int32 → Int32 → Int32 → Int32 → Option (St × Int32)) (σ : St) (a1 : Int32) (a3 : Int32) (a4 : Int32) (a6 : Int32) (t0 : Int32) (t1 : Int32) : Option (St × Int32) :=
  bnd (t0 ||| t1) fun x6 =>
  bnd (a6 + (1 : Int32)) fun x7 =>
  k70 σ a1 a3 a4 x6 x7
def fM_stand_j114 (N : Nat) (k70 : St → Int32 → Int32 → Int32 → Int32 → Int32 → Option (St × Int32)) (σ : St) (a1 : Int32) (a3 : Int32) (a4 : Int32) (a6 : Int32) (t0 : Int32) : Option (St × Int32) :=
  fM_stand_j115 N k70 σ a1 a3 a4 a6 t0 (0 : Int32)
def fM_stand_l70 (N : Nat) : Nat → St → Int32 → Int32 → Int32 → Int32 → Int32 → Option (St × Int32)
  | 0, _, _, _, _, _, _ => none
  | n70 + 1, σ, a1, a3, a4, a5, a6 =>
    if (σ.1 23) ≤ a6 then
      fM_stand_j124 N  σ a4 a5
    else
      if ((a3 >>> (a6 &&& 31)) &&& (1 : Int32)) = (1 : Int32) then
        gi a6 24 <|
        gi (σ.2.1 14 a6.toNatClampNeg) 10 <|
        if (σ.2.1 4 (σ.2.1 14 a6.toNatClampNeg).toNatClampNeg) = a1 then
          fM_stand_j115 N (fM_stand_l70 N  n70) σ a1 a3 a4 a6 a5 ((1 : Int32) <<< (a6 &&& 31))
        else
          fM_stand_j114 N (fM_stand_l70 N  n70) σ a1 a3 a4 a6 a5
      else
        fM_stand_j114 N (fM_stand_l70 N  n70) σ a1 a3 a4 a6 a5
def fM_stand (N : Nat) (σ : St) (a1 : Int32) (a2 : Int32) (a3 : Int32) : Option (St × Int32) :=
  cal (fM_in N σ a1.toInt64 (0 : Int64) (3 : Int64)) fun σ13 r14 =>
  if r14 = 0 then
    some (σ13, (-2 : Int32))
  else
    cal (fM_isWidth N σ13 a2) fun σ17 r18 =>
    if r18 = 0 then
      some (σ17, (-2 : Int32))
    else
      cal (fM_all N σ17 ) fun σ21 r22 =>
      cal (fM_in N σ21 a3.toInt64 (0 : Int64) r22.toInt64) fun σ24 r25 =>
      if r25 = 0 then
        some (σ24, (-2 : Int32))
      else
        bnd (σ24.1 5) fun x28 =>
        bnd (sI σ24 18 a1) fun σ29 =>
        bnd (sI σ29 19 ((a2 - (σ29.1 5)) / (2 : Int32))) fun σ30 =>
        bnd (sI σ30 5 a2) fun σ31 =>
        fM_stand_l70 N  N σ31 a1 a3 x28 (0 : Int32) (0 : Int32)
def fM_shown (N : Nat) (σ : St) (a1 : Int32) (a2 : Int32) : Option (St × Int32) :=
  cal (fM_in N σ a1.toInt64 (0 : Int64) (63 : Int64)) fun σ1 r2 =>
  if r2 = 0 then
    some (σ1, (-2 : Int32))
  else
    cal (fM_in N σ1 a2.toInt64 (0 : Int64) (3 : Int64)) fun σ5 r6 =>
    if r6 = 0 then
      some (σ5, (-2 : Int32))
    else
      if (σ5.1 25) = (40 : Int32) then
        some (σ5, (-4 : Int32))
      else
        gi (σ5.1 25) 40 <|
        bnd (sA σ5 27 (σ5.1 25) a1) fun σ11 =>
        gi (σ11.1 25) 40 <|
        bnd (sA σ11 28 (σ11.1 25) a2) fun σ13 =>
        bnd (sI σ13 25 ((σ13.1 25) + (1 : Int32))) fun σ14 =>
        some (σ14, (σ14.1 25) - (1 : Int32))
def fM_bitsOf_l4 (N : Nat) : Nat → St → Int32 → Int32 → Option (St × Int32)
  | 0, _, _, _ => none
  | n4 + 1, σ, a1, a2 =>
    if a2 = 0 then
      some (σ, a1)
    else
      bnd (a1 + (1 : Int32)) fun x2 =>
      bnd (a2 &&& (a2 - (1 : Int32))) fun x3 =>
      (fM_bitsOf_l4 N  n4) σ x2 x3
def fM_bitsOf (N : Nat) (σ : St) (a0 : Int32) : Option (St × Int32) :=
  fM_bitsOf_l4 N  N σ (0 : Int32) a0
def fM_split_j124 (N : Nat) (k4 : St → Int32 → Int32 → Option (St × Int32)) (σ : St) (a1 : Int32) (a2 : Int32) : Option (St × Int32) :=
  bnd (a2 + (1 : Int32)) fun x1 =>
  k4 σ a1 x1
def fM_split_j118 (N : Nat) (k4 : St → Int32 → Int32 → Option (St × Int32)) (σ : St) (a1 : Int32) (a2 : Int32) (a3 : Int32) : Option (St × Int32) :=
  if a3 = 0 then
    fM_split_j124 N k4 σ a1 a2
  else
    fM_split_j124 N k4 σ a2 a2
def fM_split_j112 (N : Nat) (k4 : St → Int32 → Int32 → Option (St × Int32)) (k35 : St → Int32 → Int32 → Int32 → Int32 → Option (St × Int32)) (σ : St) (a1 : Int32) (a2 : Int32) (a3 : Int32) (a4 : Int32) : Option (St × Int32) :=
  bnd (a4 + (1 : Int32)) fun x3 =>
  k35 σ a1 a2 a3 x3
def fM_split_j105 (N : Nat) (k4 : St → Int32 → Int32 → Option (St × Int32)) (k35 : St → Int32 → Int32 → Int32 → Int32 → Option (St × Int32)) (k51 : St → Int32 → Int32 → Int32 → Int32 → Int32 → Option (St × Int32)) (σ : St) (a1 : Int32) (a2 : Int32) (a4 : Int32) (a5 : Int32) (t0 : Int32) : Option (St × Int32) :=
  bnd (a5 + (1 : Int32)) fun x4 =>
  k51 σ a1 a2 t0 a4 x4
def fM_split_j100 (N : Nat) (k4 : St → Int32 → Int32 → Option (St × Int32)) (k35 : St → Int32 → Int32 → Int32 → Int32 → Option (St × Int32)) (k51 : St → Int32 → Int32 → Int32 → Int32 → Int32 → Option (St × Int32)) (σ : St) (a1 : Int32) (a2 : Int32) (a4 : Int32) (a5 : Int32) : Option (St × Int32) :=
  fM_split_j105 N k4 k35 k51 σ a1 a2 a4 a5 (1 : Int32)
def fM_split_l51 (N : Nat) (k4 : St → Int32 → Int32 → Option (St × Int32)) (k35 : St → Int32 → Int32 → Int32 → Int32 → Option (St × Int32)) : Nat → St → Int32 → Int32 → Int32 → Int32 → Int32 → Option (St × Int32)
  | 0, _, _, _, _, _, _ => none
  | n51 + 1, σ, a1, a2, a3, a4, a5 =>
    if a4 ≤ a5 then
      fM_split_j112 N k4 k35 σ a1 a2 a3 a4
    else
      if a3 = 0 then
        fM_split_j112 N k4 k35 σ a1 a2 a3 a4
      else
        gi a4 40 <|
        gi a5 40 <|
        if ((σ.2.1 27 a4.toNatClampNeg) &&& a2) = ((σ.2.1 27 a5.toNatClampNeg) &&& a2) then
          gi a4 40 <|
          gi a5 40 <|
          if (σ.2.1 28 a4.toNatClampNeg) = (σ.2.1 28 a5.toNatClampNeg) then
            fM_split_j100 N k4 k35 (fM_split_l51 N k4 k35 n51) σ a1 a2 a4 a5
          else
            fM_split_j105 N k4 k35 (fM_split_l51 N k4 k35 n51) σ a1 a2 a4 a5 (0 : Int32)
        else
          fM_split_j100 N k4 k35 (fM_split_l51 N k4 k35 n51) σ a1 a2 a4 a5
def fM_split_l35 (N : Nat) (k4 : St → Int32 → Int32 → Option (St × Int32)) : Nat → St → Int32 → Int32 → Int32 → Int32 → Option (St × Int32)
  | 0, _, _, _, _, _ => none
  | n35 + 1, σ, a1, a2, a3, a4 =>
    if (σ.1 25) ≤ a4 then
      fM_split_j118 N k4 σ a1 a2 a3
    else
      if a3 = 0 then
        fM_split_j118 N k4 σ a1 a2 a3
      else
        fM_split_l51 N k4 (fM_split_l35 N k4 n35) N σ a1 a2 a3 a4 (0 : Int32)
def fM_split_j31 (N : Nat) (k4 : St → Int32 → Int32 → Option (St × Int32)) (σ : St) (a1 : Int32) (a2 : Int32) (t0 : Int32) : Option (St × Int32) :=
  fM_split_l35 N k4 N σ a1 a2 t0 (0 : Int32)
def fM_split_j26 (N : Nat) (k4 : St → Int32 → Int32 → Option (St × Int32)) (σ : St) (a1 : Int32) (a2 : Int32) : Option (St × Int32) :=
  fM_split_j31 N k4 σ a1 a2 (1 : Int32)
def fM_split_l4 (N : Nat) : Nat → St → Int32 → Int32 → Option (St × Int32)
  | 0, _, _, _ => none
  | n4 + 1, σ, a1, a2 =>
    if (64 : Int32) ≤ a2 then
      some (σ, a1)
    else
      if a1 = (-1 : Int32) then
        fM_split_j26 N (fM_split_l4 N  n4) σ a1 a2
      else
        cal (fM_bitsOf N σ a2) fun σ17 r18 =>
        cal (fM_bitsOf N σ17 a1) fun σ20 r21 =>
        if r21 ≤ r18 then
          fM_split_j31 N (fM_split_l4 N  n4) σ20 a1 a2 (0 : Int32)
        else
          fM_split_j26 N (fM_split_l4 N  n4) σ20 a1 a2
def fM_split (N : Nat) (σ : St) : Option (St × Int32) :=
  fM_split_l4 N  N σ (-1 : Int32) (0 : Int32)
def fM_image_j107 (N : Nat) (k31 : St → Int32 → Option (St × Int32)) (σ : St) (a1 : Int32) : Option (St × Int32) :=
  bnd (a1 + (1 : Int32)) fun x1 =>
  k31 σ x1
def fM_image_l73 (N : Nat) (k31 : St → Int32 → Option (St × Int32)) : Nat → St → Int32 → Int32 → Option (St × Int32)
  | 0, _, _, _ => none
  | n73 + 1, σ, a1, a2 =>
    if (4 : Int32) ≤ a2 then
      fM_image_j107 N k31 σ a1
    else
      gi (((4 : Int32) * a1) + a2) 40 <|
      gi ((((6 : Int32) * a1) + (2 : Int32)) + a2) 60 <|
      bnd (sA σ 29 ((((6 : Int32) * a1) + (2 : Int32)) + a2) (σ.2.1 7 (((4 : Int32) * a1) + a2).toNatClampNeg)) fun σ5 =>
      bnd (a2 + (1 : Int32)) fun x6 =>
      (fM_image_l73 N k31 n73) σ5 a1 x6
def fM_image_l31 (N : Nat) : Nat → St → Int32 → Option (St × Int32)
  | 0, _, _ => none
  | n31 + 1, σ, a1 =>
    if (σ.1 4) ≤ a1 then
      some (σ, σ.1 5)
    else
      gi a1 10 <|
      gi ((6 : Int32) * a1) 60 <|
      bnd (sA σ 29 ((6 : Int32) * a1) (σ.2.1 5 a1.toNatClampNeg)) fun σ10 =>
      gi a1 10 <|
      gi (((6 : Int32) * a1) + (1 : Int32)) 60 <|
      bnd (sA σ10 29 (((6 : Int32) * a1) + (1 : Int32)) (σ10.2.1 6 a1.toNatClampNeg)) fun σ13 =>
      fM_image_l73 N (fM_image_l31 N  n31) N σ13 a1 (0 : Int32)
def fM_image (N : Nat) (σ : St) : Option (St × Int32) :=
  bnd (sI σ 26 (1 : Int32)) fun σ14 =>
  bnd (sI σ14 27 (σ14.1 4)) fun σ15 =>
  bnd (sI σ15 28 (σ15.1 5)) fun σ16 =>
  bnd (sI σ16 29 (σ16.1 2)) fun σ17 =>
  fM_image_l31 N  N σ17 (0 : Int32)
def fM_back_j104 (N : Nat) (k28 : St → Int32 → Option (St × Int32)) (σ : St) (a1 : Int32) : Option (St × Int32) :=
  bnd (a1 + (1 : Int32)) fun x1 =>
  k28 σ x1
def fM_back_l70 (N : Nat) (k28 : St → Int32 → Option (St × Int32)) : Nat → St → Int32 → Int32 → Option (St × Int32)
  | 0, _, _, _ => none
  | n70 + 1, σ, a1, a2 =>
    if (4 : Int32) ≤ a2 then
      fM_back_j104 N k28 σ a1
    else
      gi ((((6 : Int32) * a1) + (2 : Int32)) + a2) 60 <|
      gi (((4 : Int32) * a1) + a2) 40 <|
      bnd (sA σ 7 (((4 : Int32) * a1) + a2) (σ.2.1 29 ((((6 : Int32) * a1) + (2 : Int32)) + a2).toNatClampNeg)) fun σ5 =>
      bnd (a2 + (1 : Int32)) fun x6 =>
      (fM_back_l70 N k28 n70) σ5 a1 x6
def fM_back_l28 (N : Nat) : Nat → St → Int32 → Option (St × Int32)
  | 0, _, _ => none
  | n28 + 1, σ, a1 =>
    if (σ.1 27) ≤ a1 then
      some (σ, σ.1 5)
    else
      gi ((6 : Int32) * a1) 60 <|
      gi a1 10 <|
      bnd (sA σ 5 a1 (σ.2.1 29 ((6 : Int32) * a1).toNatClampNeg)) fun σ10 =>
      gi (((6 : Int32) * a1) + (1 : Int32)) 60 <|
      gi a1 10 <|
      bnd (sA σ10 6 a1 (σ10.2.1 29 (((6 : Int32) * a1) + (1 : Int32)).toNatClampNeg)) fun σ13 =>
      fM_back_l70 N (fM_back_l28 N  n28) N σ13 a1 (0 : Int32)
def fM_back (N : Nat) (σ : St) : Option (St × Int32) :=
  if (σ.1 26) = 0 then
    some (σ, (-3 : Int32))
  else
    bnd (sI σ 5 (σ.1 28)) fun σ15 =>
    bnd (sI σ15 2 (σ15.1 29)) fun σ16 =>
    fM_back_l28 N  N σ16 (0 : Int32)
def fM_count (N : Nat) (σ : St) (a1 : Int32) : Option (St × Int32) :=
  if a1 = (0 : Int32) then
    some (σ, σ.1 4)
  else
  if a1 = (1 : Int32) then
    some (σ, σ.1 21)
  else
  if a1 = (2 : Int32) then
    some (σ, σ.1 22)
  else
  if a1 = (3 : Int32) then
    some (σ, σ.1 23)
  else
  if a1 = (4 : Int32) then
    some (σ, σ.1 24)
  else
  if a1 = (5 : Int32) then
    some (σ, σ.1 25)
  else
  if a1 = (6 : Int32) then
    some (σ, σ.1 1)
  else
  if a1 = (7 : Int32) then
    some (σ, σ.1 3)
  else
  if a1 = (8 : Int32) then
    some (σ, σ.1 2)
  else
  if a1 = (9 : Int32) then
    some (σ, σ.1 5)
  else
  some (σ, (-2 : Int32))
def fM_sheet_l77 (N : Nat) : Nat → St → Int32 → Int32 → Int32 → Int32 → Option (St × Int32)
  | 0, _, _, _, _, _ => none
  | n77 + 1, σ, a1, a2, a3, a4 =>
    if a3 ≤ a4 then
      some (σ, (1 : Int32))
    else
      if a2 < 0 then
        some (σ, (1 : Int32))
      else
        gi (((40 : Int32) * a1) + a4) 160 <|
        bnd (sA σ 33 (((40 : Int32) * a1) + a4) (0 : Int32)) fun σ4 =>
        bnd (a4 + (1 : Int32)) fun x5 =>
        (fM_sheet_l77 N  n77) σ4 a1 a2 a3 x5
def fM_sheet_j59 (N : Nat) (σ : St) (a1 : Int32) (a2 : Int32) (a3 : Int32) (t1 : Int32) (t2 : Int32) : Option (St × Int32) :=
  gi t1 4 <|
  bnd (sA σ 30 t1 (vp_nar .boolean t2)) fun σ7 =>
  gi a1 4 <|
  bnd (sA σ7 31 a1 a2) fun σ9 =>
  gi a1 4 <|
  bnd (sA σ9 32 a1 a3) fun σ11 =>
  fM_sheet_l77 N  N σ11 a1 a2 a3 (0 : Int32)
def fM_sheet_j45 (N : Nat) (σ : St) (a1 : Int32) (a2 : Int32) (a3 : Int32) : Option (St × Int32) :=
  if a2 < 0 then
    fM_sheet_j59 N  σ a1 a2 a3 a1 (0 : Int32)
  else
    fM_sheet_j59 N  σ a1 a2 a3 a1 (1 : Int32)
def fM_sheet_j34 (N : Nat) (σ : St) (a1 : Int32) (a2 : Int32) (a3 : Int32) : Option (St × Int32) :=
  if a2 < 0 then
    fM_sheet_j45 N  σ a1 a2 a3
  else
    if 0 ≤ a3 then
      fM_sheet_j45 N  σ a1 a2 a3
    else
      some (σ, (-14 : Int32))
def fM_sheet (N : Nat) (σ : St) (a1 : Int32) (a2 : Int32) (a3 : Int32) : Option (St × Int32) :=
  cal (fM_isSheet N σ a1) fun σ15 r16 =>
  if r16 = 0 then
    some (σ15, (-2 : Int32))
  else
    cal (fM_in N σ15 a2.toInt64 (-1 : Int64) (2 : Int64)) fun σ19 r20 =>
    if r20 = 0 then
      some (σ19, (-2 : Int32))
    else
      if a2 < 0 then
        fM_sheet_j34 N  σ19 a1 a2 a3
      else
        if a3 ≤ (40 : Int32) then
          fM_sheet_j34 N  σ19 a1 a2 a3
        else
          some (σ19, (-2 : Int32))
def fM_cell_j83 (N : Nat) (σ : St) (t1 : Int32) (t2 : Int32) : Option (St × Int32) :=
  gi t1 160 <|
  bnd (sA σ 33 t1 t2) fun σ2 =>
  some (σ2, (1 : Int32))
def fM_cell (N : Nat) (σ : St) (a1 : Int32) (a2 : Int32) (a3 : Int32) : Option (St × Int32) :=
  cal (fM_isSheet N σ a1) fun σ3 r4 =>
  if r4 = 0 then
    some (σ3, (-2 : Int32))
  else
    gi a1 4 <|
    if (σ3.2.1 30 a1.toNatClampNeg) = 0 then
      some (σ3, (-11 : Int32))
    else
      gi a1 4 <|
      cal (fM_in N σ3 a2.toInt64 (0 : Int64) (((σ3.2.1 32 a1.toNatClampNeg) - (1 : Int32)).toInt64)) fun σ10 r11 =>
      if r11 = 0 then
        some (σ10, (-12 : Int32))
      else
        gi a1 4 <|
        if (σ10.2.1 31 a1.toNatClampNeg) = 0 then
          fM_cell_j83 N  σ10 (((40 : Int32) * a1) + a2) a3.toInt8.toInt32
        else
          gi a1 4 <|
          if (σ10.2.1 31 a1.toNatClampNeg) = (1 : Int32) then
            fM_cell_j83 N  σ10 (((40 : Int32) * a1) + a2) a3.toInt16.toInt32
          else
            fM_cell_j83 N  σ10 (((40 : Int32) * a1) + a2) a3
def fM_copy_j145 (N : Nat) (k121 : St → Int32 → Int32 → Int32 → Int32 → Int32 → Int32 → Int32 → Option (St × Int32)) (σ : St) (a1 : Int32) (a2 : Int32) (a3 : Int32) (a4 : Int32) (a5 : Int32) (a6 : Int32) (a7 : Int32) (t0 : Int32) : Option (St × Int32) :=
  gi ((((40 : Int32) * a1) + a2) + t0) 160 <|
  gi ((((40 : Int32) * a3) + a4) + t0) 160 <|
  bnd (sA σ 33 ((((40 : Int32) * a3) + a4) + t0) (σ.2.1 33 ((((40 : Int32) * a1) + a2) + t0).toNatClampNeg)) fun σ3 =>
  bnd (a7 + (1 : Int32)) fun x4 =>
  k121 σ3 a1 a2 a3 a4 a5 a6 x4
def fM_copy_l121 (N : Nat) : Nat → St → Int32 → Int32 → Int32 → Int32 → Int32 → Int32 → Int32 → Option (St × Int32)
  | 0, _, _, _, _, _, _, _, _ => none
  | n121 + 1, σ, a1, a2, a3, a4, a5, a6, a7 =>
    if a5 ≤ a7 then
      some (σ, a5)
    else
      if a6 = 0 then
        fM_copy_j145 N (fM_copy_l121 N  n121) σ a1 a2 a3 a4 a5 a6 a7 a7
      else
        fM_copy_j145 N (fM_copy_l121 N  n121) σ a1 a2 a3 a4 a5 a6 a7 ((a5 - (1 : Int32)) - a7)
def fM_copy_j116 (N : Nat) (σ : St) (a1 : Int32) (a2 : Int32) (a3 : Int32) (a4 : Int32) (a5 : Int32) (t0 : Int32) : Option (St × Int32) :=
  fM_copy_l121 N  N σ a1 a2 a3 a4 a5 t0 (0 : Int32)
def fM_copy_j115 (N : Nat) (σ : St) (a1 : Int32) (a2 : Int32) (a3 : Int32) (a4 : Int32) (a5 : Int32) : Option (St × Int32) :=
  fM_copy_j116 N  σ a1 a2 a3 a4 a5 (0 : Int32)
def fM_copy (N : Nat) (σ : St) (a1 : Int32) (a2 : Int32) (a3 : Int32) (a4 : Int32) (a5 : Int32) : Option (St × Int32) :=
  cal (fM_isSheet N σ a1) fun σ7 r8 =>
  if r8 = 0 then
    some (σ7, (-2 : Int32))
  else
    cal (fM_isSheet N σ7 a3) fun σ11 r12 =>
    if r12 = 0 then
      some (σ11, (-2 : Int32))
    else
      gi a1 4 <|
      if (σ11.2.1 30 a1.toNatClampNeg) = 0 then
        some (σ11, (-11 : Int32))
      else
        gi a3 4 <|
        if (σ11.2.1 30 a3.toNatClampNeg) = 0 then
          some (σ11, (-11 : Int32))
        else
          gi a1 4 <|
          gi a3 4 <|
          if (σ11.2.1 31 a1.toNatClampNeg) = (σ11.2.1 31 a3.toNatClampNeg) then
            if a5 < 0 then
              some (σ11, (-12 : Int32))
            else
              if a2 < 0 then
                some (σ11, (-12 : Int32))
              else
                if a4 < 0 then
                  some (σ11, (-12 : Int32))
                else
                  gi a1 4 <|
                  if ((σ11.2.1 32 a1.toNatClampNeg) - a5) < a2 then
                    some (σ11, (-12 : Int32))
                  else
                    gi a3 4 <|
                    if a4 ≤ ((σ11.2.1 32 a3.toNatClampNeg) - a5) then
                      if a1 = a3 then
                        if a4 ≤ a2 then
                          fM_copy_j115 N  σ11 a1 a2 a3 a4 a5
                        else
                          fM_copy_j116 N  σ11 a1 a2 a3 a4 a5 (1 : Int32)
                      else
                        fM_copy_j115 N  σ11 a1 a2 a3 a4 a5
                    else
                      some (σ11, (-12 : Int32))
          else
            some (σ11, (-13 : Int32))
def fM_men_j158 (N : Nat) (k75 : St → Int32 → Int32 → Int32 → Int32 → Int32 → Option (St × Int32)) (σ : St) (a1 : Int32) (a3 : Int32) (a4 : Int32) (a6 : Int32) (t0 : Int32) (t1 : Int32) : Option (St × Int32) :=
  bnd (t0 + t1) fun x1 =>
  bnd (a6 + (1 : Int32)) fun x2 =>
  k75 σ a1 a3 a4 x1 x2
def fM_men_l75 (N : Nat) : Nat → St → Int32 → Int32 → Int32 → Int32 → Int32 → Option (St × Int32)
  | 0, _, _, _, _, _, _ => none
  | n75 + 1, σ, a1, a3, a4, a5, a6 =>
    if a4 ≤ a6 then
      some (σ, a5)
    else
      if a3 < 0 then
        some (σ, (-12 : Int32))
      else
        gi a1 4 <|
        if a3 ≤ (((σ.2.1 32 a1.toNatClampNeg) - ((3 : Int32) * a6)) - (3 : Int32)) then
          bnd ((((40 : Int32) * a1) + a3) + ((3 : Int32) * a6)) fun x7 =>
          gi x7 160 <|
          gi (x7 + (1 : Int32)) 160 <|
          gi (x7 + (2 : Int32)) 160 <|
          cal (fM_man N σ (σ.2.1 33 x7.toNatClampNeg) (σ.2.1 33 (x7 + (1 : Int32)).toNatClampNeg) (σ.2.1 33 (x7 + (2 : Int32)).toNatClampNeg)) fun σ11 r12 =>
          if r12 < 0 then
            fM_men_j158 N (fM_men_l75 N  n75) σ11 a1 a3 a4 a6 a5 (0 : Int32)
          else
            fM_men_j158 N (fM_men_l75 N  n75) σ11 a1 a3 a4 a6 a5 (1 : Int32)
        else
          some (σ, (-12 : Int32))
def fM_men_j57 (N : Nat) (σ : St) (a1 : Int32) (a3 : Int32) (a4 : Int32) : Option (St × Int32) :=
  gi a1 4 <|
  if (σ.2.1 30 a1.toNatClampNeg) = 0 then
    some (σ, (-11 : Int32))
  else
    fM_men_l75 N  N σ a1 a3 a4 (0 : Int32) (0 : Int32)
def fM_men (N : Nat) (σ : St) (a1 : Int32) (a2 : Int32) (a3 : Int32) (a4 : Int32) : Option (St × Int32) :=
  cal (fM_isSheet N σ a1) fun σ17 r18 =>
  if r18 = 0 then
    some (σ17, (-2 : Int32))
  else
    cal (fM_in N σ17 a2.toInt64 (0 : Int64) (2 : Int64)) fun σ21 r22 =>
    if r22 = 0 then
      some (σ21, (-2 : Int32))
    else
      cal (fM_in N σ21 a4.toInt64 (0 : Int64) (10 : Int64)) fun σ25 r26 =>
      if r26 = 0 then
        some (σ25, (-2 : Int32))
      else
        gi a1 4 <|
        if (σ25.2.1 30 a1.toNatClampNeg) = 0 then
          fM_men_j57 N  σ25 a1 a3 a4
        else
          gi a1 4 <|
          if (σ25.2.1 31 a1.toNatClampNeg) = a2 then
            fM_men_j57 N  σ25 a1 a3 a4
          else
            some (σ25, (-13 : Int32))
def fM_over (N : Nat) (σ : St) (a0 : Int32) : Option (St × Int32) :=
  if a0 = 0 then
    some (σ, (-1 : Int32))
  else
    if a0 = (3 : Int32) then
      some (σ, (2 : Int32))
    else
      if a0 = (5 : Int32) then
        some (σ, (2 : Int32))
      else
        if a0 = (4 : Int32) then
          some (σ, (1 : Int32))
        else
          some (σ, (0 : Int32))
def fM_taken_j51 (N : Nat) (σ : St) (a1 : Int32) (a2 : Int32) (a3 : Int32) : Option (St × Int32) :=
  if a3 = a2 then
    gi a1 24 <|
    some (σ, σ.2.1 16 a1.toNatClampNeg)
  else
    some (σ, (-13 : Int32))
def fM_taken_l33 (N : Nat) : Nat → St → Int32 → Int32 → Int32 → Option (St × Int32)
  | 0, _, _, _, _ => none
  | n33 + 1, σ, a1, a2, a3 =>
    if a3 = (-1 : Int32) then
      fM_taken_j51 N  σ a1 a2 a3
    else
      if a3 = a2 then
        fM_taken_j51 N  σ a1 a2 a3
      else
        cal (fM_over N σ a3) fun σ5 r6 =>
        (fM_taken_l33 N  n33) σ5 a1 a2 r6
def fM_taken (N : Nat) (σ : St) (a1 : Int32) (a2 : Int32) : Option (St × Int32) :=
  cal (fM_in N σ a2.toInt64 (0 : Int64) (5 : Int64)) fun σ8 r9 =>
  if r9 = 0 then
    some (σ8, (-2 : Int32))
  else
    cal (fM_isCall N σ8 a1) fun σ12 r13 =>
    if r13 = 0 then
      some (σ12, (-11 : Int32))
    else
      gi a1 24 <|
      bnd (σ12.2.1 13 a1.toNatClampNeg) fun x17 =>
      fM_taken_l33 N  N σ12 a1 a2 x17
def σM0 : St := (fun _ => 0, fun _ _ => 0, fun _ => 0)
def fM_init (N : Nat) (σ : St) : Option (St × Unit) :=
  cal (fM_spell N σ (0 : Int32) (7165074649424883311 : Int64)) fun σ1 r2 =>
  cal (fM_spell N σ1 (8 : Int32) (8367811671488733245 : Int64)) fun σ4 r5 =>
  cal (fM_spell N σ4 (16 : Int32) (2319389246415070561 : Int64)) fun σ7 r8 =>
  cal (fM_spell N σ7 (24 : Int32) (8223704214119147552 : Int64)) fun σ10 r11 =>
  cal (fM_spell N σ10 (32 : Int32) (4260528858286596145 : Int64)) fun σ13 r14 =>
  cal (fM_spell N σ13 (40 : Int32) (2322485355189641248 : Int64)) fun σ16 r17 =>
  gi (0 : Int32) 6 <|
  bnd (sA σ16 2 (0 : Int32) (48 : Int32)) fun σ20 =>
  bnd (sI σ20 1 (1 : Int32)) fun σ21 =>
  some (σ21, ())
