def kB_at (σ : Mem) (x1 : Int32) : Option (Option Nat × Mem) :=
  if x1 < 0 then
      some (none, σ)
    else
      if (mI σ 5 0 1) ≤ x1 then
        some (none, σ)
      else
        if 40 ≤ x1 then
          some (none, σ)
        else
          if inR x1 40 then
          (mR σ 6 0 (ix x1)).elim
            (some (none, σ))
            (fun j2 => some ((some j2), σ))
          else none
def kB_isFull (σ : Mem) : Option (Int32 × Mem) :=
  if (mI σ 5 0 1) < 40 then
      some (0, σ)
    else
      some (1, σ)
def kB_enter (σ : Mem) (x1 : Nat) : Option (Int32 × Mem) :=
  if (mI σ 5 0 1) < 0 then
      some ((-1), σ)
    else
      if (mI σ 5 0 1) < 40 then
        if inR (mI σ 5 0 1) 40 then
        some ((mI (sI (sR σ 6 0 (ix (mI σ 5 0 1)) (some x1)) 5 0 1 ((mI (sR σ 6 0 (ix (mI σ 5 0 1)) (some x1)) 5 0 1) + 1)) 5 0 1) - 1, sI (sR σ 6 0 (ix (mI σ 5 0 1)) (some x1)) 5 0 1 ((mI (sR σ 6 0 (ix (mI σ 5 0 1)) (some x1)) 5 0 1) + 1))
        else none
      else
        some ((-1), σ)
def kQ_stands (σ : Mem) (x0 : Nat) : Option (Int32 × Mem) :=
  if (mI σ 21 x0 3) = 0 then
      some (1, σ)
    else
      if (mI σ 21 x0 3) = 1 then
        some (1, σ)
      else
        if (mI σ 21 x0 3) = 2 then
          some (1, σ)
        else
          some (0, σ)
def kB_standingCount_s4 : Int32 × Int32 × Mem → Option ((Int32 × Int32 × Mem) ⊕ (Int32 × Mem))
  | (x1, x2, σ) => if (mI σ 5 0 1) ≤ x2 then
        some (.inr (x1, σ))
      else
        (kB_at σ x2).bind (fun x => (fun (r1 : Option Nat) (σ2 : Mem) =>
        (r1).elim
          (some (.inl ((x1 + 0), (x2 + 1), σ2)))
          (fun j3 => (kQ_stands σ2 j3).bind (fun x => (fun (r4 : Int32) (σ5 : Mem) =>
            if r4 = 0 then
              some (.inl ((x1 + 0), (x2 + 1), σ5))
            else
              some (.inl ((x1 + 1), (x2 + 1), σ5))) x.1 x.2))) x.1 x.2)
def kB_standingCount_x43 (σ : Mem) (x1 : Int32) : Option (Int32 × Mem) :=
  some (x1, σ)
def kB_standingCount (σ : Mem) : Option (Int32 × Mem) :=
  (loopF FU (kB_standingCount_s4) (0, 0, σ)).bind (fun s => kB_standingCount_x43 s.2 s.1)
def kQ_isAhead (σ : Mem) (x0 : Nat) : Option (Int32 × Mem) :=
  if (mI σ 21 x0 3) = 0 then
      some (1, σ)
    else
      if (mI σ 21 x0 3) = 1 then
        some (1, σ)
      else
        some (0, σ)
def kQ_covers (σ : Mem) (x0 : Nat) (x1 : Int32) : Option (Int32 × Mem) :=
  if x1 < (mI σ 21 x0 4) then
      some (0, σ)
    else
      if (mI σ 21 x0 5) ≤ x1 then
        some (0, σ)
      else
        some (1, σ)
def kB_missNight_s2 (x1 : Int32) : Int32 × Mem → Option ((Int32 × Mem) ⊕ (Mem))
  | (x2, σ) => if (mI σ 5 0 1) ≤ x2 then
        some (.inr σ)
      else
        (kB_at σ x2).bind (fun x => (fun (r1 : Option Nat) (σ2 : Mem) =>
        (r1).elim
          (some (.inl ((x2 + 1), σ2)))
          (fun j3 => (kQ_isAhead σ2 j3).bind (fun x => (fun (r4 : Int32) (σ5 : Mem) =>
            if r4 = 0 then
              some (.inl ((x2 + 1), σ5))
            else
              (kQ_covers σ5 j3 x1).bind (fun x => (fun (r6 : Int32) (σ7 : Mem) =>
              if r6 = 0 then
                some (.inl ((x2 + 1), σ7))
              else
                some (.inl ((x2 + 1), sI σ7 21 j3 3 6))) x.1 x.2)) x.1 x.2))) x.1 x.2)
def kB_missNight_x47 (σ : Mem) : Option (Unit × Mem) :=
  some ((), σ)
def kB_missNight (σ : Mem) (x1 : Int32) : Option (Unit × Mem) :=
  (loopF FU (kB_missNight_s2 x1) (0, σ)).bind (fun s => kB_missNight_x47 s)
def kG_isNight (σ : Mem) (x0 : Int32) : Option (Int32 × Mem) :=
  if x0 < 0 then
      some (0, σ)
    else
      if 60 ≤ x0 then
        some (0, σ)
      else
        some (1, σ)
def kQ_spotIn (σ : Mem) (x0 : Nat) (x1 : Int32) : Option (Int32 × Mem) :=
  (kG_isNight σ x1).bind (fun x => (fun (r1 : Int32) (σ2 : Mem) =>
    if r1 = 0 then
      some ((-1), σ2)
    else
      if inR x1 60 then
      some (mI σ2 22 x0 (ix x1), σ2)
      else none) x.1 x.2)
def kB_walkFrom_s4 (x1 : Int32) : Int32 × Int32 × Mem → Option ((Int32 × Int32 × Mem) ⊕ (Int32 × Mem))
  | (x2, x3, σ) => if (mI σ 5 0 1) ≤ x3 then
        some (.inr (x2, σ))
      else
        (kB_at σ x3).bind (fun x => (fun (r1 : Option Nat) (σ2 : Mem) =>
        (r1).elim
          (some (.inl (x2, (x3 + 1), σ2)))
          (fun j3 => if (mI σ2 21 j3 3) = 2 then
              (kQ_covers σ2 j3 x1).bind (fun x => (fun (r4 : Int32) (σ5 : Mem) =>
              if r4 = 0 then
                some (.inl (x2, (x3 + 1), σ5))
              else
                (kQ_spotIn σ5 j3 x1).bind (fun x => (fun (r6 : Int32) (σ7 : Mem) =>
                if r6 = (-1) then
                  some (.inl ((x2 + 1), (x3 + 1), sI σ7 21 j3 3 7))
                else
                  some (.inl (x2, (x3 + 1), σ7))) x.1 x.2)) x.1 x.2)
            else
              some (.inl (x2, (x3 + 1), σ2)))) x.1 x.2)
def kB_walkFrom_x68 (σ : Mem) (x2 : Int32) : Option (Int32 × Mem) :=
  some (x2, σ)
def kB_walkFrom (σ : Mem) (x1 : Int32) : Option (Int32 × Mem) :=
  (loopF FU (kB_walkFrom_s4 x1) (0, 0, σ)).bind (fun s => kB_walkFrom_x68 s.2 s.1)
def kB_turnTo_j47 (σ : Mem) (x1 : Int32) (x2 : Int32) (x3 : Option Nat) : Option (Int32 × Mem ⊕ (Mem)) :=
  (x3).elim
      (none)
      (fun j4 => if (mI σ 21 j4 3) = 0 then
          if x1 ≤ (mI σ 21 j4 2) then
            some (.inl ((x2 + 1), σ))
          else
            some (.inl ((x2 + 1), sI σ 21 j4 3 5))
        else
          some (.inl ((x2 + 1), σ)))
def kB_turnTo_s2 (x1 : Int32) : Int32 × Mem → Option ((Int32 × Mem) ⊕ (Mem))
  | (x2, σ) => if (mI σ 5 0 1) ≤ x2 then
        some (.inr σ)
      else
        (kB_at σ x2).bind (fun x => (fun (r1 : Option Nat) (σ2 : Mem) =>
        (r1).elim
          (some (.inl ((x2 + 1), σ2)))
          (fun j3 => if (mI σ2 21 j3 3) = 2 then
              if (mI σ2 21 j3 5) = x1 then
                some (.inl ((x2 + 1), sI σ2 21 j3 3 3))
              else
                kB_turnTo_j47 σ2 x1 x2 (some j3)
            else
              kB_turnTo_j47 σ2 x1 x2 (some j3))) x.1 x.2)
def kB_turnTo_x73 (σ : Mem) : Option (Unit × Mem) :=
  some ((), σ)
def kB_turnTo (σ : Mem) (x1 : Int32) : Option (Unit × Mem) :=
  (loopF FU (kB_turnTo_s2 x1) (0, σ)).bind (fun s => kB_turnTo_x73 s)
def kH_roomAt (σ : Mem) (x1 : Int32) : Option (Option Nat × Mem) :=
  if x1 < 0 then
      some (none, σ)
    else
      if 16 ≤ x1 then
        some (none, σ)
      else
        if inR x1 16 then
        (mR σ 3 0 (ix x1)).elim
          (some (none, σ))
          (fun j2 => some ((some j2), σ))
        else none
def kG_isPlace (σ : Mem) (x0 : Int32) : Option (Int32 × Mem) :=
  if x0 < 0 then
      some (0, σ)
    else
      if 16 ≤ x0 then
        some (0, σ)
      else
        some (1, σ)
def kH_isEmpty (σ : Mem) (x1 : Int32) : Option (Int32 × Mem) :=
  (kG_isPlace σ x1).bind (fun x => (fun (r1 : Int32) (σ2 : Mem) =>
    if r1 = 0 then
      some (0, σ2)
    else
      if inR x1 16 then
      (mR σ2 3 0 (ix x1)).elim
        (if inR x1 16 then
          if (mI σ2 4 0 (ix x1)) = 0 then
            some (1, σ2)
          else
            some (0, σ2)
          else none)
        (fun j4 => some (0, σ2))
      else none) x.1 x.2)
def kH_kindAt (σ : Mem) (x1 : Int32) : Option (Int32 × Mem) :=
  (kH_roomAt σ x1).bind (fun x => (fun (r1 : Option Nat) (σ2 : Mem) =>
    (r1).elim
      ((kG_isPlace σ2 x1).bind (fun x => (fun (r4 : Int32) (σ5 : Mem) =>
        if r4 = 0 then
          some ((-1), σ5)
        else
          if inR x1 16 then
          if (mI σ5 4 0 (ix x1)) = 0 then
            some ((-1), σ5)
          else
            some (4, σ5)
          else none) x.1 x.2))
      (fun j3 => some (mI σ2 20 j3 0, σ2))) x.1 x.2)
def kH_putRoom (σ : Mem) (x1 : Int32) (x2 : Nat) : Option (Unit × Mem) :=
  (kG_isPlace σ x1).bind (fun x => (fun (r1 : Int32) (σ2 : Mem) =>
    if r1 = 0 then
      some ((), σ2)
    else
      if inR x1 16 then
      some ((), sR σ2 3 0 (ix x1) (some x2))
      else none) x.1 x.2)
def kH_putStore (σ : Mem) (x1 : Int32) : Option (Unit × Mem) :=
  (kG_isPlace σ x1).bind (fun x => (fun (r1 : Int32) (σ2 : Mem) =>
    if r1 = 0 then
      some ((), σ2)
    else
      if inR x1 16 then
      some ((), sI σ2 4 0 (ix x1) (zn 1))
      else none) x.1 x.2)
def kH_join (σ : Mem) (x1 : Int32) : Option (Int32 × Mem) :=
  (kG_isPlace σ x1).bind (fun x => (fun (r1 : Int32) (σ2 : Mem) =>
    if r1 = 0 then
      some (0, σ2)
    else
      (kG_isPlace σ2 (x1 + 1)).bind (fun x => (fun (r3 : Int32) (σ4 : Mem) =>
      if r3 = 0 then
        some (0, σ4)
      else
        if inR x1 16 then
        (mR σ4 3 0 (ix x1)).elim
          (if inR (x1 + 1) 16 then
            (mR σ4 3 0 (ix (x1 + 1))).elim
              (some (0, σ4))
              (fun j8 => some (0, σ4))
            else none)
          (fun j6 => if inR (x1 + 1) 16 then
            (mR σ4 3 0 (ix (x1 + 1))).elim
              (some (0, σ4))
              (fun j10 => if (mI σ4 20 j6 0) = 1 then
                  if (mI σ4 20 j10 0) = 1 then
                    if (mI σ4 20 j6 1) = (mI σ4 20 j10 1) then
                      if (mI σ4 20 j6 3) = (-1) then
                        if (mI σ4 20 j10 3) = (-1) then
                          some (1, sI (sI σ4 20 j6 3 (x1 + 1)) 20 j10 3 x1)
                        else
                          some (0, σ4)
                      else
                        some (0, σ4)
                    else
                      some (0, σ4)
                  else
                    some (0, σ4)
                else
                  some (0, σ4))
            else none)
        else none) x.1 x.2)) x.1 x.2)
def kR_stateIn (σ : Mem) (x0 : Nat) (x1 : Int32) : Option (Int32 × Mem) :=
  if (mI σ 20 x0 4) = 0 then
      if x1 < 0 then
        some ((-1), σ)
      else
        if x1 < (mI σ 20 x0 5) then
          if (lg_cmp (((mL σ 20 x0 6) >>> ((x1 : Int32).toInt64 &&& 63)) &&& 1) 0) = 0 then
            some (1, σ)
          else
            some (0, σ)
        else
          some ((-1), σ)
    else
      some ((-2), σ)
def kR_isOpen (σ : Mem) (x0 : Nat) (x1 : Int32) : Option (Int32 × Mem) :=
  (kR_stateIn σ x0 x1).bind (fun x => (fun (r1 : Int32) (σ2 : Mem) =>
    if r1 = 1 then
      some (1, σ2)
    else
      some (0, σ2)) x.1 x.2)
def kH_isOpenOfKind (σ : Mem) (x1 : Int32) (x2 : Int32) (x3 : Int32) : Option (Int32 × Mem) :=
  (kH_roomAt σ x1).bind (fun x => (fun (r1 : Option Nat) (σ2 : Mem) =>
    (r1).elim
      (some (0, σ2))
      (fun j3 => if (mI σ2 20 j3 0) = x2 then
          (kR_isOpen σ2 j3 x3).bind (fun x => (fun (r4 : Int32) (σ5 : Mem) =>
          if r4 = 0 then
            some (0, σ5)
          else
            some (1, σ5)) x.1 x.2)
        else
          some (0, σ2))) x.1 x.2)
def kR_units (σ : Mem) (x0 : Nat) : Option (Int32 × Mem) :=
  if (mI σ 20 x0 0) = 3 then
      some (mI σ 20 x0 2, σ)
    else
      some (1, σ)
def kH_openUnits_s5 (x1 : Int32) (x2 : Int32) : Int32 × Int32 × Mem → Option ((Int32 × Int32 × Mem) ⊕ (Int32 × Mem))
  | (x3, x4, σ) => if 16 ≤ x4 then
        some (.inr (x3, σ))
      else
        if inR x4 16 then
        (mR σ 3 0 (ix x4)).elim
          (some (.inl (x3, (x4 + 1), σ)))
          (fun j2 => if (mI σ 20 j2 0) = x1 then
              (kR_isOpen σ j2 x2).bind (fun x => (fun (r3 : Int32) (σ4 : Mem) =>
              if r3 = 0 then
                some (.inl (x3, (x4 + 1), σ4))
              else
                (kR_units σ4 j2).bind (fun x => (fun (r5 : Int32) (σ6 : Mem) =>
                some (.inl ((x3 + r5), (x4 + 1), σ6))) x.1 x.2)) x.1 x.2)
            else
              some (.inl (x3, (x4 + 1), σ)))
        else none
def kH_openUnits_x58 (σ : Mem) (x3 : Int32) : Option (Int32 × Mem) :=
  some (x3, σ)
def kH_openUnits (σ : Mem) (x1 : Int32) (x2 : Int32) : Option (Int32 × Mem) :=
  (loopF FU (kH_openUnits_s5 x1 x2) (0, 0, σ)).bind (fun s => kH_openUnits_x58 s.2 s.1)
def kH_roomCount_s4 : Int32 × Int32 × Mem → Option ((Int32 × Int32 × Mem) ⊕ (Int32 × Mem))
  | (x1, x2, σ) => if 16 ≤ x2 then
        some (.inr (x1, σ))
      else
        if inR x2 16 then
        (mR σ 3 0 (ix x2)).elim
          (some (.inl ((x1 + 0), (x2 + 1), σ)))
          (fun j2 => some (.inl ((x1 + 1), (x2 + 1), σ)))
        else none
def kH_roomCount_x33 (σ : Mem) (x1 : Int32) : Option (Int32 × Mem) :=
  some (x1, σ)
def kH_roomCount (σ : Mem) : Option (Int32 × Mem) :=
  (loopF FU (kH_roomCount_s4) (0, 0, σ)).bind (fun s => kH_roomCount_x33 s.2 s.1)
def kH_storeCount_s4 : Int32 × Int32 × Mem → Option ((Int32 × Int32 × Mem) ⊕ (Int32 × Mem))
  | (x1, x2, σ) => if 16 ≤ x2 then
        some (.inr (x1, σ))
      else
        if inR x2 16 then
        if (mI σ 4 0 (ix x2)) = 0 then
          some (.inl ((x1 + 0), (x2 + 1), σ))
        else
          some (.inl ((x1 + 1), (x2 + 1), σ))
        else none
def kH_storeCount_x33 (σ : Mem) (x1 : Int32) : Option (Int32 × Mem) :=
  some (x1, σ)
def kH_storeCount (σ : Mem) : Option (Int32 × Mem) :=
  (loopF FU (kH_storeCount_s4) (0, 0, σ)).bind (fun s => kH_storeCount_x33 s.2 s.1)
def kH_doorCount_s4 : Int32 × Int32 × Mem → Option ((Int32 × Int32 × Mem) ⊕ (Int32 × Mem))
  | (x1, x2, σ) => if 16 ≤ x2 then
        some (.inr (x1, σ))
      else
        if inR x2 16 then
        (mR σ 3 0 (ix x2)).elim
          (some (.inl ((x1 + 0), (x2 + 1), σ)))
          (fun j2 => if (mI σ 20 j2 3) ≤ x2 then
              some (.inl ((x1 + 0), (x2 + 1), σ))
            else
              some (.inl ((x1 + 1), (x2 + 1), σ)))
        else none
def kH_doorCount_x43 (σ : Mem) (x1 : Int32) : Option (Int32 × Mem) :=
  some (x1, σ)
def kH_doorCount (σ : Mem) : Option (Int32 × Mem) :=
  (loopF FU (kH_doorCount_s4) (0, 0, σ)).bind (fun s => kH_doorCount_x43 s.2 s.1)
def kQ_setSpot (σ : Mem) (x0 : Nat) (x1 : Int32) (x2 : Int32) : Option (Unit × Mem) :=
  (kG_isNight σ x1).bind (fun x => (fun (r1 : Int32) (σ2 : Mem) =>
    if r1 = 0 then
      some ((), σ2)
    else
      if inR x1 60 then
      some ((), sI σ2 22 x0 (ix x1) x2)
      else none) x.1 x.2)
def kP_gather_s7 (x1 : Int32) : Int32 × Mem → Option ((Int32 × Mem) ⊕ (Mem))
  | (x2, σ) => if (mI σ 5 0 1) ≤ x2 then
        some (.inr σ)
      else
        (kB_at σ x2).bind (fun x => (fun (r1 : Option Nat) (σ2 : Mem) =>
        (r1).elim
          (some (.inl ((x2 + 1), σ2)))
          (fun j3 => (kQ_setSpot σ2 j3 x1 (-1)).bind (fun x => (fun (_ : Unit) (σ5 : Mem) =>
            (kQ_stands σ5 j3).bind (fun x => (fun (r6 : Int32) (σ7 : Mem) =>
            if r6 = 0 then
              some (.inl ((x2 + 1), σ7))
            else
              (kQ_covers σ7 j3 x1).bind (fun x => (fun (r8 : Int32) (σ9 : Mem) =>
              if r8 = 0 then
                some (.inl ((x2 + 1), σ9))
              else
                if 40 ≤ (mI σ9 11 0 5) then
                  some (.inl ((x2 + 1), σ9))
                else
                  if inR (mI σ9 11 0 5) 40 then
                  if inR (mI (sR σ9 12 0 (ix (mI σ9 11 0 5)) (some j3)) 11 0 5) 40 then
                  some (.inl ((x2 + 1), sI (sI (sR σ9 12 0 (ix (mI σ9 11 0 5)) (some j3)) 13 0 (ix (mI (sR σ9 12 0 (ix (mI σ9 11 0 5)) (some j3)) 11 0 5)) (zn 0)) 11 0 5 ((mI (sI (sR σ9 12 0 (ix (mI σ9 11 0 5)) (some j3)) 13 0 (ix (mI (sR σ9 12 0 (ix (mI σ9 11 0 5)) (some j3)) 11 0 5)) (zn 0)) 11 0 5) + 1)))
                  else none
                  else none) x.1 x.2)) x.1 x.2)) x.1 x.2))) x.1 x.2)
def kP_gather_x100 (σ : Mem) : Option (Unit × Mem) :=
  some ((), σ)
def kP_gather (σ : Mem) (x1 : Int32) : Option (Unit × Mem) :=
  (loopF FU (kP_gather_s7 x1) (0, sI σ 11 0 5 0)).bind (fun s => kP_gather_x100 s)
/-- an array of numbers, its first n places v -/
def fillI (σ : Mem) (t i n : Nat) (v : Int32) : Mem := (fun t' i' k' => if t' = t ∧ i' = i ∧ k' < n then v else σ.1 t' i' k', σ.2)
def kJ_fill (σ : Mem) (t i n : Nat) (v : Int32) : Option (Unit × Mem) := some ((), fillI σ t i n v)
def kV_isFree (σ : Mem) (x1 : Int32) (x2 : Int32) : Option (Int32 × Mem) :=
  if x1 < 0 then
      some (0, σ)
    else
      if 16 ≤ x1 then
        some (0, σ)
      else
        if inR x1 16 then
        if (((mI σ 8 0 (ix x1)) >>> (x2 &&& 31)) &&& 1) = 1 then
          some (1, σ)
        else
          some (0, σ)
        else none
def kV_begin_j117 (σ : Mem) (x1 : Int32) (x2 : Int32) (y0 : Int32) (y1 : Int32) : Option (Int32 × Mem ⊕ (Mem)) :=
  some (.inl ((x2 + 1), sI σ 7 0 4 (y1 + y0)))
def kV_begin_j116 (σ : Mem) (x1 : Int32) (x2 : Int32) (y0 : Int32) : Option (Int32 × Mem ⊕ (Mem)) :=
  kV_begin_j117 σ x1 x2 0 y0
def kV_begin_s23 (x1 : Int32) : Int32 × Mem → Option ((Int32 × Mem) ⊕ (Mem))
  | (x2, σ) => if 16 ≤ x2 then
        some (.inr σ)
      else
        if inR x2 16 then
        (kH_roomAt (sI σ 8 0 (ix x2) 0) x2).bind (fun x => (fun (r6 : Option Nat) (σ7 : Mem) =>
        (r6).elim
          (some (.inl ((x2 + 1), σ7)))
          (fun j8 => (kR_isOpen σ7 j8 x1).bind (fun x => (fun (r9 : Int32) (σ10 : Mem) =>
            if r9 = 0 then
              some (.inl ((x2 + 1), σ10))
            else
              (kR_units σ10 j8).bind (fun x => (fun (r11 : Int32) (σ12 : Mem) =>
              if inR x2 16 then
              if inR (mI (sI σ12 8 0 (ix x2) (((1 : Int32) <<< (r11 &&& 31)) - 1)) 20 j8 0) 4 then
              (kR_units (sI σ12 8 0 (ix x2) (((1 : Int32) <<< (r11 &&& 31)) - 1)) j8).bind (fun x => (fun (r15 : Int32) (σ16 : Mem) =>
              if inR (mI (sI σ12 8 0 (ix x2) (((1 : Int32) <<< (r11 &&& 31)) - 1)) 20 j8 0) 4 then
              if x2 ≤ (mI (sI σ16 9 0 (ix (mI (sI σ12 8 0 (ix x2) (((1 : Int32) <<< (r11 &&& 31)) - 1)) 20 j8 0)) ((mI (sI σ12 8 0 (ix x2) (((1 : Int32) <<< (r11 &&& 31)) - 1)) 9 0 (ix (mI (sI σ12 8 0 (ix x2) (((1 : Int32) <<< (r11 &&& 31)) - 1)) 20 j8 0))) + r15)) 20 j8 3) then
                kV_begin_j116 (sI σ16 9 0 (ix (mI (sI σ12 8 0 (ix x2) (((1 : Int32) <<< (r11 &&& 31)) - 1)) 20 j8 0)) ((mI (sI σ12 8 0 (ix x2) (((1 : Int32) <<< (r11 &&& 31)) - 1)) 9 0 (ix (mI (sI σ12 8 0 (ix x2) (((1 : Int32) <<< (r11 &&& 31)) - 1)) 20 j8 0))) + r15)) x1 x2 (mI (sI σ16 9 0 (ix (mI (sI σ12 8 0 (ix x2) (((1 : Int32) <<< (r11 &&& 31)) - 1)) 20 j8 0)) ((mI (sI σ12 8 0 (ix x2) (((1 : Int32) <<< (r11 &&& 31)) - 1)) 9 0 (ix (mI (sI σ12 8 0 (ix x2) (((1 : Int32) <<< (r11 &&& 31)) - 1)) 20 j8 0))) + r15)) 7 0 4)
              else
                (kV_isFree (sI σ16 9 0 (ix (mI (sI σ12 8 0 (ix x2) (((1 : Int32) <<< (r11 &&& 31)) - 1)) 20 j8 0)) ((mI (sI σ12 8 0 (ix x2) (((1 : Int32) <<< (r11 &&& 31)) - 1)) 9 0 (ix (mI (sI σ12 8 0 (ix x2) (((1 : Int32) <<< (r11 &&& 31)) - 1)) 20 j8 0))) + r15)) (mI (sI σ16 9 0 (ix (mI (sI σ12 8 0 (ix x2) (((1 : Int32) <<< (r11 &&& 31)) - 1)) 20 j8 0)) ((mI (sI σ12 8 0 (ix x2) (((1 : Int32) <<< (r11 &&& 31)) - 1)) 9 0 (ix (mI (sI σ12 8 0 (ix x2) (((1 : Int32) <<< (r11 &&& 31)) - 1)) 20 j8 0))) + r15)) 20 j8 3) 0).bind (fun x => (fun (r18 : Int32) (σ19 : Mem) =>
                if r18 = 0 then
                  kV_begin_j116 σ19 x1 x2 (mI (sI σ16 9 0 (ix (mI (sI σ12 8 0 (ix x2) (((1 : Int32) <<< (r11 &&& 31)) - 1)) 20 j8 0)) ((mI (sI σ12 8 0 (ix x2) (((1 : Int32) <<< (r11 &&& 31)) - 1)) 9 0 (ix (mI (sI σ12 8 0 (ix x2) (((1 : Int32) <<< (r11 &&& 31)) - 1)) 20 j8 0))) + r15)) 7 0 4)
                else
                  kV_begin_j117 σ19 x1 x2 1 (mI (sI σ16 9 0 (ix (mI (sI σ12 8 0 (ix x2) (((1 : Int32) <<< (r11 &&& 31)) - 1)) 20 j8 0)) ((mI (sI σ12 8 0 (ix x2) (((1 : Int32) <<< (r11 &&& 31)) - 1)) 9 0 (ix (mI (sI σ12 8 0 (ix x2) (((1 : Int32) <<< (r11 &&& 31)) - 1)) 20 j8 0))) + r15)) 7 0 4)) x.1 x.2)
              else none) x.1 x.2)
              else none
              else none) x.1 x.2)) x.1 x.2))) x.1 x.2)
        else none
def kV_begin_x127 (σ : Mem) : Option (Unit × Mem) :=
  some ((), σ)
def kV_begin (σ : Mem) (x1 : Int32) : Option (Unit × Mem) :=
  (kJ_fill σ 9 0 4 0).bind (fun x => (fun (_ : Unit) (σ2 : Mem) =>
    (kJ_fill σ2 10 0 5 0).bind (fun x => (fun (_ : Unit) (σ4 : Mem) =>
    (loopF FU (kV_begin_s23 x1) (0, sI σ4 7 0 4 0)).bind (fun s => kV_begin_x127 s)) x.1 x.2)) x.1 x.2)
def kG_isWant (σ : Mem) (x0 : Int32) : Option (Int32 × Mem) :=
  if x0 < 0 then
      some (0, σ)
    else
      if 5 ≤ x0 then
        some (0, σ)
      else
        some (1, σ)
def kV_addNeed (σ : Mem) (x1 : Int32) : Option (Unit × Mem) :=
  (kG_isWant σ x1).bind (fun x => (fun (r1 : Int32) (σ2 : Mem) =>
    if r1 = 0 then
      some ((), σ2)
    else
      if inR x1 5 then
      if inR x1 5 then
      some ((), sI σ2 10 0 (ix x1) ((mI σ2 10 0 (ix x1)) + 1))
      else none
      else none) x.1 x.2)
def kV_fits (σ : Mem) : Option (Int32 × Mem) :=
  if inR 2 4 then
    if inR 1 4 then
    if inR 4 5 then
    if inR 0 4 then
    if inR 3 5 then
    if inR 2 5 then
    if inR 0 5 then
    if inR 3 4 then
    if (mI σ 9 0 (ix 3)) < (mI σ 10 0 (ix 0)) then
      some (0, σ)
    else
      if inR 4 5 then
      if (mI σ 7 0 4) < (mI σ 10 0 (ix 4)) then
        some (0, σ)
      else
        if inR 3 5 then
        if (mI σ 9 0 (ix 2)) < (mI σ 10 0 (ix 3)) then
          some (0, σ)
        else
          if (((mI σ 9 0 (ix 2)) + (mI σ 9 0 (ix 1))) - (2 * (mI σ 10 0 (ix 4)))) < ((mI σ 10 0 (ix 3)) + (mI σ 10 0 (ix 2))) then
            some (0, σ)
          else
            if inR 1 5 then
            if ((((mI σ 9 0 (ix 2)) + (mI σ 9 0 (ix 1))) - (2 * (mI σ 10 0 (ix 4)))) + (mI σ 9 0 (ix 0))) < (((mI σ 10 0 (ix 3)) + (mI σ 10 0 (ix 2))) + (mI σ 10 0 (ix 1))) then
              some (0, σ)
            else
              some (1, σ)
            else none
        else none
      else none
    else none
    else none
    else none
    else none
    else none
    else none
    else none
    else none
def kV_dropNeed (σ : Mem) (x1 : Int32) : Option (Unit × Mem) :=
  (kG_isWant σ x1).bind (fun x => (fun (r1 : Int32) (σ2 : Mem) =>
    if r1 = 0 then
      some ((), σ2)
    else
      if inR x1 5 then
      if inR x1 5 then
      some ((), sI σ2 10 0 (ix x1) ((mI σ2 10 0 (ix x1)) - 1))
      else none
      else none) x.1 x.2)
def kP_keepThose_s2 (x1 : Int32) : Int32 × Mem → Option ((Int32 × Mem) ⊕ (Mem))
  | (x2, σ) => if (mI σ 11 0 5) ≤ x2 then
        some (.inr σ)
      else
        if 40 ≤ x2 then
          some (.inr σ)
        else
          if inR x2 40 then
          (mR σ 12 0 (ix x2)).elim
            (some (.inl ((x2 + 1), σ)))
            (fun j2 => if (mI σ 21 j2 3) = x1 then
                (kV_addNeed σ (mI σ 21 j2 0)).bind (fun x => (fun (_ : Unit) (σ4 : Mem) =>
                (kV_fits σ4).bind (fun x => (fun (r5 : Int32) (σ6 : Mem) =>
                if inR x2 40 then
                if inR x2 40 then
                if (mI (sI σ6 13 0 (ix x2) (zn r5)) 13 0 (ix x2)) = 0 then
                  (kV_dropNeed (sI σ6 13 0 (ix x2) (zn r5)) (mI (sI σ6 13 0 (ix x2) (zn r5)) 21 j2 0)).bind (fun x => (fun (_ : Unit) (σ10 : Mem) =>
                  some (.inl ((x2 + 1), σ10))) x.1 x.2)
                else
                  some (.inl ((x2 + 1), sI σ6 13 0 (ix x2) (zn r5)))
                else none
                else none) x.1 x.2)) x.1 x.2)
              else
                some (.inl ((x2 + 1), σ)))
          else none
def kP_keepThose_x88 (σ : Mem) : Option (Unit × Mem) :=
  some ((), σ)
def kP_keepThose (σ : Mem) (x1 : Int32) : Option (Unit × Mem) :=
  (loopF FU (kP_keepThose_s2 x1) (0, σ)).bind (fun s => kP_keepThose_x88 s)
def kG_placeOf (σ : Mem) (x0 : Int32) : Option (Int32 × Mem) :=
  some (x0 >>> (5 &&& 31), σ)
def kG_bedOf (σ : Mem) (x0 : Int32) : Option (Int32 × Mem) :=
  some ((x0 >>> (2 &&& 31)) &&& 7, σ)
def kG_isSuite (σ : Mem) (x0 : Int32) : Option (Int32 × Mem) :=
  if x0 < 0 then
      some (0, σ)
    else
      if (x0 &&& 1) = 1 then
        some (1, σ)
      else
        some (0, σ)
def kV_turn (σ : Mem) (x1 : Int32) (x2 : Int32) (x3 : Int32) : Option (Unit × Mem) :=
  (kH_roomAt σ x1).bind (fun x => (fun (r1 : Option Nat) (σ2 : Mem) =>
    (r1).elim
      (some ((), σ2))
      (fun j3 => if x1 < 0 then
          some ((), σ2)
        else
          if x1 < 16 then
            if inR x1 16 then
            if inR x1 16 then
            if inR (mI (sI σ2 8 0 (ix x1) ((mI σ2 8 0 (ix x1)) ^^^ ((1 : Int32) <<< (x2 &&& 31)))) 20 j3 0) 4 then
            if inR (mI (sI σ2 8 0 (ix x1) ((mI σ2 8 0 (ix x1)) ^^^ ((1 : Int32) <<< (x2 &&& 31)))) 20 j3 0) 4 then
            (kV_isFree (sI (sI σ2 8 0 (ix x1) ((mI σ2 8 0 (ix x1)) ^^^ ((1 : Int32) <<< (x2 &&& 31)))) 9 0 (ix (mI (sI σ2 8 0 (ix x1) ((mI σ2 8 0 (ix x1)) ^^^ ((1 : Int32) <<< (x2 &&& 31)))) 20 j3 0)) ((mI (sI σ2 8 0 (ix x1) ((mI σ2 8 0 (ix x1)) ^^^ ((1 : Int32) <<< (x2 &&& 31)))) 9 0 (ix (mI (sI σ2 8 0 (ix x1) ((mI σ2 8 0 (ix x1)) ^^^ ((1 : Int32) <<< (x2 &&& 31)))) 20 j3 0))) + x3)) (mI (sI (sI σ2 8 0 (ix x1) ((mI σ2 8 0 (ix x1)) ^^^ ((1 : Int32) <<< (x2 &&& 31)))) 9 0 (ix (mI (sI σ2 8 0 (ix x1) ((mI σ2 8 0 (ix x1)) ^^^ ((1 : Int32) <<< (x2 &&& 31)))) 20 j3 0)) ((mI (sI σ2 8 0 (ix x1) ((mI σ2 8 0 (ix x1)) ^^^ ((1 : Int32) <<< (x2 &&& 31)))) 9 0 (ix (mI (sI σ2 8 0 (ix x1) ((mI σ2 8 0 (ix x1)) ^^^ ((1 : Int32) <<< (x2 &&& 31)))) 20 j3 0))) + x3)) 20 j3 3) 0).bind (fun x => (fun (r8 : Int32) (σ9 : Mem) =>
            if r8 = 0 then
              some ((), σ9)
            else
              some ((), sI σ9 7 0 4 ((mI σ9 7 0 4) + x3))) x.1 x.2)
            else none
            else none
            else none
            else none
          else
            some ((), σ2))) x.1 x.2)
def kV_take_j72 (σ : Mem) (x2 : Int32) (x3 : Int32) (x4 : Int32) (x5 : Int32) : Option (Int32 × Mem) :=
  (kV_fits σ).bind (fun x => (fun (r13 : Int32) (σ14 : Mem) =>
    if r13 = 0 then
      (kV_addNeed σ14 x2).bind (fun x => (fun (_ : Unit) (σ16 : Mem) =>
      (kV_turn σ16 x3 x4 1).bind (fun x => (fun (_ : Unit) (σ18 : Mem) =>
      if x5 = 0 then
        some (0, σ18)
      else
        (kV_turn σ18 (x3 + 1) 0 1).bind (fun x => (fun (_ : Unit) (σ20 : Mem) =>
        some (0, σ20)) x.1 x.2)) x.1 x.2)) x.1 x.2)
    else
      some (1, σ14)) x.1 x.2)
def kV_take_j45 (σ : Mem) (x2 : Int32) (x3 : Int32) (x4 : Int32) (x5 : Int32) : Option (Int32 × Mem) :=
  (kV_dropNeed σ x2).bind (fun x => (fun (_ : Unit) (σ10 : Mem) =>
    (kV_turn σ10 x3 x4 (-1)).bind (fun x => (fun (_ : Unit) (σ12 : Mem) =>
    if x5 = 0 then
      kV_take_j72 σ12 x2 x3 x4 x5
    else
      (kV_turn σ12 (x3 + 1) 0 (-1)).bind (fun x => (fun (_ : Unit) (σ24 : Mem) =>
      kV_take_j72 σ24 x2 x3 x4 x5) x.1 x.2)) x.1 x.2)) x.1 x.2)
def kV_take (σ : Mem) (x1 : Int32) (x2 : Int32) : Option (Int32 × Mem) :=
  (kG_placeOf σ x1).bind (fun x => (fun (r1 : Int32) (σ2 : Mem) =>
    (kG_bedOf σ2 x1).bind (fun x => (fun (r3 : Int32) (σ4 : Mem) =>
    (kG_isSuite σ4 x1).bind (fun x => (fun (r5 : Int32) (σ6 : Mem) =>
    (kV_isFree σ6 r1 r3).bind (fun x => (fun (r7 : Int32) (σ8 : Mem) =>
    if r7 = 0 then
      some (0, σ8)
    else
      if r5 = 0 then
        kV_take_j45 σ8 x2 r1 r3 r5
      else
        (kV_isFree σ8 (r1 + 1) 0).bind (fun x => (fun (r26 : Int32) (σ27 : Mem) =>
        if r26 = 0 then
          some (0, σ27)
        else
          kV_take_j45 σ27 x2 r1 r3 r5) x.1 x.2)) x.1 x.2)) x.1 x.2)) x.1 x.2)) x.1 x.2)
def kP_spotAgain (σ : Mem) (x1 : Nat) (x2 : Int32) : Option (Int32 × Mem) :=
  (kQ_spotIn σ x1 (x2 - 1)).bind (fun x => (fun (r1 : Int32) (σ2 : Mem) =>
    (kV_take σ2 r1 (mI σ2 21 x1 0)).bind (fun x => (fun (r3 : Int32) (σ4 : Mem) =>
    if r3 = 0 then
      some ((-1), σ4)
    else
      some (r1, σ4)) x.1 x.2)) x.1 x.2)
def kG_spotCode (σ : Mem) (x0 : Int32) (x1 : Int32) (x2 : Int32) : Option (Int32 × Mem) :=
  if x2 = 0 then
      some (((32 * x0) + (4 * x1)) + 0, σ)
    else
      some (((32 * x0) + (4 * x1)) + 1, σ)
def kP_firstSuite_s2 : Int32 × Mem → Option ((Int32 × Mem) ⊕ ((Int32 × Mem) ⊕ (Mem)))
  | (x1, σ) => if 16 ≤ x1 then
        some (.inr (.inr σ))
      else
        (kH_roomAt σ x1).bind (fun x => (fun (r1 : Option Nat) (σ2 : Mem) =>
        (kG_spotCode σ2 x1 0 1).bind (fun x => (fun (r3 : Int32) (σ4 : Mem) =>
        (r1).elim
          (some (.inl ((x1 + 1), σ4)))
          (fun j5 => if (mI σ4 20 j5 3) ≤ x1 then
              some (.inl ((x1 + 1), σ4))
            else
              (kV_take σ4 r3 4).bind (fun x => (fun (r6 : Int32) (σ7 : Mem) =>
              if r6 = 0 then
                some (.inl ((x1 + 1), σ7))
              else
                some (.inr (.inl (r3, σ7)))) x.1 x.2))) x.1 x.2)) x.1 x.2)
def kP_firstSuite_x48 (σ : Mem) (x3 : Int32) : Option (Int32 × Mem) :=
  some (x3, σ)
def kP_firstSuite_x56 (σ : Mem) : Option (Int32 × Mem) :=
  some ((-1), σ)
def kP_firstSuite (σ : Mem) : Option (Int32 × Mem) :=
  (loopF FU (kP_firstSuite_s2) (0, σ)).bind (fun s => Sum.elim (fun s => kP_firstSuite_x48 s.2 s.1) (fun s => kP_firstSuite_x56 s) s)
def kR_suits (σ : Mem) (x0 : Nat) (x1 : Int32) : Option (Int32 × Mem) :=
  if x1 = 0 then
      if (mI σ 20 x0 0) = 3 then
        some (1, σ)
      else
        some (0, σ)
    else if x1 = 1 then
      if (mI σ 20 x0 0) = 3 then
        some (0, σ)
      else
        some (1, σ)
    else if x1 = 2 then
      if (mI σ 20 x0 0) = 1 then
        some (1, σ)
      else
        if (mI σ 20 x0 0) = 2 then
          some (1, σ)
        else
          some (0, σ)
    else if x1 = 3 then
      if (mI σ 20 x0 0) = 2 then
        some (1, σ)
      else
        some (0, σ)
    else some (0, σ)
def kP_firstUnit_s42 (x1 : Int32) (x2 : Int32) (x4 : Int32) : Int32 × Mem → Option ((Int32 × Mem) ⊕ ((Int32 × Mem) ⊕ (Mem)))
  | (x5, σ) => if x4 ≤ x5 then
        some (.inr (.inr σ))
      else
        (kG_spotCode σ x2 x5 0).bind (fun x => (fun (r4 : Int32) (σ5 : Mem) =>
        (kV_take σ5 r4 x1).bind (fun x => (fun (r6 : Int32) (σ7 : Mem) =>
        if r6 = 0 then
          some (.inl ((x5 + 1), σ7))
        else
          some (.inr (.inl (r4, σ7)))) x.1 x.2)) x.1 x.2)
def kP_firstUnit_x80 (σ : Mem) (x1 : Int32) (x2 : Int32) : Option (Int32 × Mem ⊕ ((Int32 × Mem) ⊕ (Mem))) :=
  some (.inl ((x2 + 1), σ))
def kP_firstUnit_j37 (σ : Mem) (x1 : Int32) (x2 : Int32) (y0 : Int32) : Option (Int32 × Mem ⊕ ((Int32 × Mem) ⊕ (Mem))) :=
  (loopF FU (kP_firstUnit_s42 x1 x2 y0) (0, σ)).bind (fun s => Sum.elim (fun s => some (.inr (.inl (s.1, s.2)))) (fun s => kP_firstUnit_x80 s x1 x2) s)
def kP_firstUnit_j36 (σ : Mem) (x1 : Int32) (x2 : Int32) : Option (Int32 × Mem ⊕ ((Int32 × Mem) ⊕ (Mem))) :=
  kP_firstUnit_j37 σ x1 x2 0
def kP_firstUnit_s2 (x1 : Int32) : Int32 × Mem → Option ((Int32 × Mem) ⊕ ((Int32 × Mem) ⊕ (Mem)))
  | (x2, σ) => if 16 ≤ x2 then
        some (.inr (.inr σ))
      else
        (kH_roomAt σ x2).bind (fun x => (fun (r1 : Option Nat) (σ2 : Mem) =>
        (r1).elim
          (kP_firstUnit_j36 σ2 x1 x2)
          (fun j3 => (kR_suits σ2 j3 x1).bind (fun x => (fun (r10 : Int32) (σ11 : Mem) =>
            if r10 = 0 then
              kP_firstUnit_j36 σ11 x1 x2
            else
              (kR_units σ11 j3).bind (fun x => (fun (r12 : Int32) (σ13 : Mem) =>
              kP_firstUnit_j37 σ13 x1 x2 r12) x.1 x.2)) x.1 x.2))) x.1 x.2)
def kP_firstUnit_x71 (σ : Mem) (x6 : Int32) : Option (Int32 × Mem) :=
  some (x6, σ)
def kP_firstUnit_x86 (σ : Mem) : Option (Int32 × Mem) :=
  some ((-1), σ)
def kP_firstUnit (σ : Mem) (x1 : Int32) : Option (Int32 × Mem) :=
  (loopF FU (kP_firstUnit_s2 x1) (0, σ)).bind (fun s => Sum.elim (fun s => kP_firstUnit_x71 s.2 s.1) (fun s => kP_firstUnit_x86 s) s)
def kP_makeNight_s38 (x1 : Int32) : Int32 × Mem → Option ((Int32 × Mem) ⊕ (Mem))
  | (x2, σ) => if (mI σ 11 0 5) ≤ x2 then
        some (.inr σ)
      else
        if 40 ≤ x2 then
          some (.inr σ)
        else
          if inR x2 40 then
          (mR σ 12 0 (ix x2)).elim
            (some (.inl ((x2 + 1), σ)))
            (fun j12 => if inR x2 40 then
              if (mI σ 13 0 (ix x2)) = 0 then
                some (.inl ((x2 + 1), σ))
              else
                (kP_spotAgain σ j12 x1).bind (fun x => (fun (r14 : Int32) (σ15 : Mem) =>
                (kQ_setSpot σ15 j12 x1 r14).bind (fun x => (fun (_ : Unit) (σ17 : Mem) =>
                some (.inl ((x2 + 1), σ17))) x.1 x.2)) x.1 x.2)
              else none)
          else none
def kP_makeNight_j159 (σ : Mem) (x1 : Int32) (x2 : Int32) (y0 : Int32) (y1 : Int32) (y2 : Option Nat) : Option (Int32 × Mem ⊕ (Mem)) :=
  (y2).elim
      (none)
      (fun j28 => (kQ_setSpot σ j28 y1 y0).bind (fun x => (fun (_ : Unit) (σ30 : Mem) =>
        some (.inl ((x2 + 1), σ30))) x.1 x.2))
def kP_makeNight_s91 (x1 : Int32) : Int32 × Mem → Option ((Int32 × Mem) ⊕ (Mem))
  | (x2, σ) => if (mI σ 11 0 5) ≤ x2 then
        some (.inr σ)
      else
        if 40 ≤ x2 then
          some (.inr σ)
        else
          if inR x2 40 then
          (mR σ 12 0 (ix x2)).elim
            (some (.inl ((x2 + 1), σ)))
            (fun j22 => if inR x2 40 then
              if (mI σ 13 0 (ix x2)) = 0 then
                some (.inl ((x2 + 1), σ))
              else
                (kQ_spotIn σ j22 x1).bind (fun x => (fun (r24 : Int32) (σ25 : Mem) =>
                if r24 = (-1) then
                  if (mI σ25 21 j22 0) = 4 then
                    (kP_firstSuite σ25).bind (fun x => (fun (r31 : Int32) (σ32 : Mem) =>
                    kP_makeNight_j159 σ32 x1 x2 r31 x1 (some j22)) x.1 x.2)
                  else
                    (kP_firstUnit σ25 (mI σ25 21 j22 0)).bind (fun x => (fun (r26 : Int32) (σ27 : Mem) =>
                    kP_makeNight_j159 σ27 x1 x2 r26 x1 (some j22)) x.1 x.2)
                else
                  some (.inl ((x2 + 1), σ25))) x.1 x.2)
              else none)
          else none
def kP_makeNight_x168 (σ : Mem) : Option (Unit × Mem) :=
  some ((), σ)
def kP_makeNight_x89 (σ : Mem) (x1 : Int32) : Option (Unit × Mem) :=
  (loopF FU (kP_makeNight_s91 x1) (0, σ)).bind (fun s => kP_makeNight_x168 s)
def kP_makeNight (σ : Mem) (x1 : Int32) : Option (Unit × Mem) :=
  (kP_gather σ x1).bind (fun x => (fun (_ : Unit) (σ2 : Mem) =>
    if (mI σ2 11 0 5) = 0 then
      some ((), σ2)
    else
      (kV_begin σ2 x1).bind (fun x => (fun (_ : Unit) (σ4 : Mem) =>
      (kP_keepThose σ4 2).bind (fun x => (fun (_ : Unit) (σ6 : Mem) =>
      (kP_keepThose σ6 1).bind (fun x => (fun (_ : Unit) (σ8 : Mem) =>
      (kP_keepThose σ8 0).bind (fun x => (fun (_ : Unit) (σ10 : Mem) =>
      (loopF FU (kP_makeNight_s38 x1) (0, σ10)).bind (fun s => kP_makeNight_x89 s x1)) x.1 x.2)) x.1 x.2)) x.1 x.2)) x.1 x.2)) x.1 x.2)
/-- a whole row of numbers -/
def sW (σ : Mem) (t i : Nat) (f : Nat → Int32) : Mem := (fun t' i' k' => if t' = t ∧ i' = i then f k' else σ.1 t' i' k', σ.2)
def kQ_init (σ : Mem) (x0 : Nat) (x1 x2 x3 : Int32) : Option (Unit × Mem) :=
  if mV σ 22 x0 = false then
  some ((), sW (sV (sV (sL (sI (sI (sI (sI (sI (sI σ 21 x0 0 x1) 21 x0 1 x2) 21 x0 2 x3) 21 x0 3 (if x3 = (-1) then 1 else 0)) 21 x0 4 0) 21 x0 5 0) 21 x0 6 0) 21 x0) 22 x0) 22 x0 (fun j => if j < 60 then (-1) else 0))
  else none
def kQ_setNights (σ : Mem) (x0 : Nat) (x1 : Int32) (x2 : Int32) (x3 : Int64) : Option (Unit × Mem) :=
  some ((), sL (sI (sI σ 21 x0 4 x1) 21 x0 5 x2) 21 x0 6 x3)
def kQ_nightsHad_s4 (x0 : Nat) (x1 : Int32) : Int32 × Int32 × Mem → Option ((Int32 × Int32 × Mem) ⊕ (Int32 × Mem))
  | (x2, x3, σ) => if x1 ≤ x3 then
        some (.inr (x2, σ))
      else
        (kQ_spotIn σ x0 x3).bind (fun x => (fun (r1 : Int32) (σ2 : Mem) =>
        if r1 = (-1) then
          some (.inl ((x2 + 0), (x3 + 1), σ2))
        else
          some (.inl ((x2 + 1), (x3 + 1), σ2))) x.1 x.2)
def kQ_nightsHad_x32 (σ : Mem) (x2 : Int32) : Option (Int32 × Mem) :=
  some (x2, σ)
def kQ_nightsHad (σ : Mem) (x0 : Nat) (x1 : Int32) : Option (Int32 × Mem) :=
  (loopF FU (kQ_nightsHad_s4 x0 x1) (0, 0, σ)).bind (fun s => kQ_nightsHad_x32 s.2 s.1)
def kQ_movesIn_s5 (x0 : Nat) (x2 : Int32) : Int32 × Int32 × Mem → Option ((Int32 × Int32 × Mem) ⊕ (Int32 × Mem))
  | (x3, x4, σ) => if x2 ≤ x4 then
        some (.inr (x3, σ))
      else
        (kQ_spotIn σ x0 (x4 - 1)).bind (fun x => (fun (r1 : Int32) (σ2 : Mem) =>
        (kQ_spotIn σ2 x0 x4).bind (fun x => (fun (r3 : Int32) (σ4 : Mem) =>
        if r1 = (-1) then
          some (.inl ((x3 + 0), (x4 + 1), σ4))
        else
          if r3 = (-1) then
            some (.inl ((x3 + 0), (x4 + 1), σ4))
          else
            if r1 = r3 then
              some (.inl ((x3 + 0), (x4 + 1), σ4))
            else
              some (.inl ((x3 + 1), (x4 + 1), σ4))) x.1 x.2)) x.1 x.2)
def kQ_movesIn_x62 (σ : Mem) (x3 : Int32) : Option (Int32 × Mem) :=
  some (x3, σ)
def kQ_movesIn (σ : Mem) (x0 : Nat) (x1 : Int32) (x2 : Int32) : Option (Int32 × Mem) :=
  (loopF FU (kQ_movesIn_s5 x0 x2) (0, x1, σ)).bind (fun s => kQ_movesIn_x62 s.2 s.1)
def kR_init (σ : Mem) (x0 : Nat) (x1 x2 x3 x4 : Int32) : Option (Unit × Mem) :=
  some ((), sV (sL (sI (sI (sI (sI (sI (sI σ 20 x0 0 x1) 20 x0 1 x2) 20 x0 2 (if x1 = 3 then x3 else if x1 = 0 then 1 else 2)) 20 x0 3 (-1)) 20 x0 4 0) 20 x0 5 x4) 20 x0 6 0) 20 x0)
def kJL_bitCount (σ : Mem) (x0 : Int64) : Option (Int32 × Mem) :=
  some ((((((((((x0 - (((x0.toUInt64 >>> ((1 : Int32).toInt64.toUInt64 &&& Int64.toUInt64 63)).toInt64) &&& 6148914691236517205)) &&& 3689348814741910323) + ((((x0 - (((x0.toUInt64 >>> ((1 : Int32).toInt64.toUInt64 &&& Int64.toUInt64 63)).toInt64) &&& 6148914691236517205)).toUInt64 >>> ((2 : Int32).toInt64.toUInt64 &&& Int64.toUInt64 63)).toInt64) &&& 3689348814741910323)) + (((((x0 - (((x0.toUInt64 >>> ((1 : Int32).toInt64.toUInt64 &&& Int64.toUInt64 63)).toInt64) &&& 6148914691236517205)) &&& 3689348814741910323) + ((((x0 - (((x0.toUInt64 >>> ((1 : Int32).toInt64.toUInt64 &&& Int64.toUInt64 63)).toInt64) &&& 6148914691236517205)).toUInt64 >>> ((2 : Int32).toInt64.toUInt64 &&& Int64.toUInt64 63)).toInt64) &&& 3689348814741910323)).toUInt64 >>> ((4 : Int32).toInt64.toUInt64 &&& Int64.toUInt64 63)).toInt64)) &&& 1085102592571150095) + (((((((x0 - (((x0.toUInt64 >>> ((1 : Int32).toInt64.toUInt64 &&& Int64.toUInt64 63)).toInt64) &&& 6148914691236517205)) &&& 3689348814741910323) + ((((x0 - (((x0.toUInt64 >>> ((1 : Int32).toInt64.toUInt64 &&& Int64.toUInt64 63)).toInt64) &&& 6148914691236517205)).toUInt64 >>> ((2 : Int32).toInt64.toUInt64 &&& Int64.toUInt64 63)).toInt64) &&& 3689348814741910323)) + (((((x0 - (((x0.toUInt64 >>> ((1 : Int32).toInt64.toUInt64 &&& Int64.toUInt64 63)).toInt64) &&& 6148914691236517205)) &&& 3689348814741910323) + ((((x0 - (((x0.toUInt64 >>> ((1 : Int32).toInt64.toUInt64 &&& Int64.toUInt64 63)).toInt64) &&& 6148914691236517205)).toUInt64 >>> ((2 : Int32).toInt64.toUInt64 &&& Int64.toUInt64 63)).toInt64) &&& 3689348814741910323)).toUInt64 >>> ((4 : Int32).toInt64.toUInt64 &&& Int64.toUInt64 63)).toInt64)) &&& 1085102592571150095).toUInt64 >>> ((8 : Int32).toInt64.toUInt64 &&& Int64.toUInt64 63)).toInt64)) + ((((((((x0 - (((x0.toUInt64 >>> ((1 : Int32).toInt64.toUInt64 &&& Int64.toUInt64 63)).toInt64) &&& 6148914691236517205)) &&& 3689348814741910323) + ((((x0 - (((x0.toUInt64 >>> ((1 : Int32).toInt64.toUInt64 &&& Int64.toUInt64 63)).toInt64) &&& 6148914691236517205)).toUInt64 >>> ((2 : Int32).toInt64.toUInt64 &&& Int64.toUInt64 63)).toInt64) &&& 3689348814741910323)) + (((((x0 - (((x0.toUInt64 >>> ((1 : Int32).toInt64.toUInt64 &&& Int64.toUInt64 63)).toInt64) &&& 6148914691236517205)) &&& 3689348814741910323) + ((((x0 - (((x0.toUInt64 >>> ((1 : Int32).toInt64.toUInt64 &&& Int64.toUInt64 63)).toInt64) &&& 6148914691236517205)).toUInt64 >>> ((2 : Int32).toInt64.toUInt64 &&& Int64.toUInt64 63)).toInt64) &&& 3689348814741910323)).toUInt64 >>> ((4 : Int32).toInt64.toUInt64 &&& Int64.toUInt64 63)).toInt64)) &&& 1085102592571150095) + (((((((x0 - (((x0.toUInt64 >>> ((1 : Int32).toInt64.toUInt64 &&& Int64.toUInt64 63)).toInt64) &&& 6148914691236517205)) &&& 3689348814741910323) + ((((x0 - (((x0.toUInt64 >>> ((1 : Int32).toInt64.toUInt64 &&& Int64.toUInt64 63)).toInt64) &&& 6148914691236517205)).toUInt64 >>> ((2 : Int32).toInt64.toUInt64 &&& Int64.toUInt64 63)).toInt64) &&& 3689348814741910323)) + (((((x0 - (((x0.toUInt64 >>> ((1 : Int32).toInt64.toUInt64 &&& Int64.toUInt64 63)).toInt64) &&& 6148914691236517205)) &&& 3689348814741910323) + ((((x0 - (((x0.toUInt64 >>> ((1 : Int32).toInt64.toUInt64 &&& Int64.toUInt64 63)).toInt64) &&& 6148914691236517205)).toUInt64 >>> ((2 : Int32).toInt64.toUInt64 &&& Int64.toUInt64 63)).toInt64) &&& 3689348814741910323)).toUInt64 >>> ((4 : Int32).toInt64.toUInt64 &&& Int64.toUInt64 63)).toInt64)) &&& 1085102592571150095).toUInt64 >>> ((8 : Int32).toInt64.toUInt64 &&& Int64.toUInt64 63)).toInt64)).toUInt64 >>> ((16 : Int32).toInt64.toUInt64 &&& Int64.toUInt64 63)).toInt64)) + (((((((((x0 - (((x0.toUInt64 >>> ((1 : Int32).toInt64.toUInt64 &&& Int64.toUInt64 63)).toInt64) &&& 6148914691236517205)) &&& 3689348814741910323) + ((((x0 - (((x0.toUInt64 >>> ((1 : Int32).toInt64.toUInt64 &&& Int64.toUInt64 63)).toInt64) &&& 6148914691236517205)).toUInt64 >>> ((2 : Int32).toInt64.toUInt64 &&& Int64.toUInt64 63)).toInt64) &&& 3689348814741910323)) + (((((x0 - (((x0.toUInt64 >>> ((1 : Int32).toInt64.toUInt64 &&& Int64.toUInt64 63)).toInt64) &&& 6148914691236517205)) &&& 3689348814741910323) + ((((x0 - (((x0.toUInt64 >>> ((1 : Int32).toInt64.toUInt64 &&& Int64.toUInt64 63)).toInt64) &&& 6148914691236517205)).toUInt64 >>> ((2 : Int32).toInt64.toUInt64 &&& Int64.toUInt64 63)).toInt64) &&& 3689348814741910323)).toUInt64 >>> ((4 : Int32).toInt64.toUInt64 &&& Int64.toUInt64 63)).toInt64)) &&& 1085102592571150095) + (((((((x0 - (((x0.toUInt64 >>> ((1 : Int32).toInt64.toUInt64 &&& Int64.toUInt64 63)).toInt64) &&& 6148914691236517205)) &&& 3689348814741910323) + ((((x0 - (((x0.toUInt64 >>> ((1 : Int32).toInt64.toUInt64 &&& Int64.toUInt64 63)).toInt64) &&& 6148914691236517205)).toUInt64 >>> ((2 : Int32).toInt64.toUInt64 &&& Int64.toUInt64 63)).toInt64) &&& 3689348814741910323)) + (((((x0 - (((x0.toUInt64 >>> ((1 : Int32).toInt64.toUInt64 &&& Int64.toUInt64 63)).toInt64) &&& 6148914691236517205)) &&& 3689348814741910323) + ((((x0 - (((x0.toUInt64 >>> ((1 : Int32).toInt64.toUInt64 &&& Int64.toUInt64 63)).toInt64) &&& 6148914691236517205)).toUInt64 >>> ((2 : Int32).toInt64.toUInt64 &&& Int64.toUInt64 63)).toInt64) &&& 3689348814741910323)).toUInt64 >>> ((4 : Int32).toInt64.toUInt64 &&& Int64.toUInt64 63)).toInt64)) &&& 1085102592571150095).toUInt64 >>> ((8 : Int32).toInt64.toUInt64 &&& Int64.toUInt64 63)).toInt64)) + ((((((((x0 - (((x0.toUInt64 >>> ((1 : Int32).toInt64.toUInt64 &&& Int64.toUInt64 63)).toInt64) &&& 6148914691236517205)) &&& 3689348814741910323) + ((((x0 - (((x0.toUInt64 >>> ((1 : Int32).toInt64.toUInt64 &&& Int64.toUInt64 63)).toInt64) &&& 6148914691236517205)).toUInt64 >>> ((2 : Int32).toInt64.toUInt64 &&& Int64.toUInt64 63)).toInt64) &&& 3689348814741910323)) + (((((x0 - (((x0.toUInt64 >>> ((1 : Int32).toInt64.toUInt64 &&& Int64.toUInt64 63)).toInt64) &&& 6148914691236517205)) &&& 3689348814741910323) + ((((x0 - (((x0.toUInt64 >>> ((1 : Int32).toInt64.toUInt64 &&& Int64.toUInt64 63)).toInt64) &&& 6148914691236517205)).toUInt64 >>> ((2 : Int32).toInt64.toUInt64 &&& Int64.toUInt64 63)).toInt64) &&& 3689348814741910323)).toUInt64 >>> ((4 : Int32).toInt64.toUInt64 &&& Int64.toUInt64 63)).toInt64)) &&& 1085102592571150095) + (((((((x0 - (((x0.toUInt64 >>> ((1 : Int32).toInt64.toUInt64 &&& Int64.toUInt64 63)).toInt64) &&& 6148914691236517205)) &&& 3689348814741910323) + ((((x0 - (((x0.toUInt64 >>> ((1 : Int32).toInt64.toUInt64 &&& Int64.toUInt64 63)).toInt64) &&& 6148914691236517205)).toUInt64 >>> ((2 : Int32).toInt64.toUInt64 &&& Int64.toUInt64 63)).toInt64) &&& 3689348814741910323)) + (((((x0 - (((x0.toUInt64 >>> ((1 : Int32).toInt64.toUInt64 &&& Int64.toUInt64 63)).toInt64) &&& 6148914691236517205)) &&& 3689348814741910323) + ((((x0 - (((x0.toUInt64 >>> ((1 : Int32).toInt64.toUInt64 &&& Int64.toUInt64 63)).toInt64) &&& 6148914691236517205)).toUInt64 >>> ((2 : Int32).toInt64.toUInt64 &&& Int64.toUInt64 63)).toInt64) &&& 3689348814741910323)).toUInt64 >>> ((4 : Int32).toInt64.toUInt64 &&& Int64.toUInt64 63)).toInt64)) &&& 1085102592571150095).toUInt64 >>> ((8 : Int32).toInt64.toUInt64 &&& Int64.toUInt64 63)).toInt64)).toUInt64 >>> ((16 : Int32).toInt64.toUInt64 &&& Int64.toUInt64 63)).toInt64)).toUInt64 >>> ((32 : Int32).toInt64.toUInt64 &&& Int64.toUInt64 63)).toInt64)).toInt32) &&& 127, σ)
def kR_setShut_j53 (σ : Mem) (x0 : Nat) (y0 : Int64) (y1 : Int64) : Option (Int32 × Mem) :=
  (kJL_bitCount (sL σ 20 x0 6 ((mL σ 20 x0 6) ^^^ (y1 &&& y0))) (y1 &&& y0)).bind (fun x => (fun (r1 : Int32) (σ2 : Mem) =>
    some (r1, σ2)) x.1 x.2)
def kR_setShut (σ : Mem) (x0 : Nat) (x1 : Int32) (x2 : Int32) (x3 : Int32) : Option (Int32 × Mem) :=
  if x1 < 0 then
      some (0, σ)
    else
      if x1 < (jmin x2 (mI σ 20 x0 5)) then
        if x3 = 0 then
          kR_setShut_j53 σ x0 (mL σ 20 x0 6) (((1 : Int64) <<< (((jmin x2 (mI σ 20 x0 5)) : Int32).toInt64 &&& 63)) - ((1 : Int64) <<< ((x1 : Int32).toInt64 &&& 63)))
        else
          kR_setShut_j53 σ x0 ((mL σ 20 x0 6) ^^^ (-1)) (((1 : Int64) <<< (((jmin x2 (mI σ 20 x0 5)) : Int32).toInt64 &&& 63)) - ((1 : Int64) <<< ((x1 : Int32).toInt64 &&& 63)))
      else
        some (0, σ)
def kR_lengthen (σ : Mem) (x0 : Nat) (x1 : Int32) : Option (Int32 × Mem) :=
  if x1 < 0 then
      some ((-1), σ)
    else
      if x1 ≤ (60 - (mI σ 20 x0 5)) then
        some (mI (sI (sI σ 20 x0 4 0) 20 x0 5 ((mI (sI σ 20 x0 4 0) 20 x0 5) + x1)) 20 x0 5, sI (sI σ 20 x0 4 0) 20 x0 5 ((mI (sI σ 20 x0 4 0) 20 x0 5) + x1))
      else
        some ((-1), σ)
def kR_closeAltogether (σ : Mem) (x0 : Nat) : Option (Unit × Mem) :=
  some ((), sL (sI (sI σ 20 x0 4 1) 20 x0 5 0) 20 x0 6 0)
def kU_init (σ : Mem) (x0 : Nat) (x1 x2 x3 : Int32) : Option (Unit × Mem) :=
  some ((), sV (sI (sI (sI (sI σ 23 x0 0 x1) 23 x0 1 x2) 23 x0 2 x3) 23 x0 3 1) 23 x0)
def kU_forbidsEnd (σ : Mem) (x0 : Nat) (x1 : Int32) : Option (Int32 × Mem) :=
  if (mI σ 23 x0 3) = 0 then
      some (0, σ)
    else
      if (mI σ 23 x0 0) = 2 then
        if x1 = ((mI σ 23 x0 1) + 1) then
          some (1, σ)
        else
          some (0, σ)
      else
        some (0, σ)
def kU_percentageOf_j36 (σ : Mem) (x0 : Nat) (y0 : Int32) : Option (Int32 × Mem) :=
  if (mI σ 23 x0 3) = 0 then
      some (0, σ)
    else
      if y0 = 0 then
        some (0, σ)
      else
        some (mI σ 23 x0 2, σ)
def kU_percentageOf_j35 (σ : Mem) (x0 : Nat) : Option (Int32 × Mem) :=
  kU_percentageOf_j36 σ x0 0
def kU_percentageOf_j31 (σ : Mem) (x0 : Nat) : Option (Int32 × Mem) :=
  kU_percentageOf_j36 σ x0 1
def kU_percentageOf_j15 (σ : Mem) (x0 : Nat) (x2 : Int32) : Option (Int32 × Mem) :=
  if (mI σ 23 x0 0) = 1 then
      if x2 < (mI σ 23 x0 1) then
        kU_percentageOf_j35 σ x0
      else
        kU_percentageOf_j31 σ x0
    else
      kU_percentageOf_j35 σ x0
def kU_percentageOf (σ : Mem) (x0 : Nat) (x1 : Int32) (x2 : Int32) : Option (Int32 × Mem) :=
  if (mI σ 23 x0 0) = 0 then
      if (mI σ 23 x0 1) ≤ x1 then
        kU_percentageOf_j31 σ x0
      else
        kU_percentageOf_j15 σ x0 x2
    else
      kU_percentageOf_j15 σ x0 x2
def kT_setAmount_s15 (x1 : Int32) (x3 : Int32) (x4 : Int32) : Int32 × Mem → Option ((Int32 × Mem) ⊕ (Mem))
  | (x5, σ) => if x3 ≤ x5 then
        some (.inr σ)
      else
        if 60 ≤ x5 then
          some (.inr σ)
        else
          if inR x1 5 then
          if inR x5 60 then
          some (.inl ((x5 + 1), sI σ 16 (ix x1) (ix x5) x4))
          else none
          else none
def kT_setAmount_x45 (σ : Mem) : Option (Unit × Mem) :=
  some ((), σ)
def kT_setAmount (σ : Mem) (x1 : Int32) (x2 : Int32) (x3 : Int32) (x4 : Int32) : Option (Unit × Mem) :=
  (kG_isWant σ x1).bind (fun x => (fun (r1 : Int32) (σ2 : Mem) =>
    if r1 = 0 then
      some ((), σ2)
    else
      (loopF FU (kT_setAmount_s15 x1 x3 x4) ((jmax x2 0), σ2)).bind (fun s => kT_setAmount_x45 s)) x.1 x.2)
def kT_isRule_j35 (σ : Mem) (x1 : Int32) (x2 : Int32) (y0 : Int32) : Option (Int32 × Mem) :=
  if y0 = 0 then
      some (0, σ)
    else
      if x1 < 1 then
        some (0, σ)
      else
        if 60 < x1 then
          some (0, σ)
        else
          if x2 < (-100) then
            some (0, σ)
          else
            if 300 < x2 then
              some (0, σ)
            else
              some (1, σ)
def kT_isRule_j30 (σ : Mem) (x1 : Int32) (x2 : Int32) : Option (Int32 × Mem) :=
  kT_isRule_j35 σ x1 x2 1
def kT_isRule (σ : Mem) (x0 : Int32) (x1 : Int32) (x2 : Int32) : Option (Int32 × Mem) :=
  if x0 = 2 then
      if x1 < 0 then
        some (0, σ)
      else
        if 58 < x1 then
          some (0, σ)
        else
          some (1, σ)
    else
      if x0 = 0 then
        kT_isRule_j30 σ x1 x2
      else
        if x0 = 1 then
          kT_isRule_j30 σ x1 x2
        else
          kT_isRule_j35 σ x1 x2 0
def kT_addRule (σ : Mem) (x1 : Int32) (x2 : Int32) (x3 : Int32) : Option (Int32 × Mem) :=
  if (mI σ 14 0 2) < 0 then
      some ((-1), σ)
    else
      if 8 ≤ (mI σ 14 0 2) then
        some ((-1), σ)
      else
        (kT_isRule σ x1 x2 x3).bind (fun x => (fun (r1 : Int32) (σ2 : Mem) =>
        if r1 = 0 then
          some ((-1), σ2)
        else
          if mV σ2 23 (ix (mI σ2 14 0 2)) = false then
          (kU_init σ2 (ix (mI σ2 14 0 2)) x1 x2 x3).bind (fun x => (fun (_ : Unit) (σ5 : Mem) =>
          if inR (mI σ2 14 0 2) 8 then
          some ((mI (sI (sR σ5 17 0 (ix (mI σ2 14 0 2)) (some (ix (mI σ2 14 0 2)))) 14 0 2 ((mI (sR σ5 17 0 (ix (mI σ2 14 0 2)) (some (ix (mI σ2 14 0 2)))) 14 0 2) + 1)) 14 0 2) - 1, sI (sR σ5 17 0 (ix (mI σ2 14 0 2)) (some (ix (mI σ2 14 0 2)))) 14 0 2 ((mI (sR σ5 17 0 (ix (mI σ2 14 0 2)) (some (ix (mI σ2 14 0 2)))) 14 0 2) + 1))
          else none) x.1 x.2)
          else none) x.1 x.2)
def kT_endRule_j20 (σ : Mem) (y0 : Option Nat) : Option (Int32 × Mem) :=
  (y0).elim
      (some (0, σ))
      (fun j1 => if (mI σ 23 j1 3) = 0 then
          some (0, σ)
        else
          some (1, sI σ 23 j1 3 0))
def kT_endRule_j19 (σ : Mem) : Option (Int32 × Mem) :=
  kT_endRule_j20 σ none
def kT_endRule (σ : Mem) (x1 : Int32) : Option (Int32 × Mem) :=
  if x1 < 0 then
      kT_endRule_j19 σ
    else
      if 8 ≤ x1 then
        kT_endRule_j19 σ
      else
        if inR x1 8 then
        (mR σ 17 0 (ix x1)).elim
          (kT_endRule_j20 σ none)
          (fun j4 => kT_endRule_j20 σ (some j4))
        else none
def kT_heldRules_s4 : Int32 × Int32 × Mem → Option ((Int32 × Int32 × Mem) ⊕ (Int32 × Mem))
  | (x1, x2, σ) => if (mI σ 14 0 2) ≤ x2 then
        some (.inr (x1, σ))
      else
        if 8 ≤ x2 then
          some (.inr (x1, σ))
        else
          if inR x2 8 then
          (mR σ 17 0 (ix x2)).elim
            (some (.inl ((x1 + 0), (x2 + 1), σ)))
            (fun j2 => if (mI σ 23 j2 3) = 0 then
                some (.inl ((x1 + 0), (x2 + 1), σ))
              else
                some (.inl ((x1 + 1), (x2 + 1), σ)))
          else none
def kT_heldRules_x50 (σ : Mem) (x1 : Int32) : Option (Int32 × Mem) :=
  some (x1, σ)
def kT_heldRules (σ : Mem) : Option (Int32 × Mem) :=
  (loopF FU (kT_heldRules_s4) (0, 0, σ)).bind (fun s => kT_heldRules_x50 s.2 s.1)
def kT_mayEnd_s2 (x1 : Int32) : Int32 × Mem → Option ((Int32 × Mem) ⊕ ((Mem) ⊕ (Mem)))
  | (x2, σ) => if (mI σ 14 0 2) ≤ x2 then
        some (.inr (.inr σ))
      else
        if 8 ≤ x2 then
          some (.inr (.inr σ))
        else
          if inR x2 8 then
          (mR σ 17 0 (ix x2)).elim
            (some (.inl ((x2 + 1), σ)))
            (fun j2 => (kU_forbidsEnd σ j2 x1).bind (fun x => (fun (r3 : Int32) (σ4 : Mem) =>
              if r3 = 0 then
                some (.inl ((x2 + 1), σ4))
              else
                some (.inr (.inl σ4))) x.1 x.2))
          else none
def kT_mayEnd_x35 (σ : Mem) : Option (Int32 × Mem) :=
  some (0, σ)
def kT_mayEnd_x43 (σ : Mem) : Option (Int32 × Mem) :=
  some (1, σ)
def kT_mayEnd (σ : Mem) (x1 : Int32) : Option (Int32 × Mem) :=
  (loopF FU (kT_mayEnd_s2 x1) (0, σ)).bind (fun s => Sum.elim (fun s => kT_mayEnd_x35 s) (fun s => kT_mayEnd_x43 s) s)
def kT_costBy_s7 (x1 : Int64) (x3 : Int32) (x4 : Int32) : Int32 × Int32 × Mem → Option ((Int32 × Int32 × Mem) ⊕ (Int32 × Mem))
  | (x5, x6, σ) => if (mI σ 14 0 2) ≤ x6 then
        some (.inr (x5, σ))
      else
        if 8 ≤ x6 then
          some (.inr (x5, σ))
        else
          if inR x6 8 then
          (mR σ 17 0 (ix x6)).elim
            (some (.inl ((x5 + 0), (x6 + 1), σ)))
            (fun j2 => (kU_percentageOf σ j2 x3 x4).bind (fun x => (fun (r3 : Int32) (σ4 : Mem) =>
              some (.inl ((x5 + r3), (x6 + 1), σ4))) x.1 x.2))
          else none
def kT_costBy_x60 (σ : Mem) (x1 : Int64) (x5 : Int32) : Option (Int64 × Mem) :=
  some ((x1 * ((jmax x5 0).toInt64)) / 100, σ)
def kT_costBy (σ : Mem) (x1 : Int64) (x3 : Int32) (x4 : Int32) : Option (Int64 × Mem) :=
  (loopF FU (kT_costBy_s7 x1 x3 x4) (100, 0, σ)).bind (fun s => kT_costBy_x60 s.2 x1 s.1)
def kG_isSpan (σ : Mem) (x0 : Int32) (x1 : Int32) : Option (Int32 × Mem) :=
  if x0 < 0 then
      some (0, σ)
    else
      if x1 < x0 then
        some (0, σ)
      else
        if 60 < x1 then
          some (0, σ)
        else
          some (1, σ)
def kT_costOf_s33 (x1 : Int32) (x2 : Int32) (x3 : Int32) (x4 : Int32) : Int64 × Int32 × Mem → Option ((Int64 × Int32 × Mem) ⊕ (Int64 × Mem))
  | (x5, x7, σ) => if x3 ≤ x7 then
        some (.inr (x5, σ))
      else
        if inR x1 5 then
        if inR x7 60 then
        some (.inl ((x5 + ((mI σ 16 (ix x1) (ix x7)).toInt64)), (x7 + 1), σ))
        else none
        else none
def kT_costOf_x60 (σ : Mem) (x2 : Int32) (x3 : Int32) (x4 : Int32) (x5 : Int64) : Option (Int64 × Mem) :=
  (kT_costBy σ x5 (x3 - x2) (x2 - x4)).bind (fun x => (fun (r10 : Int64) (σ11 : Mem) =>
    some (r10, σ11)) x.1 x.2)
def kT_costOf (σ : Mem) (x1 : Int32) (x2 : Int32) (x3 : Int32) (x4 : Int32) : Option (Int64 × Mem) :=
  (kG_isWant σ x1).bind (fun x => (fun (r1 : Int32) (σ2 : Mem) =>
    if r1 = 0 then
      some ((-1), σ2)
    else
      (kG_isSpan σ2 x2 x3).bind (fun x => (fun (r3 : Int32) (σ4 : Mem) =>
      if r3 = 0 then
        some ((-1), σ4)
      else
        (kT_mayEnd σ4 x3).bind (fun x => (fun (r5 : Int32) (σ6 : Mem) =>
        if r5 = 0 then
          some ((-1), σ6)
        else
          (loopF FU (kT_costOf_s33 x1 x2 x3 x4) (0, x2, σ6)).bind (fun s => kT_costOf_x60 s.2 x2 x3 x4 s.1)) x.1 x.2)) x.1 x.2)) x.1 x.2)
def kT_searchLastPart_j130 (σ : Mem) (x1 : Int32) (x2 : Int32) (x3 : Int32) (x4 : Int32) (x5 : Int64) (x7 : Int32) (x8 : Int64) (x10 : Int32) : Option (Int64 × Int32 × Mem ⊕ (Mem)) :=
  if inR x3 61 then
    if inR x3 61 then
    some (.inl (x5, (x7 + (-1)), sI (sL σ 18 0 (ix x3) x8) 19 0 (ix x3) x10))
    else none
    else none
def kT_searchLastPart_s8 (x1 : Int32) (x2 : Int32) (x3 : Int32) (x4 : Int32) : Int64 × Int32 × Mem → Option ((Int64 × Int32 × Mem) ⊕ (Mem))
  | (x5, x7, σ) => if x7 < x2 then
        some (.inr σ)
      else
        if inR x1 5 then
        if inR x7 60 then
        if inR x7 61 then
        if (lg_cmp (mL σ 18 0 (ix x7)) (-1)) = 0 then
          some (.inl ((x5 + ((mI σ 16 (ix x1) (ix x7)).toInt64)), (x7 + (-1)), σ))
        else
          if inR x7 61 then
          (kT_costBy σ (x5 + ((mI σ 16 (ix x1) (ix x7)).toInt64)) (x3 - x7) (x7 - x4)).bind (fun x => (fun (r5 : Int64) (σ6 : Mem) =>
          if inR x7 61 then
          if inR x3 61 then
          if (lg_cmp (mL σ6 18 0 (ix x3)) (-1)) = 0 then
            kT_searchLastPart_j130 σ6 x1 x2 x3 x4 (x5 + ((mI σ 16 (ix x1) (ix x7)).toInt64)) x7 ((mL σ 18 0 (ix x7)) + r5) ((mI σ6 19 0 (ix x7)) + 1)
          else
            if inR x3 61 then
            if (lg_cmp ((mL σ 18 0 (ix x7)) + r5) (mL σ6 18 0 (ix x3))) < 0 then
              kT_searchLastPart_j130 σ6 x1 x2 x3 x4 (x5 + ((mI σ 16 (ix x1) (ix x7)).toInt64)) x7 ((mL σ 18 0 (ix x7)) + r5) ((mI σ6 19 0 (ix x7)) + 1)
            else
              if inR x3 61 then
              if (lg_cmp ((mL σ 18 0 (ix x7)) + r5) (mL σ6 18 0 (ix x3))) = 0 then
                if inR x3 61 then
                if (mI σ6 19 0 (ix x3)) ≤ ((mI σ6 19 0 (ix x7)) + 1) then
                  some (.inl ((x5 + ((mI σ 16 (ix x1) (ix x7)).toInt64)), (x7 + (-1)), σ6))
                else
                  kT_searchLastPart_j130 σ6 x1 x2 x3 x4 (x5 + ((mI σ 16 (ix x1) (ix x7)).toInt64)) x7 ((mL σ 18 0 (ix x7)) + r5) ((mI σ6 19 0 (ix x7)) + 1)
                else none
              else
                some (.inl ((x5 + ((mI σ 16 (ix x1) (ix x7)).toInt64)), (x7 + (-1)), σ6))
              else none
            else none
          else none
          else none) x.1 x.2)
          else none
        else none
        else none
        else none
def kT_searchLastPart_x152 (σ : Mem) : Option (Unit × Mem) :=
  some ((), σ)
def kT_searchLastPart (σ : Mem) (x1 : Int32) (x2 : Int32) (x3 : Int32) (x4 : Int32) : Option (Unit × Mem) :=
  (loopF FU (kT_searchLastPart_s8 x1 x2 x3 x4) (0, (x3 - 1), σ)).bind (fun s => kT_searchLastPart_x152 s)
def kT_search_s36 (x1 : Int32) (x2 : Int32) (x3 : Int32) (x4 : Int32) : Int32 × Mem → Option ((Int32 × Mem) ⊕ (Mem))
  | (x5, σ) => if x3 < x5 then
        some (.inr σ)
      else
        if inR x5 61 then
        (kT_mayEnd (sL σ 18 0 (ix x5) (-1)) x5).bind (fun x => (fun (r8 : Int32) (σ9 : Mem) =>
        if r8 = 0 then
          some (.inl ((x5 + 1), σ9))
        else
          (kT_searchLastPart σ9 x1 x2 x5 x4).bind (fun x => (fun (_ : Unit) (σ11 : Mem) =>
          some (.inl ((x5 + 1), σ11))) x.1 x.2)) x.1 x.2)
        else none
def kT_search_x77 (σ : Mem) (x3 : Int32) : Option (Int32 × Mem) :=
  if inR x3 61 then
    if (lg_cmp (mL σ 18 0 (ix x3)) (-1)) = 0 then
      some (0, σ)
    else
      some (1, σ)
    else none
def kT_search (σ : Mem) (x1 : Int32) (x2 : Int32) (x3 : Int32) (x4 : Int32) : Option (Int32 × Mem) :=
  (kG_isWant σ x1).bind (fun x => (fun (r1 : Int32) (σ2 : Mem) =>
    if r1 = 0 then
      some (0, σ2)
    else
      (kG_isSpan σ2 x2 x3).bind (fun x => (fun (r3 : Int32) (σ4 : Mem) =>
      if r3 = 0 then
        some (0, σ4)
      else
        if inR x2 61 then
        if inR x2 61 then
        (loopF FU (kT_search_s36 x1 x2 x3 x4) ((x2 + 1), sI (sL σ4 18 0 (ix x2) 0) 19 0 (ix x2) 0)).bind (fun s => kT_search_x77 s x3)
        else none
        else none) x.1 x.2)) x.1 x.2)
def kT_leastCost (σ : Mem) (x1 : Int32) (x2 : Int32) (x3 : Int32) (x4 : Int32) : Option (Int64 × Mem) :=
  (kT_search σ x1 x2 x3 x4).bind (fun x => (fun (r1 : Int32) (σ2 : Mem) =>
    if r1 = 0 then
      some ((-1), σ2)
    else
      if inR x3 61 then
      some (mL σ2 18 0 (ix x3), σ2)
      else none) x.1 x.2)
def kT_leastParts (σ : Mem) (x1 : Int32) (x2 : Int32) (x3 : Int32) (x4 : Int32) : Option (Int32 × Mem) :=
  (kT_search σ x1 x2 x3 x4).bind (fun x => (fun (r1 : Int32) (σ2 : Mem) =>
    if r1 = 0 then
      some ((-1), σ2)
    else
      if inR x3 61 then
      some (mI σ2 19 0 (ix x3), σ2)
      else none) x.1 x.2)
def kV_roomless (σ : Mem) (x1 : Int32) : Option (Int32 × Mem) :=
  if inR 3 5 then
    if inR 2 4 then
    if inR 2 4 then
    if inR 1 4 then
    if inR 2 5 then
    if inR 1 5 then
    if inR 0 4 then
    if inR 1 5 then
    if inR 2 5 then
    if inR 3 5 then
    if inR 4 5 then
    some ((((((((mI σ 10 0 (ix 1)) + (mI σ 10 0 (ix 2))) + (mI σ 10 0 (ix 3))) + (mI σ 10 0 (ix 4))) - (jmin (mI σ 10 0 (ix 3)) (mI σ 9 0 (ix 2)))) - (jmin (mI σ 10 0 (ix 2)) ((((mI σ 9 0 (ix 2)) - (jmin (mI σ 10 0 (ix 3)) (mI σ 9 0 (ix 2)))) + (mI σ 9 0 (ix 1))) - (2 * x1)))) - (jmin (mI σ 10 0 (ix 1)) ((((((mI σ 9 0 (ix 2)) - (jmin (mI σ 10 0 (ix 3)) (mI σ 9 0 (ix 2)))) + (mI σ 9 0 (ix 1))) - (2 * x1)) - (jmin (mI σ 10 0 (ix 2)) ((((mI σ 9 0 (ix 2)) - (jmin (mI σ 10 0 (ix 3)) (mI σ 9 0 (ix 2)))) + (mI σ 9 0 (ix 1))) - (2 * x1)))) + (mI σ 9 0 (ix 0))))) - x1, σ)
    else none
    else none
    else none
    else none
    else none
    else none
    else none
    else none
    else none
    else none
    else none
def kV_shortage_s22 (x1 : Int32) : Int32 × Int32 × Mem → Option ((Int32 × Int32 × Mem) ⊕ (Int32 × Mem))
  | (x2, x3, σ) => if x1 < x3 then
        some (.inr (x2, σ))
      else
        (kV_roomless σ x3).bind (fun x => (fun (r4 : Int32) (σ5 : Mem) =>
        some (.inl ((jmin x2 r4), (x3 + 1), σ5))) x.1 x.2)
def kV_shortage_x43 (σ : Mem) (x2 : Int32) : Option (Int32 × Mem) :=
  if inR 0 5 then
    if inR 3 4 then
    some (x2 + (jmax 0 ((mI σ 10 0 (ix 0)) - (mI σ 9 0 (ix 3)))), σ)
    else none
    else none
def kV_shortage (σ : Mem) : Option (Int32 × Mem) :=
  if inR 4 5 then
    (kV_roomless σ 0).bind (fun x => (fun (r2 : Int32) (σ3 : Mem) =>
    (loopF FU (kV_shortage_s22 (jmin (mI σ 10 0 (ix 4)) (mI σ 7 0 4))) (r2, 1, σ3)).bind (fun s => kV_shortage_x43 s.2 s.1)) x.1 x.2)
    else none
def kG_replanFrom (σ : Mem) (x1 : Int32) : Option (Unit × Mem) :=
  some ((), sI σ 1 0 7 (jmax (mI σ 1 0 5) (jmin (mI σ 1 0 7) x1)))
def kG_room_j64 (σ : Mem) (x1 : Int32) (x2 : Int32) (x3 : Int32) (x4 : Int32) (x5 : Int32) : Option (Int32 × Mem) :=
  if mV σ 20 (ix x1) = false then
    (kR_init σ (ix x1) x2 x3 x4 x5).bind (fun x => (fun (_ : Unit) (σ5 : Mem) =>
    (kH_putRoom σ5 x1 (ix x1)).bind (fun x => (fun (_ : Unit) (σ7 : Mem) =>
    (kG_replanFrom σ7 0).bind (fun x => (fun (_ : Unit) (σ9 : Mem) =>
    some (1, σ9)) x.1 x.2)) x.1 x.2)) x.1 x.2)
    else none
def kG_room (σ : Mem) (x1 : Int32) (x2 : Int32) (x3 : Int32) (x4 : Int32) (x5 : Int32) : Option (Int32 × Mem) :=
  (kH_isEmpty σ x1).bind (fun x => (fun (r1 : Int32) (σ2 : Mem) =>
    if r1 = 0 then
      some (0, σ2)
    else
      if x2 < 0 then
        some (0, σ2)
      else
        if 4 ≤ x2 then
          some (0, σ2)
        else
          if x3 < 0 then
            some (0, σ2)
          else
            if x3 < 10 then
              if x5 < 0 then
                some (0, σ2)
              else
                if 60 < x5 then
                  some (0, σ2)
                else
                  if x2 = 3 then
                    if x4 < 2 then
                      some (0, σ2)
                    else
                      if x4 ≤ 6 then
                        kG_room_j64 σ2 x1 x2 x3 x4 x5
                      else
                        some (0, σ2)
                  else
                    kG_room_j64 σ2 x1 x2 x3 x4 x5
            else
              some (0, σ2)) x.1 x.2)
def kG_store (σ : Mem) (x1 : Int32) : Option (Int32 × Mem) :=
  (kH_isEmpty σ x1).bind (fun x => (fun (r1 : Int32) (σ2 : Mem) =>
    if r1 = 0 then
      some (0, σ2)
    else
      (kH_putStore σ2 x1).bind (fun x => (fun (_ : Unit) (σ4 : Mem) =>
      some (1, σ4)) x.1 x.2)) x.1 x.2)
def kG_door (σ : Mem) (x1 : Int32) : Option (Int32 × Mem) :=
  (kH_join σ x1).bind (fun x => (fun (r1 : Int32) (σ2 : Mem) =>
    if r1 = 0 then
      some (0, σ2)
    else
      (kG_replanFrom σ2 0).bind (fun x => (fun (_ : Unit) (σ4 : Mem) =>
      some (1, σ4)) x.1 x.2)) x.1 x.2)
def kG_shut (σ : Mem) (x1 : Int32) (x2 : Int32) (x3 : Int32) (x4 : Int32) : Option (Int32 × Mem) :=
  (kH_roomAt σ x1).bind (fun x => (fun (r1 : Option Nat) (σ2 : Mem) =>
    (r1).elim
      (some ((-1), σ2))
      (fun j3 => if (mI σ2 20 j3 4) = 0 then
          (kG_isSpan σ2 x2 x3).bind (fun x => (fun (r4 : Int32) (σ5 : Mem) =>
          if r4 = 0 then
            some ((-1), σ5)
          else
            (kG_replanFrom σ5 x2).bind (fun x => (fun (_ : Unit) (σ7 : Mem) =>
            (kR_setShut σ7 j3 x2 x3 x4).bind (fun x => (fun (r8 : Int32) (σ9 : Mem) =>
            some (r8, σ9)) x.1 x.2)) x.1 x.2)) x.1 x.2)
        else
          some ((-1), σ2))) x.1 x.2)
def kG_open (σ : Mem) (x1 : Int32) (x2 : Int32) : Option (Int32 × Mem) :=
  (kH_roomAt σ x1).bind (fun x => (fun (r1 : Option Nat) (σ2 : Mem) =>
    (r1).elim
      (some ((-1), σ2))
      (fun j3 => (kG_replanFrom σ2 0).bind (fun x => (fun (_ : Unit) (σ5 : Mem) =>
        (kR_lengthen σ5 j3 x2).bind (fun x => (fun (r6 : Int32) (σ7 : Mem) =>
        some (r6, σ7)) x.1 x.2)) x.1 x.2))) x.1 x.2)
def kG_close (σ : Mem) (x1 : Int32) : Option (Int32 × Mem) :=
  (kH_roomAt σ x1).bind (fun x => (fun (r1 : Option Nat) (σ2 : Mem) =>
    (r1).elim
      (some (0, σ2))
      (fun j3 => if (mI σ2 20 j3 4) = 0 then
          (kR_closeAltogether σ2 j3).bind (fun x => (fun (_ : Unit) (σ5 : Mem) =>
          (kG_replanFrom σ5 0).bind (fun x => (fun (_ : Unit) (σ7 : Mem) =>
          some (1, σ7)) x.1 x.2)) x.1 x.2)
        else
          some (0, σ2))) x.1 x.2)
def kG_look (σ : Mem) (x1 : Int32) (x2 : Int32) : Option (Int32 × Mem) :=
  (kG_isPlace σ x1).bind (fun x => (fun (r1 : Int32) (σ2 : Mem) =>
    if r1 = 0 then
      some ((-2), σ2)
    else
      (kH_roomAt σ2 x1).bind (fun x => (fun (r3 : Option Nat) (σ4 : Mem) =>
      if x2 = 0 then
        (kH_kindAt σ4 x1).bind (fun x => (fun (r6 : Int32) (σ7 : Mem) =>
        some (r6, σ7)) x.1 x.2)
      else
        (r3).elim
          (some ((-1), σ4))
          (fun j5 => if x2 = 1 then
              some (mI σ4 20 j5 1, σ4)
            else if x2 = 2 then
              some (mI σ4 20 j5 2, σ4)
            else if x2 = 3 then
              some (mI σ4 20 j5 3, σ4)
            else some ((-1), σ4))) x.1 x.2)) x.1 x.2)
def kG_night (σ : Mem) (x1 : Int32) (x2 : Int32) : Option (Int32 × Mem) :=
  (kG_isNight σ x2).bind (fun x => (fun (r1 : Int32) (σ2 : Mem) =>
    if r1 = 0 then
      some ((-4), σ2)
    else
      (kH_roomAt σ2 x1).bind (fun x => (fun (r3 : Option Nat) (σ4 : Mem) =>
      (r3).elim
        (some ((-3), σ4))
        (fun j5 => (kR_stateIn σ4 j5 x2).bind (fun x => (fun (r6 : Int32) (σ7 : Mem) =>
          some (r6, σ7)) x.1 x.2))) x.1 x.2)) x.1 x.2)
def kG_isWish (σ : Mem) (x1 : Int32) (x2 : Int32) (x3 : Int32) : Option (Int32 × Mem) :=
  (kG_isWant σ x1).bind (fun x => (fun (r1 : Int32) (σ2 : Mem) =>
    if r1 = 0 then
      some (0, σ2)
    else
      if x2 < (mI σ2 1 0 5) then
        some (0, σ2)
      else
        if x3 ≤ x2 then
          some (0, σ2)
        else
          if 60 < x3 then
            some (0, σ2)
          else
            some (1, σ2)) x.1 x.2)
def kG_mostPeople (σ : Mem) (x0 : Int32) : Option (Int32 × Mem) :=
  if x0 = 0 then
      some (1, σ)
    else if x0 = 1 then
      some (1, σ)
    else if x0 = 2 then
      some (2, σ)
    else if x0 = 3 then
      some (2, σ)
    else if x0 = 4 then
      some (4, σ)
    else some (0, σ)
def kG_shortOf_s11 (x1 : Int32) (x2 : Int32) (x3 : Int32) : Int32 × Mem → Option ((Int32 × Mem) ⊕ (Mem))
  | (x4, σ) => if (mI σ 5 0 1) ≤ x4 then
        some (.inr σ)
      else
        (kB_at σ x4).bind (fun x => (fun (r3 : Option Nat) (σ4 : Mem) =>
        (r3).elim
          (some (.inl ((x4 + 1), σ4)))
          (fun j5 => if x4 = x3 then
              some (.inl ((x4 + 1), σ4))
            else
              (kQ_stands σ4 j5).bind (fun x => (fun (r6 : Int32) (σ7 : Mem) =>
              if r6 = 0 then
                some (.inl ((x4 + 1), σ7))
              else
                (kQ_covers σ7 j5 x1).bind (fun x => (fun (r8 : Int32) (σ9 : Mem) =>
                if r8 = 0 then
                  some (.inl ((x4 + 1), σ9))
                else
                  (kV_addNeed σ9 (mI σ9 21 j5 0)).bind (fun x => (fun (_ : Unit) (σ11 : Mem) =>
                  some (.inl ((x4 + 1), σ11))) x.1 x.2)) x.1 x.2)) x.1 x.2))) x.1 x.2)
def kG_shortOf_x80 (σ : Mem) (x2 : Int32) : Option (Int32 × Mem) :=
  (kV_addNeed σ x2).bind (fun x => (fun (_ : Unit) (σ17 : Mem) =>
    (kV_shortage σ17).bind (fun x => (fun (r18 : Int32) (σ19 : Mem) =>
    some (r18, σ19)) x.1 x.2)) x.1 x.2)
def kG_shortOf (σ : Mem) (x1 : Int32) (x2 : Int32) (x3 : Int32) : Option (Int32 × Mem) :=
  (kV_begin σ x1).bind (fun x => (fun (_ : Unit) (σ2 : Mem) =>
    (loopF FU (kG_shortOf_s11 x1 x2 x3) (0, σ2)).bind (fun s => kG_shortOf_x80 s x2)) x.1 x.2)
def kG_refusalOf_s53 (x1 : Int32) (x4 : Int32) (x5 : Int32) : Int32 × Mem → Option ((Int32 × Mem) ⊕ ((Mem) ⊕ (Mem)))
  | (x6, σ) => if x4 ≤ x6 then
        some (.inr (.inr σ))
      else
        (kG_shortOf σ x6 x1 x5).bind (fun x => (fun (r7 : Int32) (σ8 : Mem) =>
        if r7 ≤ (mI σ8 1 0 6) then
          some (.inl ((x6 + 1), σ8))
        else
          some (.inr (.inl σ8))) x.1 x.2)
def kG_refusalOf_x76 (σ : Mem) : Option (Int32 × Mem) :=
  some (3, σ)
def kG_refusalOf_x84 (σ : Mem) (x5 : Int32) : Option (Int32 × Mem) :=
  if x5 = (-1) then
      (kB_isFull σ).bind (fun x => (fun (r11 : Int32) (σ12 : Mem) =>
      if r11 = 0 then
        some (0, σ12)
      else
        some (4, σ12)) x.1 x.2)
    else
      some (0, σ)
def kG_refusalOf (σ : Mem) (x1 : Int32) (x2 : Int32) (x3 : Int32) (x4 : Int32) (x5 : Int32) : Option (Int32 × Mem) :=
  (kG_isWish σ x1 x3 x4).bind (fun x => (fun (r1 : Int32) (σ2 : Mem) =>
    if r1 = 0 then
      some (1, σ2)
    else
      if x2 < 1 then
        some (1, σ2)
      else
        (kG_mostPeople σ2 x1).bind (fun x => (fun (r3 : Int32) (σ4 : Mem) =>
        if x2 ≤ r3 then
          (kT_leastCost σ4 x1 x3 x4 (mI σ4 1 0 5)).bind (fun x => (fun (r5 : Int64) (σ6 : Mem) =>
          if (lg_cmp r5 (-1)) = 0 then
            some (2, σ6)
          else
            (loopF FU (kG_refusalOf_s53 x1 x4 x5) (x3, σ6)).bind (fun s => Sum.elim (fun s => kG_refusalOf_x76 s) (fun s => kG_refusalOf_x84 s x5) s)) x.1 x.2)
        else
          some (1, σ4)) x.1 x.2)) x.1 x.2)
def kG_can (σ : Mem) (x1 : Int32) (x2 : Int32) (x3 : Int32) (x4 : Int32) : Option (Int32 × Mem) :=
  (kG_refusalOf σ x1 x2 x3 x4 (-1)).bind (fun x => (fun (r1 : Int32) (σ2 : Mem) =>
    some (r1, σ2)) x.1 x.2)
def kG_promise_j35 (σ : Mem) (x1 : Int32) (x2 : Int32) (x3 : Int32) (x4 : Int32) (x5 : Int32) (x6 : Int32) : Option (Int32 × Mem) :=
  if x6 = 0 then
      if mV σ 21 (ix (mI σ 5 0 1)) = false then
      (kQ_init σ (ix (mI σ 5 0 1)) x1 x2 x5).bind (fun x => (fun (_ : Unit) (σ5 : Mem) =>
      (kT_leastCost σ5 x1 x3 x4 (mI σ5 1 0 5)).bind (fun x => (fun (r6 : Int64) (σ7 : Mem) =>
      (kQ_setNights σ7 (ix (mI σ 5 0 1)) x3 x4 r6).bind (fun x => (fun (_ : Unit) (σ9 : Mem) =>
      (kG_replanFrom σ9 x3).bind (fun x => (fun (_ : Unit) (σ11 : Mem) =>
      (kB_enter σ11 (ix (mI σ 5 0 1))).bind (fun x => (fun (r12 : Int32) (σ13 : Mem) =>
      some (r12, σ13)) x.1 x.2)) x.1 x.2)) x.1 x.2)) x.1 x.2)) x.1 x.2)
      else none
    else
      some ((-1) - x6, σ)
def kG_promise (σ : Mem) (x1 : Int32) (x2 : Int32) (x3 : Int32) (x4 : Int32) (x5 : Int32) : Option (Int32 × Mem) :=
  (kG_refusalOf σ x1 x2 x3 x4 (-1)).bind (fun x => (fun (r1 : Int32) (σ2 : Mem) =>
    if r1 = 0 then
      if x5 = (-1) then
        kG_promise_j35 σ2 x1 x2 x3 x4 x5 r1
      else
        if (mI σ2 1 0 5) ≤ x5 then
          kG_promise_j35 σ2 x1 x2 x3 x4 x5 r1
        else
          kG_promise_j35 σ2 x1 x2 x3 x4 x5 5
    else
      kG_promise_j35 σ2 x1 x2 x3 x4 x5 r1) x.1 x.2)
def kG_setState (σ : Mem) (x1 : Nat) (x2 : Int32) : Option (Unit × Mem) :=
  (kG_replanFrom (sI σ 21 x1 3 x2) (mI (sI σ 21 x1 3 x2) 21 x1 4)).bind (fun x => (fun (_ : Unit) (σ2 : Mem) =>
    some ((), σ2)) x.1 x.2)
def kG_firm (σ : Mem) (x1 : Int32) : Option (Int32 × Mem) :=
  (kB_at σ x1).bind (fun x => (fun (r1 : Option Nat) (σ2 : Mem) =>
    (r1).elim
      (some (0, σ2))
      (fun j3 => if (mI σ2 21 j3 3) = 0 then
          (kG_setState σ2 j3 1).bind (fun x => (fun (_ : Unit) (σ5 : Mem) =>
          some (1, σ5)) x.1 x.2)
        else
          some (0, σ2))) x.1 x.2)
def kG_cancel (σ : Mem) (x1 : Int32) : Option (Int32 × Mem) :=
  (kB_at σ x1).bind (fun x => (fun (r1 : Option Nat) (σ2 : Mem) =>
    (r1).elim
      (some (0, σ2))
      (fun j3 => (kQ_isAhead σ2 j3).bind (fun x => (fun (r4 : Int32) (σ5 : Mem) =>
        if r4 = 0 then
          some (0, σ5)
        else
          (kG_setState σ5 j3 4).bind (fun x => (fun (_ : Unit) (σ7 : Mem) =>
          some (1, σ7)) x.1 x.2)) x.1 x.2))) x.1 x.2)
def kG_change (σ : Mem) (x1 : Int32) (x2 : Int32) (x3 : Int32) : Option (Int32 × Mem) :=
  (kB_at σ x1).bind (fun x => (fun (r1 : Option Nat) (σ2 : Mem) =>
    (r1).elim
      (some (6, σ2))
      (fun j3 => (kQ_isAhead σ2 j3).bind (fun x => (fun (r4 : Int32) (σ5 : Mem) =>
        if r4 = 0 then
          some (6, σ5)
        else
          (kG_refusalOf σ5 (mI σ5 21 j3 0) (mI σ5 21 j3 1) x2 x3 x1).bind (fun x => (fun (r6 : Int32) (σ7 : Mem) =>
          if r6 = 0 then
            (kG_replanFrom σ7 (mI σ7 21 j3 4)).bind (fun x => (fun (_ : Unit) (σ9 : Mem) =>
            (kG_replanFrom σ9 x2).bind (fun x => (fun (_ : Unit) (σ11 : Mem) =>
            (kT_leastCost σ11 (mI σ11 21 j3 0) x2 x3 (mI σ11 1 0 5)).bind (fun x => (fun (r12 : Int64) (σ13 : Mem) =>
            (kQ_setNights σ13 j3 x2 x3 r12).bind (fun x => (fun (_ : Unit) (σ15 : Mem) =>
            some (0, σ15)) x.1 x.2)) x.1 x.2)) x.1 x.2)) x.1 x.2)
          else
            some (r6, σ7)) x.1 x.2)) x.1 x.2))) x.1 x.2)
def kG_come (σ : Mem) (x1 : Int32) : Option (Int32 × Mem) :=
  (kB_at σ x1).bind (fun x => (fun (r1 : Option Nat) (σ2 : Mem) =>
    (r1).elim
      (some (0, σ2))
      (fun j3 => (kQ_isAhead σ2 j3).bind (fun x => (fun (r4 : Int32) (σ5 : Mem) =>
        if r4 = 0 then
          some (0, σ5)
        else
          if (mI σ5 21 j3 4) = (mI σ5 1 0 5) then
            (kG_setState σ5 j3 2).bind (fun x => (fun (_ : Unit) (σ7 : Mem) =>
            some (1, σ7)) x.1 x.2)
          else
            some (0, σ5)) x.1 x.2))) x.1 x.2)
def kG_planUpTo_s5 (x1 : Int32) : Int32 × Mem → Option ((Int32 × Mem) ⊕ (Mem))
  | (x2, σ) => if x1 < x2 then
        some (.inr σ)
      else
        if 60 ≤ x2 then
          some (.inr σ)
        else
          (kP_makeNight σ x2).bind (fun x => (fun (_ : Unit) (σ2 : Mem) =>
          some (.inl ((x2 + 1), sI σ2 1 0 7 (x2 + 1)))) x.1 x.2)
def kG_planUpTo_x37 (σ : Mem) : Option (Unit × Mem) :=
  some ((), σ)
def kG_planUpTo (σ : Mem) (x1 : Int32) : Option (Unit × Mem) :=
  (loopF FU (kG_planUpTo_s5 x1) ((mI σ 1 0 7), σ)).bind (fun s => kG_planUpTo_x37 s)
def kG_next (σ : Mem) : Option (Int32 × Mem) :=
  if (mI σ 1 0 5) < 59 then
      (kB_missNight σ (mI σ 1 0 5)).bind (fun x => (fun (_ : Unit) (σ2 : Mem) =>
      (kG_replanFrom σ2 (mI σ2 1 0 5)).bind (fun x => (fun (_ : Unit) (σ4 : Mem) =>
      (kG_planUpTo σ4 (mI σ4 1 0 5)).bind (fun x => (fun (_ : Unit) (σ6 : Mem) =>
      (kB_walkFrom σ6 (mI σ6 1 0 5)).bind (fun x => (fun (r7 : Int32) (σ8 : Mem) =>
      (kB_turnTo (sI σ8 1 0 5 ((mI σ8 1 0 5) + 1)) (mI (sI σ8 1 0 5 ((mI σ8 1 0 5) + 1)) 1 0 5)).bind (fun x => (fun (_ : Unit) (σ10 : Mem) =>
      some (r7, sI σ10 1 0 7 (mI σ10 1 0 5))) x.1 x.2)) x.1 x.2)) x.1 x.2)) x.1 x.2)) x.1 x.2)
    else
      some ((-1), σ)
def kG_promised (σ : Mem) (x1 : Int32) (x2 : Int32) : Option (Int64 × Mem) :=
  (kB_at σ x1).bind (fun x => (fun (r1 : Option Nat) (σ2 : Mem) =>
    (r1).elim
      (none)
      (fun j3 => if x2 = 0 then
          some ((mI σ2 21 j3 3).toInt64, σ2)
        else if x2 = 1 then
          some ((mI σ2 21 j3 0).toInt64, σ2)
        else if x2 = 2 then
          some ((mI σ2 21 j3 1).toInt64, σ2)
        else if x2 = 3 then
          some ((mI σ2 21 j3 4).toInt64, σ2)
        else if x2 = 4 then
          some ((mI σ2 21 j3 5).toInt64, σ2)
        else if x2 = 5 then
          some ((mI σ2 21 j3 2).toInt64, σ2)
        else if x2 = 6 then
          some (mL σ2 21 j3 6, σ2)
        else if x2 = 7 then
          (kQ_nightsHad σ2 j3 (mI σ2 1 0 5)).bind (fun x => (fun (r4 : Int32) (σ5 : Mem) =>
          some (r4.toInt64, σ5)) x.1 x.2)
        else if x2 = 8 then
          (kQ_movesIn σ2 j3 0 (mI σ2 1 0 5)).bind (fun x => (fun (r6 : Int32) (σ7 : Mem) =>
          some (r6.toInt64, σ7)) x.1 x.2)
        else none)) x.1 x.2)
def kG_spot (σ : Mem) (x1 : Int32) (x2 : Int32) : Option (Int32 × Mem) :=
  (kB_at σ x1).bind (fun x => (fun (r1 : Option Nat) (σ2 : Mem) =>
    (r1).elim
      (some ((-1), σ2))
      (fun j3 => (kG_isNight σ2 x2).bind (fun x => (fun (r4 : Int32) (σ5 : Mem) =>
        if r4 = 0 then
          some ((-1), σ5)
        else
          (kG_planUpTo σ5 x2).bind (fun x => (fun (_ : Unit) (σ7 : Mem) =>
          (kQ_spotIn σ7 j3 x2).bind (fun x => (fun (r8 : Int32) (σ9 : Mem) =>
          some (r8, σ9)) x.1 x.2)) x.1 x.2)) x.1 x.2))) x.1 x.2)
def kG_moves_s10 : Int32 × Int32 × Mem → Option ((Int32 × Int32 × Mem) ⊕ (Int32 × Mem))
  | (x1, x2, σ) => if (mI σ 5 0 1) ≤ x2 then
        some (.inr (x1, σ))
      else
        (kB_at σ x2).bind (fun x => (fun (r3 : Option Nat) (σ4 : Mem) =>
        (r3).elim
          (some (.inl (x1, (x2 + 1), σ4)))
          (fun j5 => (kQ_movesIn σ4 j5 (mI σ4 1 0 5) 60).bind (fun x => (fun (r6 : Int32) (σ7 : Mem) =>
            some (.inl ((x1 + r6), (x2 + 1), σ7))) x.1 x.2))) x.1 x.2)
def kG_moves_x53 (σ : Mem) (x1 : Int32) : Option (Int32 × Mem) :=
  some (x1, σ)
def kG_moves (σ : Mem) : Option (Int32 × Mem) :=
  (kG_planUpTo σ 59).bind (fun x => (fun (_ : Unit) (σ2 : Mem) =>
    (loopF FU (kG_moves_s10) (0, 0, σ2)).bind (fun s => kG_moves_x53 s.2 s.1)) x.1 x.2)
def kJ_bitCount (σ : Mem) (x0 : Int32) : Option (Int32 × Mem) :=
  some ((((((((x0 - (((x0.toUInt32 >>> ((1 : Int32).toUInt32 &&& Int32.toUInt32 31)).toInt32) &&& 1431655765)) &&& 858993459) + ((((x0 - (((x0.toUInt32 >>> ((1 : Int32).toUInt32 &&& Int32.toUInt32 31)).toInt32) &&& 1431655765)).toUInt32 >>> ((2 : Int32).toUInt32 &&& Int32.toUInt32 31)).toInt32) &&& 858993459)) + (((((x0 - (((x0.toUInt32 >>> ((1 : Int32).toUInt32 &&& Int32.toUInt32 31)).toInt32) &&& 1431655765)) &&& 858993459) + ((((x0 - (((x0.toUInt32 >>> ((1 : Int32).toUInt32 &&& Int32.toUInt32 31)).toInt32) &&& 1431655765)).toUInt32 >>> ((2 : Int32).toUInt32 &&& Int32.toUInt32 31)).toInt32) &&& 858993459)).toUInt32 >>> ((4 : Int32).toUInt32 &&& Int32.toUInt32 31)).toInt32)) &&& 252645135) + (((((((x0 - (((x0.toUInt32 >>> ((1 : Int32).toUInt32 &&& Int32.toUInt32 31)).toInt32) &&& 1431655765)) &&& 858993459) + ((((x0 - (((x0.toUInt32 >>> ((1 : Int32).toUInt32 &&& Int32.toUInt32 31)).toInt32) &&& 1431655765)).toUInt32 >>> ((2 : Int32).toUInt32 &&& Int32.toUInt32 31)).toInt32) &&& 858993459)) + (((((x0 - (((x0.toUInt32 >>> ((1 : Int32).toUInt32 &&& Int32.toUInt32 31)).toInt32) &&& 1431655765)) &&& 858993459) + ((((x0 - (((x0.toUInt32 >>> ((1 : Int32).toUInt32 &&& Int32.toUInt32 31)).toInt32) &&& 1431655765)).toUInt32 >>> ((2 : Int32).toUInt32 &&& Int32.toUInt32 31)).toInt32) &&& 858993459)).toUInt32 >>> ((4 : Int32).toUInt32 &&& Int32.toUInt32 31)).toInt32)) &&& 252645135).toUInt32 >>> ((8 : Int32).toUInt32 &&& Int32.toUInt32 31)).toInt32)) + ((((((((x0 - (((x0.toUInt32 >>> ((1 : Int32).toUInt32 &&& Int32.toUInt32 31)).toInt32) &&& 1431655765)) &&& 858993459) + ((((x0 - (((x0.toUInt32 >>> ((1 : Int32).toUInt32 &&& Int32.toUInt32 31)).toInt32) &&& 1431655765)).toUInt32 >>> ((2 : Int32).toUInt32 &&& Int32.toUInt32 31)).toInt32) &&& 858993459)) + (((((x0 - (((x0.toUInt32 >>> ((1 : Int32).toUInt32 &&& Int32.toUInt32 31)).toInt32) &&& 1431655765)) &&& 858993459) + ((((x0 - (((x0.toUInt32 >>> ((1 : Int32).toUInt32 &&& Int32.toUInt32 31)).toInt32) &&& 1431655765)).toUInt32 >>> ((2 : Int32).toUInt32 &&& Int32.toUInt32 31)).toInt32) &&& 858993459)).toUInt32 >>> ((4 : Int32).toUInt32 &&& Int32.toUInt32 31)).toInt32)) &&& 252645135) + (((((((x0 - (((x0.toUInt32 >>> ((1 : Int32).toUInt32 &&& Int32.toUInt32 31)).toInt32) &&& 1431655765)) &&& 858993459) + ((((x0 - (((x0.toUInt32 >>> ((1 : Int32).toUInt32 &&& Int32.toUInt32 31)).toInt32) &&& 1431655765)).toUInt32 >>> ((2 : Int32).toUInt32 &&& Int32.toUInt32 31)).toInt32) &&& 858993459)) + (((((x0 - (((x0.toUInt32 >>> ((1 : Int32).toUInt32 &&& Int32.toUInt32 31)).toInt32) &&& 1431655765)) &&& 858993459) + ((((x0 - (((x0.toUInt32 >>> ((1 : Int32).toUInt32 &&& Int32.toUInt32 31)).toInt32) &&& 1431655765)).toUInt32 >>> ((2 : Int32).toUInt32 &&& Int32.toUInt32 31)).toInt32) &&& 858993459)).toUInt32 >>> ((4 : Int32).toUInt32 &&& Int32.toUInt32 31)).toInt32)) &&& 252645135).toUInt32 >>> ((8 : Int32).toUInt32 &&& Int32.toUInt32 31)).toInt32)).toUInt32 >>> ((16 : Int32).toUInt32 &&& Int32.toUInt32 31)).toInt32)) &&& 63, σ)
def kG_floors_j69 (σ : Mem) (x2 : Int32) (x3 : Int32) (x4 : Int32) (x5 : Int32) (y0 : Option Nat) : Option (Int32 × Int32 × Mem ⊕ (Int32 × Mem)) :=
  (y0).elim
      (some (.inl (x4, (x5 + 1), σ)))
      (fun j6 => some (.inl ((x4 ||| ((1 : Int32) <<< ((mI σ 20 j6 1) &&& 31))), (x5 + 1), σ)))
def kG_floors_s15 (x2 : Int32) (x3 : Int32) : Int32 × Int32 × Mem → Option ((Int32 × Int32 × Mem) ⊕ (Int32 × Mem))
  | (x4, x5, σ) => if x2 < x5 then
        some (.inr (x4, σ))
      else
        if (mI σ 5 0 1) ≤ x5 then
          some (.inr (x4, σ))
        else
          (kB_at σ x5).bind (fun x => (fun (r3 : Option Nat) (σ4 : Mem) =>
          (r3).elim
            (kG_floors_j69 σ4 x2 x3 x4 x5 none)
            (fun j5 => (kQ_spotIn σ4 j5 x3).bind (fun x => (fun (r7 : Int32) (σ8 : Mem) =>
              (kG_placeOf σ8 r7).bind (fun x => (fun (r9 : Int32) (σ10 : Mem) =>
              (kH_roomAt σ10 r9).bind (fun x => (fun (r11 : Option Nat) (σ12 : Mem) =>
              kG_floors_j69 σ12 x2 x3 x4 x5 r11) x.1 x.2)) x.1 x.2)) x.1 x.2))) x.1 x.2)
def kG_floors_x94 (σ : Mem) (x4 : Int32) : Option (Int32 × Mem) :=
  (kJ_bitCount σ x4).bind (fun x => (fun (r15 : Int32) (σ16 : Mem) =>
    some (r15, σ16)) x.1 x.2)
def kG_floors (σ : Mem) (x1 : Int32) (x2 : Int32) (x3 : Int32) : Option (Int32 × Mem) :=
  (kG_planUpTo σ x3).bind (fun x => (fun (_ : Unit) (σ2 : Mem) =>
    (loopF FU (kG_floors_s15 x2 x3) (0, (jmax x1 0), σ2)).bind (fun s => kG_floors_x94 s.2 s.1)) x.1 x.2)
def kG_lacks (σ : Mem) (x1 : Int32) : Option (Int32 × Mem) :=
  (kG_isNight σ x1).bind (fun x => (fun (r1 : Int32) (σ2 : Mem) =>
    if r1 = 0 then
      some ((-1), σ2)
    else
      if (mI σ2 1 0 5) ≤ x1 then
        (kG_shortOf σ2 x1 (-1) (-1)).bind (fun x => (fun (r3 : Int32) (σ4 : Mem) =>
        some (r3, σ4)) x.1 x.2)
      else
        some ((-1), σ2)) x.1 x.2)
def kG_takenUnits_j68 (σ : Mem) (x1 : Int32) (x2 : Int32) (x4 : Int32) (x6 : Int32) (y0 : Int32) (y1 : Int32) : Option (Int32 × Int32 × Mem ⊕ (Int32 × Mem)) :=
  (kG_isSuite σ x6).bind (fun x => (fun (r8 : Int32) (σ9 : Mem) =>
    if r8 = 0 then
      some (.inl ((y1 + y0), (x4 + 1), σ9))
    else
      (kG_placeOf σ9 x6).bind (fun x => (fun (r10 : Int32) (σ11 : Mem) =>
      (kH_isOpenOfKind σ11 (r10 + 1) x1 x2).bind (fun x => (fun (r12 : Int32) (σ13 : Mem) =>
      if r12 = 0 then
        some (.inl (((y1 + y0) + 0), (x4 + 1), σ13))
      else
        some (.inl (((y1 + y0) + 1), (x4 + 1), σ13))) x.1 x.2)) x.1 x.2)) x.1 x.2)
def kG_takenUnits_j43 (σ : Mem) (x1 : Int32) (x2 : Int32) (x3 : Int32) (x4 : Int32) (y0 : Int32) : Option (Int32 × Int32 × Mem ⊕ (Int32 × Mem)) :=
  (kG_placeOf σ y0).bind (fun x => (fun (r4 : Int32) (σ5 : Mem) =>
    (kH_isOpenOfKind σ5 r4 x1 x2).bind (fun x => (fun (r6 : Int32) (σ7 : Mem) =>
    if r6 = 0 then
      kG_takenUnits_j68 σ7 x1 x2 x4 y0 0 x3
    else
      kG_takenUnits_j68 σ7 x1 x2 x4 y0 1 x3) x.1 x.2)) x.1 x.2)
def kG_takenUnits_s5 (x1 : Int32) (x2 : Int32) : Int32 × Int32 × Mem → Option ((Int32 × Int32 × Mem) ⊕ (Int32 × Mem))
  | (x3, x4, σ) => if (mI σ 5 0 1) ≤ x4 then
        some (.inr (x3, σ))
      else
        (kB_at σ x4).bind (fun x => (fun (r1 : Option Nat) (σ2 : Mem) =>
        (r1).elim
          (kG_takenUnits_j43 σ2 x1 x2 x3 x4 (-1))
          (fun j3 => (kQ_spotIn σ2 j3 x2).bind (fun x => (fun (r17 : Int32) (σ18 : Mem) =>
            kG_takenUnits_j43 σ18 x1 x2 x3 x4 r17) x.1 x.2))) x.1 x.2)
def kG_takenUnits_x111 (σ : Mem) (x3 : Int32) : Option (Int32 × Mem) :=
  some (x3, σ)
def kG_takenUnits (σ : Mem) (x1 : Int32) (x2 : Int32) : Option (Int32 × Mem) :=
  (loopF FU (kG_takenUnits_s5 x1 x2) (0, 0, σ)).bind (fun s => kG_takenUnits_x111 s.2 s.1)
def kG_rooms (σ : Mem) (x1 : Int32) (x2 : Int32) (x3 : Int32) : Option (Int32 × Mem) :=
  if x1 < 0 then
      some ((-1), σ)
    else
      if 4 ≤ x1 then
        some ((-1), σ)
      else
        (kG_isNight σ x2).bind (fun x => (fun (r1 : Int32) (σ2 : Mem) =>
        if r1 = 0 then
          some ((-1), σ2)
        else
          if x3 = 0 then
            (kH_openUnits σ2 x1 x2).bind (fun x => (fun (r3 : Int32) (σ4 : Mem) =>
            some (r3, σ4)) x.1 x.2)
          else if x3 = 1 then
            (kG_planUpTo σ2 x2).bind (fun x => (fun (_ : Unit) (σ6 : Mem) =>
            (kG_takenUnits σ6 x1 x2).bind (fun x => (fun (r7 : Int32) (σ8 : Mem) =>
            some (r7, σ8)) x.1 x.2)) x.1 x.2)
          else some ((-1), σ2)) x.1 x.2)
def kG_over (σ : Mem) (x1 : Int32) : Option (Int32 × Mem) :=
  if x1 < 0 then
      some (0, σ)
    else
      if x1 ≤ 40 then
        some (1, sI σ 1 0 6 x1)
      else
        some (0, σ)
def kG_price (σ : Mem) (x1 : Int32) (x2 : Int32) (x3 : Int32) (x4 : Int32) : Option (Int32 × Mem) :=
  (kG_isWant σ x1).bind (fun x => (fun (r1 : Int32) (σ2 : Mem) =>
    if r1 = 0 then
      some (0, σ2)
    else
      (kG_isSpan σ2 x2 x3).bind (fun x => (fun (r3 : Int32) (σ4 : Mem) =>
      if r3 = 0 then
        some (0, σ4)
      else
        if x4 < 0 then
          some (0, σ4)
        else
          if x4 ≤ 1000000 then
            (kT_setAmount σ4 x1 x2 x3 x4).bind (fun x => (fun (_ : Unit) (σ6 : Mem) =>
            some (1, σ6)) x.1 x.2)
          else
            some (0, σ4)) x.1 x.2)) x.1 x.2)
def kG_rule (σ : Mem) (x1 : Int32) (x2 : Int32) (x3 : Int32) : Option (Int32 × Mem) :=
  (kT_addRule σ x1 x2 x3).bind (fun x => (fun (r1 : Int32) (σ2 : Mem) =>
    some (r1, σ2)) x.1 x.2)
def kG_drop (σ : Mem) (x1 : Int32) : Option (Int32 × Mem) :=
  (kT_endRule σ x1).bind (fun x => (fun (r1 : Int32) (σ2 : Mem) =>
    if bz r1 then
    some (r1, σ2)
    else none) x.1 x.2)
def kG_cost (σ : Mem) (x1 : Int32) (x2 : Int32) (x3 : Int32) : Option (Int64 × Mem) :=
  (kG_isWish σ x1 x2 x3).bind (fun x => (fun (r1 : Int32) (σ2 : Mem) =>
    if r1 = 0 then
      some ((-1), σ2)
    else
      (kT_costOf σ2 x1 x2 x3 (mI σ2 1 0 5)).bind (fun x => (fun (r3 : Int64) (σ4 : Mem) =>
      some (r3, σ4)) x.1 x.2)) x.1 x.2)
def kG_least (σ : Mem) (x1 : Int32) (x2 : Int32) (x3 : Int32) (x4 : Int32) : Option (Int64 × Mem) :=
  (kG_isWish σ x1 x2 x3).bind (fun x => (fun (r1 : Int32) (σ2 : Mem) =>
    if r1 = 0 then
      some ((-1), σ2)
    else
      if x4 = 0 then
        (kT_leastCost σ2 x1 x2 x3 (mI σ2 1 0 5)).bind (fun x => (fun (r3 : Int64) (σ4 : Mem) =>
        some (r3, σ4)) x.1 x.2)
      else if x4 = 1 then
        (kT_leastParts σ2 x1 x2 x3 (mI σ2 1 0 5)).bind (fun x => (fun (r5 : Int32) (σ6 : Mem) =>
        some (r5.toInt64, σ6)) x.1 x.2)
      else some ((-1), σ2)) x.1 x.2)
def kG_count (σ : Mem) (x1 : Int32) : Option (Int32 × Mem) :=
  if x1 = 0 then
      some (mI σ 1 0 5, σ)
    else if x1 = 1 then
      (kH_roomCount σ).bind (fun x => (fun (r1 : Int32) (σ2 : Mem) =>
      some (r1, σ2)) x.1 x.2)
    else if x1 = 2 then
      (kH_storeCount σ).bind (fun x => (fun (r3 : Int32) (σ4 : Mem) =>
      some (r3, σ4)) x.1 x.2)
    else if x1 = 3 then
      (kH_doorCount σ).bind (fun x => (fun (r5 : Int32) (σ6 : Mem) =>
      some (r5, σ6)) x.1 x.2)
    else if x1 = 4 then
      some (mI σ 5 0 1, σ)
    else if x1 = 5 then
      (kB_standingCount σ).bind (fun x => (fun (r7 : Int32) (σ8 : Mem) =>
      some (r7, σ8)) x.1 x.2)
    else if x1 = 6 then
      some (mI σ 1 0 6, σ)
    else if x1 = 7 then
      (kT_heldRules σ).bind (fun x => (fun (r9 : Int32) (σ10 : Mem) =>
      some (r9, σ10)) x.1 x.2)
    else some ((-1), σ)
def kM_thrown (σ : Mem) : Option (Int32 × Mem) :=
  some (mI σ 30 0 0, σ)
def kM_less (σ : Mem) (x0 : Int32) (x1 : Int32) : Option (Int32 × Mem) :=
  if x1 ≤ x0 then
      some (x1, σ)
    else
      some (x0, σ)
def kM_isPlace (σ : Mem) (x0 : Int32) : Option (Int32 × Mem) :=
  if x0 < 0 then
      some (0, σ)
    else
      if 16 ≤ x0 then
        some (0, σ)
      else
        some (1, σ)
def kM_isRoom (σ : Mem) (x1 : Int32) : Option (Int32 × Mem) :=
  (kM_isPlace σ x1).bind (fun x => (fun (r1 : Int32) (σ2 : Mem) =>
    if r1 = 0 then
      some (0, σ2)
    else
      if inR x1 16 then
      if (mI σ2 31 0 (ix x1)) < 0 then
        some (0, σ2)
      else
        if inR x1 16 then
        if 4 ≤ (mI σ2 31 0 (ix x1)) then
          some (0, σ2)
        else
          some (1, σ2)
        else none
      else none) x.1 x.2)
def kM_isNight (σ : Mem) (x0 : Int32) : Option (Int32 × Mem) :=
  if x0 < 0 then
      some (0, σ)
    else
      if 60 ≤ x0 then
        some (0, σ)
      else
        some (1, σ)
def kM_isOpen (σ : Mem) (x1 : Int32) (x2 : Int32) : Option (Int32 × Mem) :=
  if inR x1 16 then
    if (mI σ 37 0 (ix x1)) = 0 then
      if inR x1 16 then
      if (mI σ 35 0 (ix x1)) ≤ x2 then
        some (0, σ)
      else
        if inR x1 16 then
        if (lg_cmp (((mL σ 36 0 (ix x1)) >>> ((x2 : Int32).toInt64 &&& 63)) &&& 1) 0) = 0 then
          some (1, σ)
        else
          some (0, σ)
        else none
      else none
    else
      some (0, σ)
    else none
def kM_room_j111 (σ : Mem) (x1 : Int32) (x5 : Int32) (y0 : Int32) (y1 : Int32) : Option (Int32 × Mem) :=
  if inR y1 16 then
    if inR x1 16 then
    some (1, sI (sI σ 33 0 (ix y1) y0) 35 0 (ix x1) x5)
    else none
    else none
def kM_room_j73 (σ : Mem) (x1 : Int32) (x2 : Int32) (x3 : Int32) (x4 : Int32) (x5 : Int32) : Option (Int32 × Mem) :=
  if inR x1 16 then
    if inR x1 16 then
    if x2 = 3 then
      kM_room_j111 (sI (sI σ 31 0 (ix x1) x2) 32 0 (ix x1) x3) x1 x5 x4 x1
    else
      if x2 = 0 then
        kM_room_j111 (sI (sI σ 31 0 (ix x1) x2) 32 0 (ix x1) x3) x1 x5 1 x1
      else
        kM_room_j111 (sI (sI σ 31 0 (ix x1) x2) 32 0 (ix x1) x3) x1 x5 2 x1
    else none
    else none
def kM_room (σ : Mem) (x1 : Int32) (x2 : Int32) (x3 : Int32) (x4 : Int32) (x5 : Int32) : Option (Int32 × Mem) :=
  (kM_isPlace (sI σ 30 0 0 0) x1).bind (fun x => (fun (r1 : Int32) (σ2 : Mem) =>
    if r1 = 0 then
      some (0, σ2)
    else
      if inR x1 16 then
      if (mI σ2 31 0 (ix x1)) = (-1) then
        if x2 < 0 then
          some (0, σ2)
        else
          if 3 < x2 then
            some (0, σ2)
          else
            if x3 < 0 then
              some (0, σ2)
            else
              if 9 < x3 then
                some (0, σ2)
              else
                if x5 < 0 then
                  some (0, σ2)
                else
                  if 60 < x5 then
                    some (0, σ2)
                  else
                    if x2 = 3 then
                      if x4 < 2 then
                        some (0, σ2)
                      else
                        if x4 ≤ 6 then
                          kM_room_j73 σ2 x1 x2 x3 x4 x5
                        else
                          some (0, σ2)
                    else
                      kM_room_j73 σ2 x1 x2 x3 x4 x5
      else
        some (0, σ2)
      else none) x.1 x.2)
def kM_store (σ : Mem) (x1 : Int32) : Option (Int32 × Mem) :=
  (kM_isPlace (sI σ 30 0 0 0) x1).bind (fun x => (fun (r1 : Int32) (σ2 : Mem) =>
    if r1 = 0 then
      some (0, σ2)
    else
      if inR x1 16 then
      if (mI σ2 31 0 (ix x1)) = (-1) then
        if inR x1 16 then
        some (1, sI σ2 31 0 (ix x1) 4)
        else none
      else
        some (0, σ2)
      else none) x.1 x.2)
def kM_door (σ : Mem) (x1 : Int32) : Option (Int32 × Mem) :=
  (kM_isPlace (sI σ 30 0 0 0) x1).bind (fun x => (fun (r1 : Int32) (σ2 : Mem) =>
    if r1 = 0 then
      some (0, σ2)
    else
      (kM_isPlace σ2 (x1 + 1)).bind (fun x => (fun (r3 : Int32) (σ4 : Mem) =>
      if r3 = 0 then
        some (0, σ4)
      else
        if inR x1 16 then
        if (mI σ4 31 0 (ix x1)) = 1 then
          if inR (x1 + 1) 16 then
          if (mI σ4 31 0 (ix (x1 + 1))) = 1 then
            if inR x1 16 then
            if inR (x1 + 1) 16 then
            if (mI σ4 32 0 (ix x1)) = (mI σ4 32 0 (ix (x1 + 1))) then
              if inR x1 16 then
              if (mI σ4 34 0 (ix x1)) = (-1) then
                if inR (x1 + 1) 16 then
                if (mI σ4 34 0 (ix (x1 + 1))) = (-1) then
                  if inR x1 16 then
                  if inR (x1 + 1) 16 then
                  some (1, sI (sI σ4 34 0 (ix x1) (x1 + 1)) 34 0 (ix (x1 + 1)) x1)
                  else none
                  else none
                else
                  some (0, σ4)
                else none
              else
                some (0, σ4)
              else none
            else
              some (0, σ4)
            else none
            else none
          else
            some (0, σ4)
          else none
        else
          some (0, σ4)
        else none) x.1 x.2)) x.1 x.2)
def kM_isSpan (σ : Mem) (x0 : Int32) (x1 : Int32) : Option (Int32 × Mem) :=
  if x0 < 0 then
      some (0, σ)
    else
      if x1 < x0 then
        some (0, σ)
      else
        if 60 < x1 then
          some (0, σ)
        else
          some (1, σ)
def kM_shut_j76 (σ : Mem) (x1 : Int32) (x3 : Int32) (x4 : Int32) (x5 : Int32) (x6 : Int32) (y0 : Int32) : Option (Int32 × Int32 × Mem ⊕ (Int32 × Mem)) :=
  if y0 = x4 then
      some (.inl (x5, (x6 + 1), σ))
    else
      if inR x1 16 then
      if inR x1 16 then
      some (.inl ((x5 + 1), (x6 + 1), sL σ 36 0 (ix x1) ((mL σ 36 0 (ix x1)) ^^^ ((1 : Int64) <<< ((x6 : Int32).toInt64 &&& 63)))))
      else none
      else none
def kM_shut_s38 (x1 : Int32) (x3 : Int32) (x4 : Int32) : Int32 × Int32 × Mem → Option ((Int32 × Int32 × Mem) ⊕ (Int32 × Mem))
  | (x5, x6, σ) => if x3 ≤ x6 then
        some (.inr (x5, σ))
      else
        if inR x1 16 then
        if (mI σ 35 0 (ix x1)) ≤ x6 then
          some (.inr (x5, σ))
        else
          if inR x1 16 then
          if (lg_cmp (((mL σ 36 0 (ix x1)) >>> ((x6 : Int32).toInt64 &&& 63)) &&& 1) 1) = 0 then
            kM_shut_j76 σ x1 x3 x4 x5 x6 1
          else
            kM_shut_j76 σ x1 x3 x4 x5 x6 0
          else none
        else none
def kM_shut_x110 (σ : Mem) (x5 : Int32) : Option (Int32 × Mem) :=
  some (x5, σ)
def kM_shut (σ : Mem) (x1 : Int32) (x2 : Int32) (x3 : Int32) (x4 : Int32) : Option (Int32 × Mem) :=
  (kM_isRoom (sI σ 30 0 0 0) x1).bind (fun x => (fun (r1 : Int32) (σ2 : Mem) =>
    if r1 = 0 then
      some ((-1), σ2)
    else
      if inR x1 16 then
      if (mI σ2 37 0 (ix x1)) = 0 then
        (kM_isSpan σ2 x2 x3).bind (fun x => (fun (r4 : Int32) (σ5 : Mem) =>
        if r4 = 0 then
          some ((-1), σ5)
        else
          (loopF FU (kM_shut_s38 x1 x3 x4) (0, x2, σ5)).bind (fun s => kM_shut_x110 s.2 s.1)) x.1 x.2)
      else
        some ((-1), σ2)
      else none) x.1 x.2)
def kM_open_j75 (σ : Mem) (x1 : Int32) (x2 : Int32) : Option (Int32 × Mem) :=
  if inR x1 16 then
    if inR x1 16 then
    if inR x1 16 then
    some (mI (sI σ 35 0 (ix x1) ((mI σ 35 0 (ix x1)) + x2)) 35 0 (ix x1), sI σ 35 0 (ix x1) ((mI σ 35 0 (ix x1)) + x2))
    else none
    else none
    else none
def kM_open_j39 (σ : Mem) (x1 : Int32) (x2 : Int32) (y0 : Int32) (y1 : Int32) (y2 : Int32) : Option (Int32 × Mem) :=
  if y2 ≤ (y1 - y0) then
      if inR x1 16 then
      if (mI σ 37 0 (ix x1)) = 0 then
        kM_open_j75 σ x1 x2
      else
        if inR x1 16 then
        if inR x1 16 then
        if inR x1 16 then
        kM_open_j75 (sL (sI (sI σ 37 0 (ix x1) (zn 0)) 35 0 (ix x1) 0) 36 0 (ix x1) 0) x1 x2
        else none
        else none
        else none
      else none
    else
      some ((-1), σ)
def kM_open (σ : Mem) (x1 : Int32) (x2 : Int32) : Option (Int32 × Mem) :=
  (kM_isRoom (sI σ 30 0 0 0) x1).bind (fun x => (fun (r1 : Int32) (σ2 : Mem) =>
    if r1 = 0 then
      some ((-1), σ2)
    else
      if x2 < 0 then
        some ((-1), σ2)
      else
        if inR x1 16 then
        if (mI σ2 37 0 (ix x1)) = 0 then
          if inR x1 16 then
          kM_open_j39 σ2 x1 x2 (mI σ2 35 0 (ix x1)) 60 x2
          else none
        else
          kM_open_j39 σ2 x1 x2 0 60 x2
        else none) x.1 x.2)
def kM_close (σ : Mem) (x1 : Int32) : Option (Int32 × Mem) :=
  (kM_isRoom (sI σ 30 0 0 0) x1).bind (fun x => (fun (r1 : Int32) (σ2 : Mem) =>
    if r1 = 0 then
      some (0, σ2)
    else
      if inR x1 16 then
      if (mI σ2 37 0 (ix x1)) = 0 then
        if inR x1 16 then
        some (1, sI σ2 37 0 (ix x1) (zn 1))
        else none
      else
        some (0, σ2)
      else none) x.1 x.2)
def kM_look (σ : Mem) (x1 : Int32) (x2 : Int32) : Option (Int32 × Mem) :=
  (kM_isPlace (sI σ 30 0 0 0) x1).bind (fun x => (fun (r1 : Int32) (σ2 : Mem) =>
    if r1 = 0 then
      some ((-2), σ2)
    else
      if x2 = 0 then
        if inR x1 16 then
        some (mI σ2 31 0 (ix x1), σ2)
        else none
      else
        (kM_isRoom σ2 x1).bind (fun x => (fun (r3 : Int32) (σ4 : Mem) =>
        if r3 = 0 then
          some ((-1), σ4)
        else
          if x2 < 0 then
            some ((-1), σ4)
          else
            if x2 ≤ 3 then
              if x2 = 1 then
                if inR x1 16 then
                some (mI σ4 32 0 (ix x1), σ4)
                else none
              else
                if x2 = 2 then
                  if inR x1 16 then
                  some (mI σ4 33 0 (ix x1), σ4)
                  else none
                else
                  if inR x1 16 then
                  some (mI σ4 34 0 (ix x1), σ4)
                  else none
            else
              some ((-1), σ4)) x.1 x.2)) x.1 x.2)
def kM_night (σ : Mem) (x1 : Int32) (x2 : Int32) : Option (Int32 × Mem) :=
  (kM_isNight (sI σ 30 0 0 0) x2).bind (fun x => (fun (r1 : Int32) (σ2 : Mem) =>
    if r1 = 0 then
      some ((-4), σ2)
    else
      (kM_isRoom σ2 x1).bind (fun x => (fun (r3 : Int32) (σ4 : Mem) =>
      if r3 = 0 then
        some ((-3), σ4)
      else
        if inR x1 16 then
        if (mI σ4 37 0 (ix x1)) = 0 then
          if inR x1 16 then
          if x2 < (mI σ4 35 0 (ix x1)) then
            if inR x1 16 then
            if (lg_cmp (((mL σ4 36 0 (ix x1)) >>> ((x2 : Int32).toInt64 &&& 63)) &&& 1) 1) = 0 then
              some (0, σ4)
            else
              some (1, σ4)
            else none
          else
            some ((-1), σ4)
          else none
        else
          some ((-2), σ4)
        else none) x.1 x.2)) x.1 x.2)
def kM_is (σ : Mem) (x1 : Int32) : Option (Int32 × Mem) :=
  if x1 < 0 then
      some (0, σ)
    else
      if (mI σ 30 0 20) ≤ x1 then
        some (0, σ)
      else
        some (1, σ)
def kM_stands (σ : Mem) (x1 : Int32) : Option (Int32 × Mem) :=
  if inR x1 40 then
    if 2 < (mI σ 40 0 (ix x1)) then
      some (0, σ)
    else
      some (1, σ)
    else none
def kM_wants (σ : Mem) (x1 : Int32) (x2 : Int32) : Option (Int32 × Mem) :=
  (kM_stands σ x1).bind (fun x => (fun (r1 : Int32) (σ2 : Mem) =>
    if r1 = 0 then
      some (0, σ2)
    else
      if inR x1 40 then
      if x2 < (mI σ2 43 0 (ix x1)) then
        some (0, σ2)
      else
        if inR x1 40 then
        if (mI σ2 44 0 (ix x1)) ≤ x2 then
          some (0, σ2)
        else
          some (1, σ2)
        else none
      else none) x.1 x.2)
def kM_fresh_s7 : Int32 × Mem → Option ((Int32 × Mem) ⊕ (Mem))
  | (x2, σ) => if 16 ≤ x2 then
        some (.inr σ)
      else
        if inR x2 16 then
        some (.inl ((x2 + 1), sI σ 51 0 (ix x2) 0))
        else none
def kM_fresh_x26 (σ : Mem) : Option (Unit × Mem) :=
  some ((), σ)
def kM_fresh (σ : Mem) (x1 : Int32) : Option (Unit × Mem) :=
  (loopF FU (kM_fresh_s7) (0, sI σ 30 0 22 x1)).bind (fun s => kM_fresh_x26 s)
def kM_isFree (σ : Mem) (x1 : Int32) : Option (Int32 × Mem) :=
  (kM_isOpen σ x1 (mI σ 30 0 22)).bind (fun x => (fun (r1 : Int32) (σ2 : Mem) =>
    if r1 = 0 then
      some (0, σ2)
    else
      if inR x1 16 then
      if (mI σ2 51 0 (ix x1)) = 0 then
        some (1, σ2)
      else
        some (0, σ2)
      else none) x.1 x.2)
def kM_poured_j147 (σ : Mem) (x1 : Int32) (x2 : Int32) (x3 : Int32) (x4 : Int32) (x5 : Int32) (x6 : Int32) (x7 : Int32) : Option (Int32 × Int32 × Int32 × Int32 × Int32 × Int32 × Mem ⊕ (Int32 × Int32 × Int32 × Int32 × Int32 × Mem)) :=
  if inR x7 16 then
    if (mI σ 31 0 (ix x7)) = 1 then
      if inR x7 16 then
      if (mI σ 34 0 (ix x7)) ≤ x7 then
        some (.inl (x2, x3, x4, x5, x6, (x7 + 1), σ))
      else
        if inR x7 16 then
        (kM_isFree σ (mI σ 34 0 (ix x7))).bind (fun x => (fun (r12 : Int32) (σ13 : Mem) =>
        if r12 = 0 then
          some (.inl (x2, x3, x4, x5, x6, (x7 + 1), σ13))
        else
          some (.inl (x2, x3, x4, x5, (x6 + 1), (x7 + 1), σ13))) x.1 x.2)
        else none
      else none
    else
      some (.inl (x2, x3, x4, x5, x6, (x7 + 1), σ))
    else none
def kM_poured_s62 (x1 : Int32) (x3 : Int32) (x4 : Int32) (x5 : Int32) (x6 : Int32) (x7 : Int32) : Int32 × Int32 × Mem → Option ((Int32 × Int32 × Mem) ⊕ (Int32 × Mem))
  | (x2, x8, σ) => if inR x7 16 then
      if (mI σ 33 0 (ix x7)) ≤ x8 then
        some (.inr (x2, σ))
      else
        if inR x7 16 then
        if (((mI σ 51 0 (ix x7)) >>> (x8 &&& 31)) &&& 1) = 0 then
          some (.inl ((x2 + 1), (x8 + 1), σ))
        else
          some (.inl (x2, (x8 + 1), σ))
        else none
      else none
def kM_poured_x98 (σ : Mem) (x1 : Int32) (x2 : Int32) (x3 : Int32) (x4 : Int32) (x5 : Int32) (x6 : Int32) (x7 : Int32) : Option (Int32 × Int32 × Int32 × Int32 × Int32 × Int32 × Mem ⊕ (Int32 × Int32 × Int32 × Int32 × Int32 × Mem)) :=
  some (.inl (x2, x3, x4, x5, x6, (x7 + 1), σ))
def kM_poured_s16 (x1 : Int32) : Int32 × Int32 × Int32 × Int32 × Int32 × Int32 × Mem → Option ((Int32 × Int32 × Int32 × Int32 × Int32 × Int32 × Mem) ⊕ (Int32 × Int32 × Int32 × Int32 × Int32 × Mem))
  | (x2, x3, x4, x5, x6, x7, σ) => if 16 ≤ x7 then
        some (.inr (x2, x3, x4, x5, x6, σ))
      else
        (kM_isRoom σ x7).bind (fun x => (fun (r1 : Int32) (σ2 : Mem) =>
        if r1 = 0 then
          some (.inl (x2, x3, x4, x5, x6, (x7 + 1), σ2))
        else
          (kM_isOpen σ2 x7 (mI σ2 30 0 22)).bind (fun x => (fun (r3 : Int32) (σ4 : Mem) =>
          if r3 = 0 then
            some (.inl (x2, x3, x4, x5, x6, (x7 + 1), σ4))
          else
            if inR x7 16 then
            if (mI σ4 31 0 (ix x7)) = 3 then
              (loopF FU (kM_poured_s62 x1 x3 x4 x5 x6 x7) (x2, 0, σ4)).bind (fun s => kM_poured_x98 s.2 x1 s.1 x3 x4 x5 x6 x7)
            else
              if inR x7 16 then
              if (mI σ4 51 0 (ix x7)) = 0 then
                if inR x7 16 then
                if (mI σ4 31 0 (ix x7)) = 0 then
                  kM_poured_j147 σ4 x1 x2 (x3 + 1) x4 x5 x6 x7
                else
                  if inR x7 16 then
                  if (mI σ4 31 0 (ix x7)) = 2 then
                    kM_poured_j147 σ4 x1 x2 x3 x4 (x5 + 1) x6 x7
                  else
                    kM_poured_j147 σ4 x1 x2 x3 (x4 + 1) x5 x6 x7
                  else none
                else none
              else
                some (.inl (x2, x3, x4, x5, x6, (x7 + 1), σ4))
              else none
            else none) x.1 x.2)) x.1 x.2)
def kM_poured_x193 (σ : Mem) (x1 : Int32) (x2 : Int32) (x3 : Int32) (x4 : Int32) (x5 : Int32) (x6 : Int32) : Option (Int32 × Mem) :=
  (kM_less σ x1 x6).bind (fun x => (fun (r28 : Int32) (σ29 : Mem) =>
    if inR 0 5 then
    (kM_less σ29 (mI σ29 54 0 (ix 0)) x2).bind (fun x => (fun (r31 : Int32) (σ32 : Mem) =>
    if inR 3 5 then
    (kM_less σ32 (mI σ32 54 0 (ix 3)) x5).bind (fun x => (fun (r34 : Int32) (σ35 : Mem) =>
    if inR 2 5 then
    (kM_less σ35 (mI σ35 54 0 (ix 2)) (x4 - (2 * r28))).bind (fun x => (fun (r37 : Int32) (σ38 : Mem) =>
    if inR 2 5 then
    (kM_less σ38 ((mI σ38 54 0 (ix 2)) - r37) (x5 - r34)).bind (fun x => (fun (r40 : Int32) (σ41 : Mem) =>
    if inR 1 5 then
    (kM_less σ41 (mI σ41 54 0 (ix 1)) ((((x3 + (x4 - (2 * r28))) - r37) + (x5 - r34)) - r40)).bind (fun x => (fun (r43 : Int32) (σ44 : Mem) =>
    some ((((r28 + r31) + r34) + (r37 + r40)) + r43, σ44)) x.1 x.2)
    else none) x.1 x.2)
    else none) x.1 x.2)
    else none) x.1 x.2)
    else none) x.1 x.2)
    else none) x.1 x.2)
def kM_poured (σ : Mem) (x1 : Int32) : Option (Int32 × Mem) :=
  (loopF FU (kM_poured_s16 x1) (0, 0, 0, 0, 0, 0, σ)).bind (fun s => kM_poured_x193 s.2.2.2.2.2 x1 s.1 s.2.1 s.2.2.1 s.2.2.2.1 s.2.2.2.2.1)
def kM_canAll_s4 : Int32 × Int32 × Mem → Option ((Int32 × Int32 × Mem) ⊕ (Int32 × Mem))
  | (x1, x2, σ) => if 5 ≤ x2 then
        some (.inr (x1, σ))
      else
        if inR x2 5 then
        if inR x2 5 then
        if inR x2 5 then
        some (.inl ((x1 + (mI (sI σ 54 0 (ix x2) (mI σ 53 0 (ix x2))) 53 0 (ix x2))), (x2 + 1), sI σ 54 0 (ix x2) (mI σ 53 0 (ix x2))))
        else none
        else none
        else none
def kM_canAll_x36 (σ : Mem) (x1 : Int32) : Option (Int32 × Mem) :=
  if inR 4 5 then
    (kM_poured σ (mI σ 54 0 (ix 4))).bind (fun x => (fun (r6 : Int32) (σ7 : Mem) =>
    if r6 = x1 then
      some (1, σ7)
    else
      some (0, σ7)) x.1 x.2)
    else none
def kM_canAll (σ : Mem) : Option (Int32 × Mem) :=
  (loopF FU (kM_canAll_s4) (0, 0, σ)).bind (fun s => kM_canAll_x36 s.2 s.1)
def kM_lack_s11 (x1 : Int32) (x2 : Int32) (x3 : Int32) (x4 : Int32) : Int32 × Mem → Option ((Int32 × Mem) ⊕ (Mem))
  | (x5, σ) => if 5 ≤ x5 then
        some (.inr σ)
      else
        if inR x5 5 then
        some (.inl ((x5 + 1), sI σ 54 0 (ix x5) 0))
        else none
def kM_lack_s34 (x1 : Int32) (x2 : Int32) (x3 : Int32) : Int32 × Int32 × Mem → Option ((Int32 × Int32 × Mem) ⊕ (Int32 × Mem))
  | (x4, x5, σ) => if (mI σ 30 0 20) ≤ x5 then
        some (.inr (x4, σ))
      else
        if x5 = x3 then
          some (.inl (x4, (x5 + 1), σ))
        else
          (kM_wants σ x5 x1).bind (fun x => (fun (r5 : Int32) (σ6 : Mem) =>
          if r5 = 0 then
            some (.inl (x4, (x5 + 1), σ6))
          else
            if inR x5 40 then
            if inR (mI σ6 41 0 (ix x5)) 5 then
            if inR (mI σ6 41 0 (ix x5)) 5 then
            some (.inl ((x4 + 1), (x5 + 1), sI σ6 54 0 (ix (mI σ6 41 0 (ix x5))) ((mI σ6 54 0 (ix (mI σ6 41 0 (ix x5)))) + 1)))
            else none
            else none
            else none) x.1 x.2)
def kM_lack_s111 (x4 : Int32) : Int32 × Int32 × Mem → Option ((Int32 × Int32 × Mem) ⊕ (Int32 × Mem))
  | (x5, x6, σ) => if inR 4 5 then
      if (mI σ 54 0 (ix 4)) < x6 then
        some (.inr (x5, σ))
      else
        (kM_poured σ x6).bind (fun x => (fun (r14 : Int32) (σ15 : Mem) =>
        if r14 ≤ x5 then
          some (.inl (x5, (x6 + 1), σ15))
        else
          some (.inl (r14, (x6 + 1), σ15))) x.1 x.2)
      else none
def kM_lack_x147 (σ : Mem) (x4 : Int32) (x5 : Int32) : Option (Int32 × Mem) :=
  some (x4 - x5, σ)
def kM_lack_j105 (σ : Mem) (x4 : Int32) : Option (Int32 × Mem) :=
  (loopF FU (kM_lack_s111 x4) (0, 0, σ)).bind (fun s => kM_lack_x147 s.2 x4 s.1)
def kM_lack_x87 (σ : Mem) (x2 : Int32) (x4 : Int32) : Option (Int32 × Mem) :=
  if x2 = (-1) then
      kM_lack_j105 σ x4
    else
      if inR x2 5 then
      if inR x2 5 then
      kM_lack_j105 (sI σ 54 0 (ix x2) ((mI σ 54 0 (ix x2)) + 1)) (x4 + 1)
      else none
      else none
def kM_lack_x31 (σ : Mem) (x1 : Int32) (x2 : Int32) (x3 : Int32) (x4 : Int32) : Option (Int32 × Mem) :=
  (loopF FU (kM_lack_s34 x1 x2 x3) (x4, 0, σ)).bind (fun s => kM_lack_x87 s.2 x2 s.1)
def kM_lack (σ : Mem) (x1 : Int32) (x2 : Int32) (x3 : Int32) : Option (Int32 × Mem) :=
  (kM_fresh σ x1).bind (fun x => (fun (_ : Unit) (σ2 : Mem) =>
    (loopF FU (kM_lack_s11 x1 x2 x3 0) (0, σ2)).bind (fun s => kM_lack_x31 s x1 x2 x3 0)) x.1 x.2)
def kM_keep_s2 (x1 : Int32) (x2 : Int32) : Int32 × Mem → Option ((Int32 × Mem) ⊕ (Mem))
  | (x3, σ) => if (mI σ 30 0 20) ≤ x3 then
        some (.inr σ)
      else
        if inR x3 40 then
        if (mI σ 40 0 (ix x3)) = x2 then
          (kM_wants σ x3 x1).bind (fun x => (fun (r2 : Int32) (σ3 : Mem) =>
          if r2 = 0 then
            some (.inl ((x3 + 1), σ3))
          else
            if inR x3 40 then
            if inR (mI σ3 41 0 (ix x3)) 5 then
            if inR (mI σ3 41 0 (ix x3)) 5 then
            (kM_canAll (sI σ3 53 0 (ix (mI σ3 41 0 (ix x3))) ((mI σ3 53 0 (ix (mI σ3 41 0 (ix x3)))) + 1))).bind (fun x => (fun (r7 : Int32) (σ8 : Mem) =>
            if inR x3 40 then
            if inR x3 40 then
            if (mI (sI σ8 55 0 (ix x3) (zn r7)) 55 0 (ix x3)) = 0 then
              if inR x3 40 then
              if inR (mI (sI σ8 55 0 (ix x3) (zn r7)) 41 0 (ix x3)) 5 then
              if inR (mI (sI σ8 55 0 (ix x3) (zn r7)) 41 0 (ix x3)) 5 then
              some (.inl ((x3 + 1), sI (sI σ8 55 0 (ix x3) (zn r7)) 53 0 (ix (mI (sI σ8 55 0 (ix x3) (zn r7)) 41 0 (ix x3))) ((mI (sI σ8 55 0 (ix x3) (zn r7)) 53 0 (ix (mI (sI σ8 55 0 (ix x3) (zn r7)) 41 0 (ix x3)))) - 1)))
              else none
              else none
              else none
            else
              some (.inl ((x3 + 1), sI σ8 55 0 (ix x3) (zn r7)))
            else none
            else none) x.1 x.2)
            else none
            else none
            else none) x.1 x.2)
        else
          some (.inl ((x3 + 1), σ))
        else none
def kM_keep_x87 (σ : Mem) : Option (Unit × Mem) :=
  some ((), σ)
def kM_keep (σ : Mem) (x1 : Int32) (x2 : Int32) : Option (Unit × Mem) :=
  (loopF FU (kM_keep_s2 x1 x2) (0, σ)).bind (fun s => kM_keep_x87 s)
def kM_gives_j242 (σ : Mem) (x3 : Int32) (x4 : Int32) (x5 : Int32) (x6 : Int32) (x8 : Int32) : Option (Int32 × Mem) :=
  if inR x6 5 then
    if inR x6 5 then
    (kM_canAll (sI σ 53 0 (ix x6) ((mI σ 53 0 (ix x6)) - 1))).bind (fun x => (fun (r13 : Int32) (σ14 : Mem) =>
    if r13 = 0 then
      if inR x6 5 then
      if inR x6 5 then
      if inR x3 16 then
      if inR x3 16 then
      if x5 = 0 then
        some (0, sI (sI σ14 53 0 (ix x6) ((mI σ14 53 0 (ix x6)) + 1)) 51 0 (ix x3) ((mI (sI σ14 53 0 (ix x6) ((mI σ14 53 0 (ix x6)) + 1)) 51 0 (ix x3)) &&& (((1 : Int32) <<< (x4 &&& 31)) ^^^ (-1))))
      else
        if inR x8 16 then
        some (0, sI (sI (sI σ14 53 0 (ix x6) ((mI σ14 53 0 (ix x6)) + 1)) 51 0 (ix x3) ((mI (sI σ14 53 0 (ix x6) ((mI σ14 53 0 (ix x6)) + 1)) 51 0 (ix x3)) &&& (((1 : Int32) <<< (x4 &&& 31)) ^^^ (-1)))) 51 0 (ix x8) 0)
        else none
      else none
      else none
      else none
      else none
    else
      some (1, σ14)) x.1 x.2)
    else none
    else none
def kM_gives_j216 (σ : Mem) (x3 : Int32) (x4 : Int32) (x5 : Int32) (x6 : Int32) (x8 : Int32) : Option (Int32 × Mem) :=
  if inR x3 16 then
    if inR x3 16 then
    if x5 = 0 then
      kM_gives_j242 (sI σ 51 0 (ix x3) ((mI σ 51 0 (ix x3)) ||| ((1 : Int32) <<< (x4 &&& 31)))) x3 x4 x5 x6 x8
    else
      if inR x8 16 then
      kM_gives_j242 (sI (sI σ 51 0 (ix x3) ((mI σ 51 0 (ix x3)) ||| ((1 : Int32) <<< (x4 &&& 31)))) 51 0 (ix x8) 1) x3 x4 x5 x6 x8
      else none
    else none
    else none
def kM_gives_j180 (σ : Mem) (x3 : Int32) (x4 : Int32) (x5 : Int32) (x6 : Int32) (x7 : Int32) : Option (Int32 × Mem) :=
  if inR x3 16 then
    if x5 = 0 then
      kM_gives_j216 σ x3 x4 x5 x6 (mI σ 34 0 (ix x3))
    else
      if x7 = 1 then
        if (mI σ 34 0 (ix x3)) < x3 then
          some (0, σ)
        else
          (kM_isFree σ (mI σ 34 0 (ix x3))).bind (fun x => (fun (r24 : Int32) (σ25 : Mem) =>
          if r24 = 0 then
            some (0, σ25)
          else
            kM_gives_j216 σ25 x3 x4 x5 x6 (mI σ 34 0 (ix x3))) x.1 x.2)
      else
        some (0, σ)
    else none
def kM_gives_j166 (σ : Mem) (x3 : Int32) (x4 : Int32) (x5 : Int32) (x6 : Int32) (x7 : Int32) : Option (Int32 × Mem) :=
  if x6 = 3 then
      if x7 = 2 then
        kM_gives_j180 σ x3 x4 x5 x6 x7
      else
        some (0, σ)
    else
      kM_gives_j180 σ x3 x4 x5 x6 x7
def kM_gives_j155 (σ : Mem) (x3 : Int32) (x4 : Int32) (x5 : Int32) (x6 : Int32) (x7 : Int32) : Option (Int32 × Mem) :=
  if x6 = 2 then
      if x7 = 0 then
        some (0, σ)
      else
        kM_gives_j166 σ x3 x4 x5 x6 x7
    else
      kM_gives_j166 σ x3 x4 x5 x6 x7
def kM_gives_j100 (σ : Mem) (x3 : Int32) (x4 : Int32) (x5 : Int32) (x6 : Int32) (x7 : Int32) (y0 : Int32) (y1 : Int32) : Option (Int32 × Mem) :=
  if y1 = y0 then
      if x7 = 3 then
        if inR x3 16 then
        if (mI σ 33 0 (ix x3)) ≤ x4 then
          some (0, σ)
        else
          if inR x3 16 then
          if (((mI σ 51 0 (ix x3)) >>> (x4 &&& 31)) &&& 1) = 1 then
            some (0, σ)
          else
            kM_gives_j155 σ x3 x4 x5 x6 x7
          else none
        else none
      else
        if inR x3 16 then
        if (mI σ 51 0 (ix x3)) = 0 then
          if x4 ≤ 0 then
            kM_gives_j155 σ x3 x4 x5 x6 x7
          else
            some (0, σ)
        else
          some (0, σ)
        else none
    else
      some (0, σ)
def kM_gives_j90 (σ : Mem) (x3 : Int32) (x4 : Int32) (x5 : Int32) (x6 : Int32) (x7 : Int32) (y0 : Int32) : Option (Int32 × Mem) :=
  if x6 = 0 then
      kM_gives_j100 σ x3 x4 x5 x6 x7 1 y0
    else
      kM_gives_j100 σ x3 x4 x5 x6 x7 0 y0
def kM_gives_j76 (σ : Mem) (x3 : Int32) (x4 : Int32) (x5 : Int32) (x6 : Int32) (x7 : Int32) (y0 : Int32) (y1 : Int32) : Option (Int32 × Mem) :=
  if y1 = y0 then
      if x7 = 3 then
        kM_gives_j90 σ x3 x4 x5 x6 x7 1
      else
        kM_gives_j90 σ x3 x4 x5 x6 x7 0
    else
      some (0, σ)
def kM_gives_j25 (σ : Mem) (x1 : Int32) (x3 : Int32) (x4 : Int32) (y0 : Int32) : Option (Int32 × Mem) :=
  if inR x1 40 then
    if inR x3 16 then
    (kM_isRoom σ x3).bind (fun x => (fun (r3 : Int32) (σ4 : Mem) =>
    if r3 = 0 then
      some (0, σ4)
    else
      (kM_isOpen σ4 x3 (mI σ4 30 0 22)).bind (fun x => (fun (r5 : Int32) (σ6 : Mem) =>
      if r5 = 0 then
        some (0, σ6)
      else
        if (mI σ 41 0 (ix x1)) = 4 then
          kM_gives_j76 σ6 x3 x4 y0 (mI σ 41 0 (ix x1)) (mI σ 31 0 (ix x3)) 1 y0
        else
          kM_gives_j76 σ6 x3 x4 y0 (mI σ 41 0 (ix x1)) (mI σ 31 0 (ix x3)) 0 y0) x.1 x.2)) x.1 x.2)
    else none
    else none
def kM_gives (σ : Mem) (x1 : Int32) (x2 : Int32) : Option (Int32 × Mem) :=
  if (x2 - x2 / 4 * 4) = 1 then
      kM_gives_j25 σ x1 (x2 / 32) ((x2 - x2 / 32 * 32) / 4) 1
    else
      kM_gives_j25 σ x1 (x2 / 32) ((x2 - x2 / 32 * 32) / 4) 0
def kM_plan_s2 (x1 : Int32) : Int32 × Mem → Option ((Int32 × Mem) ⊕ (Mem))
  | (x2, σ) => if (mI σ 30 0 20) ≤ x2 then
        some (.inr σ)
      else
        if inR x2 40 then
        if inR x2 40 then
        if inR ((60 * x2) + x1) 2400 then
        some (.inl ((x2 + 1), sI (sI (sI σ 55 0 (ix x2) (zn 0)) 56 0 (ix x2) (zn 0)) 49 0 (ix ((60 * x2) + x1)) (-1)))
        else none
        else none
        else none
def kM_plan_s44 (x1 : Int32) : Int32 × Mem → Option ((Int32 × Mem) ⊕ (Mem))
  | (x2, σ) => if 5 ≤ x2 then
        some (.inr σ)
      else
        if inR x2 5 then
        some (.inl ((x2 + 1), sI σ 53 0 (ix x2) 0))
        else none
def kM_plan_s87 (x1 : Int32) : Int32 × Mem → Option ((Int32 × Mem) ⊕ (Mem))
  | (x2, σ) => if (mI σ 30 0 20) ≤ x2 then
        some (.inr σ)
      else
        if x1 ≤ 0 then
          some (.inr σ)
        else
          if inR (((60 * x2) + x1) - 1) 2400 then
          if inR x2 40 then
          if (mI σ 55 0 (ix x2)) = 0 then
            some (.inl ((x2 + 1), σ))
          else
            if (mI σ 49 0 (ix (((60 * x2) + x1) - 1))) = (-1) then
              some (.inl ((x2 + 1), σ))
            else
              (kM_gives σ x2 (mI σ 49 0 (ix (((60 * x2) + x1) - 1)))).bind (fun x => (fun (r17 : Int32) (σ18 : Mem) =>
              if r17 = 0 then
                some (.inl ((x2 + 1), σ18))
              else
                if inR x2 40 then
                if inR ((60 * x2) + x1) 2400 then
                some (.inl ((x2 + 1), sI (sI σ18 56 0 (ix x2) (zn 1)) 49 0 (ix ((60 * x2) + x1)) (mI σ 49 0 (ix (((60 * x2) + x1) - 1)))))
                else none
                else none) x.1 x.2)
          else none
          else none
def kM_plan_s176 (x1 : Int32) (x2 : Int32) : Int32 × Mem → Option ((Int32 × Mem) ⊕ (Mem))
  | (x3, σ) => if 512 ≤ x3 then
        some (.inr σ)
      else
        if inR x2 40 then
        if (mI σ 55 0 (ix x2)) = 0 then
          some (.inr σ)
        else
          if inR x2 40 then
          if (mI σ 56 0 (ix x2)) = 0 then
            if 1 < (x3 - x3 / 4 * 4) then
              some (.inl ((x3 + 1), σ))
            else
              (kM_gives σ x2 x3).bind (fun x => (fun (r28 : Int32) (σ29 : Mem) =>
              if r28 = 0 then
                some (.inl ((x3 + 1), σ29))
              else
                if inR x2 40 then
                if inR ((60 * x2) + x1) 2400 then
                some (.inl ((x3 + 1), sI (sI σ29 56 0 (ix x2) (zn 1)) 49 0 (ix ((60 * x2) + x1)) x3))
                else none
                else none) x.1 x.2)
          else
            some (.inr σ)
          else none
        else none
def kM_plan_x245 (σ : Mem) (x1 : Int32) (x2 : Int32) : Option (Int32 × Mem ⊕ (Mem)) :=
  some (.inl ((x2 + 1), σ))
def kM_plan_s166 (x1 : Int32) : Int32 × Mem → Option ((Int32 × Mem) ⊕ (Mem))
  | (x2, σ) => if (mI σ 30 0 20) ≤ x2 then
        some (.inr σ)
      else
        (loopF FU (kM_plan_s176 x1 x2) (0, σ)).bind (fun s => kM_plan_x245 s x1 x2)
def kM_plan_x251 (σ : Mem) : Option (Unit × Mem) :=
  some ((), σ)
def kM_plan_x164 (σ : Mem) (x1 : Int32) : Option (Unit × Mem) :=
  (loopF FU (kM_plan_s166 x1) (0, σ)).bind (fun s => kM_plan_x251 s)
def kM_plan_x62 (σ : Mem) (x1 : Int32) : Option (Unit × Mem) :=
  (kM_fresh σ x1).bind (fun x => (fun (_ : Unit) (σ8 : Mem) =>
    (kM_keep σ8 x1 2).bind (fun x => (fun (_ : Unit) (σ10 : Mem) =>
    (kM_keep σ10 x1 1).bind (fun x => (fun (_ : Unit) (σ12 : Mem) =>
    (kM_keep σ12 x1 0).bind (fun x => (fun (_ : Unit) (σ14 : Mem) =>
    (loopF FU (kM_plan_s87 x1) (0, σ14)).bind (fun s => kM_plan_x164 s x1)) x.1 x.2)) x.1 x.2)) x.1 x.2)) x.1 x.2)
def kM_plan_x42 (σ : Mem) (x1 : Int32) : Option (Unit × Mem) :=
  (loopF FU (kM_plan_s44 x1) (0, σ)).bind (fun s => kM_plan_x62 s x1)
def kM_plan (σ : Mem) (x1 : Int32) : Option (Unit × Mem) :=
  (loopF FU (kM_plan_s2 x1) (0, σ)).bind (fun s => kM_plan_x42 s x1)
def kM_plans_s5 : Int32 × Mem → Option ((Int32 × Mem) ⊕ (Mem))
  | (x1, σ) => if 60 ≤ x1 then
        some (.inr σ)
      else
        (kM_plan σ x1).bind (fun x => (fun (_ : Unit) (σ2 : Mem) =>
        some (.inl ((x1 + 1), σ2))) x.1 x.2)
def kM_plans_x22 (σ : Mem) : Option (Unit × Mem) :=
  some ((), σ)
def kM_plans (σ : Mem) : Option (Unit × Mem) :=
  (loopF FU (kM_plans_s5) ((mI σ 30 0 8), σ)).bind (fun s => kM_plans_x22 s)
def kM_costOf_s6 (x1 : Int32) (x2 : Int32) (x3 : Int32) : Int64 × Int32 × Mem → Option ((Int64 × Int32 × Mem) ⊕ (Int64 × Mem))
  | (x4, x6, σ) => if x3 ≤ x6 then
        some (.inr (x4, σ))
      else
        if inR ((60 * x1) + x6) 300 then
        some (.inl ((x4 + ((mI σ 57 0 (ix ((60 * x1) + x6))).toInt64)), (x6 + 1), σ))
        else none
def kM_costOf_j166 (σ : Mem) (x2 : Int32) (x3 : Int32) (x4 : Int64) (x6 : Int64) (x8 : Int32) : Option (Int64 × Int32 × Mem ⊕ ((Mem) ⊕ (Int64 × Mem))) :=
  if inR x8 8 then
    some (.inl ((x6 + ((mI σ 60 0 (ix x8)).toInt64)), (x8 + 1), σ))
    else none
def kM_costOf_j139 (σ : Mem) (x2 : Int32) (x3 : Int32) (x4 : Int64) (x6 : Int64) (x8 : Int32) : Option (Int64 × Int32 × Mem ⊕ ((Mem) ⊕ (Int64 × Mem))) :=
  if inR x8 8 then
    if (mI σ 58 0 (ix x8)) = 1 then
      if inR x8 8 then
      if (x2 - (mI σ 30 0 8)) < (mI σ 59 0 (ix x8)) then
        some (.inl (x6, (x8 + 1), σ))
      else
        kM_costOf_j166 σ x2 x3 x4 x6 x8
      else none
    else
      some (.inl (x6, (x8 + 1), σ))
    else none
def kM_costOf_j116 (σ : Mem) (x2 : Int32) (x3 : Int32) (x4 : Int64) (x6 : Int64) (x8 : Int32) : Option (Int64 × Int32 × Mem ⊕ ((Mem) ⊕ (Int64 × Mem))) :=
  if inR x8 8 then
    if (mI σ 58 0 (ix x8)) = 0 then
      if inR x8 8 then
      if (mI σ 59 0 (ix x8)) ≤ (x3 - x2) then
        kM_costOf_j166 σ x2 x3 x4 x6 x8
      else
        kM_costOf_j139 σ x2 x3 x4 x6 x8
      else none
    else
      kM_costOf_j139 σ x2 x3 x4 x6 x8
    else none
def kM_costOf_s44 (x2 : Int32) (x3 : Int32) (x4 : Int64) : Int64 × Int32 × Mem → Option ((Int64 × Int32 × Mem) ⊕ ((Mem) ⊕ (Int64 × Mem)))
  | (x6, x8, σ) => if (mI σ 30 0 32) ≤ x8 then
        some (.inr (.inr (x6, σ)))
      else
        if inR x8 8 then
        if (mI σ 61 0 (ix x8)) = 0 then
          some (.inl (x6, (x8 + 1), σ))
        else
          if inR x8 8 then
          if (mI σ 58 0 (ix x8)) = 2 then
            if inR x8 8 then
            if (mI σ 59 0 (ix x8)) < x2 then
              kM_costOf_j116 σ x2 x3 x4 x6 x8
            else
              if inR x8 8 then
              if x3 ≤ (mI σ 59 0 (ix x8)) then
                kM_costOf_j116 σ x2 x3 x4 x6 x8
              else
                if inR x8 8 then
                if ((mI σ 59 0 (ix x8)) + 1) < x3 then
                  kM_costOf_j116 σ x2 x3 x4 x6 x8
                else
                  some (.inr (.inl σ))
                else none
              else none
            else none
          else
            kM_costOf_j116 σ x2 x3 x4 x6 x8
          else none
        else none
def kM_costOf_x112 (σ : Mem) : Option (Int64 × Mem) :=
  some ((-1), σ)
def kM_costOf_x185 (σ : Mem) (x4 : Int64) (x6 : Int64) : Option (Int64 × Mem) :=
  if 0 ≤ (lg_cmp x6 0) then
      some ((x4 * x6) / 100, σ)
    else
      some (0, σ)
def kM_costOf_x36 (σ : Mem) (x2 : Int32) (x3 : Int32) (x4 : Int64) : Option (Int64 × Mem) :=
  (loopF FU (kM_costOf_s44 x2 x3 x4) (100, 0, σ)).bind (fun s => Sum.elim (fun s => kM_costOf_x112 s) (fun s => kM_costOf_x185 s.2 x4 s.1) s)
def kM_costOf (σ : Mem) (x1 : Int32) (x2 : Int32) (x3 : Int32) : Option (Int64 × Mem) :=
  (loopF FU (kM_costOf_s6 x1 x2 x3) (0, x2, σ)).bind (fun s => kM_costOf_x36 s.2 x2 x3 s.1)
def kM_ways_j166 (σ : Mem) (x1 : Int32) (x2 : Int32) (x3 : Int32) (x4 : Int32) (x5 : Int32) (x6 : Int64) (x8 : Int32) : Option (Int32 × Mem ⊕ (Mem)) :=
  if inR x4 61 then
    if inR x4 61 then
    some (.inl ((x5 + 1), sI (sL σ 63 0 (ix x4) x6) 64 0 (ix x4) x8))
    else none
    else none
def kM_ways_j74 (σ : Mem) (x1 : Int32) (x2 : Int32) (x3 : Int32) (x4 : Int32) (x5 : Int32) (y0 : Int64) : Option (Int32 × Mem ⊕ (Mem)) :=
  if (lg_cmp y0 (-1)) = 0 then
      some (.inl ((x5 + 1), σ))
    else
      if inR x5 61 then
      if inR x5 61 then
      if inR x4 61 then
      if (lg_cmp (mL σ 63 0 (ix x4)) (-1)) = 0 then
        kM_ways_j166 σ x1 x2 x3 x4 x5 (y0 + (mL σ 63 0 (ix x5))) ((mI σ 64 0 (ix x5)) + 1)
      else
        if inR x4 61 then
        if (lg_cmp (mL σ 63 0 (ix x4)) (y0 + (mL σ 63 0 (ix x5)))) < 0 then
          some (.inl ((x5 + 1), σ))
        else
          if inR x4 61 then
          if (lg_cmp (mL σ 63 0 (ix x4)) (y0 + (mL σ 63 0 (ix x5)))) = 0 then
            if inR x4 61 then
            if ((mI σ 64 0 (ix x5)) + 1) < (mI σ 64 0 (ix x4)) then
              kM_ways_j166 σ x1 x2 x3 x4 x5 (y0 + (mL σ 63 0 (ix x5))) ((mI σ 64 0 (ix x5)) + 1)
            else
              some (.inl ((x5 + 1), σ))
            else none
          else
            kM_ways_j166 σ x1 x2 x3 x4 x5 (y0 + (mL σ 63 0 (ix x5))) ((mI σ 64 0 (ix x5)) + 1)
          else none
        else none
      else none
      else none
      else none
def kM_ways_s38 (x1 : Int32) (x2 : Int32) (x3 : Int32) (x4 : Int32) : Int32 × Mem → Option ((Int32 × Mem) ⊕ (Mem))
  | (x5, σ) => if x4 ≤ x5 then
        some (.inr σ)
      else
        if inR x5 61 then
        if (lg_cmp (mL σ 63 0 (ix x5)) (-1)) = 0 then
          kM_ways_j74 σ x1 x2 x3 x4 x5 (-1)
        else
          (kM_costOf σ x1 x5 x4).bind (fun x => (fun (r5 : Int64) (σ6 : Mem) =>
          kM_ways_j74 σ6 x1 x2 x3 x4 x5 r5) x.1 x.2)
        else none
def kM_ways_x190 (σ : Mem) (x1 : Int32) (x2 : Int32) (x3 : Int32) (x4 : Int32) : Option (Int32 × Mem ⊕ (Mem)) :=
  some (.inl ((x4 + 1), σ))
def kM_ways_s19 (x1 : Int32) (x2 : Int32) (x3 : Int32) : Int32 × Mem → Option ((Int32 × Mem) ⊕ (Mem))
  | (x4, σ) => if x3 < x4 then
        some (.inr σ)
      else
        if inR x4 61 then
        (loopF FU (kM_ways_s38 x1 x2 x3 x4) (x2, sL σ 63 0 (ix x4) (-1))).bind (fun s => kM_ways_x190 s x1 x2 x3 x4)
        else none
def kM_ways_x196 (σ : Mem) : Option (Unit × Mem) :=
  some ((), σ)
def kM_ways (σ : Mem) (x1 : Int32) (x2 : Int32) (x3 : Int32) : Option (Unit × Mem) :=
  if inR x2 61 then
    if inR x2 61 then
    (loopF FU (kM_ways_s19 x1 x2 x3) ((x2 + 1), sI (sL σ 63 0 (ix x2) 0) 64 0 (ix x2) 0)).bind (fun s => kM_ways_x196 s)
    else none
    else none
def kM_isWish (σ : Mem) (x1 : Int32) (x2 : Int32) (x3 : Int32) : Option (Int32 × Mem) :=
  if x1 < 0 then
      some (0, σ)
    else
      if 5 ≤ x1 then
        some (0, σ)
      else
        if x2 < (mI σ 30 0 8) then
          some (0, σ)
        else
          if x3 ≤ x2 then
            some (0, σ)
          else
            if 60 < x3 then
              some (0, σ)
            else
              some (1, σ)
def kM_isParty_j25 (σ : Mem) (y0 : Int32) (y1 : Int32) : Option (Int32 × Mem) :=
  if y0 < y1 then
      some (0, σ)
    else
      some (1, σ)
def kM_isParty (σ : Mem) (x0 : Int32) (x1 : Int32) : Option (Int32 × Mem) :=
  if x1 < 1 then
      some (0, σ)
    else
      if 2 ≤ x0 then
        if x0 = 4 then
          kM_isParty_j25 σ 4 x1
        else
          kM_isParty_j25 σ 2 x1
      else
        kM_isParty_j25 σ 1 x1
def kM_why_s48 (x1 : Int32) (x4 : Int32) (x5 : Int32) : Int32 × Mem → Option ((Int32 × Mem) ⊕ ((Mem) ⊕ (Mem)))
  | (x6, σ) => if x4 ≤ x6 then
        some (.inr (.inr σ))
      else
        (kM_lack σ x6 x1 x5).bind (fun x => (fun (r8 : Int32) (σ9 : Mem) =>
        if r8 ≤ (mI σ9 30 0 9) then
          some (.inl ((x6 + 1), σ9))
        else
          some (.inr (.inl σ9))) x.1 x.2)
def kM_why_x71 (σ : Mem) : Option (Int32 × Mem) :=
  some (3, σ)
def kM_why_x79 (σ : Mem) : Option (Int32 × Mem) :=
  some (0, σ)
def kM_why (σ : Mem) (x1 : Int32) (x2 : Int32) (x3 : Int32) (x4 : Int32) (x5 : Int32) : Option (Int32 × Mem) :=
  (kM_isWish σ x1 x3 x4).bind (fun x => (fun (r1 : Int32) (σ2 : Mem) =>
    if r1 = 0 then
      some (1, σ2)
    else
      (kM_isParty σ2 x1 x2).bind (fun x => (fun (r3 : Int32) (σ4 : Mem) =>
      if r3 = 0 then
        some (1, σ4)
      else
        (kM_ways σ4 x1 x3 x4).bind (fun x => (fun (_ : Unit) (σ6 : Mem) =>
        if inR x4 61 then
        if (lg_cmp (mL σ6 63 0 (ix x4)) (-1)) = 0 then
          some (2, σ6)
        else
          (loopF FU (kM_why_s48 x1 x4 x5) (x3, σ6)).bind (fun s => Sum.elim (fun s => kM_why_x71 s) (fun s => kM_why_x79 s) s)
        else none) x.1 x.2)) x.1 x.2)) x.1 x.2)
def kM_can (σ : Mem) (x1 : Int32) (x2 : Int32) (x3 : Int32) (x4 : Int32) : Option (Int32 × Mem) :=
  (kM_why (sI σ 30 0 0 0) x1 x2 x3 x4 (-1)).bind (fun x => (fun (r1 : Int32) (σ2 : Mem) =>
    if r1 ≤ 0 then
      if (mI σ2 30 0 20) = 40 then
        some (4, σ2)
      else
        some (0, σ2)
    else
      some (r1, σ2)) x.1 x.2)
def kM_promise_s153 (x7 : Int32) : Int32 × Mem → Option ((Int32 × Mem) ⊕ (Mem))
  | (x8, σ) => if 60 ≤ x8 then
        some (.inr σ)
      else
        if inR ((60 * x7) + x8) 2400 then
        some (.inl ((x8 + 1), sI σ 49 0 (ix ((60 * x7) + x8)) (-1)))
        else none
def kM_promise_x180 (σ : Mem) (x7 : Int32) : Option (Int32 × Mem) :=
  some (x7, σ)
def kM_promise_j77 (σ : Mem) (x1 : Int32) (x2 : Int32) (x3 : Int32) (x4 : Int32) (x5 : Int32) (x7 : Int32) (y0 : Int32) (y1 : Int32) : Option (Int32 × Mem) :=
  if inR y1 40 then
    if inR x7 40 then
    if inR x7 40 then
    if inR x7 40 then
    if inR x7 40 then
    if inR x7 40 then
    if inR x4 61 then
    if inR x7 40 then
    if inR x7 40 then
    if inR x7 40 then
    (loopF FU (kM_promise_s153 x7) (0, sI (sI (sL (sI (sI (sI (sI (sI (sI σ 40 0 (ix y1) y0) 41 0 (ix x7) x1) 42 0 (ix x7) x2) 43 0 (ix x7) x3) 44 0 (ix x7) x4) 45 0 (ix x7) x5) 48 0 (ix x7) (mL (sI (sI (sI (sI (sI (sI σ 40 0 (ix y1) y0) 41 0 (ix x7) x1) 42 0 (ix x7) x2) 43 0 (ix x7) x3) 44 0 (ix x7) x4) 45 0 (ix x7) x5) 63 0 (ix x4))) 46 0 (ix x7) 0) 47 0 (ix x7) 0)).bind (fun s => kM_promise_x180 s x7)
    else none
    else none
    else none
    else none
    else none
    else none
    else none
    else none
    else none
    else none
def kM_promise_j34 (σ : Mem) (x1 : Int32) (x2 : Int32) (x3 : Int32) (x4 : Int32) (x5 : Int32) (x6 : Int32) : Option (Int32 × Mem) :=
  if x6 ≤ 0 then
      if x5 = (-1) then
        kM_promise_j77 (sI σ 30 0 20 ((mI σ 30 0 20) + 1)) x1 x2 x3 x4 x5 (mI σ 30 0 20) 1 (mI σ 30 0 20)
      else
        kM_promise_j77 (sI σ 30 0 20 ((mI σ 30 0 20) + 1)) x1 x2 x3 x4 x5 (mI σ 30 0 20) 0 (mI σ 30 0 20)
    else
      some ((-1) - x6, σ)
def kM_promise (σ : Mem) (x1 : Int32) (x2 : Int32) (x3 : Int32) (x4 : Int32) (x5 : Int32) : Option (Int32 × Mem) :=
  (kM_can σ x1 x2 x3 x4).bind (fun x => (fun (r1 : Int32) (σ2 : Mem) =>
    if r1 = 0 then
      if (mI σ2 30 0 8) ≤ x5 then
        kM_promise_j34 σ2 x1 x2 x3 x4 x5 r1
      else
        if x5 = (-1) then
          kM_promise_j34 σ2 x1 x2 x3 x4 x5 r1
        else
          kM_promise_j34 σ2 x1 x2 x3 x4 x5 5
    else
      kM_promise_j34 σ2 x1 x2 x3 x4 x5 r1) x.1 x.2)
def kM_isMade (σ : Mem) (x1 : Int32) : Option (Int32 × Mem) :=
  (kM_is σ x1).bind (fun x => (fun (r1 : Int32) (σ2 : Mem) =>
    if r1 = 0 then
      some (0, σ2)
    else
      if inR x1 40 then
      if 1 < (mI σ2 40 0 (ix x1)) then
        some (0, σ2)
      else
        some (1, σ2)
      else none) x.1 x.2)
def kM_firm (σ : Mem) (x1 : Int32) : Option (Int32 × Mem) :=
  (kM_is (sI σ 30 0 0 0) x1).bind (fun x => (fun (r1 : Int32) (σ2 : Mem) =>
    if r1 = 0 then
      some (0, σ2)
    else
      if inR x1 40 then
      if (mI σ2 40 0 (ix x1)) = 0 then
        if inR x1 40 then
        some (1, sI σ2 40 0 (ix x1) 1)
        else none
      else
        some (0, σ2)
      else none) x.1 x.2)
def kM_cancel (σ : Mem) (x1 : Int32) : Option (Int32 × Mem) :=
  (kM_isMade (sI σ 30 0 0 0) x1).bind (fun x => (fun (r1 : Int32) (σ2 : Mem) =>
    if r1 = 0 then
      some (0, σ2)
    else
      if inR x1 40 then
      some (1, sI σ2 40 0 (ix x1) 4)
      else none) x.1 x.2)
def kM_change (σ : Mem) (x1 : Int32) (x2 : Int32) (x3 : Int32) : Option (Int32 × Mem) :=
  (kM_isMade (sI σ 30 0 0 0) x1).bind (fun x => (fun (r1 : Int32) (σ2 : Mem) =>
    if r1 = 0 then
      some (6, σ2)
    else
      if inR x1 40 then
      if inR x1 40 then
      (kM_why σ2 (mI σ2 41 0 (ix x1)) (mI σ2 42 0 (ix x1)) x2 x3 x1).bind (fun x => (fun (r5 : Int32) (σ6 : Mem) =>
      if r5 ≤ 0 then
        if inR x1 40 then
        if inR x1 40 then
        if inR x3 61 then
        if inR x1 40 then
        some (0, sL (sI (sI σ6 43 0 (ix x1) x2) 44 0 (ix x1) x3) 48 0 (ix x1) (mL (sI (sI σ6 43 0 (ix x1) x2) 44 0 (ix x1) x3) 63 0 (ix x3)))
        else none
        else none
        else none
        else none
      else
        some (r5, σ6)) x.1 x.2)
      else none
      else none) x.1 x.2)
def kM_come (σ : Mem) (x1 : Int32) : Option (Int32 × Mem) :=
  (kM_isMade (sI σ 30 0 0 0) x1).bind (fun x => (fun (r1 : Int32) (σ2 : Mem) =>
    if r1 = 0 then
      some (0, σ2)
    else
      if inR x1 40 then
      if (mI σ2 43 0 (ix x1)) = (mI σ2 30 0 8) then
        if inR x1 40 then
        some (1, sI σ2 40 0 (ix x1) 2)
        else none
      else
        some (0, σ2)
      else none) x.1 x.2)
def kM_hasMoved (σ : Mem) (x1 : Int32) (x2 : Int32) : Option (Int32 × Mem) :=
  if inR ((60 * x1) + x2) 2400 then
    if x2 ≤ 0 then
      some (0, σ)
    else
      if (mI σ 49 0 (ix ((60 * x1) + x2))) = (-1) then
        some (0, σ)
      else
        if inR (((60 * x1) + x2) - 1) 2400 then
        if (mI σ 49 0 (ix (((60 * x1) + x2) - 1))) = (-1) then
          some (0, σ)
        else
          if inR (((60 * x1) + x2) - 1) 2400 then
          if (mI σ 49 0 (ix (((60 * x1) + x2) - 1))) = (mI σ 49 0 (ix ((60 * x1) + x2))) then
            some (0, σ)
          else
            some (1, σ)
          else none
        else none
    else none
def kM_next_s18 : Int32 × Mem → Option ((Int32 × Mem) ⊕ (Mem))
  | (x1, σ) => if (mI σ 30 0 20) ≤ x1 then
        some (.inr σ)
      else
        if inR x1 40 then
        if 1 < (mI σ 40 0 (ix x1)) then
          some (.inl ((x1 + 1), σ))
        else
          (kM_wants σ x1 (mI σ 30 0 8)).bind (fun x => (fun (r2 : Int32) (σ3 : Mem) =>
          if r2 = 0 then
            some (.inl ((x1 + 1), σ3))
          else
            if inR x1 40 then
            some (.inl ((x1 + 1), sI σ3 40 0 (ix x1) 6))
            else none) x.1 x.2)
        else none
def kM_next_s74 : Int32 × Int32 × Mem → Option ((Int32 × Int32 × Mem) ⊕ (Int32 × Mem))
  | (x1, x2, σ) => if (mI σ 30 0 20) ≤ x2 then
        some (.inr (x1, σ))
      else
        if inR x2 40 then
        if (mI σ 40 0 (ix x2)) = 2 then
          (kM_wants σ x2 (mI σ 30 0 8)).bind (fun x => (fun (r11 : Int32) (σ12 : Mem) =>
          if r11 = 0 then
            some (.inl (x1, (x2 + 1), σ12))
          else
            if inR x2 40 then
            if (mI σ12 55 0 (ix x2)) = 0 then
              if inR x2 40 then
              some (.inl ((x1 + 1), (x2 + 1), sI σ12 40 0 (ix x2) 7))
              else none
            else
              if inR x2 40 then
              if inR x2 40 then
              (kM_hasMoved (sI σ12 46 0 (ix x2) ((mI σ12 46 0 (ix x2)) + 1)) x2 (mI (sI σ12 46 0 (ix x2) ((mI σ12 46 0 (ix x2)) + 1)) 30 0 8)).bind (fun x => (fun (r17 : Int32) (σ18 : Mem) =>
              if r17 = 0 then
                some (.inl (x1, (x2 + 1), σ18))
              else
                if inR x2 40 then
                if inR x2 40 then
                some (.inl (x1, (x2 + 1), sI σ18 47 0 (ix x2) ((mI σ18 47 0 (ix x2)) + 1)))
                else none
                else none) x.1 x.2)
              else none
              else none
            else none) x.1 x.2)
        else
          some (.inl (x1, (x2 + 1), σ))
        else none
def kM_next_j218 (σ : Mem) (x1 : Int32) (x2 : Int32) : Option (Int32 × Mem ⊕ (Mem)) :=
  if inR x2 40 then
    if (mI σ 40 0 (ix x2)) = 0 then
      if inR x2 40 then
      if (mI σ 30 0 8) ≤ (mI σ 45 0 (ix x2)) then
        some (.inl ((x2 + 1), σ))
      else
        if inR x2 40 then
        some (.inl ((x2 + 1), sI σ 40 0 (ix x2) 5))
        else none
      else none
    else
      some (.inl ((x2 + 1), σ))
    else none
def kM_next_s180 (x1 : Int32) : Int32 × Mem → Option ((Int32 × Mem) ⊕ (Mem))
  | (x2, σ) => if (mI σ 30 0 20) ≤ x2 then
        some (.inr σ)
      else
        if inR x2 40 then
        if (mI σ 40 0 (ix x2)) = 2 then
          if inR x2 40 then
          if (mI σ 44 0 (ix x2)) = (mI σ 30 0 8) then
            if inR x2 40 then
            kM_next_j218 (sI σ 40 0 (ix x2) 3) x1 x2
            else none
          else
            kM_next_j218 σ x1 x2
          else none
        else
          kM_next_j218 σ x1 x2
        else none
def kM_next_x253 (σ : Mem) (x1 : Int32) : Option (Int32 × Mem) :=
  some (x1, σ)
def kM_next_x168 (σ : Mem) (x1 : Int32) : Option (Int32 × Mem) :=
  (loopF FU (kM_next_s180 x1) (0, sI σ 30 0 8 ((mI σ 30 0 8) + 1))).bind (fun s => kM_next_x253 s x1)
def kM_next_x62 (σ : Mem) : Option (Int32 × Mem) :=
  (kM_plan σ (mI σ 30 0 8)).bind (fun x => (fun (_ : Unit) (σ9 : Mem) =>
    (loopF FU (kM_next_s74) (0, 0, σ9)).bind (fun s => kM_next_x168 s.2 s.1)) x.1 x.2)
def kM_next (σ : Mem) : Option (Int32 × Mem) :=
  if (mI (sI σ 30 0 0 0) 30 0 8) = 59 then
      some ((-1), sI σ 30 0 0 0)
    else
      (loopF FU (kM_next_s18) (0, sI σ 30 0 0 0)).bind (fun s => kM_next_x62 s)
def kM_promised_j24 (σ : Mem) (x1 : Int32) (x2 : Int32) (y0 : Int32) : Option (Int64 × Mem) :=
  if (mI (sI σ 30 0 0 y0) 30 0 0) ≤ 0 then
      if x2 = 0 then
        if inR x1 40 then
        some ((mI (sI σ 30 0 0 y0) 40 0 (ix x1)).toInt64, sI σ 30 0 0 y0)
        else none
      else if x2 = 1 then
        if inR x1 40 then
        some ((mI (sI σ 30 0 0 y0) 41 0 (ix x1)).toInt64, sI σ 30 0 0 y0)
        else none
      else if x2 = 2 then
        if inR x1 40 then
        some ((mI (sI σ 30 0 0 y0) 42 0 (ix x1)).toInt64, sI σ 30 0 0 y0)
        else none
      else if x2 = 3 then
        if inR x1 40 then
        some ((mI (sI σ 30 0 0 y0) 43 0 (ix x1)).toInt64, sI σ 30 0 0 y0)
        else none
      else if x2 = 4 then
        if inR x1 40 then
        some ((mI (sI σ 30 0 0 y0) 44 0 (ix x1)).toInt64, sI σ 30 0 0 y0)
        else none
      else if x2 = 5 then
        if inR x1 40 then
        some ((mI (sI σ 30 0 0 y0) 45 0 (ix x1)).toInt64, sI σ 30 0 0 y0)
        else none
      else if x2 = 6 then
        if inR x1 40 then
        some (mL (sI σ 30 0 0 y0) 48 0 (ix x1), sI σ 30 0 0 y0)
        else none
      else if x2 = 7 then
        if inR x1 40 then
        some ((mI (sI σ 30 0 0 y0) 46 0 (ix x1)).toInt64, sI σ 30 0 0 y0)
        else none
      else if inR x1 40 then
      some ((mI (sI σ 30 0 0 y0) 47 0 (ix x1)).toInt64, sI σ 30 0 0 y0)
      else none
    else
      some (0, sI σ 30 0 0 y0)
def kM_promised_j19 (σ : Mem) (x1 : Int32) (x2 : Int32) : Option (Int64 × Mem) :=
  kM_promised_j24 σ x1 x2 1
def kM_promised (σ : Mem) (x1 : Int32) (x2 : Int32) : Option (Int64 × Mem) :=
  (kM_is σ x1).bind (fun x => (fun (r1 : Int32) (σ2 : Mem) =>
    if r1 = 0 then
      kM_promised_j19 σ2 x1 x2
    else
      if x2 < 0 then
        kM_promised_j19 σ2 x1 x2
      else
        if x2 ≤ 8 then
          kM_promised_j24 σ2 x1 x2 0
        else
          kM_promised_j19 σ2 x1 x2) x.1 x.2)
def kM_spot (σ : Mem) (x1 : Int32) (x2 : Int32) : Option (Int32 × Mem) :=
  (kM_is (sI σ 30 0 0 0) x1).bind (fun x => (fun (r1 : Int32) (σ2 : Mem) =>
    if r1 = 0 then
      some ((-1), σ2)
    else
      (kM_isNight σ2 x2).bind (fun x => (fun (r3 : Int32) (σ4 : Mem) =>
      if r3 = 0 then
        some ((-1), σ4)
      else
        (kM_plans σ4).bind (fun x => (fun (_ : Unit) (σ6 : Mem) =>
        if inR ((60 * x1) + x2) 2400 then
        some (mI σ6 49 0 (ix ((60 * x1) + x2)), σ6)
        else none) x.1 x.2)) x.1 x.2)) x.1 x.2)
def kM_moves_s26 (x2 : Int32) : Int32 × Int32 × Mem → Option ((Int32 × Int32 × Mem) ⊕ (Int32 × Mem))
  | (x1, x3, σ) => if 60 ≤ x3 then
        some (.inr (x1, σ))
      else
        (kM_hasMoved σ x2 x3).bind (fun x => (fun (r3 : Int32) (σ4 : Mem) =>
        if r3 = 0 then
          some (.inl (x1, (x3 + 1), σ4))
        else
          some (.inl ((x1 + 1), (x3 + 1), σ4))) x.1 x.2)
def kM_moves_x50 (σ : Mem) (x1 : Int32) (x2 : Int32) : Option (Int32 × Int32 × Mem ⊕ (Int32 × Mem)) :=
  some (.inl (x1, (x2 + 1), σ))
def kM_moves_s13 : Int32 × Int32 × Mem → Option ((Int32 × Int32 × Mem) ⊕ (Int32 × Mem))
  | (x1, x2, σ) => if (mI σ 30 0 20) ≤ x2 then
        some (.inr (x1, σ))
      else
        (loopF FU (kM_moves_s26 x2) (x1, (mI σ 30 0 8), σ)).bind (fun s => kM_moves_x50 s.2 s.1 x2)
def kM_moves_x56 (σ : Mem) (x1 : Int32) : Option (Int32 × Mem) :=
  some (x1, σ)
def kM_moves (σ : Mem) : Option (Int32 × Mem) :=
  (kM_plans (sI σ 30 0 0 0)).bind (fun x => (fun (_ : Unit) (σ2 : Mem) =>
    (loopF FU (kM_moves_s13) (0, 0, σ2)).bind (fun s => kM_moves_x56 s.2 s.1)) x.1 x.2)
def kM_floors_s24 (x1 : Int32) (x2 : Int32) (x3 : Int32) : Int32 × Int32 × Mem → Option ((Int32 × Int32 × Mem) ⊕ (Int32 × Mem))
  | (x4, x5, σ) => if (mI σ 30 0 20) ≤ x5 then
        some (.inr (x4, σ))
      else
        if x5 < x1 then
          some (.inl (x4, (x5 + 1), σ))
        else
          if x2 < x5 then
            some (.inl (x4, (x5 + 1), σ))
          else
            if inR ((60 * x5) + x3) 2400 then
            if (mI σ 49 0 (ix ((60 * x5) + x3))) = (-1) then
              some (.inl (x4, (x5 + 1), σ))
            else
              if inR ((60 * x5) + x3) 2400 then
              if inR ((mI σ 49 0 (ix ((60 * x5) + x3))) / 32) 16 then
              some (.inl ((x4 ||| ((1 : Int32) <<< ((mI σ 32 0 (ix ((mI σ 49 0 (ix ((60 * x5) + x3))) / 32))) &&& 31))), (x5 + 1), σ))
              else none
              else none
            else none
def kM_floors_s100 (x4 : Int32) : Int32 × Int32 × Mem → Option ((Int32 × Int32 × Mem) ⊕ (Int32 × Mem))
  | (x5, x6, σ) => if 10 ≤ x6 then
        some (.inr (x5, σ))
      else
        some (.inl ((x5 + ((x4 >>> (x6 &&& 31)) &&& 1)), (x6 + 1), σ))
def kM_floors_x125 (σ : Mem) (x5 : Int32) : Option (Int32 × Mem) :=
  some (x5, σ)
def kM_floors_x94 (σ : Mem) (x4 : Int32) : Option (Int32 × Mem) :=
  (loopF FU (kM_floors_s100 x4) (0, 0, σ)).bind (fun s => kM_floors_x125 s.2 s.1)
def kM_floors (σ : Mem) (x1 : Int32) (x2 : Int32) (x3 : Int32) : Option (Int32 × Mem) :=
  (kM_isNight (sI σ 30 0 0 0) x3).bind (fun x => (fun (r1 : Int32) (σ2 : Mem) =>
    if r1 = 0 then
      some (0, σ2)
    else
      (kM_plans σ2).bind (fun x => (fun (_ : Unit) (σ4 : Mem) =>
      (loopF FU (kM_floors_s24 x1 x2 x3) (0, 0, σ4)).bind (fun s => kM_floors_x94 s.2 s.1)) x.1 x.2)) x.1 x.2)
def kM_lacks (σ : Mem) (x1 : Int32) : Option (Int32 × Mem) :=
  (kM_isNight (sI σ 30 0 0 0) x1).bind (fun x => (fun (r1 : Int32) (σ2 : Mem) =>
    if r1 = 0 then
      some ((-1), σ2)
    else
      if (mI σ2 30 0 8) ≤ x1 then
        (kM_lack σ2 x1 (-1) (-1)).bind (fun x => (fun (r3 : Int32) (σ4 : Mem) =>
        some (r3, σ4)) x.1 x.2)
      else
        some ((-1), σ2)) x.1 x.2)
def kM_hasSomebody_j55 (σ : Mem) (x1 : Int32) (x2 : Int32) (x3 : Int32) (x4 : Int32) (x5 : Int32) : Option (Int32 × Mem ⊕ ((Mem) ⊕ (Mem))) :=
  if (x5 - x5 / 4 * 4) = 1 then
      if inR (x5 / 32) 16 then
      if (mI σ 34 0 (ix (x5 / 32))) = x1 then
        some (.inr (.inl σ))
      else
        some (.inl ((x4 + 1), σ))
      else none
    else
      some (.inl ((x4 + 1), σ))
def kM_hasSomebody_s3 (x1 : Int32) (x2 : Int32) (x3 : Int32) : Int32 × Mem → Option ((Int32 × Mem) ⊕ ((Mem) ⊕ (Mem)))
  | (x4, σ) => if (mI σ 30 0 20) ≤ x4 then
        some (.inr (.inr σ))
      else
        if inR ((60 * x4) + x3) 2400 then
        if (mI σ 49 0 (ix ((60 * x4) + x3))) = (-1) then
          some (.inl ((x4 + 1), σ))
        else
          if ((mI σ 49 0 (ix ((60 * x4) + x3))) / 32) = x1 then
            if (((mI σ 49 0 (ix ((60 * x4) + x3))) - (mI σ 49 0 (ix ((60 * x4) + x3))) / 32 * 32) / 4) = x2 then
              some (.inr (.inl σ))
            else
              kM_hasSomebody_j55 σ x1 x2 x3 x4 (mI σ 49 0 (ix ((60 * x4) + x3)))
          else
            kM_hasSomebody_j55 σ x1 x2 x3 x4 (mI σ 49 0 (ix ((60 * x4) + x3)))
        else none
def kM_hasSomebody_x77 (σ : Mem) : Option (Int32 × Mem) :=
  some (1, σ)
def kM_hasSomebody_x85 (σ : Mem) : Option (Int32 × Mem) :=
  some (0, σ)
def kM_hasSomebody (σ : Mem) (x1 : Int32) (x2 : Int32) (x3 : Int32) : Option (Int32 × Mem) :=
  (loopF FU (kM_hasSomebody_s3 x1 x2 x3) (0, σ)).bind (fun s => Sum.elim (fun s => kM_hasSomebody_x77 s) (fun s => kM_hasSomebody_x85 s) s)
def kM_rooms_j94 (σ : Mem) (x1 : Int32) (x2 : Int32) (x3 : Int32) (x4 : Int32) (x5 : Int32) (x6 : Int32) (y0 : Int32) (y1 : Int32) : Option (Int32 × Int32 × Mem ⊕ (Int32 × Mem)) :=
  if y0 ≤ y1 then
      some (.inr (x4, σ))
    else
      if x3 = 0 then
        some (.inl ((x4 + 1), (x6 + 1), σ))
      else
        (kM_hasSomebody σ x5 x6 x2).bind (fun x => (fun (r8 : Int32) (σ9 : Mem) =>
        if r8 = 0 then
          some (.inl (x4, (x6 + 1), σ9))
        else
          some (.inl ((x4 + 1), (x6 + 1), σ9))) x.1 x.2)
def kM_rooms_s76 (x1 : Int32) (x2 : Int32) (x3 : Int32) (x5 : Int32) : Int32 × Int32 × Mem → Option ((Int32 × Int32 × Mem) ⊕ (Int32 × Mem))
  | (x4, x6, σ) => if x1 = 3 then
        if inR x5 16 then
        kM_rooms_j94 σ x1 x2 x3 x4 x5 x6 (mI σ 33 0 (ix x5)) x6
        else none
      else
        kM_rooms_j94 σ x1 x2 x3 x4 x5 x6 1 x6
def kM_rooms_x122 (σ : Mem) (x1 : Int32) (x2 : Int32) (x3 : Int32) (x4 : Int32) (x5 : Int32) : Option (Int32 × Int32 × Mem ⊕ (Int32 × Mem)) :=
  some (.inl (x4, (x5 + 1), σ))
def kM_rooms_s42 (x1 : Int32) (x2 : Int32) (x3 : Int32) : Int32 × Int32 × Mem → Option ((Int32 × Int32 × Mem) ⊕ (Int32 × Mem))
  | (x4, x5, σ) => if 16 ≤ x5 then
        some (.inr (x4, σ))
      else
        if inR x5 16 then
        if (mI σ 31 0 (ix x5)) = x1 then
          (kM_isOpen σ x5 x2).bind (fun x => (fun (r6 : Int32) (σ7 : Mem) =>
          if r6 = 0 then
            some (.inl (x4, (x5 + 1), σ7))
          else
            (loopF FU (kM_rooms_s76 x1 x2 x3 x5) (x4, 0, σ7)).bind (fun s => kM_rooms_x122 s.2 x1 x2 x3 s.1 x5)) x.1 x.2)
        else
          some (.inl (x4, (x5 + 1), σ))
        else none
def kM_rooms_x128 (σ : Mem) (x4 : Int32) : Option (Int32 × Mem) :=
  some (x4, σ)
def kM_rooms (σ : Mem) (x1 : Int32) (x2 : Int32) (x3 : Int32) : Option (Int32 × Mem) :=
  if x1 < 0 then
      some ((-1), sI σ 30 0 0 0)
    else
      if 3 < x1 then
        some ((-1), sI σ 30 0 0 0)
      else
        (kM_isNight (sI σ 30 0 0 0) x2).bind (fun x => (fun (r1 : Int32) (σ2 : Mem) =>
        if r1 = 0 then
          some ((-1), σ2)
        else
          if x3 < 0 then
            some ((-1), σ2)
          else
            if x3 ≤ 1 then
              (kM_plans σ2).bind (fun x => (fun (_ : Unit) (σ4 : Mem) =>
              (loopF FU (kM_rooms_s42 x1 x2 x3) (0, 0, σ4)).bind (fun s => kM_rooms_x128 s.2 s.1)) x.1 x.2)
            else
              some ((-1), σ2)) x.1 x.2)
def kM_over (σ : Mem) (x1 : Int32) : Option (Int32 × Mem) :=
  if x1 < 0 then
      some (0, sI σ 30 0 0 0)
    else
      if x1 ≤ 40 then
        some (1, sI (sI σ 30 0 0 0) 30 0 9 x1)
      else
        some (0, sI σ 30 0 0 0)
def kM_price_s39 (x1 : Int32) (x3 : Int32) (x4 : Int32) : Int32 × Mem → Option ((Int32 × Mem) ⊕ (Mem))
  | (x5, σ) => if x3 ≤ x5 then
        some (.inr σ)
      else
        if inR ((60 * x1) + x5) 300 then
        some (.inl ((x5 + 1), sI σ 57 0 (ix ((60 * x1) + x5)) x4))
        else none
def kM_price_x65 (σ : Mem) : Option (Int32 × Mem) :=
  some (1, σ)
def kM_price (σ : Mem) (x1 : Int32) (x2 : Int32) (x3 : Int32) (x4 : Int32) : Option (Int32 × Mem) :=
  if x1 < 0 then
      some (0, sI σ 30 0 0 0)
    else
      if 4 < x1 then
        some (0, sI σ 30 0 0 0)
      else
        (kM_isSpan (sI σ 30 0 0 0) x2 x3).bind (fun x => (fun (r1 : Int32) (σ2 : Mem) =>
        if r1 = 0 then
          some (0, σ2)
        else
          if x4 < 0 then
            some (0, σ2)
          else
            if x4 ≤ 1000000 then
              (loopF FU (kM_price_s39 x1 x3 x4) (x2, σ2)).bind (fun s => kM_price_x65 s)
            else
              some (0, σ2)) x.1 x.2)
def kM_rule_j57 (σ : Mem) (x1 : Int32) (x2 : Int32) (x3 : Int32) (y0 : Int32) : Option (Int32 × Mem) :=
  if (mI σ 30 0 32) = 8 then
      some ((-1), σ)
    else
      if x1 < 0 then
        some ((-1), σ)
      else
        if 2 < x1 then
          some ((-1), σ)
        else
          if y0 = 0 then
            some ((-1), σ)
          else
            if inR (mI σ 30 0 32) 8 then
            if inR (mI (sI σ 58 0 (ix (mI σ 30 0 32)) x1) 30 0 32) 8 then
            if inR (mI (sI (sI σ 58 0 (ix (mI σ 30 0 32)) x1) 59 0 (ix (mI (sI σ 58 0 (ix (mI σ 30 0 32)) x1) 30 0 32)) x2) 30 0 32) 8 then
            if inR (mI (sI (sI (sI σ 58 0 (ix (mI σ 30 0 32)) x1) 59 0 (ix (mI (sI σ 58 0 (ix (mI σ 30 0 32)) x1) 30 0 32)) x2) 60 0 (ix (mI (sI (sI σ 58 0 (ix (mI σ 30 0 32)) x1) 59 0 (ix (mI (sI σ 58 0 (ix (mI σ 30 0 32)) x1) 30 0 32)) x2) 30 0 32)) x3) 30 0 32) 8 then
            some ((mI (sI (sI (sI (sI (sI σ 58 0 (ix (mI σ 30 0 32)) x1) 59 0 (ix (mI (sI σ 58 0 (ix (mI σ 30 0 32)) x1) 30 0 32)) x2) 60 0 (ix (mI (sI (sI σ 58 0 (ix (mI σ 30 0 32)) x1) 59 0 (ix (mI (sI σ 58 0 (ix (mI σ 30 0 32)) x1) 30 0 32)) x2) 30 0 32)) x3) 61 0 (ix (mI (sI (sI (sI σ 58 0 (ix (mI σ 30 0 32)) x1) 59 0 (ix (mI (sI σ 58 0 (ix (mI σ 30 0 32)) x1) 30 0 32)) x2) 60 0 (ix (mI (sI (sI σ 58 0 (ix (mI σ 30 0 32)) x1) 59 0 (ix (mI (sI σ 58 0 (ix (mI σ 30 0 32)) x1) 30 0 32)) x2) 30 0 32)) x3) 30 0 32)) (zn 1)) 30 0 32 ((mI (sI (sI (sI (sI σ 58 0 (ix (mI σ 30 0 32)) x1) 59 0 (ix (mI (sI σ 58 0 (ix (mI σ 30 0 32)) x1) 30 0 32)) x2) 60 0 (ix (mI (sI (sI σ 58 0 (ix (mI σ 30 0 32)) x1) 59 0 (ix (mI (sI σ 58 0 (ix (mI σ 30 0 32)) x1) 30 0 32)) x2) 30 0 32)) x3) 61 0 (ix (mI (sI (sI (sI σ 58 0 (ix (mI σ 30 0 32)) x1) 59 0 (ix (mI (sI σ 58 0 (ix (mI σ 30 0 32)) x1) 30 0 32)) x2) 60 0 (ix (mI (sI (sI σ 58 0 (ix (mI σ 30 0 32)) x1) 59 0 (ix (mI (sI σ 58 0 (ix (mI σ 30 0 32)) x1) 30 0 32)) x2) 30 0 32)) x3) 30 0 32)) (zn 1)) 30 0 32) + 1)) 30 0 32) - 1, sI (sI (sI (sI (sI σ 58 0 (ix (mI σ 30 0 32)) x1) 59 0 (ix (mI (sI σ 58 0 (ix (mI σ 30 0 32)) x1) 30 0 32)) x2) 60 0 (ix (mI (sI (sI σ 58 0 (ix (mI σ 30 0 32)) x1) 59 0 (ix (mI (sI σ 58 0 (ix (mI σ 30 0 32)) x1) 30 0 32)) x2) 30 0 32)) x3) 61 0 (ix (mI (sI (sI (sI σ 58 0 (ix (mI σ 30 0 32)) x1) 59 0 (ix (mI (sI σ 58 0 (ix (mI σ 30 0 32)) x1) 30 0 32)) x2) 60 0 (ix (mI (sI (sI σ 58 0 (ix (mI σ 30 0 32)) x1) 59 0 (ix (mI (sI σ 58 0 (ix (mI σ 30 0 32)) x1) 30 0 32)) x2) 30 0 32)) x3) 30 0 32)) (zn 1)) 30 0 32 ((mI (sI (sI (sI (sI σ 58 0 (ix (mI σ 30 0 32)) x1) 59 0 (ix (mI (sI σ 58 0 (ix (mI σ 30 0 32)) x1) 30 0 32)) x2) 60 0 (ix (mI (sI (sI σ 58 0 (ix (mI σ 30 0 32)) x1) 59 0 (ix (mI (sI σ 58 0 (ix (mI σ 30 0 32)) x1) 30 0 32)) x2) 30 0 32)) x3) 61 0 (ix (mI (sI (sI (sI σ 58 0 (ix (mI σ 30 0 32)) x1) 59 0 (ix (mI (sI σ 58 0 (ix (mI σ 30 0 32)) x1) 30 0 32)) x2) 60 0 (ix (mI (sI (sI σ 58 0 (ix (mI σ 30 0 32)) x1) 59 0 (ix (mI (sI σ 58 0 (ix (mI σ 30 0 32)) x1) 30 0 32)) x2) 30 0 32)) x3) 30 0 32)) (zn 1)) 30 0 32) + 1))
            else none
            else none
            else none
            else none
def kM_rule_j56 (σ : Mem) (x1 : Int32) (x2 : Int32) (x3 : Int32) : Option (Int32 × Mem) :=
  kM_rule_j57 σ x1 x2 x3 0
def kM_rule_j24 (σ : Mem) (x1 : Int32) (x2 : Int32) (x3 : Int32) : Option (Int32 × Mem) :=
  kM_rule_j57 σ x1 x2 x3 0
def kM_rule (σ : Mem) (x1 : Int32) (x2 : Int32) (x3 : Int32) : Option (Int32 × Mem) :=
  if x1 = 2 then
      if x2 < 0 then
        kM_rule_j24 (sI σ 30 0 0 0) x1 x2 x3
      else
        if 58 < x2 then
          kM_rule_j24 (sI σ 30 0 0 0) x1 x2 x3
        else
          kM_rule_j57 (sI σ 30 0 0 0) x1 x2 x3 1
    else
      if x2 < 1 then
        kM_rule_j56 (sI σ 30 0 0 0) x1 x2 x3
      else
        if 60 < x2 then
          kM_rule_j56 (sI σ 30 0 0 0) x1 x2 x3
        else
          if x3 < (-100) then
            kM_rule_j56 (sI σ 30 0 0 0) x1 x2 x3
          else
            if 300 < x3 then
              kM_rule_j56 (sI σ 30 0 0 0) x1 x2 x3
            else
              kM_rule_j57 (sI σ 30 0 0 0) x1 x2 x3 1
def kM_drop (σ : Mem) (x1 : Int32) : Option (Int32 × Mem) :=
  if x1 < 0 then
      some (0, sI σ 30 0 0 0)
    else
      if (mI (sI σ 30 0 0 0) 30 0 32) ≤ x1 then
        some (0, sI σ 30 0 0 0)
      else
        if inR x1 8 then
        if (mI (sI σ 30 0 0 0) 61 0 (ix x1)) = 0 then
          some (0, sI σ 30 0 0 0)
        else
          if inR x1 8 then
          some (1, sI (sI σ 30 0 0 0) 61 0 (ix x1) (zn 0))
          else none
        else none
def kM_cost (σ : Mem) (x1 : Int32) (x2 : Int32) (x3 : Int32) : Option (Int64 × Mem) :=
  (kM_isWish (sI σ 30 0 0 0) x1 x2 x3).bind (fun x => (fun (r1 : Int32) (σ2 : Mem) =>
    if r1 = 0 then
      some ((-1), σ2)
    else
      (kM_costOf σ2 x1 x2 x3).bind (fun x => (fun (r3 : Int64) (σ4 : Mem) =>
      some (r3, σ4)) x.1 x.2)) x.1 x.2)
def kM_least (σ : Mem) (x1 : Int32) (x2 : Int32) (x3 : Int32) (x4 : Int32) : Option (Int64 × Mem) :=
  (kM_isWish (sI σ 30 0 0 0) x1 x2 x3).bind (fun x => (fun (r1 : Int32) (σ2 : Mem) =>
    if r1 = 0 then
      some ((-1), σ2)
    else
      if x4 < 0 then
        some ((-1), σ2)
      else
        if x4 ≤ 1 then
          (kM_ways σ2 x1 x2 x3).bind (fun x => (fun (_ : Unit) (σ4 : Mem) =>
          if inR x3 61 then
          if (lg_cmp (mL σ4 63 0 (ix x3)) (-1)) = 0 then
            some ((-1), σ4)
          else
            if x4 = 0 then
              if inR x3 61 then
              some (mL σ4 63 0 (ix x3), σ4)
              else none
            else
              if inR x3 61 then
              some ((mI σ4 64 0 (ix x3)).toInt64, σ4)
              else none
          else none) x.1 x.2)
        else
          some ((-1), σ2)) x.1 x.2)
def kM_count_s63 : Int32 × Int32 × Mem → Option ((Int32 × Int32 × Mem) ⊕ (Int32 × Mem))
  | (x2, x3, σ) => if 16 ≤ x3 then
        some (.inr (x2, σ))
      else
        (kM_isRoom σ x3).bind (fun x => (fun (r1 : Int32) (σ2 : Mem) =>
        if r1 = 0 then
          some (.inl (x2, (x3 + 1), σ2))
        else
          some (.inl ((x2 + 1), (x3 + 1), σ2))) x.1 x.2)
def kM_count_x86 (σ : Mem) (x2 : Int32) : Option (Int32 × Mem) :=
  some (x2, σ)
def kM_count_s90 : Int32 × Int32 × Mem → Option ((Int32 × Int32 × Mem) ⊕ (Int32 × Mem))
  | (x2, x3, σ) => if 16 ≤ x3 then
        some (.inr (x2, σ))
      else
        if inR x3 16 then
        if (mI σ 31 0 (ix x3)) = 4 then
          some (.inl ((x2 + 1), (x3 + 1), σ))
        else
          some (.inl (x2, (x3 + 1), σ))
        else none
def kM_count_x115 (σ : Mem) (x2 : Int32) : Option (Int32 × Mem) :=
  some (x2, σ)
def kM_count_s119 : Int32 × Int32 × Mem → Option ((Int32 × Int32 × Mem) ⊕ (Int32 × Mem))
  | (x2, x3, σ) => if 16 ≤ x3 then
        some (.inr (x2, σ))
      else
        if inR x3 16 then
        if (mI σ 34 0 (ix x3)) ≤ x3 then
          some (.inl (x2, (x3 + 1), σ))
        else
          some (.inl ((x2 + 1), (x3 + 1), σ))
        else none
def kM_count_x144 (σ : Mem) (x2 : Int32) : Option (Int32 × Mem) :=
  some (x2, σ)
def kM_count_s153 : Int32 × Int32 × Mem → Option ((Int32 × Int32 × Mem) ⊕ (Int32 × Mem))
  | (x2, x3, σ) => if (mI σ 30 0 20) ≤ x3 then
        some (.inr (x2, σ))
      else
        (kM_stands σ x3).bind (fun x => (fun (r11 : Int32) (σ12 : Mem) =>
        if r11 = 0 then
          some (.inl (x2, (x3 + 1), σ12))
        else
          some (.inl ((x2 + 1), (x3 + 1), σ12))) x.1 x.2)
def kM_count_x178 (σ : Mem) (x2 : Int32) : Option (Int32 × Mem) :=
  some (x2, σ)
def kM_count_s187 : Int32 × Int32 × Mem → Option ((Int32 × Int32 × Mem) ⊕ (Int32 × Mem))
  | (x2, x3, σ) => if (mI σ 30 0 32) ≤ x3 then
        some (.inr (x2, σ))
      else
        if inR x3 8 then
        if (mI σ 61 0 (ix x3)) = 0 then
          some (.inl (x2, (x3 + 1), σ))
        else
          some (.inl ((x2 + 1), (x3 + 1), σ))
        else none
def kM_count_x213 (σ : Mem) (x2 : Int32) : Option (Int32 × Mem) :=
  some (x2, σ)
def kM_count (σ : Mem) (x1 : Int32) : Option (Int32 × Mem) :=
  if x1 = 0 then
      some (mI (sI σ 30 0 0 0) 30 0 8, sI σ 30 0 0 0)
    else if x1 = 1 then
      (loopF FU (kM_count_s63) (0, 0, sI σ 30 0 0 0)).bind (fun s => kM_count_x86 s.2 s.1)
    else if x1 = 2 then
      (loopF FU (kM_count_s90) (0, 0, sI σ 30 0 0 0)).bind (fun s => kM_count_x115 s.2 s.1)
    else if x1 = 3 then
      (loopF FU (kM_count_s119) (0, 0, sI σ 30 0 0 0)).bind (fun s => kM_count_x144 s.2 s.1)
    else if x1 = 4 then
      some (mI (sI σ 30 0 0 0) 30 0 20, sI σ 30 0 0 0)
    else if x1 = 5 then
      (loopF FU (kM_count_s153) (0, 0, sI σ 30 0 0 0)).bind (fun s => kM_count_x178 s.2 s.1)
    else if x1 = 6 then
      some (mI (sI σ 30 0 0 0) 30 0 9, sI σ 30 0 0 0)
    else if x1 = 7 then
      (loopF FU (kM_count_s187) (0, 0, sI σ 30 0 0 0)).bind (fun s => kM_count_x213 s.2 s.1)
    else some ((-1), sI σ 30 0 0 0)
