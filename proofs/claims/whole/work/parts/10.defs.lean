/-! the methods as pure functions; printed by wip/tools/gen_walk.py -/
def fE_feed_34 : Nat → St → Int64 → Int32 → Int32 → Option (Int32 × St)
  | 0, _, _, _, _ => none
  | fu + 1, σ, l1, i3, i4 =>
    if i3 ≤ i4 then
      some (gI σ 25 1, σ)
    else
      if ib (gI σ 25 1) 200 = true then
        nm (sI σ 26 (ix (gI σ 25 1)) (((ushL l1 ((8 : Int32) * i4)).toInt32) &&& (255 : Int32))) fun σ6 =>
        nm (sI σ6 25 1 ((gI σ6 25 1) + (1 : Int32))) fun σ7 =>
        nm (i4 + (1 : Int32)) fun v8 =>
        fE_feed_34 fu σ7 l1 i3 v8
      else none
def fE_feed (σ : St) (l1 : Int64) (i3 : Int32) : Option (Int32 × St) :=
  if i3 < (1 : Int32) then
    some ((-1 : Int32), σ)
  else
    if i3 ≤ (8 : Int32) then
      if ((gI σ 25 1) + i3) ≤ (200 : Int32) then
        fE_feed_34 300 σ l1 i3 (0 : Int32)
      else
        some ((-2 : Int32), σ)
    else
      some ((-1 : Int32), σ)
def fT_empty (σ : St) (r0 : Nat) : Option St :=
  nm (sI σ r0 0 (0 : Int32)) fun σ1 =>
  nm (sI σ1 r0 1 (0 : Int32)) fun σ2 =>
  some σ2
def fX_isLetter (σ : St) (i1 : Int32) : Option Int32 :=
  if ib i1 200 = true then
    if (gI σ 26 (ix i1)) < (97 : Int32) then
      some (0 : Int32)
    else
      if ib i1 200 = true then
        some (if (122 : Int32) < (gI σ 26 (ix i1)) then (0 : Int32) else (1 : Int32))
      else none
  else none
def fX_isDigit (σ : St) (i1 : Int32) : Option Int32 :=
  if ib i1 200 = true then
    if (gI σ 26 (ix i1)) < (48 : Int32) then
      some (0 : Int32)
    else
      if ib i1 200 = true then
        some (if (57 : Int32) < (gI σ 26 (ix i1)) then (0 : Int32) else (1 : Int32))
      else none
  else none
def fX_step_142 : Nat → St → Option St
  | 0, _ => none
  | fu + 1, σ =>
    if (gI σ 25 1) ≤ (gI σ 25 3) then
      some σ
    else
      (fX_isDigit σ (gI σ 25 3)).bind fun q10 =>
      if q10 = 0 then
        some σ
      else
        nm (sI σ 25 3 ((gI σ 25 3) + (1 : Int32))) fun σ13 =>
        fX_step_142 fu σ13
def fX_step_120 (σ : St) : Option St :=
  if (gI σ 25 1) ≤ (gI σ 25 2) then
    some σ
  else
    (fX_isDigit σ (gI σ 25 2)).bind fun q6 =>
    if q6 = 0 then
      some σ
    else
      fX_step_142 300 σ
def fX_step_85 : Nat → St → Option St
  | 0, _ => none
  | fu + 1, σ =>
    if (gI σ 25 1) ≤ (gI σ 25 3) then
      some σ
    else
      (fX_isLetter σ (gI σ 25 3)).bind fun q18 =>
      if q18 = 0 then
        some σ
      else
        nm (sI σ 25 3 ((gI σ 25 3) + (1 : Int32))) fun σ21 =>
        fX_step_85 fu σ21
def fX_step_46 (σ : St) : Option St :=
  nm (sI σ 25 3 (mmin ((gI σ 25 2) + (1 : Int32)) (gI σ 25 1))) fun σ3 =>
  if (gI σ3 25 1) ≤ (gI σ3 25 2) then
    fX_step_120 σ3
  else
    (fX_isLetter σ3 (gI σ3 25 2)).bind fun q14 =>
    if q14 = 0 then
      fX_step_120 σ3
    else
      fX_step_85 300 σ3
def fX_step_8 : Nat → St → Option St
  | 0, _ => none
  | fu + 1, σ =>
    if (gI σ 25 1) ≤ (gI σ 25 2) then
      fX_step_46 σ
    else
      if ib (gI σ 25 2) 200 = true then
        if (gI σ 26 (ix (gI σ 25 2))) = (32 : Int32) then
          nm (sI σ 25 2 ((gI σ 25 2) + (1 : Int32))) fun σ24 =>
          fX_step_8 fu σ24
        else
          fX_step_46 σ
      else none
def fX_step (σ : St) : Option St :=
  nm (sI σ 25 2 (gI σ 25 3)) fun σ1 =>
  fX_step_8 300 σ1
def fX_reads_20 : Nat → St → Nat → Int32 → Option Int32
  | 0, _, _, _ => none
  | fu + 1, σ, r1, i2 =>
    if (fJS_length r1) ≤ i2 then
      some (1 : Int32)
    else
      if ib ((gI σ 25 2) + i2) 200 = true then
        (fJS_charAt r1 i2).bind fun q4 =>
        if (gI σ 26 (ix ((gI σ 25 2) + i2))) = q4 then
          nm (i2 + (1 : Int32)) fun v7 =>
          fX_reads_20 fu σ r1 v7
        else
          some (0 : Int32)
      else none
def fX_reads (σ : St) (r1 : Nat) : Option Int32 :=
  if ((gI σ 25 3) - (gI σ 25 2)) = (fJS_length r1) then
    fX_reads_20 300 σ r1 (0 : Int32)
  else
    some (0 : Int32)
def fX_readNumber_80 (σ : St) (i1 : Int32) (i2 : Int32) (i3 : Int32) : Option (Int32 × St) :=
  some ((if i3 < i1 then (-1 : Int32) else (if i2 < i3 then (-1 : Int32) else i3)), σ)
def fX_readNumber_49 : Nat → St → Int32 → Int32 → Int32 → Int32 → Option (Int32 × St)
  | 0, _, _, _, _, _ => none
  | fu + 1, σ, i1, i2, i3, i4 =>
    if (gI σ 25 3) ≤ i4 then
      fX_readNumber_80 σ i1 i2 i3
    else
      if ib i4 200 = true then
        nm ((((10 : Int32) * i3) + (gI σ 26 (ix i4))) - (48 : Int32)) fun v13 =>
        nm (i4 + (1 : Int32)) fun v14 =>
        fX_readNumber_49 fu σ i1 i2 v13 v14
      else none
def fX_readNumber (σ : St) (i1 : Int32) (i2 : Int32) : Option (Int32 × St) :=
  (fX_step σ).bind fun σ2 =>
  if (gI σ2 25 1) ≤ (gI σ2 25 2) then
    some ((-1 : Int32), σ2)
  else
    (fX_isDigit σ2 (gI σ2 25 2)).bind fun q4 =>
    if q4 = 0 then
      some ((-1 : Int32), σ2)
    else
      if ((gI σ2 25 3) - (gI σ2 25 2)) ≤ (2 : Int32) then
        nm (gI σ2 25 2) fun v8 =>
        fX_readNumber_49 300 σ2 i1 i2 (0 : Int32) v8
      else
        some ((-1 : Int32), σ2)
def fT_addPerson (σ : St) (r0 : Nat) (i1 : Int32) : Option (Int32 × St) :=
  if ib (gI σ r0 0) 7 = true then
    nm (sI σ (r0 + 1) (ix (gI σ r0 0)) i1) fun σ2 =>
    if ib (gI σ2 r0 0) 7 = true then
      nm (sI σ2 (r0 + 2) (ix (gI σ2 r0 0)) (0 : Int32)) fun σ4 =>
      if ib (gI σ4 r0 0) 7 = true then
        nm (sI σ4 (r0 + 3) (ix (gI σ4 r0 0)) (0 : Int32)) fun σ6 =>
        nm (sI σ6 r0 0 ((gI σ6 r0 0) + (1 : Int32))) fun σ7 =>
        some ((gI σ7 r0 0) - (1 : Int32), σ7)
      else none
    else none
  else none
def fX_readEnd (σ : St) : Option (Int32 × St) :=
  (fX_step σ).bind fun σ2 =>
  (fX_reads σ2 101).bind fun q3 =>
  if b01 q3 then
    some (q3, σ2)
  else none
def fX_readPerson (σ : St) (r1 : Nat) : Option (Int32 × St) :=
  if (gI σ r1 0) < (7 : Int32) then
    bi (fX_readNumber σ (0 : Int32) (9 : Int32)) fun q3 σ3 =>
    if 0 ≤ q3 then
      bi (fT_addPerson σ3 r1 q3) fun q6 σ6 =>
      bi (fX_readEnd σ6) fun q8 σ8 =>
      if b01 q8 then
        some (q8, σ8)
      else none
    else
      some ((0 : Int32), σ3)
  else
    some ((0 : Int32), σ)
def fT_acquaint_34 (σ : St) (r0 : Nat) (i1 : Int32) (i2 : Int32) (i3 : Int32) (is0 : Int32) (is1 : Int32) (sr2 : Nat) : Option St :=
  if ib is1 7 = true then
    nm (sI σ sr2 (ix is1) is0) fun σ4 =>
    if i3 = 0 then
      if ib i2 7 = true then
        if ib i2 7 = true then
          nm (sI σ4 (r0 + 3) (ix i2) ((gI σ4 (r0 + 3) (ix i2)) &&& (((1 : Int32) <<< (i1 &&& 31)) ^^^ (-1 : Int32)))) fun σ8 =>
          some σ8
        else none
      else none
    else
      if ib i2 7 = true then
        if ib i2 7 = true then
          nm (sI σ4 (r0 + 3) (ix i2) ((gI σ4 (r0 + 3) (ix i2)) ||| ((1 : Int32) <<< (i1 &&& 31)))) fun σ11 =>
          some σ11
        else none
      else none
  else none
def fT_acquaint (σ : St) (r0 : Nat) (i1 : Int32) (i2 : Int32) (i3 : Int32) : Option St :=
  if i3 = 0 then
    if ib i1 7 = true then
      fT_acquaint_34 σ r0 i1 i2 i3 ((gI σ (r0 + 3) (ix i1)) &&& (((1 : Int32) <<< (i2 &&& 31)) ^^^ (-1 : Int32))) i1 (r0 + 3)
    else none
  else
    if ib i1 7 = true then
      fT_acquaint_34 σ r0 i1 i2 i3 ((gI σ (r0 + 3) (ix i1)) ||| ((1 : Int32) <<< (i2 &&& 31))) i1 (r0 + 3)
    else none
def fX_readKnow (σ : St) (r1 : Nat) : Option (Int32 × St) :=
  bi (fX_readNumber σ (0 : Int32) ((gI σ r1 0) - (1 : Int32))) fun q2 σ2 =>
  if 0 ≤ q2 then
    bi (fX_readNumber σ2 (0 : Int32) ((gI σ2 r1 0) - (1 : Int32))) fun q5 σ5 =>
    if q5 < 0 then
      some ((0 : Int32), σ5)
    else
      if q5 = q2 then
        some ((0 : Int32), σ5)
      else
        (fT_acquaint σ5 r1 q2 q5 (1 : Int32)).bind fun σ9 =>
        bi (fX_readEnd σ9) fun q11 σ11 =>
        if b01 q11 then
          some (q11, σ11)
        else none
  else
    some ((0 : Int32), σ2)
def fX_kindRead (σ : St) : Option Int32 :=
  (fX_reads σ 103).bind fun q1 =>
  if q1 = 0 then
    (fX_reads σ 104).bind fun q4 =>
    if q4 = 0 then
      (fX_reads σ 105).bind fun q7 =>
      if q7 = 0 then
        (fX_reads σ 106).bind fun q10 =>
        if q10 = 0 then
          (fX_reads σ 107).bind fun q13 =>
          if q13 = 0 then
            (fX_reads σ 108).bind fun q16 =>
            some (if q16 = 0 then (-1 : Int32) else (5 : Int32))
          else
            some (4 : Int32)
        else
          some (3 : Int32)
      else
        some (2 : Int32)
    else
      some (1 : Int32)
  else
    some (0 : Int32)
def fT_addCoin (σ : St) (r0 : Nat) (i1 : Int32) (i2 : Int32) (i3 : Int32) : Option (Int32 × St) :=
  if ib (gI σ r0 1) 6 = true then
    nm (sI σ (r0 + 4) (ix (gI σ r0 1)) i1) fun σ2 =>
    if ib (gI σ2 r0 1) 6 = true then
      nm (sI σ2 (r0 + 5) (ix (gI σ2 r0 1)) i2) fun σ4 =>
      if ib (gI σ4 r0 1) 6 = true then
        nm (sI σ4 (r0 + 6) (ix (gI σ4 r0 1)) i3) fun σ6 =>
        if ib (gI σ6 r0 1) 6 = true then
          nm (sI σ6 (r0 + 7) (ix (gI σ6 r0 1)) ((1 : Int32) <<< (i3 &&& 31))) fun σ8 =>
          nm (sI σ8 r0 1 ((gI σ8 r0 1) + (1 : Int32))) fun σ9 =>
          some ((gI σ9 r0 1) - (1 : Int32), σ9)
        else none
      else none
    else none
  else none
def fX_readHad_55 (σ : St) : Option (Int32 × St) :=
  (fX_reads σ 101).bind fun q14 =>
  if b01 q14 then
    some (q14, σ)
  else none
def fX_readHad_2 : Nat → St → Nat → Int32 → Int32 → Option (Int32 × St)
  | 0, _, _, _, _ => none
  | fu + 1, σ, r1, i2, i3 =>
    if (200 : Int32) ≤ i3 then
      some ((0 : Int32), σ)
    else
      bi (fX_readNumber σ (0 : Int32) ((gI σ r1 0) - (1 : Int32))) fun q3 σ3 =>
      if 0 ≤ q3 then
        if ib i2 6 = true then
          if ib i2 6 = true then
            nm (sI σ3 (r1 + 7) (ix i2) ((gI σ3 (r1 + 7) (ix i2)) ||| ((1 : Int32) <<< (q3 &&& 31)))) fun σ7 =>
            (fX_step σ7).bind fun σ9 =>
            (fX_reads σ9 111).bind fun q10 =>
            if q10 = 0 then
              fX_readHad_55 σ9
            else
              nm (i3 + (1 : Int32)) fun v13 =>
              fX_readHad_2 fu σ9 r1 i2 v13
          else none
        else none
      else
        some ((0 : Int32), σ3)
def fX_readHad (σ : St) (r1 : Nat) (i2 : Int32) : Option (Int32 × St) :=
  fX_readHad_2 300 σ r1 i2 (0 : Int32)
def fX_readCoin (σ : St) (r1 : Nat) (i2 : Int32) : Option (Int32 × St) :=
  if (gI σ r1 1) < (6 : Int32) then
    bi (fX_readNumber σ (1 : Int32) (99 : Int32)) fun q3 σ3 =>
    if 0 ≤ q3 then
      (fX_step σ3).bind fun σ6 =>
      (fX_reads σ6 109).bind fun q7 =>
      if q7 = 0 then
        some ((0 : Int32), σ6)
      else
        bi (fX_readNumber σ6 (0 : Int32) ((gI σ6 r1 0) - (1 : Int32))) fun q11 σ11 =>
        if 0 ≤ q11 then
          bi (fT_addCoin σ11 r1 i2 q3 q11) fun q14 σ14 =>
          (fX_step σ14).bind fun σ16 =>
          (fX_reads σ16 110).bind fun q17 =>
          if q17 = 0 then
            (fX_reads σ16 101).bind fun q20 =>
            if b01 q20 then
              some (q20, σ16)
            else none
          else
            bi (fX_readHad σ16 r1 q14) fun q24 σ24 =>
            if b01 q24 then
              some (q24, σ24)
            else none
        else
          some ((0 : Int32), σ11)
    else
      some ((0 : Int32), σ3)
  else
    some ((0 : Int32), σ)
def fX_readStatement (σ : St) (r1 : Nat) : Option (Int32 × St) :=
  (fX_reads σ 100).bind fun q1 =>
  if q1 = 0 then
    (fX_reads σ 102).bind fun q4 =>
    if q4 = 0 then
      (fX_kindRead σ).bind fun q7 =>
      if q7 < 0 then
        some ((0 : Int32), σ)
      else
        bi (fX_readCoin σ r1 q7) fun q11 σ11 =>
        some ((if q11 = 0 then (0 : Int32) else (1 : Int32)), σ11)
    else
      bi (fX_readKnow σ r1) fun q14 σ14 =>
      if b01 q14 then
        some (q14, σ14)
      else none
  else
    bi (fX_readPerson σ r1) fun q17 σ17 =>
    if b01 q17 then
      some (q17, σ17)
    else none
def fX_readInto_11 : Nat → St → Nat → Int32 → Option (Int32 × St)
  | 0, _, _, _ => none
  | fu + 1, σ, r1, i2 =>
    if (200 : Int32) < i2 then
      some (gI σ 25 2, σ)
    else
      (fX_step σ).bind fun σ6 =>
      if (gI σ6 25 2) < (gI σ6 25 1) then
        bi (fX_readStatement σ6 r1) fun q9 σ9 =>
        if q9 = 0 then
          some (gI σ9 25 2, σ9)
        else
          nm (i2 + (1 : Int32)) fun v11 =>
          fX_readInto_11 fu σ9 r1 v11
      else
        some ((-3 : Int32), σ6)
def fX_readInto (σ : St) (r1 : Nat) : Option (Int32 × St) :=
  (fT_empty σ r1).bind fun σ2 =>
  nm (sI σ2 25 3 (0 : Int32)) fun σ3 =>
  fX_readInto_11 300 σ3 r1 (0 : Int32)
def fE_town (σ : St) : Option (Int32 × St) :=
  if isTb (gR σ 0) = true then
    if isTb (gR σ 1) = true then
      nm (sI σ (gR σ 1) 2 (gI σ (gR σ 0) 2)) fun σ3 =>
      if isTb (gR σ3 1) = true then
        bi (fX_readInto σ3 (gR σ3 1)) fun q6 σ6 =>
        nm (sI σ6 25 1 (0 : Int32)) fun σ7 =>
        if q6 < 0 then
          nm (sR σ7 0 (gR σ7 1)) fun σ9 =>
          nm (sR σ9 1 (gR σ7 0)) fun σ10 =>
          nm (sI σ10 0 7 (0 : Int32)) fun σ11 =>
          if isTb (gR σ11 0) = true then
            some (gI σ11 (gR σ11 0) 0, σ11)
          else none
        else
          some ((-100 : Int32) - q6, σ7)
      else none
    else none
  else none
def fE_isRank (i0 : Int32) : Int32 :=
  (if i0 < 0 then (0 : Int32) else (if (9 : Int32) < i0 then (0 : Int32) else (1 : Int32)))
def fE_person (σ : St) (i1 : Int32) : Option (Int32 × St) :=
  if (fE_isRank i1) = 0 then
    some ((-1 : Int32), σ)
  else
    if isTb (gR σ 0) = true then
      if (gI σ (gR σ 0) 0) < (7 : Int32) then
        if isTb (gR σ 0) = true then
          bi (fT_addPerson σ (gR σ 0) i1) fun q6 σ6 =>
          some (q6, σ6)
        else none
      else
        some ((-2 : Int32), σ)
    else none
def fT_hasPerson (σ : St) (r0 : Nat) (i1 : Int32) : Int32 :=
  (if i1 < 0 then (0 : Int32) else (if (gI σ r0 0) ≤ i1 then (0 : Int32) else (1 : Int32)))
def fT_purse_4 : Nat → St → Nat → Int32 → Int32 → Int32 → Option Int32
  | 0, _, _, _, _, _ => none
  | fu + 1, σ, r0, i1, i2, i3 =>
    if (gI σ r0 1) ≤ i3 then
      some i2
    else
      if ib i3 6 = true then
        nm (i2 ||| (if (gI σ (r0 + 6) (ix i3)) = i1 then (1 : Int32) <<< (i3 &&& 31) else (0 : Int32))) fun v3 =>
        nm (i3 + (1 : Int32)) fun v4 =>
        fT_purse_4 fu σ r0 i1 v3 v4
      else none
def fT_purse (σ : St) (r0 : Nat) (i1 : Int32) : Option Int32 :=
  fT_purse_4 300 σ r0 i1 (0 : Int32) (0 : Int32)
def fE_holds (i0 : Int32) (i1 : Int32) : Int32 :=
  (if ((i0 >>> (i1 &&& 31)) &&& (1 : Int32)) = (1 : Int32) then (1 : Int32) else (0 : Int32))
def fT_worth (σ : St) (r0 : Nat) (i1 : Int32) : Option Int32 :=
  if ib i1 6 = true then
    nm ((gI σ (r0 + 5) (ix i1)) / (2 : Int32)) fun v2 =>
    if ib i1 6 = true then
      if (gI σ (r0 + 4) (ix i1)) = (1 : Int32) then
        some v2
      else
        if (gI σ (r0 + 4) (ix i1)) = (2 : Int32) then
          if ib i1 6 = true then
            some ((2 : Int32) * (gI σ (r0 + 5) (ix i1)))
          else none
        else
          if (gI σ (r0 + 4) (ix i1)) = (3 : Int32) then
            some (if (10 : Int32) ≤ v2 then v2 else (0 : Int32))
          else
            if (gI σ (r0 + 4) (ix i1)) = (4 : Int32) then
              if ib i1 6 = true then
                some (((2 : Int32) * (gI σ (r0 + 5) (ix i1))) + (3 : Int32))
              else none
            else
              if (gI σ (r0 + 4) (ix i1)) = (5 : Int32) then
                if ib i1 6 = true then
                  some ((gI σ (r0 + 5) (ix i1)) - (1 : Int32))
                else none
              else
                if ib i1 6 = true then
                  some (gI σ (r0 + 5) (ix i1))
                else none
    else none
  else none
def fT_worthOfAll_4 : Nat → St → Nat → Int32 → Int32 → Int32 → Option Int32
  | 0, _, _, _, _, _ => none
  | fu + 1, σ, r0, i1, i2, i3 =>
    if (gI σ r0 1) ≤ i3 then
      some i2
    else
      if (fE_holds i1 i3) = 0 then
        nm (i2 + (0 : Int32)) fun v3 =>
        nm (i3 + (1 : Int32)) fun v4 =>
        fT_worthOfAll_4 fu σ r0 i1 v3 v4
      else
        (fT_worth σ r0 i3).bind fun q5 =>
        nm (i2 + q5) fun v7 =>
        nm (i3 + (1 : Int32)) fun v8 =>
        fT_worthOfAll_4 fu σ r0 i1 v7 v8
def fT_worthOfAll (σ : St) (r0 : Nat) (i1 : Int32) : Option Int32 :=
  fT_worthOfAll_4 300 σ r0 i1 (0 : Int32) (0 : Int32)
def fT_riches (σ : St) (r0 : Nat) (i1 : Int32) : Option Int32 :=
  (fT_purse σ r0 i1).bind fun q1 =>
  (fT_worthOfAll σ r0 q1).bind fun q3 =>
  if ib i1 7 = true then
    some (q3 + (gI σ (r0 + 2) (ix i1)))
  else none
def fE_personOf (σ : St) (i1 : Int32) (i2 : Int32) : Option Int32 :=
  if isTb (gR σ 0) = true then
    if (fT_hasPerson σ (gR σ 0) i1) = 0 then
      some (-1 : Int32)
    else
      if i2 = (0 : Int32) then
        if isTb (gR σ 0) = true then
          if ib i1 7 = true then
            some (gI σ ((gR σ 0) + 1) (ix i1))
          else none
        else none
      else
        if i2 = (1 : Int32) then
          if isTb (gR σ 0) = true then
            if ib i1 7 = true then
              some (gI σ ((gR σ 0) + 2) (ix i1))
            else none
          else none
        else
          if i2 = (2 : Int32) then
            if isTb (gR σ 0) = true then
              (fT_riches σ (gR σ 0) i1).bind fun q11 =>
              some q11
            else none
          else
            if i2 = (3 : Int32) then
              if isTb (gR σ 0) = true then
                (fT_purse σ (gR σ 0) i1).bind fun q15 =>
                some q15
              else none
            else
              if i2 = (4 : Int32) then
                if isTb (gR σ 0) = true then
                  if ib i1 7 = true then
                    some (gI σ ((gR σ 0) + 3) (ix i1))
                  else none
                else none
              else
                some (-1 : Int32)
  else none
def fE_rank (σ : St) (i1 : Int32) (i2 : Int32) : Option (Int32 × St) :=
  if isTb (gR σ 0) = true then
    if (fT_hasPerson σ (gR σ 0) i1) = 0 then
      some ((-1 : Int32), σ)
    else
      if (fE_isRank i2) = 0 then
        some ((-1 : Int32), σ)
      else
        if isTb (gR σ 0) = true then
          if ib i1 7 = true then
            nm (gI σ ((gR σ 0) + 1) (ix i1)) fun v6 =>
            if isTb (gR σ 0) = true then
              if ib i1 7 = true then
                nm (sI σ ((gR σ 0) + 1) (ix i1) i2) fun σ9 =>
                some (v6, σ9)
              else none
            else none
          else none
        else none
  else none
def fT_areAcquainted (σ : St) (r0 : Nat) (i1 : Int32) (i2 : Int32) : Option Int32 :=
  if ib i1 7 = true then
    some (fE_holds (gI σ (r0 + 3) (ix i1)) i2)
  else none
def fE_know (σ : St) (i1 : Int32) (i2 : Int32) (i3 : Int32) : Option (Int32 × St) :=
  if isTb (gR σ 0) = true then
    if (fT_hasPerson σ (gR σ 0) i1) = 0 then
      some ((-1 : Int32), σ)
    else
      if isTb (gR σ 0) = true then
        if (fT_hasPerson σ (gR σ 0) i2) = 0 then
          some ((-1 : Int32), σ)
        else
          if i1 = i2 then
            some ((-1 : Int32), σ)
          else
            if isTb (gR σ 0) = true then
              (fT_areAcquainted σ (gR σ 0) i1 i2).bind fun q7 =>
              if q7 = i3 then
                some ((0 : Int32), σ)
              else
                if isTb (gR σ 0) = true then
                  (fT_acquaint σ (gR σ 0) i1 i2 i3).bind fun σ12 =>
                  some ((1 : Int32), σ12)
                else none
            else none
      else none
  else none
def fE_isKind (i0 : Int32) : Int32 :=
  (if i0 < 0 then (0 : Int32) else (if (6 : Int32) ≤ i0 then (0 : Int32) else (1 : Int32)))
def fE_isA (i0 : Int32) : Int32 :=
  (if i0 < (1 : Int32) then (0 : Int32) else (if (99 : Int32) < i0 then (0 : Int32) else (1 : Int32)))
def fE_coin (σ : St) (i1 : Int32) (i2 : Int32) (i3 : Int32) : Option (Int32 × St) :=
  if (fE_isKind i1) = 0 then
    some ((-1 : Int32), σ)
  else
    if (fE_isA i2) = 0 then
      some ((-1 : Int32), σ)
    else
      if isTb (gR σ 0) = true then
        if (fT_hasPerson σ (gR σ 0) i3) = 0 then
          some ((-1 : Int32), σ)
        else
          if isTb (gR σ 0) = true then
            if (gI σ (gR σ 0) 1) < (6 : Int32) then
              if isTb (gR σ 0) = true then
                bi (fT_addCoin σ (gR σ 0) i1 i2 i3) fun q9 σ9 =>
                some (q9, σ9)
              else none
            else
              some ((-2 : Int32), σ)
          else none
      else none
def fT_hasCoin (σ : St) (r0 : Nat) (i1 : Int32) : Int32 :=
  (if i1 < 0 then (0 : Int32) else (if (gI σ r0 1) ≤ i1 then (0 : Int32) else (1 : Int32)))
def fT_kindAllows (σ : St) (r0 : Nat) (i1 : Int32) (i2 : Int32) (i3 : Int32) : Option Int32 :=
  if ib i2 7 = true then
    nm (fE_holds (gI σ (r0 + 3) (ix i2)) i3) fun v2 =>
    if ib i1 6 = true then
      if (gI σ (r0 + 4) (ix i1)) = (2 : Int32) then
        if v2 = 0 then
          some (0 : Int32)
        else
          if ib i3 7 = true then
            if ib i2 7 = true then
              some (if (gI σ (r0 + 1) (ix i3)) < (gI σ (r0 + 1) (ix i2)) then (0 : Int32) else (1 : Int32))
            else none
          else none
      else
        if (gI σ (r0 + 4) (ix i1)) = (3 : Int32) then
          if v2 = 0 then
            some (0 : Int32)
          else
            if ib i3 7 = true then
              some (if (5 : Int32) ≤ (gI σ (r0 + 1) (ix i3)) then (0 : Int32) else (1 : Int32))
            else none
        else
          if (gI σ (r0 + 4) (ix i1)) = (4 : Int32) then
            if v2 = 0 then
              some (0 : Int32)
            else
              if ib i3 7 = true then
                if ib i2 7 = true then
                  if (gI σ (r0 + 1) (ix i2)) ≤ (gI σ (r0 + 1) (ix i3)) then
                    some (1 : Int32)
                  else
                    if ib i3 7 = true then
                      some (if (gI σ (r0 + 1) (ix i3)) = 0 then (1 : Int32) else (0 : Int32))
                    else none
                else none
              else none
          else
            if (gI σ (r0 + 4) (ix i1)) = (5 : Int32) then
              some (1 : Int32)
            else
              if b01 v2 then
                some v2
              else none
    else none
  else none
def fT_reach_5 : Nat → St → Nat → Int32 → Int32 → Int32 → Int32 → Option Int32
  | 0, _, _, _, _, _, _ => none
  | fu + 1, σ, r0, i1, i2, i3, i4 =>
    if (gI σ r0 0) ≤ i4 then
      some i3
    else
      (fT_kindAllows σ r0 i1 i2 i4).bind fun q2 =>
      nm (i3 ||| (if q2 = 0 then (0 : Int32) else (1 : Int32) <<< (i4 &&& 31))) fun v4 =>
      nm (i4 + (1 : Int32)) fun v5 =>
      fT_reach_5 fu σ r0 i1 i2 v4 v5
def fT_reach (σ : St) (r0 : Nat) (i1 : Int32) (i2 : Int32) : Option Int32 :=
  fT_reach_5 300 σ r0 i1 i2 (0 : Int32) (0 : Int32)
def fT_takers (σ : St) (r0 : Nat) (i1 : Int32) : Option Int32 :=
  if ib i1 6 = true then
    (fT_reach σ r0 i1 (gI σ (r0 + 6) (ix i1))).bind fun q2 =>
    if ib i1 6 = true then
      some (q2 &&& ((gI σ (r0 + 7) (ix i1)) ^^^ (-1 : Int32)))
    else none
  else none
def fE_coinOf (σ : St) (i1 : Int32) (i2 : Int32) : Option Int32 :=
  if isTb (gR σ 0) = true then
    if (fT_hasCoin σ (gR σ 0) i1) = 0 then
      some (-1 : Int32)
    else
      if i2 = (0 : Int32) then
        if isTb (gR σ 0) = true then
          if ib i1 6 = true then
            some (gI σ ((gR σ 0) + 4) (ix i1))
          else none
        else none
      else
        if i2 = (1 : Int32) then
          if isTb (gR σ 0) = true then
            if ib i1 6 = true then
              some (gI σ ((gR σ 0) + 5) (ix i1))
            else none
          else none
        else
          if i2 = (2 : Int32) then
            if isTb (gR σ 0) = true then
              (fT_worth σ (gR σ 0) i1).bind fun q11 =>
              some q11
            else none
          else
            if i2 = (3 : Int32) then
              if isTb (gR σ 0) = true then
                if ib i1 6 = true then
                  some (gI σ ((gR σ 0) + 6) (ix i1))
                else none
              else none
            else
              if i2 = (4 : Int32) then
                if isTb (gR σ 0) = true then
                  if ib i1 6 = true then
                    some (gI σ ((gR σ 0) + 7) (ix i1))
                  else none
                else none
              else
                if i2 = (5 : Int32) then
                  if isTb (gR σ 0) = true then
                    (fT_takers σ (gR σ 0) i1).bind fun q21 =>
                    some q21
                  else none
                else
                  some (-1 : Int32)
  else none
def fE_stamp (σ : St) (i1 : Int32) (i2 : Int32) (i3 : Int32) : Option (Int32 × St) :=
  if isTb (gR σ 0) = true then
    if (fT_hasCoin σ (gR σ 0) i1) = 0 then
      some ((-1 : Int32), σ)
    else
      if (fE_isKind i2) = 0 then
        some ((-1 : Int32), σ)
      else
        if (fE_isA i3) = 0 then
          some ((-1 : Int32), σ)
        else
          if isTb (gR σ 0) = true then
            if ib i1 6 = true then
              nm (gI σ ((gR σ 0) + 4) (ix i1)) fun v7 =>
              if isTb (gR σ 0) = true then
                if ib i1 6 = true then
                  nm (sI σ ((gR σ 0) + 4) (ix i1) i2) fun σ10 =>
                  if isTb (gR σ10 0) = true then
                    if ib i1 6 = true then
                      nm (sI σ10 ((gR σ10 0) + 5) (ix i1) i3) fun σ13 =>
                      some (v7, σ13)
                    else none
                  else none
                else none
              else none
            else none
          else none
  else none
def fJI_bitCount (i0 : Int32) : Int32 :=
  nm (i0 - ((ush i0 (1 : Int32)) &&& (1431655765 : Int32))) fun v1 =>
  nm ((v1 &&& (858993459 : Int32)) + ((ush v1 (2 : Int32)) &&& (858993459 : Int32))) fun v2 =>
  nm ((v2 + (ush v2 (4 : Int32))) &&& (252645135 : Int32)) fun v3 =>
  nm (v3 + (ush v3 (8 : Int32))) fun v4 =>
  nm (v4 + (ush v4 (16 : Int32))) fun v5 =>
  (v5 &&& (63 : Int32))
def fE_clean (σ : St) (i1 : Int32) : Option (Int32 × St) :=
  if isTb (gR σ 0) = true then
    if (fT_hasCoin σ (gR σ 0) i1) = 0 then
      some ((-1 : Int32), σ)
    else
      if isTb (gR σ 0) = true then
        if ib i1 6 = true then
          nm ((fJI_bitCount (gI σ ((gR σ 0) + 7) (ix i1))) - (1 : Int32)) fun v5 =>
          if isTb (gR σ 0) = true then
            if isTb (gR σ 0) = true then
              if ib i1 6 = true then
                if ib i1 6 = true then
                  nm (sI σ ((gR σ 0) + 7) (ix i1) ((1 : Int32) <<< ((gI σ ((gR σ 0) + 6) (ix i1)) &&& 31))) fun σ10 =>
                  some (v5, σ10)
                else none
              else none
            else none
          else none
        else none
      else none
  else none
def fE_may (σ : St) (i1 : Int32) (i2 : Int32) : Option Int32 :=
  if isTb (gR σ 0) = true then
    if (fT_hasCoin σ (gR σ 0) i1) = 0 then
      some (-1 : Int32)
    else
      if isTb (gR σ 0) = true then
        if (fT_hasPerson σ (gR σ 0) i2) = 0 then
          some (-1 : Int32)
        else
          if isTb (gR σ 0) = true then
            (fT_takers σ (gR σ 0) i1).bind fun q6 =>
            some (if (fE_holds q6 i2) = 0 then (0 : Int32) else (1 : Int32))
          else none
      else none
  else none
def fT_removeCoin_4 : Nat → St → Nat → Int32 → Option St
  | 0, _, _, _ => none
  | fu + 1, σ, r0, i2 =>
    if (gI σ r0 1) ≤ i2 then
      nm (sI σ r0 1 ((gI σ r0 1) - (1 : Int32))) fun σ3 =>
      some σ3
    else
      if ib i2 6 = true then
        if ib (i2 - (1 : Int32)) 6 = true then
          nm (sI σ (r0 + 4) (ix (i2 - (1 : Int32))) (gI σ (r0 + 4) (ix i2))) fun σ6 =>
          if ib i2 6 = true then
            if ib (i2 - (1 : Int32)) 6 = true then
              nm (sI σ6 (r0 + 5) (ix (i2 - (1 : Int32))) (gI σ6 (r0 + 5) (ix i2))) fun σ9 =>
              if ib i2 6 = true then
                if ib (i2 - (1 : Int32)) 6 = true then
                  nm (sI σ9 (r0 + 6) (ix (i2 - (1 : Int32))) (gI σ9 (r0 + 6) (ix i2))) fun σ12 =>
                  if ib i2 6 = true then
                    if ib (i2 - (1 : Int32)) 6 = true then
                      nm (sI σ12 (r0 + 7) (ix (i2 - (1 : Int32))) (gI σ12 (r0 + 7) (ix i2))) fun σ15 =>
                      nm (i2 + (1 : Int32)) fun v16 =>
                      fT_removeCoin_4 fu σ15 r0 v16
                    else none
                  else none
                else none
              else none
            else none
          else none
        else none
      else none
def fT_removeCoin (σ : St) (r0 : Nat) (i1 : Int32) : Option St :=
  nm (i1 + (1 : Int32)) fun v1 =>
  fT_removeCoin_4 300 σ r0 v1
def fT_hand (σ : St) (r0 : Nat) (i1 : Int32) (i2 : Int32) : Option (Int32 × St) :=
  if ib i1 6 = true then
    nm (sI σ (r0 + 6) (ix i1) i2) fun σ2 =>
    if ib i1 6 = true then
      if ib i1 6 = true then
        nm (sI σ2 (r0 + 7) (ix i1) ((gI σ2 (r0 + 7) (ix i1)) ||| ((1 : Int32) <<< (i2 &&& 31)))) fun σ5 =>
        if ib i1 6 = true then
          if (gI σ5 (r0 + 7) (ix i1)) = (((1 : Int32) <<< ((gI σ5 r0 0) &&& 31)) - (1 : Int32)) then
            if ib i2 7 = true then
              (fT_worth σ5 r0 i1).bind fun q9 =>
              if ib i2 7 = true then
                nm (sI σ5 (r0 + 2) (ix i2) ((gI σ5 (r0 + 2) (ix i2)) + q9)) fun σ12 =>
                (fT_removeCoin σ12 r0 i1).bind fun σ14 =>
                some ((1 : Int32), σ14)
              else none
            else none
          else
            some ((0 : Int32), σ5)
        else none
      else none
    else none
  else none
def fE_give (σ : St) (i1 : Int32) (i2 : Int32) : Option (Int32 × St) :=
  if isTb (gR σ 0) = true then
    if (fT_hasCoin σ (gR σ 0) i1) = 0 then
      some ((-1 : Int32), σ)
    else
      if isTb (gR σ 0) = true then
        if (fT_hasPerson σ (gR σ 0) i2) = 0 then
          some ((-1 : Int32), σ)
        else
          if isTb (gR σ 0) = true then
            (fT_takers σ (gR σ 0) i1).bind fun q6 =>
            if (fE_holds q6 i2) = 0 then
              some ((-4 : Int32), σ)
            else
              if isTb (gR σ 0) = true then
                bi (fT_hand σ (gR σ 0) i1 i2) fun q11 σ11 =>
                some ((if q11 = 0 then (1 : Int32) else (2 : Int32)), σ11)
              else none
          else none
      else none
  else none
def fT_draw_40 : Nat → St → Nat → Int32 → Int32 → Int32 → Option (Int32 × St)
  | 0, _, _, _, _, _ => none
  | fu + 1, σ, r0, i1, i3, i4 =>
    if (gI σ r0 0) ≤ i4 then
      some ((-3 : Int32), σ)
    else
      if (fE_holds i1 i4) = 0 then
        nm (i4 + (1 : Int32)) fun v8 =>
        fT_draw_40 fu σ r0 i1 i3 v8
      else
        if i3 = 0 then
          some (i4, σ)
        else
          nm (i3 + (-1 : Int32)) fun v10 =>
          nm (i4 + (1 : Int32)) fun v11 =>
          fT_draw_40 fu σ r0 i1 v10 v11
def fT_draw (σ : St) (r0 : Nat) (i1 : Int32) : Option (Int32 × St) :=
  nm (fJI_bitCount i1) fun v1 =>
  if v1 = 0 then
    some ((-3 : Int32), σ)
  else
    nm (sI σ r0 2 (((gI σ r0 2) * (1103515245 : Int32)) + (12345 : Int32))) fun σ3 =>
    if ¬ (v1 = 0) then
      nm ((ush (gI σ3 r0 2) (16 : Int32)) - (ush (gI σ3 r0 2) (16 : Int32)) / v1 * v1) fun v5 =>
      fT_draw_40 300 σ3 r0 i1 v5 (0 : Int32)
    else none
def fE_lot (σ : St) (i1 : Int32) : Option (Int32 × St) :=
  if isTb (gR σ 0) = true then
    if (fT_hasCoin σ (gR σ 0) i1) = 0 then
      some ((-1 : Int32), σ)
    else
      if isTb (gR σ 0) = true then
        (fT_takers σ (gR σ 0) i1).bind fun q4 =>
        if q4 = 0 then
          some ((-3 : Int32), σ)
        else
          if isTb (gR σ 0) = true then
            bi (fT_draw σ (gR σ 0) q4) fun q9 σ9 =>
            if isTb (gR σ9 0) = true then
              bi (fT_hand σ9 (gR σ9 0) i1 q9) fun q12 σ12 =>
              some ((if q12 = 0 then q9 else q9 + (10 : Int32)), σ12)
            else none
          else none
      else none
  else none
def fE_leastCoinToGive_2 : Nat → St → Int32 → Option Int32
  | 0, _, _ => none
  | fu + 1, σ, i1 =>
    if isTb (gR σ 0) = true then
      if (gI σ (gR σ 0) 1) ≤ i1 then
        some (-3 : Int32)
      else
        if isTb (gR σ 0) = true then
          (fT_takers σ (gR σ 0) i1).bind fun q4 =>
          if q4 = 0 then
            nm (i1 + (1 : Int32)) fun v7 =>
            fE_leastCoinToGive_2 fu σ v7
          else
            some i1
        else none
    else none
def fE_leastCoinToGive (σ : St) : Option Int32 :=
  fE_leastCoinToGive_2 300 σ (0 : Int32)
def fE_lots_14 : Nat → St → Int32 → Int32 → Option (Int32 × St)
  | 0, _, _, _ => none
  | fu + 1, σ, i1, i2 =>
    if i1 ≤ i2 then
      some (i1, σ)
    else
      (fE_leastCoinToGive σ).bind fun q4 =>
      if 0 ≤ q4 then
        if isTb (gR σ 0) = true then
          (fT_takers σ (gR σ 0) q4).bind fun q8 =>
          if isTb (gR σ 0) = true then
            bi (fT_draw σ (gR σ 0) q8) fun q12 σ12 =>
            if isTb (gR σ 0) = true then
              bi (fT_hand σ12 (gR σ 0) q4 q12) fun q15 σ15 =>
              nm (i2 + (1 : Int32)) fun v16 =>
              fE_lots_14 fu σ15 i1 v16
            else none
          else none
        else none
      else
        some (i2, σ)
def fE_lots (σ : St) (i1 : Int32) : Option (Int32 × St) :=
  if i1 < 0 then
    some ((-1 : Int32), σ)
  else
    if i1 ≤ (20 : Int32) then
      fE_lots_14 300 σ i1 (0 : Int32)
    else
      some ((-1 : Int32), σ)
def fE_melt (σ : St) (i1 : Int32) : Option (Int32 × St) :=
  if isTb (gR σ 0) = true then
    if (fT_hasCoin σ (gR σ 0) i1) = 0 then
      some ((-1 : Int32), σ)
    else
      if isTb (gR σ 0) = true then
        if ib i1 6 = true then
          nm (gI σ ((gR σ 0) + 6) (ix i1)) fun v5 =>
          if isTb (gR σ 0) = true then
            if ib v5 7 = true then
              if isTb (gR σ 0) = true then
                (fT_worth σ (gR σ 0) i1).bind fun q9 =>
                if ib v5 7 = true then
                  nm (sI σ ((gR σ 0) + 2) (ix v5) ((gI σ ((gR σ 0) + 2) (ix v5)) + (q9 / (2 : Int32)))) fun σ12 =>
                  if isTb (gR σ12 0) = true then
                    (fT_removeCoin σ12 (gR σ12 0) i1).bind fun σ15 =>
                    if isTb (gR σ15 0) = true then
                      if ib v5 7 = true then
                        some (gI σ15 ((gR σ15 0) + 2) (ix v5), σ15)
                      else none
                    else none
                  else none
                else none
              else none
            else none
          else none
        else none
      else none
  else none
def fW_takers (σ : St) (i1 : Int32) (i2 : Int32) : Option Int32 :=
  if ib i2 7 = true then
    some ((gI σ 28 (ix i2)) &&& (i1 ^^^ (-1 : Int32)))
  else none
def fW_at (σ : St) (i1 : Int32) (i2 : Int32) : Option Int32 :=
  if ib (((8 : Int32) * i1) + i2) 1024 = true then
    some (gI σ 29 (ix (((8 : Int32) * i1) + i2)))
  else none
def fW_value_47 : Nat → St → Int32 → Int32 → Int32 → Int32 → Int32 → Option Int32
  | 0, _, _, _, _, _, _ => none
  | fu + 1, σ, i1, i3, i4, i5, i6 =>
    if (gI σ 27 2) ≤ i6 then
      some i5
    else
      if (fE_holds i4 i6) = 0 then
        nm (i6 + (1 : Int32)) fun v6 =>
        fW_value_47 fu σ i1 i3 i4 i5 v6
      else
        (fW_at σ (i1 ||| ((1 : Int32) <<< (i6 &&& 31))) i6).bind fun q7 =>
        if i3 = 0 then
          nm (mmax i5 (q7 + (1 : Int32))) fun v13 =>
          nm (i6 + (1 : Int32)) fun v14 =>
          fW_value_47 fu σ i1 i3 i4 v13 v14
        else
          nm (if i3 = (1 : Int32) then i5 + q7 else i5 ||| q7) fun v10 =>
          nm (i6 + (1 : Int32)) fun v11 =>
          fW_value_47 fu σ i1 i3 i4 v10 v11
def fW_value (σ : St) (i1 : Int32) (i2 : Int32) (i3 : Int32) : Option Int32 :=
  if i1 = (((1 : Int32) <<< ((gI σ 27 2) &&& 31)) - (1 : Int32)) then
    some (if i3 = 0 then (0 : Int32) else (if i3 = (1 : Int32) then (1 : Int32) else (1 : Int32) <<< (i2 &&& 31)))
  else
    (fW_takers σ i1 i2).bind fun q2 =>
    fW_value_47 300 σ i1 i3 q2 (0 : Int32) (0 : Int32)
def fW_fill_2 : Nat → St → Int32 → Int32 → Int32 → Option St
  | 0, _, _, _, _ => none
  | fu + 1, σ, i1, i2, i3 =>
    if (gI σ 27 2) ≤ i3 then
      some σ
    else
      if (fE_holds i1 i3) = 0 then
        nm (i3 + (1 : Int32)) fun v3 =>
        fW_fill_2 fu σ i1 i2 v3
      else
        (fW_value σ i1 i3 i2).bind fun q4 =>
        if ib (((8 : Int32) * i1) + i3) 1024 = true then
          nm (sI σ 29 (ix (((8 : Int32) * i1) + i3)) q4) fun σ7 =>
          nm (i3 + (1 : Int32)) fun v8 =>
          fW_fill_2 fu σ7 i1 i2 v8
        else none
def fW_fill (σ : St) (i1 : Int32) (i2 : Int32) : Option St :=
  fW_fill_2 300 σ i1 i2 (0 : Int32)
def fW_survey_58 : Nat → St → Int32 → Int32 → Int32 → Option St
  | 0, _, _, _, _ => none
  | fu + 1, σ, i3, i4, i5 =>
    if i5 < i4 then
      some σ
    else
      if (i5 &&& i4) = i4 then
        (fW_fill σ i5 i3).bind fun σ10 =>
        nm (i5 + (-1 : Int32)) fun v11 =>
        fW_survey_58 fu σ10 i3 i4 v11
      else
        nm (i5 + (-1 : Int32)) fun v8 =>
        fW_survey_58 fu σ i3 i4 v8
def fW_survey_40 (σ : St) (r1 : Nat) (i2 : Int32) (i3 : Int32) : Option St :=
  if ib i2 6 = true then
    nm (gI σ (r1 + 7) (ix i2)) fun v4 =>
    nm (((1 : Int32) <<< ((gI σ 27 2) &&& 31)) - (1 : Int32)) fun v5 =>
    fW_survey_58 300 σ i3 v4 v5
  else none
def fW_survey_11 : Nat → St → Nat → Int32 → Int32 → Int32 → Option St
  | 0, _, _, _, _, _ => none
  | fu + 1, σ, r1, i2, i3, i4 =>
    if (gI σ 27 2) ≤ i4 then
      fW_survey_40 σ r1 i2 i3
    else
      (fT_reach σ r1 i2 i4).bind fun q12 =>
      if ib i4 7 = true then
        nm (sI σ 28 (ix i4) q12) fun σ15 =>
        nm (i4 + (1 : Int32)) fun v16 =>
        fW_survey_11 fu σ15 r1 i2 i3 v16
      else none
def fW_survey (σ : St) (r1 : Nat) (i2 : Int32) (i3 : Int32) : Option St :=
  nm (sI σ 27 2 (gI σ r1 0)) fun σ1 =>
  fW_survey_11 300 σ1 r1 i2 i3 (0 : Int32)
def fE_look (σ : St) (i1 : Int32) (i2 : Int32) : Option (Int32 × St) :=
  if isTb (gR σ 0) = true then
    (fW_survey σ (gR σ 0) i1 i2).bind fun σ3 =>
    if isTb (gR σ3 0) = true then
      if ib i1 6 = true then
        if isTb (gR σ3 0) = true then
          if ib i1 6 = true then
            (fW_at σ3 (gI σ3 ((gR σ3 0) + 7) (ix i1)) (gI σ3 ((gR σ3 0) + 6) (ix i1))).bind fun q8 =>
            some (q8, σ3)
          else none
        else none
      else none
    else none
  else none
def fE_left (σ : St) (i1 : Int32) : Option (Int32 × St) :=
  if isTb (gR σ 0) = true then
    if (fT_hasCoin σ (gR σ 0) i1) = 0 then
      some ((-1 : Int32), σ)
    else
      bi (fE_look σ i1 (0 : Int32)) fun q4 σ4 =>
      some (q4, σ4)
  else none
def fW_firstTaker_20 : Nat → St → Int32 → Int32 → Int32 → Int32 → Option Int32
  | 0, _, _, _, _, _ => none
  | fu + 1, σ, i1, i3, i4, i5 =>
    if (gI σ 27 2) ≤ i5 then
      some (-3 : Int32)
    else
      if (fE_holds i3 i5) = 0 then
        nm (i5 + (1 : Int32)) fun v8 =>
        fW_firstTaker_20 fu σ i1 i3 i4 v8
      else
        (fW_at σ (i1 ||| ((1 : Int32) <<< (i5 &&& 31))) i5).bind fun q9 =>
        if q9 = i4 then
          some i5
        else
          nm (i5 + (1 : Int32)) fun v12 =>
          fW_firstTaker_20 fu σ i1 i3 i4 v12
def fW_firstTaker (σ : St) (i1 : Int32) (i2 : Int32) : Option Int32 :=
  (fW_takers σ i1 i2).bind fun q1 =>
  (fW_at σ i1 i2).bind fun q3 =>
  nm (q3 - (1 : Int32)) fun v5 =>
  fW_firstTaker_20 300 σ i1 q1 v5 (0 : Int32)
def fE_row_54 : Nat → St → Int32 → Int32 → Int32 → Int32 → Option (Int32 × St)
  | 0, _, _, _, _, _ => none
  | fu + 1, σ, i2, i3, i4, i5 =>
    if i2 < i5 then
      some (i4, σ)
    else
      (fW_firstTaker σ i3 i4).bind fun q14 =>
      if 0 ≤ q14 then
        nm (i3 ||| ((1 : Int32) <<< (q14 &&& 31))) fun v17 =>
        nm (i5 + (1 : Int32)) fun v18 =>
        fE_row_54 fu σ i2 v17 q14 v18
      else
        some ((-3 : Int32), σ)
def fE_row (σ : St) (i1 : Int32) (i2 : Int32) : Option (Int32 × St) :=
  if isTb (gR σ 0) = true then
    if (fT_hasCoin σ (gR σ 0) i1) = 0 then
      some ((-1 : Int32), σ)
    else
      if 0 ≤ i2 then
        bi (fE_look σ i1 (0 : Int32)) fun q5 σ5 =>
        if i2 < q5 then
          if isTb (gR σ5 0) = true then
            if ib i1 6 = true then
              nm (gI σ5 ((gR σ5 0) + 7) (ix i1)) fun v9 =>
              if isTb (gR σ5 0) = true then
                if ib i1 6 = true then
                  nm (gI σ5 ((gR σ5 0) + 6) (ix i1)) fun v12 =>
                  fE_row_54 300 σ5 i2 v9 v12 (0 : Int32)
                else none
              else none
            else none
          else none
        else
          some ((-3 : Int32), σ5)
      else
        some ((-1 : Int32), σ)
  else none
def fE_through (σ : St) (i1 : Int32) : Option (Int32 × St) :=
  if isTb (gR σ 0) = true then
    if (fT_hasCoin σ (gR σ 0) i1) = 0 then
      some ((-1 : Int32), σ)
    else
      bi (fE_look σ i1 (1 : Int32)) fun q4 σ4 =>
      some ((if q4 ≤ 0 then (0 : Int32) else (1 : Int32)), σ4)
  else none
def fE_ways (σ : St) (i1 : Int32) : Option (Int32 × St) :=
  if isTb (gR σ 0) = true then
    if (fT_hasCoin σ (gR σ 0) i1) = 0 then
      some ((-1 : Int32), σ)
    else
      bi (fE_look σ i1 (1 : Int32)) fun q4 σ4 =>
      some (q4, σ4)
  else none
def fE_last (σ : St) (i1 : Int32) : Option (Int32 × St) :=
  if isTb (gR σ 0) = true then
    if (fT_hasCoin σ (gR σ 0) i1) = 0 then
      some ((-1 : Int32), σ)
    else
      bi (fE_look σ i1 (2 : Int32)) fun q4 σ4 =>
      some (q4, σ4)
  else none
def fE_stuck_4 : Nat → St → Int32 → Int32 → Option Int32
  | 0, _, _, _ => none
  | fu + 1, σ, i1, i2 =>
    if isTb (gR σ 0) = true then
      if (gI σ (gR σ 0) 1) ≤ i2 then
        some i1
      else
        if isTb (gR σ 0) = true then
          (fT_takers σ (gR σ 0) i2).bind fun q4 =>
          if q4 = 0 then
            nm (i1 ||| ((1 : Int32) <<< (i2 &&& 31))) fun v8 =>
            nm (i2 + (1 : Int32)) fun v9 =>
            fE_stuck_4 fu σ v8 v9
          else
            nm (i2 + (1 : Int32)) fun v7 =>
            fE_stuck_4 fu σ i1 v7
        else none
    else none
def fE_stuck (σ : St) : Option Int32 :=
  fE_stuck_4 300 σ (0 : Int32) (0 : Int32)
def fE_best_123 (σ : St) (i2 : Int32) (i3 : Int32) (i4 : Int32) (i5 : Int32) : Option (Int32 × St) :=
  some ((if i2 = 0 then i3 else (if i2 = (1 : Int32) then i4 else i5)), σ)
def fE_best_36 : Nat → St → Int32 → Int32 → Int32 → Int32 → Int32 → Int32 → Option (Int32 × St)
  | 0, _, _, _, _, _, _, _ => none
  | fu + 1, σ, i1, i2, i3, i4, i5, i6 =>
    if isTb (gR σ 0) = true then
      if (gI σ (gR σ 0) 1) ≤ i6 then
        fE_best_123 σ i2 i3 i4 i5
      else
        if isTb (gR σ 0) = true then
          if ib i6 6 = true then
            nm (fun (σ11 : St) (ji1 : Int32) (ji2 : Int32) (ji3 : Int32) (ji4 : Int32) (ji5 : Int32) (ji6 : Int32) (jis0 : Int32) =>
              if jis0 < 0 then
                nm (ji6 + (1 : Int32)) fun v13 =>
                fE_best_36 fu σ11 ji1 ji2 ji3 ji4 ji5 v13
              else
                if jis0 ≤ ji5 then
                  nm (ji6 + (1 : Int32)) fun v15 =>
                  fE_best_36 fu σ11 ji1 ji2 ji3 ji4 ji5 v15
                else
                  if isTb (gR σ11 0) = true then
                    if ib ji6 6 = true then
                      (fW_firstTaker σ11 (gI σ11 ((gR σ11 0) + 7) (ix ji6)) ji1).bind fun q18 =>
                      nm (ji6 + (1 : Int32)) fun v20 =>
                      fE_best_36 fu σ11 ji1 ji2 ji6 q18 jis0 v20
                    else none
                  else none) fun J76 =>
            if (gI σ ((gR σ 0) + 6) (ix i6)) = i1 then
              bi (fE_look σ i6 (0 : Int32)) fun q23 σ23 =>
              J76 σ23 i1 i2 i3 i4 i5 i6 (q23 - (1 : Int32))
            else
              J76 σ i1 i2 i3 i4 i5 i6 (-3 : Int32)
          else none
        else none
    else none
def fE_best (σ : St) (i1 : Int32) (i2 : Int32) : Option (Int32 × St) :=
  if isTb (gR σ 0) = true then
    if (fT_hasPerson σ (gR σ 0) i1) = 0 then
      some ((-1 : Int32), σ)
    else
      if i2 < 0 then
        some ((-1 : Int32), σ)
      else
        if i2 ≤ (2 : Int32) then
          fE_best_36 300 σ i1 i2 (-3 : Int32) (-3 : Int32) (-3 : Int32) (0 : Int32)
        else
          some ((-1 : Int32), σ)
  else none
def fT_purseFor_5 : Nat → St → Nat → Int32 → Int32 → Int32 → Int32 → Option Int32
  | 0, _, _, _, _, _, _ => none
  | fu + 1, σ, r0, i1, i2, i3, i4 =>
    if (gI σ r0 1) ≤ i4 then
      some i3
    else
      if ib i4 6 = true then
        if (gI σ (r0 + 6) (ix i4)) = i1 then
          (fT_takers σ r0 i4).bind fun q6 =>
          nm (i3 ||| (if (fE_holds q6 i2) = 0 then (0 : Int32) else (1 : Int32) <<< (i4 &&& 31))) fun v8 =>
          nm (i4 + (1 : Int32)) fun v9 =>
          fT_purseFor_5 fu σ r0 i1 i2 v8 v9
        else
          nm (i3 ||| (0 : Int32)) fun v4 =>
          nm (i4 + (1 : Int32)) fun v5 =>
          fT_purseFor_5 fu σ r0 i1 i2 v4 v5
      else none
def fT_purseFor (σ : St) (r0 : Nat) (i1 : Int32) (i2 : Int32) : Option Int32 :=
  fT_purseFor_5 300 σ r0 i1 i2 (0 : Int32) (0 : Int32)
def fE_paid_62 : Nat → St → Int32 → Int32 → Int32 → Int32 → Int32 → Option Int32
  | 0, _, _, _, _, _, _ => none
  | fu + 1, σ, i3, i4, i5, i6, i7 =>
    if isTb (gR σ 0) = true then
      if ((1 : Int32) <<< ((gI σ (gR σ 0) 1) &&& 31)) ≤ i7 then
        some i5
      else
        if (i7 &&& (i4 ^^^ (-1 : Int32))) = 0 then
          if i6 ≤ (fJI_bitCount i7) then
            nm (i7 + (1 : Int32)) fun v16 =>
            fE_paid_62 fu σ i3 i4 i5 i6 v16
          else
            if isTb (gR σ 0) = true then
              (fT_worthOfAll σ (gR σ 0) i7).bind fun q18 =>
              if q18 = i3 then
                nm (fJI_bitCount i7) fun v22 =>
                nm (i7 + (1 : Int32)) fun v23 =>
                fE_paid_62 fu σ i3 i4 i7 v22 v23
              else
                nm (i7 + (1 : Int32)) fun v21 =>
                fE_paid_62 fu σ i3 i4 i5 i6 v21
            else none
        else
          nm (i7 + (1 : Int32)) fun v14 =>
          fE_paid_62 fu σ i3 i4 i5 i6 v14
    else none
def fE_paid (σ : St) (i1 : Int32) (i2 : Int32) (i3 : Int32) : Option Int32 :=
  if isTb (gR σ 0) = true then
    if (fT_hasPerson σ (gR σ 0) i1) = 0 then
      some (-1 : Int32)
    else
      if isTb (gR σ 0) = true then
        if (fT_hasPerson σ (gR σ 0) i2) = 0 then
          some (-1 : Int32)
        else
          if i1 = i2 then
            some (-1 : Int32)
          else
            if i3 < 0 then
              some (-1 : Int32)
            else
              if i3 ≤ (999 : Int32) then
                if isTb (gR σ 0) = true then
                  (fT_purseFor σ (gR σ 0) i1 i2).bind fun q9 =>
                  fE_paid_62 300 σ i3 q9 (-3 : Int32) (7 : Int32) (0 : Int32)
                else none
              else
                some (-1 : Int32)
      else none
  else none
def fE_leftIfAcquainted (σ : St) (i1 : Int32) (i2 : Int32) (i3 : Int32) : Option (Int32 × St) :=
  if isTb (gR σ 0) = true then
    (fT_areAcquainted σ (gR σ 0) i2 i3).bind fun q2 =>
    if q2 = 0 then
      if isTb (gR σ 0) = true then
        (fT_acquaint σ (gR σ 0) i2 i3 (1 : Int32)).bind fun σ7 =>
        bi (fE_look σ7 i1 (0 : Int32)) fun q9 σ9 =>
        if isTb (gR σ9 0) = true then
          (fT_acquaint σ9 (gR σ9 0) i2 i3 (0 : Int32)).bind fun σ12 =>
          some (q9, σ12)
        else none
      else none
    else
      some ((0 : Int32), σ)
  else none
def fE_friend_44 : Nat → St → Int32 → Int32 → Int32 → Int32 → Int32 → (St → Int32 → Int32 → Int32 → Int32 → Option (Int32 × St)) → Option (Int32 × St)
  | 0, _, _, _, _, _, _, _ => none
  | fu + 1, σ, i1, i2, i3, i4, i5, K0 =>
    if isTb (gR σ 0) = true then
      if (gI σ (gR σ 0) 0) ≤ i5 then
        K0 σ i1 i2 i3 i4
      else
        bi (fE_leftIfAcquainted σ i1 i4 i5) fun q11 σ11 =>
        if q11 ≤ i3 then
          nm (i5 + (1 : Int32)) fun v13 =>
          fE_friend_44 fu σ11 i1 i2 i3 i4 v13 K0
        else
          nm (((10 : Int32) * i4) + i5) fun v14 =>
          nm (i5 + (1 : Int32)) fun v15 =>
          fE_friend_44 fu σ11 i1 v14 q11 i4 v15 K0
    else none
def fE_friend_26 : Nat → St → Int32 → Int32 → Int32 → Int32 → Option (Int32 × St)
  | 0, _, _, _, _, _ => none
  | fu + 1, σ, i1, i2, i3, i4 =>
    if isTb (gR σ 0) = true then
      if (gI σ (gR σ 0) 0) ≤ i4 then
        some (i2, σ)
      else
        nm (i4 + (1 : Int32)) fun v7 =>
        fE_friend_44 300 σ i1 i2 i3 i4 v7
          (fun σ16 y17 y18 y19 y20 =>
            nm (y20 + (1 : Int32)) fun v21 =>
            fE_friend_26 fu σ16 y17 y18 y19 v21)
    else none
def fE_friend (σ : St) (i1 : Int32) : Option (Int32 × St) :=
  if isTb (gR σ 0) = true then
    if (fT_hasCoin σ (gR σ 0) i1) = 0 then
      some ((-1 : Int32), σ)
    else
      bi (fE_look σ i1 (0 : Int32)) fun q4 σ4 =>
      fE_friend_26 300 σ4 i1 (-3 : Int32) q4 (0 : Int32)
  else none
def fE_heir_95 (σ : St) (i2 : Int32) (i3 : Int32) (i4 : Int32) : Option Int32 :=
  some (if i2 = 0 then i3 else i4)
def fE_heir_32 : Nat → St → Int32 → Int32 → Int32 → Int32 → Int32 → Option Int32
  | 0, _, _, _, _, _, _ => none
  | fu + 1, σ, i1, i2, i3, i4, i5 =>
    if isTb (gR σ 0) = true then
      if (gI σ (gR σ 0) 0) ≤ i5 then
        fE_heir_95 σ i2 i3 i4
      else
        if isTb (gR σ 0) = true then
          (fT_purseFor σ (gR σ 0) i1 i5).bind fun q9 =>
          if q9 = 0 then
            nm (i5 + (1 : Int32)) fun v12 =>
            fE_heir_32 fu σ i1 i2 i3 i4 v12
          else
            if isTb (gR σ 0) = true then
              (fT_worthOfAll σ (gR σ 0) q9).bind fun q14 =>
              if q14 ≤ i4 then
                nm (i5 + (1 : Int32)) fun v17 =>
                fE_heir_32 fu σ i1 i2 i3 i4 v17
              else
                if isTb (gR σ 0) = true then
                  (fT_worthOfAll σ (gR σ 0) q9).bind fun q19 =>
                  nm (i5 + (1 : Int32)) fun v21 =>
                  fE_heir_32 fu σ i1 i2 i5 q19 v21
                else none
            else none
        else none
    else none
def fE_heir (σ : St) (i1 : Int32) (i2 : Int32) : Option Int32 :=
  if isTb (gR σ 0) = true then
    if (fT_hasPerson σ (gR σ 0) i1) = 0 then
      some (-1 : Int32)
    else
      if i2 < 0 then
        some (-1 : Int32)
      else
        if i2 ≤ (1 : Int32) then
          fE_heir_32 300 σ i1 i2 (-3 : Int32) (-3 : Int32) (0 : Int32)
        else
          some (-1 : Int32)
  else none
def fE_least_8 : Nat → St → Int32 → Int32 → Int32 → Option (Int32 × St)
  | 0, _, _, _, _ => none
  | fu + 1, σ, i1, i2, i3 =>
    if isTb (gR σ 0) = true then
      if (gI σ (gR σ 0) 1) ≤ i3 then
        some (i1, σ)
      else
        bi (fE_look σ i3 (0 : Int32)) fun q4 σ4 =>
        if i2 ≤ q4 then
          nm (i3 + (1 : Int32)) fun v6 =>
          fE_least_8 fu σ4 i1 i2 v6
        else
          nm (i3 + (1 : Int32)) fun v7 =>
          fE_least_8 fu σ4 i3 q4 v7
    else none
def fE_least (σ : St) : Option (Int32 × St) :=
  fE_least_8 300 σ (-3 : Int32) (7 : Int32) (0 : Int32)
def fT_allSilver_4 : Nat → St → Nat → Int32 → Int32 → Option Int32
  | 0, _, _, _, _ => none
  | fu + 1, σ, r0, i1, i2 =>
    if (gI σ r0 0) ≤ i2 then
      some i1
    else
      if ib i2 7 = true then
        nm (i1 + (gI σ (r0 + 2) (ix i2))) fun v3 =>
        nm (i2 + (1 : Int32)) fun v4 =>
        fT_allSilver_4 fu σ r0 v3 v4
      else none
def fT_allSilver (σ : St) (r0 : Nat) : Option Int32 :=
  fT_allSilver_4 300 σ r0 (0 : Int32) (0 : Int32)
def fT_acquaintances_4 : Nat → St → Nat → Int32 → Int32 → Option Int32
  | 0, _, _, _, _ => none
  | fu + 1, σ, r0, i1, i2 =>
    if (gI σ r0 0) ≤ i2 then
      some (i1 / (2 : Int32))
    else
      if ib i2 7 = true then
        nm (i1 + (fJI_bitCount (gI σ (r0 + 3) (ix i2)))) fun v3 =>
        nm (i2 + (1 : Int32)) fun v4 =>
        fT_acquaintances_4 fu σ r0 v3 v4
      else none
def fT_acquaintances (σ : St) (r0 : Nat) : Option Int32 :=
  fT_acquaintances_4 300 σ r0 (0 : Int32) (0 : Int32)
def fE_leftOfAll_4 : Nat → St → Int32 → Int32 → Option (Int32 × St)
  | 0, _, _, _ => none
  | fu + 1, σ, i1, i2 =>
    if isTb (gR σ 0) = true then
      if (gI σ (gR σ 0) 1) ≤ i2 then
        some (i1, σ)
      else
        bi (fE_look σ i2 (0 : Int32)) fun q4 σ4 =>
        nm (i1 + q4) fun v5 =>
        nm (i2 + (1 : Int32)) fun v6 =>
        fE_leftOfAll_4 fu σ4 v5 v6
    else none
def fE_leftOfAll (σ : St) : Option (Int32 × St) :=
  fE_leftOfAll_4 300 σ (0 : Int32) (0 : Int32)
def fE_all (σ : St) (i1 : Int32) : Option (Int32 × St) :=
  if i1 = (0 : Int32) then
    if isTb (gR σ 0) = true then
      if isTb (gR σ 0) = true then
        (fT_worthOfAll σ (gR σ 0) (((1 : Int32) <<< ((gI σ (gR σ 0) 1) &&& 31)) - (1 : Int32))).bind fun q4 =>
        some (q4, σ)
      else none
    else none
  else
    if i1 = (1 : Int32) then
      if isTb (gR σ 0) = true then
        (fT_allSilver σ (gR σ 0)).bind fun q8 =>
        some (q8, σ)
      else none
    else
      if i1 = (2 : Int32) then
        if isTb (gR σ 0) = true then
          (fT_acquaintances σ (gR σ 0)).bind fun q12 =>
          some (q12, σ)
        else none
      else
        if i1 = (3 : Int32) then
          bi (fE_leftOfAll σ) fun q16 σ16 =>
          some (q16, σ16)
        else
          some ((-1 : Int32), σ)
def fE_seed (σ : St) (i1 : Int32) : Option (Int32 × St) :=
  if isTb (gR σ 0) = true then
    nm (gI σ (gR σ 0) 2) fun v2 =>
    if isTb (gR σ 0) = true then
      nm (sI σ (gR σ 0) 2 i1) fun σ4 =>
      some (v2, σ4)
    else none
  else none
def fE_prove_48 : Nat → St → Int32 → Int32 → Int32 → Option (Int32 × St)
  | 0, _, _, _, _ => none
  | fu + 1, σ, i2, i3, i4 =>
    if (7 : Int32) ≤ i4 then
      some (gI σ 0 7, σ)
    else
      (fW_firstTaker σ i2 i3).bind fun q13 =>
      if 0 ≤ q13 then
        nm (i2 ||| ((1 : Int32) <<< (q13 &&& 31))) fun v16 =>
        if ib ((3 : Int32) * i4) 21 = true then
          nm (sI σ 30 (ix ((3 : Int32) * i4)) i3) fun σ18 =>
          if ib (((3 : Int32) * i4) + (1 : Int32)) 21 = true then
            nm (sI σ18 30 (ix (((3 : Int32) * i4) + (1 : Int32))) q13) fun σ20 =>
            (fW_at σ20 v16 q13).bind fun q21 =>
            if ib (((3 : Int32) * i4) + (2 : Int32)) 21 = true then
              nm (sI σ20 30 (ix (((3 : Int32) * i4) + (2 : Int32))) q21) fun σ24 =>
              nm (sI σ24 0 7 ((gI σ24 0 7) + (1 : Int32))) fun σ25 =>
              nm (i4 + (1 : Int32)) fun v26 =>
              fE_prove_48 fu σ25 v16 q13 v26
            else none
          else none
        else none
      else
        some (gI σ 0 7, σ)
def fE_prove (σ : St) (i1 : Int32) : Option (Int32 × St) :=
  if isTb (gR σ 0) = true then
    if (fT_hasCoin σ (gR σ 0) i1) = 0 then
      some ((-1 : Int32), σ)
    else
      bi (fE_look σ i1 (0 : Int32)) fun q4 σ4 =>
      if isTb (gR σ4 0) = true then
        if ib i1 6 = true then
          nm (gI σ4 ((gR σ4 0) + 7) (ix i1)) fun v7 =>
          if isTb (gR σ4 0) = true then
            if ib i1 6 = true then
              nm (gI σ4 ((gR σ4 0) + 6) (ix i1)) fun v10 =>
              nm (sI σ4 0 7 (0 : Int32)) fun σ11 =>
              fE_prove_48 300 σ11 v7 v10 (0 : Int32)
            else none
          else none
        else none
      else none
  else none
def fE_isRowPart (σ : St) (i1 : Int32) (i2 : Int32) : Int32 :=
  (if i1 < 0 then (0 : Int32) else (if (gI σ 0 7) ≤ i1 then (0 : Int32) else (if i2 < 0 then (0 : Int32) else (if (3 : Int32) ≤ i2 then (0 : Int32) else (1 : Int32)))))
def fE_rowOf (σ : St) (i1 : Int32) (i2 : Int32) : Option Int32 :=
  if (fE_isRowPart σ i1 i2) = 0 then
    some (-9 : Int32)
  else
    if ib (((3 : Int32) * i1) + i2) 21 = true then
      some (gI σ 30 (ix (((3 : Int32) * i1) + i2)))
    else none
def fE_alterRow (σ : St) (i1 : Int32) (i2 : Int32) (i3 : Int32) : Option (Int32 × St) :=
  if (fE_isRowPart σ i1 i2) = 0 then
    some ((-9 : Int32), σ)
  else
    if ib (((3 : Int32) * i1) + i2) 21 = true then
      nm (gI σ 30 (ix (((3 : Int32) * i1) + i2))) fun v3 =>
      if ib (((3 : Int32) * i1) + i2) 21 = true then
        nm (sI σ 30 (ix (((3 : Int32) * i1) + i2)) i3) fun σ5 =>
        some (v3, σ5)
      else none
    else none
def fE_judge_156 (σ : St) (i2 : Int32) (i3 : Int32) : Option (Int32 × St) :=
  (fW_takers σ i2 i3).bind fun q12 =>
  some ((if q12 = 0 then (0 : Int32) else (222 : Int32)), σ)
def fE_judge_43 : Nat → St → Int32 → Int32 → Int32 → Option (Int32 × St)
  | 0, _, _, _, _ => none
  | fu + 1, σ, i2, i3, i4 =>
    if (gI σ 0 7) ≤ i4 then
      fE_judge_156 σ i2 i3
    else
      if ib (((3 : Int32) * i4) + (1 : Int32)) 21 = true then
        nm (gI σ 30 (ix (((3 : Int32) * i4) + (1 : Int32)))) fun v16 =>
        if ib ((3 : Int32) * i4) 21 = true then
          if (gI σ 30 (ix ((3 : Int32) * i4))) = i3 then
            if isTb (gR σ 0) = true then
              if (fT_hasPerson σ (gR σ 0) v16) = 0 then
                some (i4 + (1 : Int32), σ)
              else
                (fW_takers σ i2 i3).bind fun q21 =>
                if (fE_holds q21 v16) = 0 then
                  some (i4 + (1 : Int32), σ)
                else
                  nm (i2 ||| ((1 : Int32) <<< (v16 &&& 31))) fun v24 =>
                  if ib (((3 : Int32) * i4) + (2 : Int32)) 21 = true then
                    (fW_at σ v24 v16).bind fun q26 =>
                    if (gI σ 30 (ix (((3 : Int32) * i4) + (2 : Int32)))) = q26 then
                      nm (i4 + (1 : Int32)) fun v29 =>
                      fE_judge_43 fu σ v24 v16 v29
                    else
                      some (i4 + (1 : Int32), σ)
                  else none
            else none
          else
            some (i4 + (1 : Int32), σ)
        else none
      else none
def fE_judge (σ : St) (i1 : Int32) : Option (Int32 × St) :=
  if isTb (gR σ 0) = true then
    if (fT_hasCoin σ (gR σ 0) i1) = 0 then
      some ((-1 : Int32), σ)
    else
      bi (fE_look σ i1 (0 : Int32)) fun q4 σ4 =>
      if isTb (gR σ4 0) = true then
        if ib i1 6 = true then
          nm (gI σ4 ((gR σ4 0) + 7) (ix i1)) fun v7 =>
          if isTb (gR σ4 0) = true then
            if ib i1 6 = true then
              nm (gI σ4 ((gR σ4 0) + 6) (ix i1)) fun v10 =>
              fE_judge_43 300 σ4 v7 v10 (0 : Int32)
            else none
          else none
        else none
      else none
  else none
def fH_hasSheet (i1 : Int32) : Int32 :=
  (if i1 < 0 then (0 : Int32) else (if (4 : Int32) ≤ i1 then (0 : Int32) else (1 : Int32)))
def fH_refusalAs (σ : St) (i1 : Int32) (i2 : Int32) : Option Int32 :=
  if ib i1 4 = true then
    if (gI σ 34 (ix i1)) = (-1 : Int32) then
      some (-11 : Int32)
    else
      if ib i1 4 = true then
        some (if (gI σ 34 (ix i1)) = i2 then (0 : Int32) else (-13 : Int32))
      else none
  else none
def fE_ranks_95 : Nat → St → Int32 → Int32 → Int32 → Int32 → Int32 → Option (Int32 × St)
  | 0, _, _, _, _, _, _ => none
  | fu + 1, σ, i1, i2, i3, i4, i6 =>
    if i4 ≤ i6 then
      some (i4, σ)
    else
      if isTb (gR σ 0) = true then
        if ib i1 4 = true then
          if ib (i2 + i6) 40 = true then
            if ib (i3 + i6) 7 = true then
              nm (sI σ ((gR σ 0) + 1) (ix (i3 + i6)) (mmax (0 : Int32) (mmin (9 : Int32) (gI σ (36 + 1 + ix i1) (ix (i2 + i6)))))) fun σ19 =>
              nm (i6 + (1 : Int32)) fun v20 =>
              fE_ranks_95 fu σ19 i1 i2 i3 i4 v20
            else none
          else none
        else none
      else none
def fE_ranks (σ : St) (i1 : Int32) (i2 : Int32) (i3 : Int32) (i4 : Int32) : Option (Int32 × St) :=
  if (fH_hasSheet i1) = 0 then
    some ((-1 : Int32), σ)
  else
    if isTb (gR σ 0) = true then
      if (fT_hasPerson σ (gR σ 0) i3) = 0 then
        some ((-1 : Int32), σ)
      else
        if i4 < 0 then
          some ((-1 : Int32), σ)
        else
          if (7 : Int32) < i4 then
            some ((-1 : Int32), σ)
          else
            if isTb (gR σ 0) = true then
              if (i3 + i4) ≤ (gI σ (gR σ 0) 0) then
                (fH_refusalAs σ i1 (2 : Int32)).bind fun q8 =>
                if q8 = 0 then
                  if i2 < 0 then
                    some ((-12 : Int32), σ)
                  else
                    if ib i1 4 = true then
                      if i2 ≤ ((gI σ 35 (ix i1)) - i4) then
                        fE_ranks_95 300 σ i1 i2 i3 i4 (0 : Int32)
                      else
                        some ((-12 : Int32), σ)
                    else none
                else
                  some (q8, σ)
              else
                some ((-1 : Int32), σ)
            else none
    else none
def fH_lay_17 : Nat → St → Int32 → Int32 → Int32 → Option St
  | 0, _, _, _, _ => none
  | fu + 1, σ, i1, i3, i4 =>
    if i3 ≤ i4 then
      some σ
    else
      if ib i1 4 = true then
        if ib i4 40 = true then
          nm (sI σ (36 + 1 + ix i1) (ix i4) (0 : Int32)) fun σ8 =>
          nm (i4 + (1 : Int32)) fun v9 =>
          fH_lay_17 fu σ8 i1 i3 v9
        else none
      else none
def fH_lay (σ : St) (i1 : Int32) (i2 : Int32) (i3 : Int32) : Option St :=
  if ib i1 4 = true then
    nm (sI σ 34 (ix i1) i2) fun σ2 =>
    if ib i1 4 = true then
      nm (sI σ2 35 (ix i1) i3) fun σ4 =>
      fH_lay_17 300 σ4 i1 i3 (0 : Int32)
    else none
  else none
def fE_sheet_48 (σ : St) (i1 : Int32) (i2 : Int32) (i3 : Int32) : Option (Int32 × St) :=
  (fH_lay σ i1 i2 (if i2 = (-1 : Int32) then (0 : Int32) else i3)).bind fun σ7 =>
  some ((1 : Int32), σ7)
def fE_sheet_36 (σ : St) (i1 : Int32) (i2 : Int32) (i3 : Int32) : Option (Int32 × St) :=
  if i2 = (-1 : Int32) then
    fE_sheet_48 σ i1 i2 i3
  else
    if 0 ≤ i3 then
      fE_sheet_48 σ i1 i2 i3
    else
      some ((-14 : Int32), σ)
def fE_sheet (σ : St) (i1 : Int32) (i2 : Int32) (i3 : Int32) : Option (Int32 × St) :=
  if (fH_hasSheet i1) = 0 then
    some ((-1 : Int32), σ)
  else
    if i2 < (-1 : Int32) then
      some ((-1 : Int32), σ)
    else
      if i2 ≤ (3 : Int32) then
        if i2 = (-1 : Int32) then
          fE_sheet_36 σ i1 i2 i3
        else
          if i3 ≤ (40 : Int32) then
            fE_sheet_36 σ i1 i2 i3
          else
            some ((-1 : Int32), σ)
      else
        some ((-1 : Int32), σ)
def fH_narrowed (i1 : Int32) (i2 : Int32) : Int32 :=
  (if i2 = 0 then i1.toInt8.toInt32 else (if i2 = (1 : Int32) then i1.toInt16.toInt32 else i1))
def fE_put (σ : St) (i1 : Int32) (i2 : Int32) (i3 : Int32) : Option (Int32 × St) :=
  if (fH_hasSheet i1) = 0 then
    some ((-1 : Int32), σ)
  else
    if ib i1 4 = true then
      if (gI σ 34 (ix i1)) = (-1 : Int32) then
        some ((-11 : Int32), σ)
      else
        if i2 < 0 then
          some ((-12 : Int32), σ)
        else
          if ib i1 4 = true then
            if i2 < (gI σ 35 (ix i1)) then
              if ib i1 4 = true then
                if ib i1 4 = true then
                  if ib i2 40 = true then
                    nm (sI σ (36 + 1 + ix i1) (ix i2) (fH_narrowed i3 (gI σ 34 (ix i1)))) fun σ10 =>
                    some ((1 : Int32), σ10)
                  else none
                else none
              else none
            else
              some ((-12 : Int32), σ)
          else none
    else none
def fE_item (σ : St) (i1 : Int32) (i2 : Int32) (i3 : Int32) : Option Int32 :=
  if (fH_hasSheet i1) = 0 then
    some (-1 : Int32)
  else
    if i2 < 0 then
      some (-1 : Int32)
    else
      if i2 ≤ (3 : Int32) then
        (fH_refusalAs σ i1 i2).bind fun q4 =>
        if q4 = 0 then
          if i3 < 0 then
            some (-12 : Int32)
          else
            if ib i1 4 = true then
              if (gI σ 35 (ix i1)) ≤ i3 then
                some (-12 : Int32)
              else
                if ib i1 4 = true then
                  if ib i3 40 = true then
                    some (gI σ (36 + 1 + ix i1) (ix i3))
                  else none
                else none
            else none
        else
          some q4
      else
        some (-1 : Int32)
def fH_hasShelf (i1 : Int32) : Int32 :=
  (if i1 < 0 then (0 : Int32) else (if (4 : Int32) ≤ i1 then (0 : Int32) else (1 : Int32)))
def fH_holdCoin (σ : St) (i1 : Int32) (i2 : Int32) : Option St :=
  if ib i1 4 = true then
    nm (sI σ 41 (ix i1) (0 : Int32)) fun σ2 =>
    if ib i1 4 = true then
      nm (sI σ2 42 (ix i1) i2) fun σ4 =>
      some σ4
    else none
  else none
def fH_holdRow (σ : St) (i1 : Int32) (i2 : Int32) : Option St :=
  if ib i2 4 = true then
    if ib i1 4 = true then
      nm (sI σ 41 (ix i1) (if (gI σ 34 (ix i2)) = (-1 : Int32) then (2 : Int32) else (1 : Int32))) fun σ3 =>
      if ib i2 4 = true then
        if ib i1 4 = true then
          nm (sI σ3 42 (ix i1) (gI σ3 35 (ix i2))) fun σ6 =>
          if ib i2 4 = true then
            if ib i1 4 = true then
              nm (sI σ6 43 (ix i1) (gI σ6 34 (ix i2))) fun σ9 =>
              some σ9
            else none
          else none
        else none
      else none
    else none
  else none
def fE_shelf_66 (σ : St) (i1 : Int32) (i2 : Int32) : Option (Int32 × St) :=
  if i2 = (2 : Int32) then
    if ib i1 4 = true then
      nm (sI σ 41 (ix i1) (2 : Int32)) fun σ6 =>
      some ((1 : Int32), σ6)
    else none
  else
    some ((-1 : Int32), σ)
def fE_shelf_39 (σ : St) (i1 : Int32) (i2 : Int32) (i3 : Int32) : Option (Int32 × St) :=
  if i2 = (1 : Int32) then
    if (fH_hasSheet i3) = 0 then
      fE_shelf_66 σ i1 i2
    else
      (fH_holdRow σ i1 i3).bind fun σ9 =>
      some ((1 : Int32), σ9)
  else
    fE_shelf_66 σ i1 i2
def fE_shelf (σ : St) (i1 : Int32) (i2 : Int32) (i3 : Int32) : Option (Int32 × St) :=
  if (fH_hasShelf i1) = 0 then
    some ((-1 : Int32), σ)
  else
    if i2 = 0 then
      if isTb (gR σ 0) = true then
        if (fT_hasCoin σ (gR σ 0) i3) = 0 then
          fE_shelf_39 σ i1 i2 i3
        else
          (fH_holdCoin σ i1 i3).bind fun σ13 =>
          some ((1 : Int32), σ13)
      else none
    else
      fE_shelf_39 σ i1 i2 i3
def fE_coinOnShelf_36 (σ : St) (i1 : Int32) (is0 : Int32) : Option Int32 :=
  if is0 = 0 then
    some (-3 : Int32)
  else
    if ib i1 4 = true then
      some (gI σ 42 (ix i1))
    else none
def fE_coinOnShelf_35 (σ : St) (i1 : Int32) : Option Int32 :=
  fE_coinOnShelf_36 σ i1 (0 : Int32)
def fE_coinOnShelf (σ : St) (i1 : Int32) : Option Int32 :=
  if ib i1 4 = true then
    if (gI σ 41 (ix i1)) = 0 then
      if ib i1 4 = true then
        if isTb (gR σ 0) = true then
          nm (if (fT_hasCoin σ (gR σ 0) (gI σ 42 (ix i1))) = 0 then (0 : Int32) else (1 : Int32)) fun v7 =>
          if v7 = 0 then
            some (-3 : Int32)
          else
            if ib i1 4 = true then
              some (gI σ 42 (ix i1))
            else none
        else none
      else none
    else
      fE_coinOnShelf_35 σ i1
  else none
def fE_isUnder_4 : Nat → St → Int32 → Int32 → Int32 → Option Int32
  | 0, _, _, _, _ => none
  | fu + 1, σ, i1, i2, i3 =>
    if (6 : Int32) ≤ i3 then
      some (0 : Int32)
    else
      if i2 < 0 then
        some (0 : Int32)
      else
        if i2 = i1 then
          some (1 : Int32)
        else
          if ib i2 6 = true then
            nm (tUN.getD (ix i2) 0) fun v5 =>
            nm (i3 + (1 : Int32)) fun v6 =>
            fE_isUnder_4 fu σ i1 v5 v6
          else none
def fE_isUnder (σ : St) (i0 : Int32) (i1 : Int32) : Option Int32 :=
  fE_isUnder_4 300 σ i1 i0 (0 : Int32)
def fE_taken_42 (σ : St) (i1 : Int32) (i2 : Int32) (i3 : Int32) : Option Int32 :=
  if ib i1 4 = true then
    if (gI σ 41 (ix i1)) = (1 : Int32) then
      if i3 = 0 then
        some (-13 : Int32)
      else
        if ib i1 4 = true then
          if (gI σ 43 (ix i1)) = (i2 - (10 : Int32)) then
            if ib i1 4 = true then
              some (gI σ 42 (ix i1))
            else none
          else
            some (-13 : Int32)
        else none
    else
      (fE_coinOnShelf σ i1).bind fun q6 =>
      if 0 ≤ q6 then
        if i3 = 0 then
          if isTb (gR σ 0) = true then
            if ib q6 6 = true then
              (fE_isUnder σ (gI σ ((gR σ 0) + 4) (ix q6)) i2).bind fun q12 =>
              some (if q12 = 0 then (-13 : Int32) else q6)
            else none
          else none
        else
          some (-13 : Int32)
      else
        some (-11 : Int32)
  else none
def fE_taken (σ : St) (i1 : Int32) (i2 : Int32) : Option Int32 :=
  nm (if i2 < (10 : Int32) then (0 : Int32) else (if (13 : Int32) < i2 then (0 : Int32) else (1 : Int32))) fun v1 =>
  if (fH_hasShelf i1) = 0 then
    some (-1 : Int32)
  else
    if (fE_isKind i2) = 0 then
      if v1 = 0 then
        some (-1 : Int32)
      else
        fE_taken_42 σ i1 i2 v1
    else
      fE_taken_42 σ i1 i2 v1
def fA_bodyOf_4 : Nat → St → Int32 → Int32 → Int32 → Option Int32
  | 0, _, _, _, _ => none
  | fu + 1, σ, i1, i2, i3 =>
    if (6 : Int32) ≤ i3 then
      if ib (((4 : Int32) * i2) + i1) 24 = true then
        some (tOW.getD (ix (((4 : Int32) * i2) + i1)) 0)
      else none
    else
      if i2 ≤ 0 then
        if ib (((4 : Int32) * i2) + i1) 24 = true then
          some (tOW.getD (ix (((4 : Int32) * i2) + i1)) 0)
        else none
      else
        if ib (((4 : Int32) * i2) + i1) 24 = true then
          if (tOW.getD (ix (((4 : Int32) * i2) + i1)) 0) = 0 then
            if ib i2 6 = true then
              nm (tUN.getD (ix i2) 0) fun v9 =>
              nm (i3 + (1 : Int32)) fun v10 =>
              fA_bodyOf_4 fu σ i1 v9 v10
            else none
          else
            if ib (((4 : Int32) * i2) + i1) 24 = true then
              some (tOW.getD (ix (((4 : Int32) * i2) + i1)) 0)
            else none
        else none
def fA_bodyOf (σ : St) (i0 : Int32) (i1 : Int32) : Option Int32 :=
  fA_bodyOf_4 300 σ i1 i0 (0 : Int32)
def fA_note (σ : St) (i1 : Int32) : Option St :=
  if (30 : Int32) ≤ (gI σ 31 1) then
    some σ
  else
    if ib (gI σ 31 1) 30 = true then
      nm (sI σ 32 (ix (gI σ 31 1)) i1) fun σ3 =>
      nm (sI σ3 31 1 ((gI σ3 31 1) + (1 : Int32))) fun σ4 =>
      some σ4
    else none
def fA_share (σ : St) (i1 : Int32) : Option (Int32 × St) :=
  nm ((gI σ 31 4) - (gI σ 31 3)) fun v1 =>
  if v1 = 0 then
    nm (sI σ 31 5 (1 : Int32)) fun σ4 =>
    some ((0 : Int32), σ4)
  else
    if ¬ (v1 = 0) then
      some (i1 / v1, σ)
    else none
def fA_perform : Nat → St → Int32 → Int32 → Int32 → Int32 → Option (Int32 × St)
  | 0, _, _, _, _, _ => none
  | fu + 1, σ, i1, i2, i3, i4 =>
    if (gI σ 31 5) = 0 then
      if i4 ≤ (20 : Int32) then
        (fA_bodyOf σ i1 i2).bind fun q3 =>
        (fA_note σ q3).bind fun σ6 =>
        nm (i4 + (1 : Int32)) fun v7 =>
        if q3 = (10 : Int32) then
          some (i3 + (gI σ6 31 3), σ6)
        else
          if q3 = (11 : Int32) then
            bi (fA_perform fu σ6 (gI σ6 31 2) (0 : Int32) i3 v7) fun q11 σ11 =>
            some (q11 * (2 : Int32), σ11)
          else
            if q3 = (12 : Int32) then
              bi (fA_share σ6 i3) fun q14 σ14 =>
              some (q14, σ14)
            else
              if q3 = (13 : Int32) then
                bi (fA_perform fu σ6 (gI σ6 31 2) (1 : Int32) i3 v7) fun q17 σ17 =>
                some (q17 ^^^ (gI σ17 31 4), σ17)
              else
                if q3 = (20 : Int32) then
                  bi (fA_perform fu σ6 (0 : Int32) (1 : Int32) i3 v7) fun q20 σ20 =>
                  some (q20 - (gI σ20 31 4), σ20)
                else
                  if q3 = (30 : Int32) then
                    bi (fA_perform fu σ6 (0 : Int32) (0 : Int32) i3 v7) fun q23 σ23 =>
                    some (q23 * (3 : Int32), σ23)
                  else
                    if q3 = (31 : Int32) then
                      bi (fA_perform fu σ6 (0 : Int32) (3 : Int32) i3 v7) fun q26 σ26 =>
                      bi (fA_perform fu σ26 (gI σ26 31 2) (2 : Int32) (gI σ26 31 3) v7) fun q28 σ28 =>
                      some (q26 + q28, σ28)
                    else
                      if q3 = (40 : Int32) then
                        bi (fA_perform fu σ6 (2 : Int32) (0 : Int32) i3 v7) fun q31 σ31 =>
                        some ((0 : Int32) - q31, σ31)
                      else
                        if q3 = (41 : Int32) then
                          bi (fA_perform fu σ6 (2 : Int32) (1 : Int32) i3 v7) fun q34 σ34 =>
                          bi (fA_perform fu σ34 (gI σ34 31 2) (0 : Int32) (gI σ34 31 3) v7) fun q36 σ36 =>
                          some (q34 + q36, σ36)
                        else
                          if q3 = (50 : Int32) then
                            bi (fA_perform fu σ6 (1 : Int32) (2 : Int32) (i3 + (2 : Int32)) v7) fun q39 σ39 =>
                            some (q39 ^^^ (1 : Int32), σ39)
                          else
                            if q3 = (51 : Int32) then
                              bi (fA_perform fu σ6 (1 : Int32) (0 : Int32) i3 v7) fun q42 σ42 =>
                              some (q42 - (gI σ42 31 3), σ42)
                            else
                              if q3 = (60 : Int32) then
                                bi (fA_perform fu σ6 (0 : Int32) (3 : Int32) i3 v7) fun q45 σ45 =>
                                some (q45 * (2 : Int32), σ45)
                              else
                                if q3 = (61 : Int32) then
                                  bi (fA_perform fu σ6 (0 : Int32) (2 : Int32) i3 v7) fun q48 σ48 =>
                                  bi (fA_perform fu σ48 (gI σ48 31 2) (0 : Int32) (gI σ48 31 4) v7) fun q50 σ50 =>
                                  some (q48 + q50, σ50)
                                else
                                  some ((0 : Int32), σ6)
      else
        some ((0 : Int32), σ)
    else
      some ((0 : Int32), σ)
def fA_start (σ : St) (i1 : Int32) (i2 : Int32) (i3 : Int32) (i4 : Int32) (i5 : Int32) : Option (Int32 × St) :=
  nm (sI σ 31 2 i1) fun σ1 =>
  nm (sI σ1 31 3 i2) fun σ2 =>
  nm (sI σ2 31 4 i3) fun σ3 =>
  nm (sI σ3 31 1 (0 : Int32)) fun σ4 =>
  nm (sI σ4 31 5 (0 : Int32)) fun σ5 =>
  bi (fA_perform 30 σ5 i1 i4 i5 (0 : Int32)) fun q7 σ7 =>
  some ((if (gI σ7 31 5) = 0 then q7 else (-15 : Int32)), σ7)
def fE_act (σ : St) (i1 : Int32) (i2 : Int32) (i3 : Int32) : Option (Int32 × St) :=
  nm (sI σ 31 1 (0 : Int32)) fun σ1 =>
  if (fH_hasShelf i1) = 0 then
    some ((0 : Int32), σ1)
  else
    if i2 < 0 then
      some ((0 : Int32), σ1)
    else
      if i2 ≤ (3 : Int32) then
        (fE_coinOnShelf σ1 i1).bind fun q5 =>
        if 0 ≤ q5 then
          if isTb (gR σ1 0) = true then
            if ib q5 6 = true then
              if isTb (gR σ1 0) = true then
                if ib q5 6 = true then
                  bi (fA_start σ1 (gI σ1 ((gR σ1 0) + 4) (ix q5)) q5 (gI σ1 ((gR σ1 0) + 5) (ix q5)) i2 i3) fun q13 σ13 =>
                  some (q13, σ13)
                else none
              else none
            else none
          else none
        else
          some ((0 : Int32), σ1)
      else
        some ((0 : Int32), σ1)
def fE_trace (σ : St) (i1 : Int32) : Option Int32 :=
  if i1 < 0 then
    some (-3 : Int32)
  else
    if (gI σ 31 1) ≤ i1 then
      some (-3 : Int32)
    else
      if ib i1 30 = true then
        some (gI σ 32 (ix i1))
      else none
def fE_many (σ : St) (i1 : Int32) : Option Int32 :=
  if i1 = (0 : Int32) then
    if isTb (gR σ 0) = true then
      some (gI σ (gR σ 0) 0)
    else none
  else
    if i1 = (1 : Int32) then
      if isTb (gR σ 0) = true then
        some (gI σ (gR σ 0) 1)
      else none
    else
      if i1 = (2 : Int32) then
        some (gI σ 0 7)
      else
        if i1 = (3 : Int32) then
          some (gI σ 25 1)
        else
          if i1 = (4 : Int32) then
            some (gI σ 31 1)
          else
            some (-1 : Int32)
def fT_become (σ : St) (r0 : Nat) (r1 : Nat) : Option St :=
  nm (sI σ r0 0 (gI σ r1 0)) fun σ1 =>
  nm (sI σ1 r0 1 (gI σ1 r1 1)) fun σ2 =>
  nm (sI σ2 r0 2 (gI σ2 r1 2)) fun σ3 =>
  nm (cpI σ3 (r1 + 1) (r0 + 1) ((7 : Int32)).toNatClampNeg) fun σ4 =>
  nm (cpI σ4 (r1 + 2) (r0 + 2) ((7 : Int32)).toNatClampNeg) fun σ5 =>
  nm (cpI σ5 (r1 + 3) (r0 + 3) ((7 : Int32)).toNatClampNeg) fun σ6 =>
  nm (cpI σ6 (r1 + 4) (r0 + 4) ((6 : Int32)).toNatClampNeg) fun σ7 =>
  nm (cpI σ7 (r1 + 5) (r0 + 5) ((6 : Int32)).toNatClampNeg) fun σ8 =>
  nm (cpI σ8 (r1 + 6) (r0 + 6) ((6 : Int32)).toNatClampNeg) fun σ9 =>
  nm (cpI σ9 (r1 + 7) (r0 + 7) ((6 : Int32)).toNatClampNeg) fun σ10 =>
  some σ10
def fE_keep (σ : St) : Option (Int32 × St) :=
  if isTb (gR σ 0) = true then
    (fT_become σ 17 (gR σ 0)).bind fun σ3 =>
    nm (sI σ3 0 3 (1 : Int32)) fun σ4 =>
    some ((1 : Int32), σ4)
  else none
def fE_again (σ : St) : Option (Int32 × St) :=
  if (gI σ 0 3) = 0 then
    some ((-3 : Int32), σ)
  else
    if isTb (gR σ 0) = true then
      (fT_become σ (gR σ 0) 17).bind fun σ4 =>
      if isTb (gR σ4 0) = true then
        some (gI σ4 (gR σ4 0) 0, σ4)
      else none
    else none
def fM_in (i0 : Int32) (i1 : Int32) (i2 : Int32) : Int32 :=
  (if i0 < i1 then (0 : Int32) else (if i2 < i0 then (0 : Int32) else (1 : Int32)))
def fM_feed_30 : Nat → St → Int64 → Int32 → Int32 → Option (Int32 × St)
  | 0, _, _, _, _ => none
  | fu + 1, σ, l1, i3, i4 =>
    if i3 ≤ i4 then
      some (gI σ 44 8, σ)
    else
      if ib (gI σ 44 8) 200 = true then
        nm (sI σ 49 (ix (gI σ 44 8)) (((l1 >>> (((8 : Int32) * i4).toInt64 &&& 63)) &&& (255 : Int64)).toInt32)) fun σ5 =>
        nm (sI σ5 44 8 ((gI σ5 44 8) + (1 : Int32))) fun σ6 =>
        nm (i4 + (1 : Int32)) fun v7 =>
        fM_feed_30 fu σ6 l1 i3 v7
      else none
def fM_feed (σ : St) (l1 : Int64) (i3 : Int32) : Option (Int32 × St) :=
  if (fM_in i3 (1 : Int32) (8 : Int32)) = 0 then
    some ((-1 : Int32), σ)
  else
    if ((gI σ 44 8) + i3) ≤ (200 : Int32) then
      fM_feed_30 300 σ l1 i3 (0 : Int32)
    else
      some ((-2 : Int32), σ)
def fM_byteAt (σ : St) (i1 : Int32) : Option Int32 :=
  if (gI σ 44 8) ≤ i1 then
    some (-1 : Int32)
  else
    if ib i1 200 = true then
      some (gI σ 49 (ix i1))
    else none
def fM_isLetter (i0 : Int32) : Int32 :=
  (fM_in i0 (97 : Int32) (122 : Int32))
def fM_isDigit (i0 : Int32) : Int32 :=
  (fM_in i0 (48 : Int32) (57 : Int32))
def fM_advance_207 : Nat → St → Option St
  | 0, _ => none
  | fu + 1, σ =>
    if (gI σ 44 9) = (2 : Int32) then
      (fM_byteAt σ (gI σ 44 11)).bind fun q14 =>
      if (fM_isDigit q14) = 0 then
        some σ
      else
        if (2 : Int32) ≤ ((gI σ 44 11) - (gI σ 44 10)) then
          nm (sI σ 44 13 (-1 : Int32)) fun σ18 =>
          nm (sI σ18 44 11 ((gI σ18 44 11) + (1 : Int32))) fun σ19 =>
          fM_advance_207 fu σ19
        else
          (fM_byteAt σ (gI σ 44 11)).bind fun q20 =>
          nm (sI σ 44 13 ((((10 : Int32) * (gI σ 44 13)) + q20) - (48 : Int32))) fun σ22 =>
          nm (sI σ22 44 11 ((gI σ22 44 11) + (1 : Int32))) fun σ23 =>
          fM_advance_207 fu σ23
    else
      some σ
def fM_advance_126 : Nat → St → Option St
  | 0, _ => none
  | fu + 1, σ =>
    if (gI σ 44 9) = (1 : Int32) then
      (fM_byteAt σ (gI σ 44 11)).bind fun q24 =>
      if (fM_isLetter q24) = 0 then
        fM_advance_207 300 σ
      else
        if (8 : Int32) ≤ ((gI σ 44 11) - (gI σ 44 10)) then
          nm (sL σ 44 12 (-1 : Int64)) fun σ28 =>
          nm (sI σ28 44 11 ((gI σ28 44 11) + (1 : Int32))) fun σ29 =>
          fM_advance_126 fu σ29
        else
          (fM_byteAt σ (gI σ 44 11)).bind fun q30 =>
          nm (sL σ 44 12 ((((27 : Int64) * (gL σ 44 12)) + q30.toInt64) - (96 : Int64))) fun σ32 =>
          nm (sI σ32 44 11 ((gI σ32 44 11) + (1 : Int32))) fun σ33 =>
          fM_advance_126 fu σ33
    else
      fM_advance_207 300 σ
def fM_advance_34 (σ : St) : Option St :=
  nm (sI σ 44 11 (gI σ 44 10)) fun σ5 =>
  (fM_byteAt σ5 (gI σ5 44 10)).bind fun q6 =>
  nm (sI σ5 44 9 (if 0 ≤ q6 then (if (fM_isLetter q6) = 0 then (if (fM_isDigit q6) = 0 then (3 : Int32) else (2 : Int32)) else (1 : Int32)) else (0 : Int32))) fun σ8 =>
  nm (sL σ8 44 12 (0 : Int64)) fun σ9 =>
  nm (sI σ9 44 13 (if (gI σ9 44 9) = (2 : Int32) then (0 : Int32) else q6)) fun σ10 =>
  if (gI σ10 44 9) = (3 : Int32) then
    nm (sI σ10 44 11 ((gI σ10 44 11) + (1 : Int32))) fun σ34 =>
    fM_advance_126 300 σ34
  else
    fM_advance_126 300 σ10
def fM_advance_8 : Nat → St → Option St
  | 0, _ => none
  | fu + 1, σ =>
    (fM_byteAt σ (gI σ 44 10)).bind fun q2 =>
    if q2 = (32 : Int32) then
      nm (sI σ 44 10 ((gI σ 44 10) + (1 : Int32))) fun σ39 =>
      fM_advance_8 fu σ39
    else
      fM_advance_34 σ
def fM_advance (σ : St) : Option St :=
  nm (sI σ 44 10 (gI σ 44 11)) fun σ1 =>
  fM_advance_8 300 σ1
def fM_isWord (σ : St) (l1 : Int64) : Int32 :=
  (if (gI σ 44 9) = (1 : Int32) then (if (lg_cmp (gL σ 44 12) l1) = 0 then (1 : Int32) else (0 : Int32)) else (0 : Int32))
def fM_wantNumber (σ : St) (i1 : Int32) (i2 : Int32) : Option (Int32 × St) :=
  nm (gI σ 44 13) fun v1 =>
  nm (sI σ 44 14 (if (gI σ 44 14) = 0 then (0 : Int32) else (if (gI σ 44 9) = (2 : Int32) then (if (fM_in v1 i1 i2) = 0 then (0 : Int32) else (1 : Int32)) else (0 : Int32)))) fun σ2 =>
  if (gI σ2 44 14) = 0 then
    some (v1, σ2)
  else
    (fM_advance σ2).bind fun σ5 =>
    some (v1, σ5)
def fM_isMark (σ : St) (i1 : Int32) : Int32 :=
  (if (gI σ 44 9) = (3 : Int32) then (if (gI σ 44 13) = i1 then (1 : Int32) else (0 : Int32)) else (0 : Int32))
def fM_wantEnd (σ : St) : Option St :=
  nm (sI σ 44 14 (if (gI σ 44 14) = 0 then (0 : Int32) else (if (fM_isMark σ (59 : Int32)) = 0 then (0 : Int32) else (1 : Int32)))) fun σ1 =>
  if (gI σ1 44 14) = 0 then
    some σ1
  else
    (fM_advance σ1).bind fun σ4 =>
    some σ4
def fM_wantPerson_29 (σ : St) : Option St :=
  bi (fM_wantNumber σ (0 : Int32) (9 : Int32)) fun q4 σ4 =>
  (fM_wantEnd σ4).bind fun σ6 =>
  if (gI σ6 44 14) = 0 then
    some σ6
  else
    if ib (gI σ6 44 15) 7 = true then
      nm (sI σ6 50 (ix (gI σ6 44 15)) q4) fun σ9 =>
      if ib (gI σ9 44 15) 7 = true then
        nm (sI σ9 51 (ix (gI σ9 44 15)) (0 : Int32)) fun σ11 =>
        nm (sI σ11 44 15 ((gI σ11 44 15) + (1 : Int32))) fun σ12 =>
        some σ12
      else none
    else none
def fM_wantPerson (σ : St) : Option St :=
  nm (sI σ 44 14 (if (7 : Int32) ≤ (gI σ 44 15) then (0 : Int32) else (1 : Int32))) fun σ1 =>
  if (gI σ1 44 14) = 0 then
    fM_wantPerson_29 σ1
  else
    (fM_advance σ1).bind fun σ14 =>
    fM_wantPerson_29 σ14
def fM_wantKnow (σ : St) : Option St :=
  (fM_advance σ).bind fun σ2 =>
  bi (fM_wantNumber σ2 (0 : Int32) ((gI σ2 44 15) - (1 : Int32))) fun q4 σ4 =>
  nm (sI σ4 44 14 (if (gI σ4 44 14) = 0 then (0 : Int32) else (if (gI σ4 44 9) = (2 : Int32) then (if (gI σ4 44 13) = q4 then (0 : Int32) else (1 : Int32)) else (1 : Int32)))) fun σ5 =>
  bi (fM_wantNumber σ5 (0 : Int32) ((gI σ5 44 15) - (1 : Int32))) fun q7 σ7 =>
  (fM_wantEnd σ7).bind fun σ9 =>
  if (gI σ9 44 14) = 0 then
    some σ9
  else
    if ib q4 7 = true then
      if ib q4 7 = true then
        nm (sI σ9 51 (ix q4) ((gI σ9 51 (ix q4)) ||| ((1 : Int32) <<< (q7 &&& 31)))) fun σ13 =>
        if ib q7 7 = true then
          if ib q7 7 = true then
            nm (sI σ13 51 (ix q7) ((gI σ13 51 (ix q7)) ||| ((1 : Int32) <<< (q4 &&& 31)))) fun σ16 =>
            some σ16
          else none
        else none
      else none
    else none
def fM_kindHere (σ : St) : Int32 :=
  (if (fM_isWord σ (70241 : Int64)) = 0 then (if (fM_isWord σ (158523 : Int64)) = 0 then (if (fM_isWord σ (1960187 : Int64)) = 0 then (if (fM_isWord σ (3217595 : Int64)) = 0 then (if (fM_isWord σ (950073034 : Int64)) = 0 then (if (fM_isWord σ (464144 : Int64)) = 0 then (-1 : Int32) else (5 : Int32)) else (4 : Int32)) else (3 : Int32)) else (2 : Int32)) else (1 : Int32)) else (0 : Int32))
def fM_wantCoin_194 (σ : St) (i1 : Int32) (i2 : Int32) (i3 : Int32) (i4 : Int32) : Option St :=
  (fM_wantEnd σ).bind fun σ13 =>
  if (gI σ13 44 14) = 0 then
    some σ13
  else
    if ib ((4 : Int32) * (gI σ13 44 16)) 24 = true then
      nm (sI σ13 52 (ix ((4 : Int32) * (gI σ13 44 16))) i1) fun σ16 =>
      if ib (((4 : Int32) * (gI σ16 44 16)) + (1 : Int32)) 24 = true then
        nm (sI σ16 52 (ix (((4 : Int32) * (gI σ16 44 16)) + (1 : Int32))) i2) fun σ18 =>
        if ib (((4 : Int32) * (gI σ18 44 16)) + (2 : Int32)) 24 = true then
          nm (sI σ18 52 (ix (((4 : Int32) * (gI σ18 44 16)) + (2 : Int32))) i3) fun σ20 =>
          if ib (((4 : Int32) * (gI σ20 44 16)) + (3 : Int32)) 24 = true then
            nm (sI σ20 52 (ix (((4 : Int32) * (gI σ20 44 16)) + (3 : Int32))) i4) fun σ22 =>
            nm (sI σ22 44 16 ((gI σ22 44 16) + (1 : Int32))) fun σ23 =>
            some σ23
          else none
        else none
      else none
    else none
def fM_wantCoin_126 : Nat → St → Int32 → Int32 → Int32 → Int32 → Int32 → Option St
  | 0, _, _, _, _, _, _ => none
  | fu + 1, σ, i1, i2, i3, i4, i5 =>
    if i5 = 0 then
      fM_wantCoin_194 σ i1 i2 i3 i4
    else
      (fM_advance σ).bind fun σ25 =>
      bi (fM_wantNumber σ25 (0 : Int32) ((gI σ25 44 15) - (1 : Int32))) fun q27 σ27 =>
      nm (i4 ||| (if (gI σ27 44 14) = 0 then (0 : Int32) else (1 : Int32) <<< (q27 &&& 31))) fun v28 =>
      nm (if (gI σ27 44 14) = 0 then (0 : Int32) else (if (fM_isMark σ27 (44 : Int32)) = 0 then (0 : Int32) else (1 : Int32))) fun v29 =>
      fM_wantCoin_126 fu σ27 i1 i2 i3 v28 v29
def fM_wantCoin_74 (σ : St) (i1 : Int32) (i2 : Int32) : Option St :=
  bi (fM_wantNumber σ (0 : Int32) ((gI σ 44 15) - (1 : Int32))) fun q8 σ8 =>
  nm (if (gI σ8 44 14) = 0 then (0 : Int32) else (1 : Int32) <<< (q8 &&& 31)) fun v9 =>
  nm (if (gI σ8 44 14) = 0 then (0 : Int32) else (if (fM_isWord σ8 (5863 : Int64)) = 0 then (0 : Int32) else (1 : Int32))) fun v10 =>
  fM_wantCoin_126 300 σ8 i1 i2 q8 v9 v10
def fM_wantCoin_29 (σ : St) (i1 : Int32) : Option St :=
  bi (fM_wantNumber σ (1 : Int32) (99 : Int32)) fun q4 σ4 =>
  nm (sI σ4 44 14 (if (gI σ4 44 14) = 0 then (0 : Int32) else (if (fM_isWord σ4 (411 : Int64)) = 0 then (0 : Int32) else (1 : Int32)))) fun σ5 =>
  if (gI σ5 44 14) = 0 then
    fM_wantCoin_74 σ5 i1 q4
  else
    (fM_advance σ5).bind fun σ37 =>
    fM_wantCoin_74 σ37 i1 q4
def fM_wantCoin (σ : St) (i1 : Int32) : Option St :=
  nm (sI σ 44 14 (if (6 : Int32) ≤ (gI σ 44 16) then (0 : Int32) else (1 : Int32))) fun σ1 =>
  if (gI σ1 44 14) = 0 then
    fM_wantCoin_29 σ1 i1
  else
    (fM_advance σ1).bind fun σ41 =>
    fM_wantCoin_29 σ41 i1
def fM_town_181 : Nat → St → Int32 → Option (Int32 × St)
  | 0, _, _ => none
  | fu + 1, σ, i1 =>
    if (24 : Int32) ≤ i1 then
      nm (sI σ 44 26 (0 : Int32)) fun σ14 =>
      some (gI σ14 44 0, σ14)
    else
      if ib i1 24 = true then
        if ib i1 24 = true then
          nm (sI σ 48 (ix i1) (gI σ 52 (ix i1))) fun σ17 =>
          nm (i1 + (1 : Int32)) fun v18 =>
          fM_town_181 fu σ17 v18
        else none
      else none
def fM_town_179 (σ : St) : Option (Int32 × St) :=
  fM_town_181 300 σ (0 : Int32)
def fM_town_136 : Nat → St → Int32 → Option (Int32 × St)
  | 0, _, _ => none
  | fu + 1, σ, i1 =>
    if (7 : Int32) ≤ i1 then
      fM_town_179 σ
    else
      if ib i1 7 = true then
        if ib i1 7 = true then
          nm (sI σ 45 (ix i1) (gI σ 50 (ix i1))) fun σ21 =>
          if ib i1 7 = true then
            if ib i1 7 = true then
              nm (sI σ21 47 (ix i1) (gI σ21 51 (ix i1))) fun σ24 =>
              if ib i1 7 = true then
                nm (sI σ24 46 (ix i1) (0 : Int32)) fun σ26 =>
                nm (i1 + (1 : Int32)) fun v27 =>
                fM_town_136 fu σ26 v27
              else none
            else none
          else none
        else none
      else none
def fM_town_98 (σ : St) : Option (Int32 × St) :=
  nm (sI σ 44 8 (0 : Int32)) fun σ8 =>
  if (gI σ8 44 14) = 0 then
    some ((-100 : Int32) - (gI σ8 44 10), σ8)
  else
    nm (sI σ8 44 0 (gI σ8 44 15)) fun σ10 =>
    nm (sI σ10 44 4 (gI σ10 44 16)) fun σ11 =>
    fM_town_136 300 σ11 (0 : Int32)
def fM_town_24 : Nat → St → Option (Int32 × St)
  | 0, _ => none
  | fu + 1, σ =>
    if (gI σ 44 14) = 0 then
      fM_town_98 σ
    else
      if (gI σ 44 9) = 0 then
        fM_town_98 σ
      else
        if (fM_isWord σ (232608281 : Int64)) = 0 then
          if (fM_isWord σ (227147 : Int64)) = 0 then
            if (fM_kindHere σ) < 0 then
              nm (sI σ 44 14 (0 : Int32)) fun σ32 =>
              fM_town_24 fu σ32
            else
              (fM_wantCoin σ (fM_kindHere σ)).bind fun σ34 =>
              fM_town_24 fu σ34
          else
            (fM_wantKnow σ).bind fun σ36 =>
            fM_town_24 fu σ36
        else
          (fM_wantPerson σ).bind fun σ38 =>
          fM_town_24 fu σ38
def fM_town (σ : St) : Option (Int32 × St) :=
  nm (sI σ 44 11 (0 : Int32)) fun σ1 =>
  nm (sI σ1 44 14 (1 : Int32)) fun σ2 =>
  nm (sI σ2 44 15 (0 : Int32)) fun σ3 =>
  nm (sI σ3 44 16 (0 : Int32)) fun σ4 =>
  (fM_advance σ4).bind fun σ6 =>
  fM_town_24 300 σ6
def fM_person (σ : St) (i1 : Int32) : Option (Int32 × St) :=
  if (fM_in i1 (0 : Int32) (9 : Int32)) = 0 then
    some ((-1 : Int32), σ)
  else
    if (gI σ 44 0) = (7 : Int32) then
      some ((-2 : Int32), σ)
    else
      if ib (gI σ 44 0) 7 = true then
        nm (sI σ 45 (ix (gI σ 44 0)) i1) fun σ4 =>
        if ib (gI σ4 44 0) 7 = true then
          nm (sI σ4 46 (ix (gI σ4 44 0)) (0 : Int32)) fun σ6 =>
          if ib (gI σ6 44 0) 7 = true then
            nm (sI σ6 47 (ix (gI σ6 44 0)) (0 : Int32)) fun σ8 =>
            nm (sI σ8 44 0 ((gI σ8 44 0) + (1 : Int32))) fun σ9 =>
            some ((gI σ9 44 0) - (1 : Int32), σ9)
          else none
        else none
      else none
def fM_isPerson (σ : St) (i1 : Int32) : Int32 :=
  (fM_in i1 (0 : Int32) ((gI σ 44 0) - (1 : Int32)))
def fM_its (σ : St) (i1 : Int32) (i2 : Int32) : Option Int32 :=
  if ib (((4 : Int32) * i1) + i2) 24 = true then
    some (gI σ 48 (ix (((4 : Int32) * i1) + i2)))
  else none
def fM_heldBy_4 : Nat → St → Int32 → Int32 → Int32 → Option Int32
  | 0, _, _, _, _ => none
  | fu + 1, σ, i1, i2, i3 =>
    if (gI σ 44 4) ≤ i3 then
      some i2
    else
      (fM_its σ i3 (2 : Int32)).bind fun q2 =>
      nm (i2 ||| (if q2 = i1 then (1 : Int32) <<< (i3 &&& 31) else (0 : Int32))) fun v4 =>
      nm (i3 + (1 : Int32)) fun v5 =>
      fM_heldBy_4 fu σ i1 v4 v5
def fM_heldBy (σ : St) (i1 : Int32) : Option Int32 :=
  fM_heldBy_4 300 σ i1 (0 : Int32) (0 : Int32)
def fM_has (i0 : Int32) (i1 : Int32) : Int32 :=
  (if ((i0 >>> (i1 &&& 31)) &&& (1 : Int32)) = (1 : Int32) then (1 : Int32) else (0 : Int32))
def fM_worth (σ : St) (i1 : Int32) : Option Int32 :=
  (fM_its σ i1 (1 : Int32)).bind fun q1 =>
  (fM_its σ i1 (0 : Int32)).bind fun q3 =>
  if q3 = (1 : Int32) then
    some (q1 / (2 : Int32))
  else
    if q3 = (2 : Int32) then
      some ((2 : Int32) * q1)
    else
      if q3 = (3 : Int32) then
        if (10 : Int32) ≤ (q1 / (2 : Int32)) then
          some (q1 / (2 : Int32))
        else
          some (0 : Int32)
      else
        if q3 = (4 : Int32) then
          some (((2 : Int32) * q1) + (3 : Int32))
        else
          if q3 = (5 : Int32) then
            some (q1 - (1 : Int32))
          else
            some q1
def fM_worthOf_4 : Nat → St → Int32 → Int32 → Int32 → Option Int32
  | 0, _, _, _, _ => none
  | fu + 1, σ, i1, i2, i3 =>
    if (gI σ 44 4) ≤ i3 then
      some i2
    else
      if (fM_has i1 i3) = 0 then
        nm (i2 + (0 : Int32)) fun v3 =>
        nm (i3 + (1 : Int32)) fun v4 =>
        fM_worthOf_4 fu σ i1 v3 v4
      else
        (fM_worth σ i3).bind fun q5 =>
        nm (i2 + q5) fun v7 =>
        nm (i3 + (1 : Int32)) fun v8 =>
        fM_worthOf_4 fu σ i1 v7 v8
def fM_worthOf (σ : St) (i1 : Int32) : Option Int32 :=
  fM_worthOf_4 300 σ i1 (0 : Int32) (0 : Int32)
def fM_personOf (σ : St) (i1 : Int32) (i2 : Int32) : Option Int32 :=
  if (fM_isPerson σ i1) = 0 then
    some (-1 : Int32)
  else
    if (fM_in i2 (0 : Int32) (4 : Int32)) = 0 then
      some (-1 : Int32)
    else
      if i2 = (0 : Int32) then
        if ib i1 7 = true then
          some (gI σ 45 (ix i1))
        else none
      else
        if i2 = (1 : Int32) then
          if ib i1 7 = true then
            some (gI σ 46 (ix i1))
          else none
        else
          if i2 = (2 : Int32) then
            if ib i1 7 = true then
              (fM_heldBy σ i1).bind fun q9 =>
              (fM_worthOf σ q9).bind fun q11 =>
              some ((gI σ 46 (ix i1)) + q11)
            else none
          else
            if i2 = (3 : Int32) then
              (fM_heldBy σ i1).bind fun q14 =>
              some q14
            else
              if ib i1 7 = true then
                some (gI σ 47 (ix i1))
              else none
def fM_rank (σ : St) (i1 : Int32) (i2 : Int32) : Option (Int32 × St) :=
  if (fM_isPerson σ i1) = 0 then
    some ((-1 : Int32), σ)
  else
    if (fM_in i2 (0 : Int32) (9 : Int32)) = 0 then
      some ((-1 : Int32), σ)
    else
      if ib i1 7 = true then
        nm (gI σ 45 (ix i1)) fun v4 =>
        if ib i1 7 = true then
          nm (sI σ 45 (ix i1) i2) fun σ6 =>
          some (v4, σ6)
        else none
      else none
def fM_swapsKnow (σ : St) (i1 : Int32) (i2 : Int32) : Option St :=
  if ib i1 7 = true then
    if ib i1 7 = true then
      nm (sI σ 47 (ix i1) ((gI σ 47 (ix i1)) ^^^ ((1 : Int32) <<< (i2 &&& 31)))) fun σ3 =>
      if ib i2 7 = true then
        if ib i2 7 = true then
          nm (sI σ3 47 (ix i2) ((gI σ3 47 (ix i2)) ^^^ ((1 : Int32) <<< (i1 &&& 31)))) fun σ6 =>
          some σ6
        else none
      else none
    else none
  else none
def fM_know (σ : St) (i1 : Int32) (i2 : Int32) (i3 : Int32) : Option (Int32 × St) :=
  if (fM_isPerson σ i1) = 0 then
    some ((-1 : Int32), σ)
  else
    if (fM_isPerson σ i2) = 0 then
      some ((-1 : Int32), σ)
    else
      if i1 = i2 then
        some ((-1 : Int32), σ)
      else
        if ib i1 7 = true then
          if (fM_has (gI σ 47 (ix i1)) i2) = i3 then
            some ((0 : Int32), σ)
          else
            (fM_swapsKnow σ i1 i2).bind fun σ7 =>
            some ((1 : Int32), σ7)
        else none
def fM_coin (σ : St) (i1 : Int32) (i2 : Int32) (i3 : Int32) : Option (Int32 × St) :=
  if (fM_in i1 (0 : Int32) (5 : Int32)) = 0 then
    some ((-1 : Int32), σ)
  else
    if (fM_in i2 (1 : Int32) (99 : Int32)) = 0 then
      some ((-1 : Int32), σ)
    else
      if (fM_isPerson σ i3) = 0 then
        some ((-1 : Int32), σ)
      else
        if (gI σ 44 4) = (6 : Int32) then
          some ((-2 : Int32), σ)
        else
          if ib ((4 : Int32) * (gI σ 44 4)) 24 = true then
            nm (sI σ 48 (ix ((4 : Int32) * (gI σ 44 4))) i1) fun σ6 =>
            if ib (((4 : Int32) * (gI σ6 44 4)) + (1 : Int32)) 24 = true then
              nm (sI σ6 48 (ix (((4 : Int32) * (gI σ6 44 4)) + (1 : Int32))) i2) fun σ8 =>
              if ib (((4 : Int32) * (gI σ8 44 4)) + (2 : Int32)) 24 = true then
                nm (sI σ8 48 (ix (((4 : Int32) * (gI σ8 44 4)) + (2 : Int32))) i3) fun σ10 =>
                if ib (((4 : Int32) * (gI σ10 44 4)) + (3 : Int32)) 24 = true then
                  nm (sI σ10 48 (ix (((4 : Int32) * (gI σ10 44 4)) + (3 : Int32))) ((1 : Int32) <<< (i3 &&& 31))) fun σ12 =>
                  nm (sI σ12 44 4 ((gI σ12 44 4) + (1 : Int32))) fun σ13 =>
                  some ((gI σ13 44 4) - (1 : Int32), σ13)
                else none
              else none
            else none
          else none
def fM_isCoin (σ : St) (i1 : Int32) : Int32 :=
  (fM_in i1 (0 : Int32) ((gI σ 44 4) - (1 : Int32)))
def fM_mayBe_28 (σ : St) (i1 : Int32) (i2 : Int32) (i3 : Int32) (i4 : Int32) (is0 : Int32) : Option Int32 :=
  if i1 = (2 : Int32) then
    if is0 = 0 then
      some (0 : Int32)
    else
      if ib i4 7 = true then
        if ib i2 7 = true then
          some (if (gI σ 45 (ix i4)) < (gI σ 45 (ix i2)) then (0 : Int32) else (1 : Int32))
        else none
      else none
  else
    if i1 = (3 : Int32) then
      if is0 = 0 then
        some (0 : Int32)
      else
        if ib i4 7 = true then
          some (if (5 : Int32) ≤ (gI σ 45 (ix i4)) then (0 : Int32) else (1 : Int32))
        else none
    else
      if i1 = (4 : Int32) then
        if is0 = 0 then
          some (0 : Int32)
        else
          if ib i4 7 = true then
            if ib i2 7 = true then
              if (gI σ 45 (ix i2)) ≤ (gI σ 45 (ix i4)) then
                some (1 : Int32)
              else
                if ib i4 7 = true then
                  some (if (gI σ 45 (ix i4)) = 0 then (1 : Int32) else (0 : Int32))
                else none
            else none
          else none
      else
        if i1 = (5 : Int32) then
          some (if (fM_has i3 i4) = 0 then (1 : Int32) else (0 : Int32))
        else
          if b01 is0 then
            some is0
          else none
def fM_mayBe_27 (σ : St) (i1 : Int32) (i2 : Int32) (i3 : Int32) (i4 : Int32) : Option Int32 :=
  fM_mayBe_28 σ i1 i2 i3 i4 (0 : Int32)
def fM_mayBe (σ : St) (i1 : Int32) (i2 : Int32) (i3 : Int32) (i4 : Int32) : Option Int32 :=
  if (fM_has i3 i4) = 0 then
    if ib i2 7 = true then
      nm (if (fM_has (gI σ 47 (ix i2)) i4) = 0 then (0 : Int32) else (1 : Int32)) fun v22 =>
      if i1 = (2 : Int32) then
        if v22 = 0 then
          some (0 : Int32)
        else
          if ib i4 7 = true then
            if ib i2 7 = true then
              some (if (gI σ 45 (ix i4)) < (gI σ 45 (ix i2)) then (0 : Int32) else (1 : Int32))
            else none
          else none
      else
        if i1 = (3 : Int32) then
          if v22 = 0 then
            some (0 : Int32)
          else
            if ib i4 7 = true then
              some (if (5 : Int32) ≤ (gI σ 45 (ix i4)) then (0 : Int32) else (1 : Int32))
            else none
        else
          if i1 = (4 : Int32) then
            if v22 = 0 then
              some (0 : Int32)
            else
              if ib i4 7 = true then
                if ib i2 7 = true then
                  if (gI σ 45 (ix i2)) ≤ (gI σ 45 (ix i4)) then
                    some (1 : Int32)
                  else
                    if ib i4 7 = true then
                      some (if (gI σ 45 (ix i4)) = 0 then (1 : Int32) else (0 : Int32))
                    else none
                else none
              else none
          else
            if i1 = (5 : Int32) then
              some (if (fM_has i3 i4) = 0 then (1 : Int32) else (0 : Int32))
            else
              if b01 v22 then
                some v22
              else none
    else none
  else
    fM_mayBe_27 σ i1 i2 i3 i4
def fM_mayNow (σ : St) (i1 : Int32) (i2 : Int32) : Option Int32 :=
  (fM_its σ i1 (0 : Int32)).bind fun q1 =>
  (fM_its σ i1 (2 : Int32)).bind fun q3 =>
  (fM_its σ i1 (3 : Int32)).bind fun q5 =>
  (fM_mayBe σ q1 q3 q5 i2).bind fun q7 =>
  if b01 q7 then
    some q7
  else none
def fM_mayAll_4 : Nat → St → Int32 → Int32 → Int32 → Option Int32
  | 0, _, _, _, _ => none
  | fu + 1, σ, i1, i2, i3 =>
    if (gI σ 44 0) ≤ i3 then
      some i2
    else
      (fM_mayNow σ i1 i3).bind fun q2 =>
      nm (i2 ||| (if q2 = 0 then (0 : Int32) else (1 : Int32) <<< (i3 &&& 31))) fun v4 =>
      nm (i3 + (1 : Int32)) fun v5 =>
      fM_mayAll_4 fu σ i1 v4 v5
def fM_mayAll (σ : St) (i1 : Int32) : Option Int32 :=
  fM_mayAll_4 300 σ i1 (0 : Int32) (0 : Int32)
def fM_coinOf (σ : St) (i1 : Int32) (i2 : Int32) : Option Int32 :=
  if (fM_isCoin σ i1) = 0 then
    some (-1 : Int32)
  else
    if (fM_in i2 (0 : Int32) (5 : Int32)) = 0 then
      some (-1 : Int32)
    else
      if i2 = (0 : Int32) then
        (fM_its σ i1 (0 : Int32)).bind fun q4 =>
        some q4
      else
        if i2 = (1 : Int32) then
          (fM_its σ i1 (1 : Int32)).bind fun q7 =>
          some q7
        else
          if i2 = (2 : Int32) then
            (fM_worth σ i1).bind fun q10 =>
            some q10
          else
            if i2 = (3 : Int32) then
              (fM_its σ i1 (2 : Int32)).bind fun q13 =>
              some q13
            else
              if i2 = (4 : Int32) then
                (fM_its σ i1 (3 : Int32)).bind fun q16 =>
                some q16
              else
                (fM_mayAll σ i1).bind fun q18 =>
                some q18
def fM_stamp (σ : St) (i1 : Int32) (i2 : Int32) (i3 : Int32) : Option (Int32 × St) :=
  if (fM_isCoin σ i1) = 0 then
    some ((-1 : Int32), σ)
  else
    if (fM_in i2 (0 : Int32) (5 : Int32)) = 0 then
      some ((-1 : Int32), σ)
    else
      if (fM_in i3 (1 : Int32) (99 : Int32)) = 0 then
        some ((-1 : Int32), σ)
      else
        (fM_its σ i1 (0 : Int32)).bind fun q4 =>
        if ib ((4 : Int32) * i1) 24 = true then
          nm (sI σ 48 (ix ((4 : Int32) * i1)) i2) fun σ7 =>
          if ib (((4 : Int32) * i1) + (1 : Int32)) 24 = true then
            nm (sI σ7 48 (ix (((4 : Int32) * i1) + (1 : Int32))) i3) fun σ9 =>
            some (q4, σ9)
          else none
        else none
def fM_ones_4 : Nat → St → Int32 → Int32 → Option Int32
  | 0, _, _, _ => none
  | fu + 1, σ, i1, i2 =>
    if i2 = 0 then
      some i1
    else
      nm (i1 + (1 : Int32)) fun v2 =>
      nm (i2 &&& (i2 - (1 : Int32))) fun v3 =>
      fM_ones_4 fu σ v2 v3
def fM_ones (σ : St) (i0 : Int32) : Option Int32 :=
  fM_ones_4 300 σ (0 : Int32) i0
def fM_clean (σ : St) (i1 : Int32) : Option (Int32 × St) :=
  if (fM_isCoin σ i1) = 0 then
    some ((-1 : Int32), σ)
  else
    (fM_its σ i1 (3 : Int32)).bind fun q2 =>
    (fM_ones σ q2).bind fun q4 =>
    nm (q4 - (1 : Int32)) fun v6 =>
    (fM_its σ i1 (2 : Int32)).bind fun q7 =>
    if ib (((4 : Int32) * i1) + (3 : Int32)) 24 = true then
      nm (sI σ 48 (ix (((4 : Int32) * i1) + (3 : Int32))) ((1 : Int32) <<< (q7 &&& 31))) fun σ10 =>
      some (v6, σ10)
    else none
def fM_may (σ : St) (i1 : Int32) (i2 : Int32) : Option Int32 :=
  if (fM_isCoin σ i1) = 0 then
    some (-1 : Int32)
  else
    if (fM_isPerson σ i2) = 0 then
      some (-1 : Int32)
    else
      (fM_mayNow σ i1 i2).bind fun q3 =>
      some (if q3 = 0 then (0 : Int32) else (1 : Int32))
def fM_everybody (σ : St) : Int32 :=
  (((1 : Int32) <<< ((gI σ 44 0) &&& 31)) - (1 : Int32))
def fM_goes_14 : Nat → St → Int32 → Option St
  | 0, _, _ => none
  | fu + 1, σ, i2 =>
    if ((4 : Int32) * (gI σ 44 4)) ≤ i2 then
      some σ
    else
      if ib (i2 + (4 : Int32)) 24 = true then
        if ib i2 24 = true then
          nm (sI σ 48 (ix i2) (gI σ 48 (ix (i2 + (4 : Int32))))) fun σ6 =>
          nm (i2 + (1 : Int32)) fun v7 =>
          fM_goes_14 fu σ6 v7
        else none
      else none
def fM_goes (σ : St) (i1 : Int32) : Option St :=
  nm (sI σ 44 4 ((gI σ 44 4) - (1 : Int32))) fun σ1 =>
  nm ((4 : Int32) * i1) fun v2 =>
  fM_goes_14 300 σ1 v2
def fM_gives (σ : St) (i1 : Int32) (i2 : Int32) : Option (Int32 × St) :=
  if ib (((4 : Int32) * i1) + (2 : Int32)) 24 = true then
    nm (sI σ 48 (ix (((4 : Int32) * i1) + (2 : Int32))) i2) fun σ2 =>
    if ib (((4 : Int32) * i1) + (3 : Int32)) 24 = true then
      if ib (((4 : Int32) * i1) + (3 : Int32)) 24 = true then
        nm (sI σ2 48 (ix (((4 : Int32) * i1) + (3 : Int32))) ((gI σ2 48 (ix (((4 : Int32) * i1) + (3 : Int32)))) ||| ((1 : Int32) <<< (i2 &&& 31)))) fun σ5 =>
        (fM_its σ5 i1 (3 : Int32)).bind fun q6 =>
        nm (if q6 = (fM_everybody σ5) then (1 : Int32) else (0 : Int32)) fun v8 =>
        if v8 = 0 then
          if b01 v8 then
            some (v8, σ5)
          else none
        else
          if ib i2 7 = true then
            (fM_worth σ5 i1).bind fun q12 =>
            if ib i2 7 = true then
              nm (sI σ5 46 (ix i2) ((gI σ5 46 (ix i2)) + q12)) fun σ15 =>
              (fM_goes σ15 i1).bind fun σ17 =>
              if b01 v8 then
                some (v8, σ17)
              else none
            else none
          else none
      else none
    else none
  else none
def fM_give (σ : St) (i1 : Int32) (i2 : Int32) : Option (Int32 × St) :=
  if (fM_isCoin σ i1) = 0 then
    some ((-1 : Int32), σ)
  else
    if (fM_isPerson σ i2) = 0 then
      some ((-1 : Int32), σ)
    else
      (fM_mayNow σ i1 i2).bind fun q3 =>
      if q3 = 0 then
        some ((-4 : Int32), σ)
      else
        bi (fM_gives σ i1 i2) fun q7 σ7 =>
        some ((if q7 = 0 then (1 : Int32) else (2 : Int32)), σ7)
def fM_lot_82 (σ : St) (i1 : Int32) (i4 : Int32) : Option (Int32 × St) :=
  bi (fM_gives σ i1 i4) fun q16 σ16 =>
  some ((if q16 = 0 then i4 else (10 : Int32) + i4), σ16)
def fM_lot_54 : Nat → St → Int32 → Int32 → Int32 → Int32 → Option (Int32 × St)
  | 0, _, _, _, _, _ => none
  | fu + 1, σ, i1, i2, i3, i4 =>
    nm (fun (σ10 : St) (ji1 : Int32) (ji2 : Int32) (ji3 : Int32) (ji4 : Int32) =>
      nm (ji3 - ((ji2 >>> (ji4 &&& 31)) &&& (1 : Int32))) fun v11 =>
      nm (ji4 + (1 : Int32)) fun v12 =>
      fM_lot_54 fu σ10 ji1 ji2 v11 v12) fun J67 =>
    if (fM_has i2 i4) = 0 then
      J67 σ i1 i2 i3 i4
    else
      if i3 ≤ 0 then
        fM_lot_82 σ i1 i4
      else
        J67 σ i1 i2 i3 i4
def fM_lot (σ : St) (i1 : Int32) : Option (Int32 × St) :=
  if (fM_isCoin σ i1) = 0 then
    some ((-1 : Int32), σ)
  else
    (fM_mayAll σ i1).bind fun q2 =>
    if q2 = 0 then
      some ((-3 : Int32), σ)
    else
      nm (sI σ 44 6 (((gI σ 44 6) * (1103515245 : Int32)) + (12345 : Int32))) fun σ5 =>
      (fM_ones σ5 q2).bind fun q6 =>
      if ¬ (q6 = 0) then
        nm ((ush (gI σ5 44 6) (16 : Int32)) - (ush (gI σ5 44 6) (16 : Int32)) / q6 * q6) fun v9 =>
        fM_lot_54 300 σ5 i1 q2 v9 (0 : Int32)
      else none
def fM_firstFree_24 (σ : St) (i1 : Int32) : Option Int32 :=
  some (if (gI σ 44 4) ≤ i1 then (-1 : Int32) else i1)
def fM_firstFree_2 : Nat → St → Int32 → Option Int32
  | 0, _, _ => none
  | fu + 1, σ, i1 =>
    if (gI σ 44 4) ≤ i1 then
      fM_firstFree_24 σ i1
    else
      (fM_mayAll σ i1).bind fun q3 =>
      if q3 = 0 then
        nm (i1 + (1 : Int32)) fun v6 =>
        fM_firstFree_2 fu σ v6
      else
        fM_firstFree_24 σ i1
def fM_firstFree (σ : St) : Option Int32 :=
  fM_firstFree_2 300 σ (0 : Int32)
def fM_lots_27 : Nat → St → Int32 → Int32 → Int32 → Option (Int32 × St)
  | 0, _, _, _, _ => none
  | fu + 1, σ, i1, i2, i3 =>
    if i3 < 0 then
      some (i2, σ)
    else
      bi (fM_lot σ i3) fun q5 σ5 =>
      nm (i2 + (1 : Int32)) fun v6 =>
      if i1 ≤ v6 then
        fM_lots_27 fu σ5 i1 v6 (-1 : Int32)
      else
        (fM_firstFree σ5).bind fun q8 =>
        fM_lots_27 fu σ5 i1 v6 q8
def fM_lots_26 (σ : St) (i1 : Int32) (i2 : Int32) (is0 : Int32) : Option (Int32 × St) :=
  fM_lots_27 300 σ i1 i2 is0
def fM_lots (σ : St) (i1 : Int32) : Option (Int32 × St) :=
  if (fM_in i1 (0 : Int32) (20 : Int32)) = 0 then
    some ((-1 : Int32), σ)
  else
    if i1 ≤ 0 then
      fM_lots_26 σ i1 (0 : Int32) (-1 : Int32)
    else
      (fM_firstFree σ).bind fun q10 =>
      fM_lots_26 σ i1 (0 : Int32) q10
def fM_melt (σ : St) (i1 : Int32) : Option (Int32 × St) :=
  if (fM_isCoin σ i1) = 0 then
    some ((-1 : Int32), σ)
  else
    (fM_its σ i1 (2 : Int32)).bind fun q2 =>
    if ib q2 7 = true then
      (fM_worth σ i1).bind fun q5 =>
      if ib q2 7 = true then
        nm (sI σ 46 (ix q2) ((gI σ 46 (ix q2)) + (q5 / (2 : Int32)))) fun σ8 =>
        (fM_goes σ8 i1).bind fun σ10 =>
        if ib q2 7 = true then
          some (gI σ10 46 (ix q2), σ10)
        else none
      else none
    else none
def fM_findOne_71 : Nat → St → Int32 → Int32 → Int32 → Int32 → Int32 → Option St
  | 0, _, _, _, _, _, _ => none
  | fu + 1, σ, i1, i2, i3, i4, i6 =>
    if (gI σ 44 0) ≤ i6 then
      some σ
    else
      (fM_mayBe σ i1 i2 i3 i6).bind fun q10 =>
      if q10 = 0 then
        nm (i6 + (1 : Int32)) fun v13 =>
        fM_findOne_71 fu σ i1 i2 i3 i4 v13
      else
        nm (((128 : Int32) * i6) + (i3 ||| ((1 : Int32) <<< (i6 &&& 31)))) fun v14 =>
        if ib v14 896 = true then
          if ib i4 896 = true then
            nm (fun (σ17 : St) (ji1 : Int32) (ji2 : Int32) (ji3 : Int32) (ji4 : Int32) (ji6 : Int32) (ji7 : Int32) (jis0 : Int32) (jis1 : Int32) =>
              if ib jis1 896 = true then
                nm (sI σ17 53 (ix jis1) jis0) fun σ19 =>
                if ib ji4 896 = true then
                  if ib ji7 896 = true then
                    if ib ji4 896 = true then
                      nm (sI σ19 54 (ix ji4) ((gI σ19 54 (ix ji4)) + (gI σ19 54 (ix ji7)))) fun σ23 =>
                      if ib ji4 896 = true then
                        if ib ji7 896 = true then
                          if ib ji4 896 = true then
                            nm (sI σ23 55 (ix ji4) ((gI σ23 55 (ix ji4)) ||| (gI σ23 55 (ix ji7)))) fun σ27 =>
                            nm (ji6 + (1 : Int32)) fun v28 =>
                            fM_findOne_71 fu σ27 ji1 ji2 ji3 ji4 v28
                          else none
                        else none
                      else none
                    else none
                  else none
                else none
              else none) fun J151 =>
            if ((gI σ 53 (ix v14)) + (1 : Int32)) ≤ (gI σ 53 (ix i4)) then
              if ib i4 896 = true then
                J151 σ i1 i2 i3 i4 i6 v14 (gI σ 53 (ix i4)) i4
              else none
            else
              if ib v14 896 = true then
                J151 σ i1 i2 i3 i4 i6 v14 ((gI σ 53 (ix v14)) + (1 : Int32)) i4
              else none
          else none
        else none
def fM_findOne (σ : St) (i1 : Int32) (i2 : Int32) (i3 : Int32) : Option St :=
  nm (((128 : Int32) * i2) + i3) fun v1 =>
  nm (if i3 = (fM_everybody σ) then (1 : Int32) else (0 : Int32)) fun v2 =>
  if ib v1 896 = true then
    nm (sI σ 53 (ix v1) (0 : Int32)) fun σ4 =>
    if ib v1 896 = true then
      nm (sI σ4 54 (ix v1) (if v2 = 0 then (0 : Int32) else (1 : Int32))) fun σ6 =>
      if ib v1 896 = true then
        nm (sI σ6 55 (ix v1) (if v2 = 0 then (0 : Int32) else (1 : Int32) <<< (i2 &&& 31))) fun σ8 =>
        fM_findOne_71 300 σ8 i1 i2 i3 v1 (0 : Int32)
      else none
    else none
  else none
def fM_findAll_11 : Nat → St → Int32 → Int32 → Int32 → (St → Int32 → Int32 → Option St) → Option St
  | 0, _, _, _, _, _ => none
  | fu + 1, σ, i1, i2, i3, K0 =>
    if (gI σ 44 0) ≤ i3 then
      K0 σ i1 i2
    else
      if (fM_has i2 i3) = 0 then
        nm (i3 + (1 : Int32)) fun v5 =>
        fM_findAll_11 fu σ i1 i2 v5 K0
      else
        (fM_findOne σ i1 i3 i2).bind fun σ7 =>
        nm (i3 + (1 : Int32)) fun v8 =>
        fM_findAll_11 fu σ7 i1 i2 v8 K0
def fM_findAll_5 : Nat → St → Int32 → Int32 → Option St
  | 0, _, _, _ => none
  | fu + 1, σ, i1, i2 =>
    if i2 ≤ 0 then
      some σ
    else
      fM_findAll_11 300 σ i1 i2 (0 : Int32)
        (fun σ9 y10 y11 =>
          nm (y11 + (-1 : Int32)) fun v12 =>
          fM_findAll_5 fu σ9 y10 v12)
def fM_findAll (σ : St) (i1 : Int32) : Option St :=
  nm (fM_everybody σ) fun v1 =>
  fM_findAll_5 300 σ i1 v1
def fM_placeOf (σ : St) (i1 : Int32) : Option Int32 :=
  (fM_its σ i1 (2 : Int32)).bind fun q1 =>
  (fM_its σ i1 (3 : Int32)).bind fun q3 =>
  some (((128 : Int32) * q1) + q3)
def fM_leftOf (σ : St) (i1 : Int32) : Option (Int32 × St) :=
  (fM_its σ i1 (0 : Int32)).bind fun q1 =>
  (fM_findAll σ q1).bind fun σ4 =>
  (fM_placeOf σ4 i1).bind fun q5 =>
  if ib q5 896 = true then
    some (gI σ4 53 (ix q5), σ4)
  else none
def fM_left (σ : St) (i1 : Int32) : Option (Int32 × St) :=
  if (fM_isCoin σ i1) = 0 then
    some ((-1 : Int32), σ)
  else
    bi (fM_leftOf σ i1) fun q3 σ3 =>
    some (q3, σ3)
def fM_through (σ : St) (i1 : Int32) : Option (Int32 × St) :=
  if (fM_isCoin σ i1) = 0 then
    some ((-1 : Int32), σ)
  else
    (fM_its σ i1 (0 : Int32)).bind fun q2 =>
    (fM_findAll σ q2).bind fun σ5 =>
    (fM_placeOf σ5 i1).bind fun q6 =>
    if ib q6 896 = true then
      some ((if (gI σ5 54 (ix q6)) ≤ 0 then (0 : Int32) else (1 : Int32)), σ5)
    else none
def fM_ways (σ : St) (i1 : Int32) : Option (Int32 × St) :=
  if (fM_isCoin σ i1) = 0 then
    some ((-1 : Int32), σ)
  else
    (fM_its σ i1 (0 : Int32)).bind fun q2 =>
    (fM_findAll σ q2).bind fun σ5 =>
    (fM_placeOf σ5 i1).bind fun q6 =>
    if ib q6 896 = true then
      some (gI σ5 54 (ix q6), σ5)
    else none
def fM_last (σ : St) (i1 : Int32) : Option (Int32 × St) :=
  if (fM_isCoin σ i1) = 0 then
    some ((-1 : Int32), σ)
  else
    (fM_its σ i1 (0 : Int32)).bind fun q2 =>
    (fM_findAll σ q2).bind fun σ5 =>
    (fM_placeOf σ5 i1).bind fun q6 =>
    if ib q6 896 = true then
      some (gI σ5 55 (ix q6), σ5)
    else none
def fM_findRow_36 : Nat → St → Int32 → Int32 → Int32 → Int32 → Int32 → (St → Int32 → Int32 → Int32 → Int32 → Int32 → Option St) → Option St
  | 0, _, _, _, _, _, _, _ => none
  | fu + 1, σ, i1, i2, i3, i4, i5, K0 =>
    (fM_its σ i1 (0 : Int32)).bind fun q10 =>
    (fM_mayBe σ q10 i3 i4 i5).bind fun q12 =>
    if q12 = 0 then
      nm (i5 + (1 : Int32)) fun v15 =>
      fM_findRow_36 fu σ i1 i2 i3 i4 v15 K0
    else
      if ib (((128 : Int32) * i5) + (i4 ||| ((1 : Int32) <<< (i5 &&& 31)))) 896 = true then
        if (gI σ 53 (ix (((128 : Int32) * i5) + (i4 ||| ((1 : Int32) <<< (i5 &&& 31)))))) = i2 then
          K0 σ i1 i2 i3 i4 i5
        else
          nm (i5 + (1 : Int32)) fun v18 =>
          fM_findRow_36 fu σ i1 i2 i3 i4 v18 K0
      else none
def fM_findRow_26 : Nat → St → Int32 → Int32 → Int32 → Int32 → Option St
  | 0, _, _, _, _, _ => none
  | fu + 1, σ, i1, i2, i3, i4 =>
    if i2 ≤ 0 then
      some σ
    else
      nm (i2 + (-1 : Int32)) fun v9 =>
      fM_findRow_36 300 σ i1 v9 i3 i4 (0 : Int32)
        (fun σ19 y20 y21 y22 y23 y24 =>
          if ib ((3 : Int32) * (gI σ19 44 24)) 21 = true then
            nm (sI σ19 56 (ix ((3 : Int32) * (gI σ19 44 24))) y22) fun σ26 =>
            if ib (((3 : Int32) * (gI σ26 44 24)) + (1 : Int32)) 21 = true then
              nm (sI σ26 56 (ix (((3 : Int32) * (gI σ26 44 24)) + (1 : Int32))) y24) fun σ28 =>
              if ib (((3 : Int32) * (gI σ28 44 24)) + (2 : Int32)) 21 = true then
                nm (sI σ28 56 (ix (((3 : Int32) * (gI σ28 44 24)) + (2 : Int32))) y21) fun σ30 =>
                nm (sI σ30 44 24 ((gI σ30 44 24) + (1 : Int32))) fun σ31 =>
                nm (y23 ||| ((1 : Int32) <<< (y24 &&& 31))) fun v32 =>
                fM_findRow_26 fu σ31 y20 y21 y24 v32
              else none
            else none
          else none)
def fM_findRow (σ : St) (i1 : Int32) : Option St :=
  bi (fM_leftOf σ i1) fun q2 σ2 =>
  (fM_its σ2 i1 (2 : Int32)).bind fun q3 =>
  (fM_its σ2 i1 (3 : Int32)).bind fun q5 =>
  nm (sI σ2 44 24 (0 : Int32)) fun σ7 =>
  fM_findRow_26 300 σ7 i1 q2 q3 q5
def fM_row (σ : St) (i1 : Int32) (i2 : Int32) : Option (Int32 × St) :=
  if (fM_isCoin σ i1) = 0 then
    some ((-1 : Int32), σ)
  else
    if 0 ≤ i2 then
      (fM_findRow σ i1).bind fun σ4 =>
      if (gI σ4 44 24) ≤ i2 then
        some ((-3 : Int32), σ4)
      else
        if ib (((3 : Int32) * i2) + (1 : Int32)) 21 = true then
          some (gI σ4 56 (ix (((3 : Int32) * i2) + (1 : Int32))), σ4)
        else none
    else
      some ((-1 : Int32), σ)
def fM_stuck_4 : Nat → St → Int32 → Int32 → Option Int32
  | 0, _, _, _ => none
  | fu + 1, σ, i1, i2 =>
    if (gI σ 44 4) ≤ i2 then
      some i1
    else
      (fM_mayAll σ i2).bind fun q2 =>
      nm (i1 ||| (if q2 = 0 then (1 : Int32) <<< (i2 &&& 31) else (0 : Int32))) fun v4 =>
      nm (i2 + (1 : Int32)) fun v5 =>
      fM_stuck_4 fu σ v4 v5
def fM_stuck (σ : St) : Option Int32 :=
  fM_stuck_4 300 σ (0 : Int32) (0 : Int32)
def fM_best_62 : Nat → St → Int32 → Int32 → Int32 → Int32 → Int32 → Int32 → (St → Int32 → Int32 → Int32 → Int32 → Int32 → Option (Int32 × St)) → Option (Int32 × St)
  | 0, _, _, _, _, _, _, _, _ => none
  | fu + 1, σ, i1, i2, i3, i4, i5, i6, K0 =>
    if (gI σ 44 0) ≤ i6 then
      K0 σ i1 i2 i3 i4 i5
    else
      (fM_mayNow σ i5 i6).bind fun q13 =>
      nm (fun (σ15 : St) (ji1 : Int32) (ji2 : Int32) (ji3 : Int32) (ji4 : Int32) (ji5 : Int32) (ji6 : Int32) (jis0 : Int32) =>
        if jis0 ≤ ji4 then
          nm (ji6 + (1 : Int32)) fun v17 =>
          fM_best_62 fu σ15 ji1 ji2 ji3 ji4 ji5 v17 K0
        else
          nm (if ji2 = 0 then ji5 else (if ji2 = (1 : Int32) then ji6 else jis0)) fun v18 =>
          nm (ji6 + (1 : Int32)) fun v19 =>
          fM_best_62 fu σ15 ji1 ji2 v18 jis0 ji5 v19 K0) fun J110 =>
      if q13 = 0 then
        J110 σ i1 i2 i3 i4 i5 i6 (-1 : Int32)
      else
        (fM_its σ i5 (3 : Int32)).bind fun q23 =>
        if ib (((128 : Int32) * i6) + (q23 ||| ((1 : Int32) <<< (i6 &&& 31)))) 896 = true then
          J110 σ i1 i2 i3 i4 i5 i6 (gI σ 53 (ix (((128 : Int32) * i6) + (q23 ||| ((1 : Int32) <<< (i6 &&& 31))))))
        else none
def fM_best_28 : Nat → St → Int32 → Int32 → Int32 → Int32 → Int32 → Option (Int32 × St)
  | 0, _, _, _, _, _, _ => none
  | fu + 1, σ, i1, i2, i3, i4, i5 =>
    if (gI σ 44 4) ≤ i5 then
      some (i3, σ)
    else
      (fM_its σ i5 (2 : Int32)).bind fun q4 =>
      if q4 = i1 then
        (fM_its σ i5 (0 : Int32)).bind fun q8 =>
        (fM_findAll σ q8).bind fun σ11 =>
        fM_best_62 300 σ11 i1 i2 i3 i4 i5 (0 : Int32)
          (fun σ26 y27 y28 y29 y30 y31 =>
            nm (y31 + (1 : Int32)) fun v32 =>
            fM_best_28 fu σ26 y27 y28 y29 y30 v32)
      else
        nm (i5 + (1 : Int32)) fun v7 =>
        fM_best_28 fu σ i1 i2 i3 i4 v7
def fM_best (σ : St) (i1 : Int32) (i2 : Int32) : Option (Int32 × St) :=
  if (fM_isPerson σ i1) = 0 then
    some ((-1 : Int32), σ)
  else
    if (fM_in i2 (0 : Int32) (2 : Int32)) = 0 then
      some ((-1 : Int32), σ)
    else
      fM_best_28 300 σ i1 i2 (-3 : Int32) (-1 : Int32) (0 : Int32)
def fM_given_5 : Nat → St → Int32 → Int32 → Int32 → Int32 → Option Int32
  | 0, _, _, _, _, _ => none
  | fu + 1, σ, i1, i2, i3, i4 =>
    if (gI σ 44 4) ≤ i4 then
      some i3
    else
      (fM_its σ i4 (2 : Int32)).bind fun q2 =>
      if q2 = i1 then
        (fM_mayNow σ i4 i2).bind fun q7 =>
        nm (i3 ||| (if q7 = 0 then (0 : Int32) else (1 : Int32) <<< (i4 &&& 31))) fun v9 =>
        nm (i4 + (1 : Int32)) fun v10 =>
        fM_given_5 fu σ i1 i2 v9 v10
      else
        nm (i3 ||| (0 : Int32)) fun v5 =>
        nm (i4 + (1 : Int32)) fun v6 =>
        fM_given_5 fu σ i1 i2 v5 v6
def fM_given (σ : St) (i1 : Int32) (i2 : Int32) : Option Int32 :=
  fM_given_5 300 σ i1 i2 (0 : Int32) (0 : Int32)
def fM_paid_49 : Nat → St → Int32 → Int32 → Int32 → Int32 → Option Int32
  | 0, _, _, _, _, _ => none
  | fu + 1, σ, i3, i4, i5, i6 =>
    if ((1 : Int32) <<< ((gI σ 44 4) &&& 31)) ≤ i6 then
      some i5
    else
      if (i6 &&& (i4 ^^^ (-1 : Int32))) = 0 then
        (fM_worthOf σ i6).bind fun q10 =>
        if q10 = i3 then
          if i5 < 0 then
            nm (i6 + (1 : Int32)) fun v15 =>
            fM_paid_49 fu σ i3 i4 i6 v15
          else
            (fM_ones σ i6).bind fun q16 =>
            (fM_ones σ i5).bind fun q18 =>
            if q18 ≤ q16 then
              nm (i6 + (1 : Int32)) fun v21 =>
              fM_paid_49 fu σ i3 i4 i5 v21
            else
              nm (i6 + (1 : Int32)) fun v22 =>
              fM_paid_49 fu σ i3 i4 i6 v22
        else
          nm (i6 + (1 : Int32)) fun v13 =>
          fM_paid_49 fu σ i3 i4 i5 v13
      else
        nm (i6 + (1 : Int32)) fun v9 =>
        fM_paid_49 fu σ i3 i4 i5 v9
def fM_paid (σ : St) (i1 : Int32) (i2 : Int32) (i3 : Int32) : Option Int32 :=
  if (fM_isPerson σ i1) = 0 then
    some (-1 : Int32)
  else
    if (fM_isPerson σ i2) = 0 then
      some (-1 : Int32)
    else
      if i1 = i2 then
        some (-1 : Int32)
      else
        if (fM_in i3 (0 : Int32) (999 : Int32)) = 0 then
          some (-1 : Int32)
        else
          (fM_given σ i1 i2).bind fun q5 =>
          fM_paid_49 300 σ i3 q5 (-3 : Int32) (0 : Int32)
def fM_friend_37 : Nat → St → Int32 → Int32 → Int32 → Int32 → Int32 → (St → Int32 → Int32 → Int32 → Int32 → Option (Int32 × St)) → Option (Int32 × St)
  | 0, _, _, _, _, _, _, _ => none
  | fu + 1, σ, i1, i2, i3, i4, i5, K0 =>
    if (gI σ 44 0) ≤ i5 then
      K0 σ i1 i2 i3 i4
    else
      if ib i4 7 = true then
        if (fM_has (gI σ 47 (ix i4)) i5) = 0 then
          (fM_swapsKnow σ i4 i5).bind fun σ11 =>
          bi (fM_leftOf σ11 i1) fun q13 σ13 =>
          (fM_swapsKnow σ13 i4 i5).bind fun σ15 =>
          nm (if q13 ≤ i2 then i3 else ((10 : Int32) * i4) + i5) fun v16 =>
          nm (if q13 ≤ i2 then i2 else q13) fun v17 =>
          nm (i5 + (1 : Int32)) fun v18 =>
          fM_friend_37 fu σ15 i1 v17 v16 i4 v18 K0
        else
          nm (i5 + (1 : Int32)) fun v9 =>
          fM_friend_37 fu σ i1 i2 i3 i4 v9 K0
      else none
def fM_friend_22 : Nat → St → Int32 → Int32 → Int32 → Int32 → Option (Int32 × St)
  | 0, _, _, _, _, _ => none
  | fu + 1, σ, i1, i2, i3, i4 =>
    if (gI σ 44 0) ≤ i4 then
      some (i3, σ)
    else
      nm (i4 + (1 : Int32)) fun v5 =>
      fM_friend_37 300 σ i1 i2 i3 i4 v5
        (fun σ21 y22 y23 y24 y25 =>
          nm (y25 + (1 : Int32)) fun v26 =>
          fM_friend_22 fu σ21 y22 y23 y24 v26)
def fM_friend (σ : St) (i1 : Int32) : Option (Int32 × St) :=
  if (fM_isCoin σ i1) = 0 then
    some ((-1 : Int32), σ)
  else
    bi (fM_leftOf σ i1) fun q3 σ3 =>
    fM_friend_22 300 σ3 i1 q3 (-3 : Int32) (0 : Int32)
def fM_isSide (i0 : Int32) : Int32 :=
  (fM_in i0 (0 : Int32) (1 : Int32))
def fM_heir_77 (σ : St) (i2 : Int32) (i3 : Int32) (i4 : Int32) : Option Int32 :=
  some (if i3 < 0 then i3 else (if i2 = 0 then i3 else i4))
def fM_heir_26 : Nat → St → Int32 → Int32 → Int32 → Int32 → Int32 → Option Int32
  | 0, _, _, _, _, _, _ => none
  | fu + 1, σ, i1, i2, i3, i4, i5 =>
    if (gI σ 44 0) ≤ i5 then
      fM_heir_77 σ i2 i3 i4
    else
      (fM_given σ i1 i5).bind fun q6 =>
      if q6 = 0 then
        nm (i5 + (1 : Int32)) fun v9 =>
        fM_heir_26 fu σ i1 i2 i3 i4 v9
      else
        (fM_worthOf σ q6).bind fun q10 =>
        if q10 ≤ i4 then
          nm (i5 + (1 : Int32)) fun v13 =>
          fM_heir_26 fu σ i1 i2 i3 i4 v13
        else
          (fM_worthOf σ q6).bind fun q14 =>
          nm (i5 + (1 : Int32)) fun v16 =>
          fM_heir_26 fu σ i1 i2 i5 q14 v16
def fM_heir (σ : St) (i1 : Int32) (i2 : Int32) : Option Int32 :=
  if (fM_isPerson σ i1) = 0 then
    some (-1 : Int32)
  else
    if (fM_isSide i2) = 0 then
      some (-1 : Int32)
    else
      fM_heir_26 300 σ i1 i2 (-3 : Int32) (-1 : Int32) (0 : Int32)
def fM_least_7 : Nat → St → Int32 → Int32 → Int32 → Option (Int32 × St)
  | 0, _, _, _, _ => none
  | fu + 1, σ, i1, i2, i3 =>
    if (gI σ 44 4) ≤ i3 then
      some (i1, σ)
    else
      bi (fM_leftOf σ i3) fun q3 σ3 =>
      if i1 < 0 then
        nm (i3 + (1 : Int32)) fun v5 =>
        fM_least_7 fu σ3 i3 q3 v5
      else
        if i2 ≤ q3 then
          nm (i3 + (1 : Int32)) fun v7 =>
          fM_least_7 fu σ3 i1 i2 v7
        else
          nm (i3 + (1 : Int32)) fun v8 =>
          fM_least_7 fu σ3 i3 q3 v8
def fM_least (σ : St) : Option (Int32 × St) :=
  fM_least_7 300 σ (-3 : Int32) (0 : Int32) (0 : Int32)
def fM_all_47 : Nat → St → Int32 → Int32 → Option (Int32 × St)
  | 0, _, _, _ => none
  | fu + 1, σ, i2, i3 =>
    if (gI σ 44 0) ≤ i3 then
      some (i2, σ)
    else
      if ib i3 7 = true then
        nm (i2 + (gI σ 46 (ix i3))) fun v7 =>
        nm (i3 + (1 : Int32)) fun v8 =>
        fM_all_47 fu σ v7 v8
      else none
def fM_all_74 : Nat → St → Int32 → Int32 → Option (Int32 × St)
  | 0, _, _, _ => none
  | fu + 1, σ, i2, i3 =>
    if (gI σ 44 0) ≤ i3 then
      some (i2 / (2 : Int32), σ)
    else
      if ib i3 7 = true then
        (fM_ones σ (gI σ 47 (ix i3))).bind fun q12 =>
        nm (i2 + q12) fun v14 =>
        nm (i3 + (1 : Int32)) fun v15 =>
        fM_all_74 fu σ v14 v15
      else none
def fM_all_106 : Nat → St → Int32 → Int32 → Option (Int32 × St)
  | 0, _, _, _ => none
  | fu + 1, σ, i2, i3 =>
    if (gI σ 44 4) ≤ i3 then
      some (i2, σ)
    else
      bi (fM_leftOf σ i3) fun q19 σ19 =>
      nm (i2 + q19) fun v20 =>
      nm (i3 + (1 : Int32)) fun v21 =>
      fM_all_106 fu σ19 v20 v21
def fM_all (σ : St) (i1 : Int32) : Option (Int32 × St) :=
  if i1 = (0 : Int32) then
    (fM_worthOf σ (((1 : Int32) <<< ((gI σ 44 4) &&& 31)) - (1 : Int32))).bind fun q2 =>
    some (q2, σ)
  else
    if i1 = (1 : Int32) then
      fM_all_47 300 σ (0 : Int32) (0 : Int32)
    else
      if i1 = (2 : Int32) then
        fM_all_74 300 σ (0 : Int32) (0 : Int32)
      else
        if i1 = (3 : Int32) then
          fM_all_106 300 σ (0 : Int32) (0 : Int32)
        else
          some ((-1 : Int32), σ)
def fM_seed (σ : St) (i1 : Int32) : Option (Int32 × St) :=
  nm (gI σ 44 6) fun v1 =>
  nm (sI σ 44 6 i1) fun σ2 =>
  some (v1, σ2)
def fM_prove_25 : Nat → St → Int32 → Option (Int32 × St)
  | 0, _, _ => none
  | fu + 1, σ, i2 =>
    if ((3 : Int32) * (gI σ 44 26)) ≤ i2 then
      some (gI σ 44 26, σ)
    else
      if ib i2 21 = true then
        if ib i2 21 = true then
          nm (sI σ 57 (ix i2) (gI σ 56 (ix i2))) fun σ8 =>
          nm (i2 + (1 : Int32)) fun v9 =>
          fM_prove_25 fu σ8 v9
        else none
      else none
def fM_prove (σ : St) (i1 : Int32) : Option (Int32 × St) :=
  if (fM_isCoin σ i1) = 0 then
    some ((-1 : Int32), σ)
  else
    (fM_findRow σ i1).bind fun σ3 =>
    nm (sI σ3 44 26 (gI σ3 44 24)) fun σ4 =>
    fM_prove_25 300 σ4 (0 : Int32)
def fM_isRow (σ : St) (i1 : Int32) (i2 : Int32) : Int32 :=
  (if (fM_in i1 (0 : Int32) ((gI σ 44 26) - (1 : Int32))) = 0 then (0 : Int32) else (if (fM_in i2 (0 : Int32) (2 : Int32)) = 0 then (0 : Int32) else (1 : Int32)))
def fM_rowOf (σ : St) (i1 : Int32) (i2 : Int32) : Option Int32 :=
  if (fM_isRow σ i1 i2) = 0 then
    some (-9 : Int32)
  else
    if ib (((3 : Int32) * i1) + i2) 21 = true then
      some (gI σ 57 (ix (((3 : Int32) * i1) + i2)))
    else none
def fM_alterRow (σ : St) (i1 : Int32) (i2 : Int32) (i3 : Int32) : Option (Int32 × St) :=
  if (fM_isRow σ i1 i2) = 0 then
    some ((-9 : Int32), σ)
  else
    if ib (((3 : Int32) * i1) + i2) 21 = true then
      nm (gI σ 57 (ix (((3 : Int32) * i1) + i2))) fun v3 =>
      if ib (((3 : Int32) * i1) + i2) 21 = true then
        nm (sI σ 57 (ix (((3 : Int32) * i1) + i2)) i3) fun σ5 =>
        some (v3, σ5)
      else none
    else none
def fM_judge_180 (σ : St) (i2 : Int32) (i3 : Int32) : Option (Int32 × St) :=
  if ib (((128 : Int32) * i2) + i3) 896 = true then
    some ((if (gI σ 53 (ix (((128 : Int32) * i2) + i3))) ≤ 0 then (0 : Int32) else (222 : Int32)), σ)
  else none
def fM_judge_37 : Nat → St → Int32 → Int32 → Int32 → Int32 → Option (Int32 × St)
  | 0, _, _, _, _, _ => none
  | fu + 1, σ, i1, i2, i3, i4 =>
    if (gI σ 44 26) ≤ i4 then
      fM_judge_180 σ i2 i3
    else
      if ib (((3 : Int32) * i4) + (1 : Int32)) 21 = true then
        nm (gI σ 57 (ix (((3 : Int32) * i4) + (1 : Int32)))) fun v14 =>
        if ib ((3 : Int32) * i4) 21 = true then
          nm (fun (σ16 : St) (ji1 : Int32) (ji3 : Int32) (ji4 : Int32) (ji5 : Int32) =>
            nm (ji3 ||| (if (0 : Int32) = 0 then (0 : Int32) else (1 : Int32) <<< (ji5 &&& 31))) fun v17 =>
            if (0 : Int32) = 0 then
              some (ji4 + (1 : Int32), σ16)
            else
              if ib (((3 : Int32) * ji4) + (2 : Int32)) 21 = true then
                if ib (((128 : Int32) * ji5) + v17) 896 = true then
                  if (gI σ16 57 (ix (((3 : Int32) * ji4) + (2 : Int32)))) = (gI σ16 53 (ix (((128 : Int32) * ji5) + v17))) then
                    nm (ji4 + (1 : Int32)) fun v22 =>
                    fM_judge_37 fu σ16 ji1 ji5 v17 v22
                  else
                    some (ji4 + (1 : Int32), σ16)
                else none
              else none) fun J115 =>
          if (gI σ 57 (ix ((3 : Int32) * i4))) = i2 then
            nm (fun (σ25 : St) (ji1 : Int32) (ji3 : Int32) (ji4 : Int32) (ji5 : Int32) (jis0 : Int32) =>
              nm (ji3 ||| (if jis0 = 0 then (0 : Int32) else (1 : Int32) <<< (ji5 &&& 31))) fun v26 =>
              if jis0 = 0 then
                some (ji4 + (1 : Int32), σ25)
              else
                if ib (((3 : Int32) * ji4) + (2 : Int32)) 21 = true then
                  if ib (((128 : Int32) * ji5) + v26) 896 = true then
                    if (gI σ25 57 (ix (((3 : Int32) * ji4) + (2 : Int32)))) = (gI σ25 53 (ix (((128 : Int32) * ji5) + v26))) then
                      nm (ji4 + (1 : Int32)) fun v31 =>
                      fM_judge_37 fu σ25 ji1 ji5 v26 v31
                    else
                      some (ji4 + (1 : Int32), σ25)
                  else none
                else none) fun J116 =>
            if (fM_isPerson σ v14) = 0 then
              J115 σ i1 i3 i4 v14
            else
              (fM_its σ i1 (0 : Int32)).bind fun q34 =>
              (fM_mayBe σ q34 i2 i3 (if (fM_isPerson σ v14) = 0 then (0 : Int32) else v14)).bind fun q36 =>
              nm (if q36 = 0 then (0 : Int32) else (1 : Int32)) fun v38 =>
              nm (i3 ||| (if v38 = 0 then (0 : Int32) else (1 : Int32) <<< (v14 &&& 31))) fun v39 =>
              if v38 = 0 then
                some (i4 + (1 : Int32), σ)
              else
                if ib (((3 : Int32) * i4) + (2 : Int32)) 21 = true then
                  if ib (((128 : Int32) * v14) + v39) 896 = true then
                    if (gI σ 57 (ix (((3 : Int32) * i4) + (2 : Int32)))) = (gI σ 53 (ix (((128 : Int32) * v14) + v39))) then
                      nm (i4 + (1 : Int32)) fun v44 =>
                      fM_judge_37 fu σ i1 v14 v39 v44
                    else
                      some (i4 + (1 : Int32), σ)
                  else none
                else none
          else
            J115 σ i1 i3 i4 v14
        else none
      else none
def fM_judge (σ : St) (i1 : Int32) : Option (Int32 × St) :=
  if (fM_isCoin σ i1) = 0 then
    some ((-1 : Int32), σ)
  else
    (fM_its σ i1 (0 : Int32)).bind fun q2 =>
    (fM_findAll σ q2).bind fun σ5 =>
    (fM_its σ5 i1 (2 : Int32)).bind fun q6 =>
    (fM_its σ5 i1 (3 : Int32)).bind fun q8 =>
    fM_judge_37 300 σ5 i1 q6 q8 (0 : Int32)
def fM_isShelf (i0 : Int32) : Int32 :=
  (fM_in i0 (0 : Int32) (3 : Int32))
def fM_lacksSort (σ : St) (i1 : Int32) (i2 : Int32) : Option Int32 :=
  if ib i1 4 = true then
    if 0 ≤ (gI σ 58 (ix i1)) then
      if ib i1 4 = true then
        some (if (gI σ 58 (ix i1)) = i2 then (0 : Int32) else (-13 : Int32))
      else none
    else
      some (-11 : Int32)
  else none
def fM_ranks_78 : Nat → St → Int32 → Int32 → Int32 → Int32 → Int32 → Option (Int32 × St)
  | 0, _, _, _, _, _, _ => none
  | fu + 1, σ, i1, i2, i3, i4, i6 =>
    if i4 ≤ i6 then
      some (i4, σ)
    else
      if ib ((((40 : Int32) * i1) + i2) + i6) 160 = true then
        nm (gL σ 60 (ix ((((40 : Int32) * i1) + i2) + i6))) fun v13 =>
        if ib (i3 + i6) 7 = true then
          nm (sI σ 45 (ix (i3 + i6)) (if 0 ≤ (lg_cmp v13 (0 : Int64)) then (if (lg_cmp v13 (9 : Int64)) ≤ 0 then v13.toInt32 else (9 : Int32)) else (0 : Int32))) fun σ15 =>
          nm (i6 + (1 : Int32)) fun v16 =>
          fM_ranks_78 fu σ15 i1 i2 i3 i4 v16
        else none
      else none
def fM_ranks (σ : St) (i1 : Int32) (i2 : Int32) (i3 : Int32) (i4 : Int32) : Option (Int32 × St) :=
  if (fM_isShelf i1) = 0 then
    some ((-1 : Int32), σ)
  else
    if (fM_isPerson σ i3) = 0 then
      some ((-1 : Int32), σ)
    else
      if (fM_in i4 (0 : Int32) (7 : Int32)) = 0 then
        some ((-1 : Int32), σ)
      else
        if (i3 + i4) ≤ (gI σ 44 0) then
          (fM_lacksSort σ i1 (2 : Int32)).bind fun q5 =>
          if q5 = 0 then
            if i2 < 0 then
              some ((-12 : Int32), σ)
            else
              if ib i1 4 = true then
                if i2 ≤ ((gI σ 59 (ix i1)) - i4) then
                  fM_ranks_78 300 σ i1 i2 i3 i4 (0 : Int32)
                else
                  some ((-12 : Int32), σ)
              else none
          else
            some (q5, σ)
        else
          some ((-1 : Int32), σ)
def fM_sheet_64 : Nat → St → Int32 → Int32 → Option (Int32 × St)
  | 0, _, _, _ => none
  | fu + 1, σ, i1, i4 =>
    if (40 : Int32) ≤ i4 then
      some ((1 : Int32), σ)
    else
      if ib (((40 : Int32) * i1) + i4) 160 = true then
        nm (sL σ 60 (ix (((40 : Int32) * i1) + i4)) (0 : Int64)) fun σ11 =>
        nm (i4 + (1 : Int32)) fun v12 =>
        fM_sheet_64 fu σ11 i1 v12
      else none
def fM_sheet_39 (σ : St) (i1 : Int32) (i2 : Int32) (i3 : Int32) : Option (Int32 × St) :=
  if ib i1 4 = true then
    nm (sI σ 58 (ix i1) i2) fun σ6 =>
    if ib i1 4 = true then
      nm (sI σ6 59 (ix i1) (if 0 ≤ i2 then i3 else (0 : Int32))) fun σ8 =>
      fM_sheet_64 300 σ8 i1 (0 : Int32)
    else none
  else none
def fM_sheet_28 (σ : St) (i1 : Int32) (i2 : Int32) (i3 : Int32) : Option (Int32 × St) :=
  if i2 < 0 then
    fM_sheet_39 σ i1 i2 i3
  else
    if 0 ≤ i3 then
      fM_sheet_39 σ i1 i2 i3
    else
      some ((-14 : Int32), σ)
def fM_sheet (σ : St) (i1 : Int32) (i2 : Int32) (i3 : Int32) : Option (Int32 × St) :=
  if (fM_isShelf i1) = 0 then
    some ((-1 : Int32), σ)
  else
    if (fM_in i2 (-1 : Int32) (3 : Int32)) = 0 then
      some ((-1 : Int32), σ)
    else
      if i2 < 0 then
        fM_sheet_28 σ i1 i2 i3
      else
        if i3 ≤ (40 : Int32) then
          fM_sheet_28 σ i1 i2 i3
        else
          some ((-1 : Int32), σ)
def fM_put (σ : St) (i1 : Int32) (i2 : Int32) (i3 : Int32) : Option (Int32 × St) :=
  if (fM_isShelf i1) = 0 then
    some ((-1 : Int32), σ)
  else
    if ib i1 4 = true then
      if 0 ≤ (gI σ 58 (ix i1)) then
        if ib i1 4 = true then
          if (fM_in i2 (0 : Int32) ((gI σ 59 (ix i1)) - (1 : Int32))) = 0 then
            some ((-12 : Int32), σ)
          else
            if ib i1 4 = true then
              if (gI σ 58 (ix i1)) = 0 then
                if ib (((40 : Int32) * i1) + i2) 160 = true then
                  nm (sL σ 60 (ix (((40 : Int32) * i1) + i2)) i3.toInt8.toInt32.toInt64) fun σ15 =>
                  some ((1 : Int32), σ15)
                else none
              else
                if ib i1 4 = true then
                  if (gI σ 58 (ix i1)) = (1 : Int32) then
                    if ib (((40 : Int32) * i1) + i2) 160 = true then
                      nm (sL σ 60 (ix (((40 : Int32) * i1) + i2)) i3.toInt16.toInt32.toInt64) fun σ13 =>
                      some ((1 : Int32), σ13)
                    else none
                  else
                    if ib (((40 : Int32) * i1) + i2) 160 = true then
                      nm (sL σ 60 (ix (((40 : Int32) * i1) + i2)) i3.toInt64) fun σ11 =>
                      some ((1 : Int32), σ11)
                    else none
                else none
            else none
        else none
      else
        some ((-11 : Int32), σ)
    else none
def fM_item (σ : St) (i1 : Int32) (i2 : Int32) (i3 : Int32) : Option Int32 :=
  if (fM_isShelf i1) = 0 then
    some (-1 : Int32)
  else
    if (fM_in i2 (0 : Int32) (3 : Int32)) = 0 then
      some (-1 : Int32)
    else
      (fM_lacksSort σ i1 i2).bind fun q3 =>
      if q3 = 0 then
        if ib i1 4 = true then
          if (fM_in i3 (0 : Int32) ((gI σ 59 (ix i1)) - (1 : Int32))) = 0 then
            some (-12 : Int32)
          else
            if ib (((40 : Int32) * i1) + i3) 160 = true then
              some ((gL σ 60 (ix (((40 : Int32) * i1) + i3))).toInt32)
            else none
        else none
      else
        some q3
def fM_isHeld (σ : St) (i1 : Int32) (i2 : Int32) : Int32 :=
  (if i1 = 0 then fM_isCoin σ i2 else (if i1 = (1 : Int32) then fM_isShelf i2 else (if i1 = (2 : Int32) then (1 : Int32) else (0 : Int32))))
def fM_shelf_68 (σ : St) (i1 : Int32) (i2 : Int32) (i3 : Int32) (is0 : Int32) (is1 : Int32) : Option (Int32 × St) :=
  if ib is1 4 = true then
    nm (sI σ 62 (ix is1) is0) fun σ8 =>
    if i2 = (1 : Int32) then
      if ib i3 4 = true then
        if ib i1 4 = true then
          nm (sI σ8 63 (ix i1) (gI σ8 59 (ix i3))) fun σ14 =>
          some ((1 : Int32), σ14)
        else none
      else none
    else
      if ib i1 4 = true then
        nm (sI σ8 63 (ix i1) (0 : Int32)) fun σ11 =>
        some ((1 : Int32), σ11)
      else none
  else none
def fM_shelf_47 (σ : St) (i1 : Int32) (i2 : Int32) (i3 : Int32) (is0 : Int32) (is1 : Int32) : Option (Int32 × St) :=
  if ib is1 4 = true then
    nm (sI σ 61 (ix is1) is0) fun σ5 =>
    if i2 = (1 : Int32) then
      if ib i3 4 = true then
        fM_shelf_68 σ5 i1 i2 i3 (gI σ5 58 (ix i3)) i1
      else none
    else
      fM_shelf_68 σ5 i1 i2 i3 i3 i1
  else none
def fM_shelf_42 (σ : St) (i1 : Int32) (i2 : Int32) (i3 : Int32) (is0 : Int32) : Option (Int32 × St) :=
  fM_shelf_47 σ i1 i2 i3 (-1 : Int32) is0
def fM_shelf_46 (σ : St) (i1 : Int32) (i2 : Int32) (i3 : Int32) (is0 : Int32) : Option (Int32 × St) :=
  fM_shelf_47 σ i1 i2 i3 i2 is0
def fM_shelf (σ : St) (i1 : Int32) (i2 : Int32) (i3 : Int32) : Option (Int32 × St) :=
  if (fM_isShelf i1) = 0 then
    some ((-1 : Int32), σ)
  else
    if (fM_isHeld σ i2 i3) = 0 then
      some ((-1 : Int32), σ)
    else
      if i2 = (2 : Int32) then
        fM_shelf_42 σ i1 i2 i3 i1
      else
        if i2 = (1 : Int32) then
          if ib i3 4 = true then
            if ib i1 4 = true then
              nm (sI σ 61 (ix i1) (if 0 ≤ (gI σ 58 (ix i3)) then i2 else (-1 : Int32))) fun σ19 =>
              if i2 = (1 : Int32) then
                if ib i3 4 = true then
                  fM_shelf_68 σ19 i1 i2 i3 (gI σ19 58 (ix i3)) i1
                else none
              else
                fM_shelf_68 σ19 i1 i2 i3 i3 i1
            else none
          else none
        else
          fM_shelf_46 σ i1 i2 i3 i1
def fM_kindOn (σ : St) (i1 : Int32) : Option Int32 :=
  if ib i1 4 = true then
    if (gI σ 61 (ix i1)) = 0 then
      if ib i1 4 = true then
        if (fM_isCoin σ (gI σ 62 (ix i1))) = 0 then
          some (-1 : Int32)
        else
          if ib i1 4 = true then
            (fM_its σ (gI σ 62 (ix i1)) (0 : Int32)).bind fun q6 =>
            some q6
          else none
      else none
    else
      if ib i1 4 = true then
        some (if 0 ≤ (gI σ 61 (ix i1)) then (9 : Int32) else (-1 : Int32))
      else none
  else none
def fM_isUnder (i0 : Int32) (i1 : Int32) : Int32 :=
  (if i1 = 0 then (1 : Int32) else (if i1 = i0 then (1 : Int32) else (if i1 = (1 : Int32) then (if i0 = (3 : Int32) then (1 : Int32) else (if i1 = (2 : Int32) then (if i0 = (4 : Int32) then (1 : Int32) else (0 : Int32)) else (0 : Int32))) else (if i1 = (2 : Int32) then (if i0 = (4 : Int32) then (1 : Int32) else (0 : Int32)) else (0 : Int32)))))
def fM_taken_29 (σ : St) (i1 : Int32) (i2 : Int32) : Option Int32 :=
  (fM_kindOn σ i1).bind fun q3 =>
  if 0 ≤ q3 then
    if q3 = (9 : Int32) then
      if ib i1 4 = true then
        if i2 = ((10 : Int32) + (gI σ 62 (ix i1))) then
          if ib i1 4 = true then
            some (gI σ 63 (ix i1))
          else none
        else
          some (-13 : Int32)
      else none
    else
      if (10 : Int32) ≤ i2 then
        some (-13 : Int32)
      else
        if (fM_isUnder q3 i2) = 0 then
          some (-13 : Int32)
        else
          if ib i1 4 = true then
            some (gI σ 62 (ix i1))
          else none
  else
    some (-11 : Int32)
def fM_taken (σ : St) (i1 : Int32) (i2 : Int32) : Option Int32 :=
  if (fM_isShelf i1) = 0 then
    some (-1 : Int32)
  else
    if (fM_in i2 (0 : Int32) (5 : Int32)) = 0 then
      if (fM_in i2 (10 : Int32) (13 : Int32)) = 0 then
        some (-1 : Int32)
      else
        fM_taken_29 σ i1 i2
    else
      fM_taken_29 σ i1 i2
def fM_ran (σ : St) (i1 : Int32) : Option St :=
  if (30 : Int32) ≤ (gI σ 44 37) then
    some σ
  else
    if ib (gI σ 44 37) 30 = true then
      nm (sI σ 64 (ix (gI σ 44 37)) i1) fun σ3 =>
      nm (sI σ3 44 37 ((gI σ3 44 37) + (1 : Int32))) fun σ4 =>
      some σ4
    else none
def fM_plainRings (σ : St) (i1 : Int32) : Option (Int32 × St) :=
  (fM_ran σ (10 : Int32)).bind fun σ2 =>
  some (i1 + (gI σ2 44 34), σ2)
def fM_crownRings (σ : St) (i1 : Int32) : Option (Int32 × St) :=
  (fM_ran σ (30 : Int32)).bind fun σ2 =>
  bi (fM_plainRings σ2 i1) fun q4 σ4 =>
  some (q4 * (3 : Int32), σ4)
def fM_ringsIt (σ : St) (i1 : Int32) : Option (Int32 × St) :=
  if (gI σ 44 33) = (2 : Int32) then
    bi (fM_crownRings σ i1) fun q3 σ3 =>
    some (q3, σ3)
  else
    if (gI σ 44 33) = (3 : Int32) then
      (fM_ran σ (51 : Int32)).bind fun σ6 =>
      bi (fM_plainRings σ6 i1) fun q8 σ8 =>
      some (q8 - (gI σ8 44 34), σ8)
    else
      if (gI σ 44 33) = (4 : Int32) then
        (fM_ran σ (40 : Int32)).bind fun σ11 =>
        bi (fM_crownRings σ11 i1) fun q13 σ13 =>
        some ((0 : Int32) - q13, σ13)
      else
        bi (fM_plainRings σ i1) fun q15 σ15 =>
        some (q15, σ15)
def fM_plainWeighs (σ : St) (i1 : Int32) : Option (Int32 × St) :=
  (fM_ran σ (11 : Int32)).bind fun σ2 =>
  bi (fM_ringsIt σ2 i1) fun q4 σ4 =>
  some (q4 * (2 : Int32), σ4)
def fM_weighsIt_16 (σ : St) (i1 : Int32) : Option (Int32 × St) :=
  (fM_ran σ (20 : Int32)).bind fun σ3 =>
  bi (fM_plainWeighs σ3 i1) fun q5 σ5 =>
  some (q5 - (gI σ5 44 35), σ5)
def fM_weighsIt (σ : St) (i1 : Int32) : Option (Int32 × St) :=
  if (gI σ 44 33) = (1 : Int32) then
    fM_weighsIt_16 σ i1
  else
    if (gI σ 44 33) = (3 : Int32) then
      fM_weighsIt_16 σ i1
    else
      if (gI σ 44 33) = (4 : Int32) then
        (fM_ran σ (41 : Int32)).bind fun σ11 =>
        bi (fM_plainWeighs σ11 i1) fun q13 σ13 =>
        bi (fM_ringsIt σ13 (gI σ13 44 34)) fun q15 σ15 =>
        some (q13 + q15, σ15)
      else
        bi (fM_plainWeighs σ i1) fun q9 σ9 =>
        some (q9, σ9)
def fM_plainShares (σ : St) (i1 : Int32) : Option (Int32 × St) :=
  (fM_ran σ (12 : Int32)).bind fun σ2 =>
  if (gI σ2 44 35) = (gI σ2 44 34) then
    nm (sI σ2 44 38 (1 : Int32)) fun σ5 =>
    some ((0 : Int32), σ5)
  else
    if ¬ (((gI σ2 44 35) - (gI σ2 44 34)) = 0) then
      some (i1 / ((gI σ2 44 35) - (gI σ2 44 34)), σ2)
    else none
def fM_sharesIt (σ : St) (i1 : Int32) : Option (Int32 × St) :=
  if (gI σ 44 33) = (3 : Int32) then
    (fM_ran σ (50 : Int32)).bind fun σ13 =>
    bi (fM_plainShares σ13 (i1 + (2 : Int32))) fun q15 σ15 =>
    some (q15 ^^^ (1 : Int32), σ15)
  else
    if (gI σ 44 33) = (5 : Int32) then
      (fM_ran σ (61 : Int32)).bind fun σ6 =>
      bi (fM_plainShares σ6 i1) fun q8 σ8 =>
      if (gI σ8 44 38) = 0 then
        bi (fM_ringsIt σ8 (gI σ8 44 35)) fun q11 σ11 =>
        some (q8 + q11, σ11)
      else
        some ((0 : Int32), σ8)
    else
      bi (fM_plainShares σ i1) fun q4 σ4 =>
      some (q4, σ4)
def fM_plainTells (σ : St) (i1 : Int32) : Option (Int32 × St) :=
  (fM_ran σ (13 : Int32)).bind fun σ2 =>
  bi (fM_weighsIt σ2 i1) fun q4 σ4 =>
  some (q4 ^^^ (gI σ4 44 35), σ4)
def fM_tellsIt_16 (σ : St) (i1 : Int32) : Option (Int32 × St) :=
  (fM_ran σ (31 : Int32)).bind fun σ3 =>
  bi (fM_plainTells σ3 i1) fun q5 σ5 =>
  bi (fM_sharesIt σ5 (gI σ5 44 34)) fun q7 σ7 =>
  some (q5 + q7, σ7)
def fM_tellsIt (σ : St) (i1 : Int32) : Option (Int32 × St) :=
  if (gI σ 44 33) = (2 : Int32) then
    fM_tellsIt_16 σ i1
  else
    if (gI σ 44 33) = (4 : Int32) then
      fM_tellsIt_16 σ i1
    else
      if (gI σ 44 33) = (5 : Int32) then
        (fM_ran σ (60 : Int32)).bind fun σ13 =>
        bi (fM_plainTells σ13 i1) fun q15 σ15 =>
        some (q15 * (2 : Int32), σ15)
      else
        bi (fM_plainTells σ i1) fun q11 σ11 =>
        some (q11, σ11)
def fM_act_121 (σ : St) (is0 : Int32) : Option (Int32 × St) :=
  some ((if (gI σ 44 38) = 0 then is0 else (-15 : Int32)), σ)
def fM_act_21 (σ : St) (i1 : Int32) (i2 : Int32) (i3 : Int32) (is0 : Int32) : Option (Int32 × St) :=
  if (fM_in i2 (0 : Int32) (3 : Int32)) = 0 then
    some ((0 : Int32), σ)
  else
    if (fM_in is0 (0 : Int32) (5 : Int32)) = 0 then
      some ((0 : Int32), σ)
    else
      nm (sI σ 44 33 is0) fun σ5 =>
      if ib i1 4 = true then
        nm (sI σ5 44 34 (gI σ5 62 (ix i1))) fun σ7 =>
        (fM_its σ7 (gI σ7 44 34) (1 : Int32)).bind fun q8 =>
        nm (sI σ7 44 35 q8) fun σ10 =>
        nm (sI σ10 44 38 (0 : Int32)) fun σ11 =>
        if i2 = 0 then
          bi (fM_ringsIt σ11 i3) fun q23 σ23 =>
          fM_act_121 σ23 q23
        else
          if i2 = (1 : Int32) then
            bi (fM_weighsIt σ11 i3) fun q21 σ21 =>
            fM_act_121 σ21 q21
          else
            if i2 = (2 : Int32) then
              bi (fM_sharesIt σ11 i3) fun q19 σ19 =>
              fM_act_121 σ19 q19
            else
              bi (fM_tellsIt σ11 i3) fun q16 σ16 =>
              fM_act_121 σ16 q16
      else none
def fM_act (σ : St) (i1 : Int32) (i2 : Int32) (i3 : Int32) : Option (Int32 × St) :=
  nm (sI σ 44 37 (0 : Int32)) fun σ1 =>
  if (fM_isShelf i1) = 0 then
    fM_act_21 σ1 i1 i2 i3 (-1 : Int32)
  else
    (fM_kindOn σ1 i1).bind fun q24 =>
    fM_act_21 σ1 i1 i2 i3 q24
def fM_trace (σ : St) (i1 : Int32) : Option Int32 :=
  if (fM_in i1 (0 : Int32) ((gI σ 44 37) - (1 : Int32))) = 0 then
    some (-3 : Int32)
  else
    if ib i1 30 = true then
      some (gI σ 64 (ix i1))
    else none
def fM_many (σ : St) (i1 : Int32) : Int32 :=
  if i1 = (0 : Int32) then
    (gI σ 44 0)
  else
    if i1 = (1 : Int32) then
      (gI σ 44 4)
    else
      if i1 = (2 : Int32) then
        (gI σ 44 26)
      else
        if i1 = (3 : Int32) then
          (gI σ 44 8)
        else
          if i1 = (4 : Int32) then
            (gI σ 44 37)
          else
            (-1 : Int32)
def fM_moveRow_3 : Nat → St → Nat → Int32 → Int32 → Int32 → Option St
  | 0, _, _, _, _, _ => none
  | fu + 1, σ, r1, i2, i3, i4 =>
    if i2 ≤ i4 then
      some σ
    else
      if i3 = 0 then
        if ib (gI σ 44 41) 60 = true then
          if ib i4 (kd r1).2 = true then
            nm (sI σ r1 (ix i4) (gI σ 65 (ix (gI σ 44 41)))) fun σ5 =>
            nm (sI σ5 44 41 ((gI σ5 44 41) + (1 : Int32))) fun σ6 =>
            nm (i4 + (1 : Int32)) fun v7 =>
            fM_moveRow_3 fu σ6 r1 i2 i3 v7
          else none
        else none
      else
        if ib i4 (kd r1).2 = true then
          if ib (gI σ 44 41) 60 = true then
            nm (sI σ 65 (ix (gI σ 44 41)) (gI σ r1 (ix i4))) fun σ10 =>
            nm (sI σ10 44 41 ((gI σ10 44 41) + (1 : Int32))) fun σ11 =>
            nm (i4 + (1 : Int32)) fun v12 =>
            fM_moveRow_3 fu σ11 r1 i2 i3 v12
          else none
        else none
def fM_moveRow (σ : St) (r1 : Nat) (i2 : Int32) (i3 : Int32) : Option St :=
  fM_moveRow_3 300 σ r1 i2 i3 (0 : Int32)
def fM_moveAll (σ : St) (i1 : Int32) : Option St :=
  nm (sI σ 44 41 (0 : Int32)) fun σ1 =>
  if ib (0 : Int32) 3 = true then
    nm (sI σ1 66 (ix (0 : Int32)) (gI σ1 44 0)) fun σ3 =>
    if ib (1 : Int32) 3 = true then
      nm (sI σ3 66 (ix (1 : Int32)) (gI σ3 44 4)) fun σ5 =>
      if ib (2 : Int32) 3 = true then
        nm (sI σ5 66 (ix (2 : Int32)) (gI σ5 44 6)) fun σ7 =>
        (fM_moveRow σ7 66 (3 : Int32) i1).bind fun σ9 =>
        (fM_moveRow σ9 45 (7 : Int32) i1).bind fun σ11 =>
        (fM_moveRow σ11 46 (7 : Int32) i1).bind fun σ13 =>
        (fM_moveRow σ13 47 (7 : Int32) i1).bind fun σ15 =>
        (fM_moveRow σ15 48 (24 : Int32) i1).bind fun σ17 =>
        some σ17
      else none
    else none
  else none
def fM_keep (σ : St) : Option (Int32 × St) :=
  (fM_moveAll σ (1 : Int32)).bind fun σ2 =>
  nm (sI σ2 44 39 (1 : Int32)) fun σ3 =>
  some ((1 : Int32), σ3)
def fM_again (σ : St) : Option (Int32 × St) :=
  if (gI σ 44 39) = 0 then
    some ((-3 : Int32), σ)
  else
    (fM_moveAll σ (0 : Int32)).bind fun σ3 =>
    if ib (0 : Int32) 3 = true then
      nm (sI σ3 44 0 (gI σ3 66 (ix (0 : Int32)))) fun σ5 =>
      if ib (1 : Int32) 3 = true then
        nm (sI σ5 44 4 (gI σ5 66 (ix (1 : Int32)))) fun σ7 =>
        if ib (2 : Int32) 3 = true then
          nm (sI σ7 44 6 (gI σ7 66 (ix (2 : Int32)))) fun σ9 =>
          some (gI σ9 44 0, σ9)
        else none
      else none
    else none
