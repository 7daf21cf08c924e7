def m_law_S78 (S : St) (v5 : Int32) (v6 : Int32) : Option (Int32) :=
  if v6 = (0 : Int32) then
    some (0 : Int32)
  else
    o1 (m_Law_below S (v5 >>> ((3 : Int32) &&& 31)) v6) fun r1 =>
    some r1
def m_law_S98 (S : St) (v5 : Int32) (v6 : Int32) : Option (Int32) :=
  if v6 = (0 : Int32) then
    some (0 : Int32)
  else
    o1 (m_Law_below S (v5 >>> ((5 : Int32) &&& 31)) v6) fun r1 =>
    some r1
def m_law_S127 (S : St) (v5 : Int32) (v6 : Int32) (v7 : Int32) (v8 : Int32) (v9 : Int32) : Option (St) :=
  if v9 < (4 : Int32) then
    o1 (m_Law_below S (v5 >>> ((2 : Int32) &&& 31)) (4 : Int32)) fun r1 =>
    o1 (m_Law_below S (v5 >>> ((4 : Int32) &&& 31)) (6 : Int32)) fun r2 =>
    ob (m_Te_make S r1 r2) fun r3 S1 =>
    if r3 = v6 then
      some S1
    else
      none
  else
    if v6 = (0 : Int32) then
      o1 (m_Law_below S (v5 >>> ((2 : Int32) &&& 31)) (4 : Int32)) fun r13 =>
      o1 (m_Law_below S (v5 >>> ((4 : Int32) &&& 31)) (6 : Int32)) fun r14 =>
      ob (m_Te_make S r13 r14) fun r15 S4 =>
      if r15 = v6 then
        some S4
      else
        none
    else
      if v9 = (4 : Int32) then
        o1 (m_Law_below S (v5 >>> ((4 : Int32) &&& 31)) (6 : Int32)) fun r11 =>
        ob (m_Te_root S r11 (-1 : Int32)) fun r12 S3 =>
        some S3
      else
        o1 (m_Te_ofThing S v7 (1 : Int32)) fun r4 =>
        if r4 = (1 : Int32) then
          o1 (m_Te_ofThing S v8 (1 : Int32)) fun r5 =>
          if r5 = (1 : Int32) then
            o1 (m_Te_ofThing S v7 (0 : Int32)) fun r6 =>
            if r6 ≤ (0 : Int32) then
              some S
            else
              o1 (m_Te_ofThing S v7 (0 : Int32)) fun r7 =>
              o1 (m_Law_below S (v5 >>> ((2 : Int32) &&& 31)) r7) fun r8 =>
              ob (m_Te_set S v7 r8 v8) fun r9 S2 =>
              o1 (m_Te_named S2 v7 r8) fun r10 =>
              if r10 = v8 then
                some S2
              else
                none
          else
            some S
        else
          some S
def m_law_S264 (S : St) (v5 : Int32) : Option (St) :=
  o1 (m_Law_below S (v5 >>> ((6 : Int32) &&& 31)) (6 : Int32)) fun r1 =>
  if r1 = (0 : Int32) then
    o1 (m_Law_below S (v5 >>> ((2 : Int32) &&& 31)) (3 : Int32)) fun r2 =>
    ob (m_Te_steps S ((1 : Int32) + r2)) fun r3 S1 =>
    some S1
  else
    some S
def m_law_S307 (S : St) (v10 : Int32) : Option (Int32 × St) :=
  ob (m_Te_told S v10 (7 : Int32)) fun r1 S1 =>
  if r1 = (1 : Int32) then
    some ((1 : Int32), S1)
  else
    some ((0 : Int32), S1)
def m_law_S360 (S : St) (v16 : Int32) : Option (Int32) :=
  o1 (m_Te_ofThing S v16 (1 : Int32)) fun r1 =>
  if r1 = (1 : Int32) then
    some (1 : Int32)
  else
    some (0 : Int32)
def m_law_S378 (S : St) (v11 : Int32) (v17 : Int32) (v18 : Int32) : Option (Unit) :=
  if (0 : Int32) ≤ v17 then
    if v11 = (0 : Int32) then
      some ()
    else
      none
  else
    if v18 = (0 : Int32) then
      some ()
    else
      if v11 = (0 : Int32) then
        none
      else
        some ()
def m_law_S414 (S : St) (v15 : Int32) (v18 : Int32) : Option (Int32) :=
  if v18 = (0 : Int32) then
    some (v15 + (1 : Int32))
  else
    some (v15 + (0 : Int32))
def m_law_L432 : Nat → St → Int32 → Int32 → Int32 → Int32 → Int32 → (Nat → Int32) → Option (Int32 × (Nat → Int32))
  | 0, _, _, _, _, _, _, _ => none
  | n + 1, S, v2, v13, v16, v17, v19, w12 =>
    o1 (m_Te_ofThing S v16 (0 : Int32)) fun r1 =>
    if r1 < v19 then
      some (v13, w12)
    else
      if v2 ≤ (v17 + v19) then
        none
      else
        oi (qin (v17 + v19) v2.toNatClampNeg) <|
        if (w12 (v17 + v19).toNatClampNeg) = (0 : Int32) then
          oi (qin (v17 + v19) v2.toNatClampNeg) <|
          m_law_L432 n S v2 (v13 + (1 : Int32)) v16 v17 (v19 + (1 : Int32)) (upd w12 (v17 + v19).toNatClampNeg (1 : Int32))
        else
          none
def m_law_L343 : Nat → St → Int32 → Int32 → Int32 → Int32 → Int32 → Int32 → Int32 → Int32 → (Nat → Int32) → Option (Int32 × Int32 × Int32)
  | 0, _, _, _, _, _, _, _, _, _, _ => none
  | n + 1, S, v2, v6, v10, v11, v13, v14, v15, v16, w12 =>
    if v6 ≤ v16 then
      some (v13, v14, v15)
    else
      o1 (m_Te_at S v10 v16) fun r1 =>
      o1 (m_law_S360 S v16) fun y1 =>
      o1 (m_law_S378 S v11 r1 y1) fun u1 =>
      if (0 : Int32) ≤ r1 then
        o1 (m_law_S414 S v15 y1) fun y2 =>
        ob (m_law_L432 200 S v2 v13 v16 r1 (0 : Int32) w12) fun y3 g1 =>
        m_law_L343 n S v2 v6 v10 v11 y3 (v14 + (1 : Int32)) y2 (v16 + (1 : Int32)) g1
      else
        m_law_L343 n S v2 v6 v10 v11 v13 v14 v15 (v16 + (1 : Int32)) w12
def m_law_S490 (S : St) (v5 : Int32) (v10 : Int32) (v13 : Int32) (v14 : Int32) (v15 : Int32) (w3 : (Nat → Int32)) : Option (St) :=
  ob (m_Te_told S v10 (0 : Int32)) fun r1 S1 =>
  if r1 = v14 then
    ob (m_Te_told S1 v10 (1 : Int32)) fun r2 S2 =>
    if r2 = v13 then
      ob (m_Te_told S2 v10 (2 : Int32)) fun r3 S3 =>
      if r3 = v15 then
        ob (m_Te_told S3 v10 (3 : Int32)) fun r4 S4 =>
        oi (qin v10 4) <|
        if r4 < (w3 v10.toNatClampNeg) then
          none
        else
          ob (m_Te_told S4 v10 (4 : Int32)) fun r5 S5 =>
          ob (m_Te_told S5 v10 (3 : Int32)) fun r6 S6 =>
          oi (qin v10 4) <|
          if (r6 - (w3 v10.toNatClampNeg)) ≤ r5 then
            ob (m_Te_told S6 v10 (4 : Int32)) fun r7 S7 =>
            ob (m_Te_told S7 v10 (3 : Int32)) fun r8 S8 =>
            if r7 ≤ r8 then
              some S8
            else
              none
          else
            o1 (m_Law_below S6 (v5 >>> ((6 : Int32) &&& 31)) (6 : Int32)) fun r9 =>
            if (0 : Int32) < r9 then
              none
            else
              ob (m_Te_told S6 v10 (4 : Int32)) fun r10 S9 =>
              ob (m_Te_told S9 v10 (3 : Int32)) fun r11 S10 =>
              if r10 ≤ r11 then
                some S10
              else
                none
      else
        none
    else
      none
  else
    none
def m_law_L301 : Nat → St → Int32 → Int32 → Int32 → Int32 → (Nat → Int32) → Option ((Nat → Int32) × St)
  | 0, _, _, _, _, _, _ => none
  | n + 1, S, v2, v5, v6, v10, w3 =>
    if (4 : Int32) ≤ v10 then
      some (w3, S)
    else
      ob (m_law_S307 S v10) fun y1 S1 =>
      oi (¬ v2 < 0 ∧ v2.toNatClampNeg ≤ 160) <|
      oc (m_law_L343 200 S1 v2 v6 v10 y1 (0 : Int32) (0 : Int32) (0 : Int32) (0 : Int32) (fun _ => (0 : Int32))) fun y2 y3 y4 =>
      o1 (m_law_S490 S1 v5 v10 y2 y3 y4 w3) fun S2 =>
      ob (m_Te_told S2 v10 (3 : Int32)) fun r1 S3 =>
      oi (qin v10 4) <|
      m_law_L301 n S3 v2 v5 v6 (v10 + (1 : Int32)) (upd w3 v10.toNatClampNeg r1)
def m_law_S630 (S : St) (v10 : Int32) (v11 : Int32) : Option (St) :=
  if v11 = (0 : Int32) then
    none
  else
    if (0 : Int32) ≤ v11 then
      some S
    else
      o1 (m_Te_ofThing S v10 (1 : Int32)) fun r1 =>
      if r1 = (1 : Int32) then
        ob (m_Te_told S (3 : Int32) (7 : Int32)) fun r2 S1 =>
        if r2 = (0 : Int32) then
          none
        else
          some S1
      else
        some S
def m_law_S691 (S : St) (v10 : Int32) (v12 : Int32) (v13 : Int32) (v14 : Int32) : Option (Int32) :=
  o1 (m_Te_at S (3 : Int32) v13) fun r1 =>
  if r1 < (0 : Int32) then
    some (v12 + (0 : Int32))
  else
    o1 (m_Te_named S v13 v14) fun r2 =>
    if r2 = v10 then
      some (v12 + (1 : Int32))
    else
      some (v12 + (0 : Int32))
def m_law_L679 : Nat → St → Int32 → Int32 → Int32 → Int32 → Option (Int32)
  | 0, _, _, _, _, _ => none
  | n + 1, S, v10, v12, v13, v14 =>
    o1 (m_Te_ofThing S v13 (0 : Int32)) fun r1 =>
    if r1 ≤ v14 then
      some v12
    else
      o1 (m_law_S691 S v10 v12 v13 v14) fun y1 =>
      m_law_L679 n S v10 y1 v13 (v14 + (1 : Int32))
def m_law_L669 : Nat → St → Int32 → Int32 → Int32 → Int32 → Option (Int32)
  | 0, _, _, _, _, _ => none
  | n + 1, S, v6, v10, v12, v13 =>
    if v6 ≤ v13 then
      some v12
    else
      o1 (m_law_L679 200 S v10 v12 v13 (0 : Int32)) fun y1 =>
      m_law_L669 n S v6 v10 y1 (v13 + (1 : Int32))
def m_law_S736 (S : St) (v10 : Int32) (v11 : Int32) (v12 : Int32) : Option (Unit) :=
  if v11 < (0 : Int32) then
    o1 (m_Te_ofThing S v10 (2 : Int32)) fun r1 =>
    if r1 = (0 : Int32) then
      if v11 = v12 then
        if v11 < (0 : Int32) then
          some ()
        else
          none
      else
        some ()
    else
      some ()
  else
    if v11 < v12 then
      none
    else
      if (v12 + (6 : Int32)) < v11 then
        none
      else
        o1 (m_Te_ofThing S v10 (2 : Int32)) fun r2 =>
        if r2 = (0 : Int32) then
          if v11 = v12 then
            if v11 < (0 : Int32) then
              some ()
            else
              none
          else
            some ()
        else
          some ()
def m_law_L614 : Nat → St → Int32 → Int32 → Option (St)
  | 0, _, _, _ => none
  | n + 1, S, v6, v10 =>
    if v6 ≤ v10 then
      some S
    else
      o1 (m_Te_kept S v10 (3 : Int32)) fun r1 =>
      o1 (m_law_S630 S v10 r1) fun S1 =>
      o1 (m_law_L669 200 S1 v6 v10 (0 : Int32) (0 : Int32)) fun y1 =>
      o1 (m_law_S736 S1 v10 r1 y1) fun u1 =>
      m_law_L614 n S1 v6 (v10 + (1 : Int32))
def m_law_L41 (xs : Nat → Int32) (L : Nat) : Nat → St → Int32 → Int32 → (Nat → Int32) → Option (St)
  | 0, _, _, _, _ => none
  | n + 1, S, v2, v4, w3 =>
    if (40 : Int32) ≤ v4 then
      some S
    else
      o1 (m_cell xs L (v4 - v4 / (16 : Int32) * (16 : Int32))) fun r1 =>
      o1 (m_Te_things S) fun r2 =>
      o1 (m_law_S78 S ((r1 >>> (((v4 / (16 : Int32)) * (2 : Int32)) &&& 31)) + ((5 : Int32) * v4)) r2) fun y1 =>
      o1 (m_law_S98 S ((r1 >>> (((v4 / (16 : Int32)) * (2 : Int32)) &&& 31)) + ((5 : Int32) * v4)) r2) fun y2 =>
      o1 (m_Law_below S ((r1 >>> (((v4 / (16 : Int32)) * (2 : Int32)) &&& 31)) + ((5 : Int32) * v4)) (8 : Int32)) fun r3 =>
      o1 (m_law_S127 S ((r1 >>> (((v4 / (16 : Int32)) * (2 : Int32)) &&& 31)) + ((5 : Int32) * v4)) r2 y1 y2 r3) fun S1 =>
      o1 (m_law_S264 S1 ((r1 >>> (((v4 / (16 : Int32)) * (2 : Int32)) &&& 31)) + ((5 : Int32) * v4))) fun S2 =>
      o1 (m_Te_things S2) fun r4 =>
      ob (m_law_L301 10 S2 v2 ((r1 >>> (((v4 / (16 : Int32)) * (2 : Int32)) &&& 31)) + ((5 : Int32) * v4)) r4 (0 : Int32) w3) fun g1 S3 =>
      o1 (m_law_L614 200 S3 r4 (0 : Int32)) fun S4 =>
      m_law_L41 xs L n S4 v2 (v4 + (1 : Int32)) g1
def m_law_L813 : Nat → St → Int32 → (Nat → Int32) → (Nat → Int32) → Option ((Nat → Int32) × (Nat → Int32) × St)
  | 0, _, _, _, _ => none
  | n + 1, S, v8, w6, w7 =>
    if (4 : Int32) ≤ v8 then
      some (w6, w7, S)
    else
      ob (m_Te_wouldGo S v8) fun r1 S1 =>
      oi (qin v8 4) <|
      ob (m_Te_wouldWork S1 v8) fun r2 S2 =>
      oi (qin v8 4) <|
      m_law_L813 n S2 (v8 + (1 : Int32)) (upd w6 v8.toNatClampNeg r1) (upd w7 v8.toNatClampNeg r2)
def m_law_S928 (S : St) (v8 : Int32) (v9 : Int32) (w6 : (Nat → Int32)) : Option (St) :=
  if (2 : Int32) ≤ v8 then
    ob (m_Te_told S v8 (2 : Int32)) fun r1 S1 =>
    ob (m_Te_told S1 v8 (7 : Int32)) fun r2 S2 =>
    if r2 = (1 : Int32) then
      if r1 = (0 : Int32) then
        some S2
      else
        none
    else
      oi (qin v8 4) <|
      if r1 = (v9 - (w6 v8.toNatClampNeg)) then
        some S2
      else
        none
  else
    ob (m_Te_told S v8 (2 : Int32)) fun r3 S3 =>
    if r3 = (0 : Int32) then
      ob (m_Te_told S3 v8 (2 : Int32)) fun r4 S4 =>
      ob (m_Te_told S4 v8 (7 : Int32)) fun r5 S5 =>
      if r5 = (1 : Int32) then
        if r4 = (0 : Int32) then
          some S5
        else
          none
      else
        oi (qin v8 4) <|
        if r4 = (v9 - (w6 v8.toNatClampNeg)) then
          some S5
        else
          none
    else
      none
def m_law_L862 : Nat → St → Int32 → (Nat → Int32) → (Nat → Int32) → Option (St)
  | 0, _, _, _, _ => none
  | n + 1, S, v8, w6, w7 =>
    if (4 : Int32) ≤ v8 then
      some S
    else
      ob (m_Te_told S v8 (2 : Int32)) fun r1 S1 =>
      ob (m_Te_told S1 v8 (3 : Int32)) fun r2 S2 =>
      ob (m_Te_collect S2 v8) fun r3 S3 =>
      oi (qin v8 4) <|
      if r3 = (w6 v8.toNatClampNeg) then
        ob (m_Te_told S3 v8 (3 : Int32)) fun r4 S4 =>
        oi (qin v8 4) <|
        if r4 = (r2 + (w7 v8.toNatClampNeg)) then
          oi (qin v8 4) <|
          if r1 < (w6 v8.toNatClampNeg) then
            none
          else
            o1 (m_law_S928 S4 v8 r1 w6) fun S5 =>
            m_law_L862 n S5 (v8 + (1 : Int32)) w6 w7
        else
          none
      else
        none
def m_law (xs : Nat → Int32) (L : Nat) (S : St) : Option Unit :=
  o1 (m_cell xs L (0 : Int32)) fun r1 =>
  o1 (m_Law_below S r1 (60 : Int32)) fun r2 =>
  ob (m_Te_begin S ((40 : Int32) + r2)) fun r3 S1 =>
  if r3 = (64 : Int32) then
    o1 (m_law_L41 xs L 50 S1 ((40 : Int32) + r2) (0 : Int32) (fun _ => (0 : Int32))) fun S2 =>
    ob (m_Te_digest S2) fun r4 S3 =>
    oc (m_law_L813 200 S3 (0 : Int32) (fun _ => (0 : Int32)) (fun _ => (0 : Int32))) fun g1 g2 S4 =>
    ob (m_Te_digest S4) fun r5 S5 =>
    if (lg_cmp r5 r4) = (0 : Int32) then
      o1 (m_law_L862 200 S5 (0 : Int32) g1 g2) fun S6 =>
      ob (m_Te_collect S6 (2 : Int32)) fun r6 S7 =>
      if r6 < (0 : Int32) then
        none
      else
        ob (m_Te_told S7 (2 : Int32) (2 : Int32)) fun r7 S8 =>
        if r7 = (0 : Int32) then
          some ()
        else
          none
    else
      none
  else
    none
