abbrev qin (i : Int32) (n : Nat) : Prop := ¬ (i < 0 ∨ n ≤ i.toNatClampNeg)
def oi {γ : Type} (c : Prop) [Decidable c] (x : Option γ) : Option γ := if c then x else none
def m_cell (xs : Nat → Int32) (L : Nat) (k : Int32) : Option Int32 :=
  if nI L ≤ k then
    some ((790386105 : Int32) * (k + (3 : Int32)))
  else
    oi (qin k L) <|
    some (xs k.toNatClampNeg)
def m_Arr_fill_6_L5 (q : Nat) : Nat → St → Int32 → Int32 → Int32 → Option (St)
  | 0, _, _, _, _ => none
  | n + 1, S, v1, v2, v3 =>
    if v3 ≤ v2 then
      some S
    else
      oi (qin v2 6) <|
      m_Arr_fill_6_L5 q n (u2 S q v2.toNatClampNeg v1) v1 (v2 + (1 : Int32)) v3
def m_Arr_fill_6 (q : Nat) (S : St) (a1 : Int32) : Option St :=
  o1 (m_Arr_fill_6_L5 q 200 S a1 (0 : Int32) (6 : Int32)) fun S1 =>
  some S1
def m_Row_empty_L2 (k : Nat) : Nat → St → Int32 → Option (St)
  | 0, _, _ => none
  | n + 1, S, v1 =>
    if (80 : Int32) ≤ v1 then
      some S
    else
      oi (qin v1 80) <|
      m_Row_empty_L2 k n (u2 S (k + 2) v1.toNatClampNeg (0 : Int32)) (v1 + (1 : Int32))
def m_Row_empty (k : Nat) (S : St)  : Option St :=
  o1 (m_Row_empty_L2 k 200 S (0 : Int32)) fun S1 =>
  some (u2 S1 k 2 (0 : Int32))
def m_Gr_startAnew (S : St)  : Option St :=
  o1 (m_Arr_fill_6 4 (u2 S 1 6 (0 : Int32)) (-1 : Int32)) fun S1 =>
  o1 (m_Row_empty 6 S1) fun S2 =>
  some S2
def m_St_letAllGo_L2 (k d : Nat) : Nat → St → Int32 → Option (St)
  | 0, _, _ => none
  | n + 1, S, v1 =>
    if (80 : Int32) ≤ v1 then
      some S
    else
      oi (qin v1 80) <|
      m_St_letAllGo_L2 k d n (u2 S (k + 1) v1.toNatClampNeg (0 : Int32)) (v1 + (1 : Int32))
def m_St_letAllGo (k d : Nat) (S : St)  : Option St :=
  o1 (m_St_letAllGo_L2 k d 200 S (0 : Int32)) fun S1 =>
  some S1
def m_Cop_forgetThings (S : St)  : Option St :=
  some (u2 (u2 S 12 10 (0 : Int32)) 12 11 (0 : Int32))
def m_St_resetCounters_Cop (S : St)  : Option Unit :=
  some ()
def m_St_startAnew_Cop (S : St) (a1 : Int32) : Option St :=
  o1 (m_St_letAllGo 12 0 (u2 (u2 (u2 (u2 (u2 (u2 S 12 1 a1) 12 2 (0 : Int32)) 12 3 (0 : Int32)) 12 4 (0 : Int32)) 12 5 (0 : Int32)) 12 6 (0 : Int32))) fun S1 =>
  o1 (m_Cop_forgetThings S1) fun S2 =>
  o1 (m_St_resetCounters_Cop S2) fun u1 =>
  some S2
def m_Nur_forgetThings (S : St)  : Option St :=
  o1 (m_Row_empty 21 S) fun S1 =>
  o1 (m_Row_empty 24 S1) fun S2 =>
  some (u2 (u2 S2 18 15 (0 : Int32)) 18 16 ((S2 18 1) / (4 : Int32)))
def m_Nur_resetCounters (S : St)  : Option St :=
  some (u2 (u2 S 18 9 (0 : Int32)) 18 10 (0 : Int32))
def m_St_startAnew_Nur (S : St) (a1 : Int32) : Option St :=
  o1 (m_St_letAllGo 18 0 (u2 (u2 (u2 (u2 (u2 (u2 S 18 1 a1) 18 2 (0 : Int32)) 18 3 (0 : Int32)) 18 4 (0 : Int32)) 18 5 (0 : Int32)) 18 6 (0 : Int32))) fun S1 =>
  o1 (m_Nur_forgetThings S1) fun S2 =>
  o1 (m_Nur_resetCounters S2) fun S3 =>
  some S3
def m_Mar_forgetThings (S : St)  : Option St :=
  o1 (m_Row_empty 36 (u2 S 31 10 (0 : Int32))) fun S1 =>
  some (u2 S1 31 14 (0 : Int32))
def m_St_resetCounters_Mar (S : St)  : Option Unit :=
  some ()
def m_St_startAnew_Mar (S : St) (a1 : Int32) : Option St :=
  o1 (m_St_letAllGo 31 1 (u2 (u2 (u2 (u2 (u2 (u2 S 31 2 a1) 31 3 (0 : Int32)) 31 4 (0 : Int32)) 31 5 (0 : Int32)) 31 6 (0 : Int32)) 31 7 (0 : Int32))) fun S1 =>
  o1 (m_Mar_forgetThings S1) fun S2 =>
  o1 (m_St_resetCounters_Mar S2) fun u1 =>
  some S2
def m_Cou_forgetThings_L2 : Nat → St → Int32 → Option (St)
  | 0, _, _ => none
  | n + 1, S, v1 =>
    if (80 : Int32) ≤ v1 then
      some S
    else
      oi (qin v1 80) <|
      m_Cou_forgetThings_L2 n (u2 S 47 v1.toNatClampNeg (0 : Int32)) (v1 + (1 : Int32))
def m_Cou_forgetThings (S : St)  : Option St :=
  o1 (m_Cou_forgetThings_L2 200 S (0 : Int32)) fun S1 =>
  some S1
def m_Cou_resetCounters (S : St)  : Option St :=
  some (u2 S 42 10 (0 : Int32))
def m_St_startAnew_Cou (S : St) (a1 : Int32) : Option St :=
  o1 (m_St_letAllGo 42 1 (u2 (u2 (u2 (u2 (u2 (u2 S 42 2 a1) 42 3 (0 : Int32)) 42 4 (0 : Int32)) 42 5 (0 : Int32)) 42 6 (0 : Int32)) 42 7 (0 : Int32))) fun S1 =>
  o1 (m_Cou_forgetThings S1) fun S2 =>
  o1 (m_Cou_resetCounters S2) fun S3 =>
  some S3
def m_Te_begin (S : St) (a1 : Int32) : Option (Int32 × St) :=
  if a1 < (40 : Int32) then
    none
  else
    if a1 ≤ (160 : Int32) then
      o1 (m_Gr_startAnew (u2 S 0 5 a1)) fun S1 =>
      o1 (m_St_startAnew_Cop S1 a1) fun S2 =>
      o1 (m_St_startAnew_Nur S2 a1) fun S3 =>
      o1 (m_St_startAnew_Mar S3 a1) fun S4 =>
      o1 (m_St_startAnew_Cou S4 a1) fun S5 =>
      some ((S 0 5), S5)
    else
      none
def m_Te_things (S : St)  : Option Int32 :=
  some (S 1 6)
def m_Te_checkRoot (S : St) (a0 : Int32) : Option Unit :=
  if a0 < (0 : Int32) then
    none
  else
    if a0 < (6 : Int32) then
      some ()
    else
      none
def m_St_openPause (k d : Nat) (S : St)  : Option St :=
  some (u2 S k (d + 6) (S k (d + 2)))
def m_Te_openPauses (S : St)  : Option St :=
  o1 (m_St_openPause 12 0 S) fun S1 =>
  o1 (m_St_openPause 18 0 S1) fun S2 =>
  o1 (m_St_openPause 31 1 S2) fun S3 =>
  o1 (m_St_openPause 42 1 S3) fun S4 =>
  some S4
def m_Gr_addThing_L42 : Nat → St → Int32 → Int32 → Option (St)
  | 0, _, _, _ => none
  | n + 1, S, v2, v3 =>
    if (3 : Int32) ≤ v3 then
      some S
    else
      oi (qin ((v2 * (3 : Int32)) + v3) 240) <|
      m_Gr_addThing_L42 n (u2 S 3 ((v2 * (3 : Int32)) + v3).toNatClampNeg (-1 : Int32)) v2 (v3 + (1 : Int32))
def m_Gr_addThing (S : St) (a1 : Int32) : Option (Int32 × St) :=
  if (S 1 6) < (80 : Int32) then
    oi (qin (S 1 6) 80) <|
    oi (qin (S 1 6) 80) <|
    o1 (m_Gr_addThing_L42 200 (u2 (u2 (u2 S 1 6 ((S 1 6) + (1 : Int32))) 2 (S 1 6).toNatClampNeg a1) 5 (S 1 6).toNatClampNeg (-1 : Int32)) (S 1 6) (0 : Int32)) fun S1 =>
    some ((S 1 6), S1)
  else
    some ((-1 : Int32), S)
def m_Gr_rootAt (S : St) (a1 : Int32) : Option Int32 :=
  if a1 < (0 : Int32) then
    some (-1 : Int32)
  else
    if (6 : Int32) ≤ a1 then
      some (-1 : Int32)
    else
      oi (qin a1 6) <|
      some (S 4 a1.toNatClampNeg)
def m_Row_add (k : Nat) (S : St) (a1 : Int32) : Option St :=
  if a1 < (0 : Int32) then
    some S
  else
    if (80 : Int32) ≤ a1 then
      some S
    else
      oi (qin a1 80) <|
      if (S (k + 2) a1.toNatClampNeg) = (0 : Int32) then
        if (S k 2) < (80 : Int32) then
          oi (qin a1 80) <|
          oi (qin (S k 2) 80) <|
          some (u2 (u2 (u2 S (k + 2) a1.toNatClampNeg (1 : Int32)) (k + 1) (S k 2).toNatClampNeg a1) k 2 ((S k 2) + (1 : Int32)))
        else
          some S
      else
        some S
def m_Row_get (k : Nat) (S : St) (a1 : Int32) : Option Int32 :=
  if a1 < (0 : Int32) then
    some (-1 : Int32)
  else
    if (S k 2) ≤ a1 then
      some (-1 : Int32)
    else
      oi (qin a1 80) <|
      some (S (k + 1) a1.toNatClampNeg)
def m_Gr_fieldsOf (S : St) (a1 : Int32) : Option Int32 :=
  if a1 < (0 : Int32) then
    some (0 : Int32)
  else
    if (S 1 6) ≤ a1 then
      some (0 : Int32)
    else
      oi (qin a1 80) <|
      some (S 2 a1.toNatClampNeg)
def m_Gr_nameOf (S : St) (a1 : Int32) (a2 : Int32) : Option Int32 :=
  if a1 < (0 : Int32) then
    some (-1 : Int32)
  else
    if (S 1 6) ≤ a1 then
      some (-1 : Int32)
    else
      if a2 < (0 : Int32) then
        some (-1 : Int32)
      else
        oi (qin a1 80) <|
        if a2 < (S 2 a1.toNatClampNeg) then
          oi (qin ((a1 * (3 : Int32)) + a2) 240) <|
          some (S 3 ((a1 * (3 : Int32)) + a2).toNatClampNeg)
        else
          some (-1 : Int32)
def m_Gr_addNamedBy_L2 (q : Nat) : Nat → St → Int32 → Int32 → Option (St)
  | 0, _, _, _ => none
  | n + 1, S, v1, v3 =>
    o1 (m_Gr_fieldsOf S v1) fun r1 =>
    if r1 ≤ v3 then
      some S
    else
      o1 (m_Gr_nameOf S v1 v3) fun r2 =>
      o1 (m_Row_add q S r2) fun S1 =>
      m_Gr_addNamedBy_L2 q n S1 v1 (v3 + (1 : Int32))
def m_Gr_addNamedBy (q : Nat) (S : St) (a1 : Int32) : Option St :=
  o1 (m_Gr_addNamedBy_L2 q 200 S a1 (0 : Int32)) fun S1 =>
  some S1
def m_Gr_trace_L6 (q : Nat) : Nat → St → Int32 → Int32 → Option (St)
  | 0, _, _, _ => none
  | n + 1, S, v2, v3 =>
    if (6 : Int32) ≤ v3 then
      some S
    else
      if v3 = v2 then
        m_Gr_trace_L6 q n S v2 (v3 + (1 : Int32))
      else
        oi (qin v3 6) <|
        o1 (m_Row_add q S (S 4 v3.toNatClampNeg)) fun S1 =>
        m_Gr_trace_L6 q n S1 v2 (v3 + (1 : Int32))
def m_Gr_trace_L35 (q : Nat) : Nat → St → Int32 → Option (St)
  | 0, _, _ => none
  | n + 1, S, v3 =>
    if (S q 2) ≤ v3 then
      some S
    else
      if (80 : Int32) ≤ v3 then
        some S
      else
        o1 (m_Row_get q S v3) fun r1 =>
        o1 (m_Gr_addNamedBy q S r1) fun S1 =>
        m_Gr_trace_L35 q n S1 (v3 + (1 : Int32))
def m_Gr_trace (q : Nat) (S : St) (a2 : Int32) : Option St :=
  o1 (m_Row_empty q S) fun S1 =>
  o1 (m_Gr_trace_L6 q 200 S1 a2 (0 : Int32)) fun S2 =>
  o1 (m_Gr_trace_L35 q 200 S2 (0 : Int32)) fun S3 =>
  some S3
def m_Arr_fill_80_L5 (q : Nat) : Nat → St → Int32 → Int32 → Int32 → Option (St)
  | 0, _, _, _, _ => none
  | n + 1, S, v1, v2, v3 =>
    if v3 ≤ v2 then
      some S
    else
      oi (qin v2 80) <|
      m_Arr_fill_80_L5 q n (u2 S q v2.toNatClampNeg v1) v1 (v2 + (1 : Int32)) v3
def m_Arr_fill_80 (q : Nat) (S : St) (a1 : Int32) : Option St :=
  o1 (m_Arr_fill_80_L5 q 200 S a1 (0 : Int32) (80 : Int32)) fun S1 =>
  some S1
def m_Gr_isThing (S : St) (a1 : Int32) : Option Int32 :=
  if a1 < (0 : Int32) then
    some (0 : Int32)
  else
    if (S 1 6) ≤ a1 then
      some (0 : Int32)
    else
      some (1 : Int32)
def m_Gr_distanceOf (S : St) (a1 : Int32) : Option Int32 :=
  o1 (m_Gr_isThing S a1) fun r1 =>
  if r1 = (0 : Int32) then
    some (-1 : Int32)
  else
    oi (qin a1 80) <|
    some (S 5 a1.toNatClampNeg)
def m_Gr_measureNamedBy_L10 : Nat → St → Int32 → Int32 → Int32 → Option (St)
  | 0, _, _, _, _ => none
  | n + 1, S, v1, v2, v3 =>
    o1 (m_Gr_fieldsOf S v1) fun r1 =>
    if r1 ≤ v3 then
      some S
    else
      o1 (m_Gr_nameOf S v1 v3) fun r2 =>
      o1 (m_Gr_isThing S r2) fun r3 =>
      if r3 = (0 : Int32) then
        m_Gr_measureNamedBy_L10 n S v1 v2 (v3 + (1 : Int32))
      else
        oi (qin r2 80) <|
        if (S 5 r2.toNatClampNeg) = (-1 : Int32) then
          oi (qin r2 80) <|
          m_Gr_measureNamedBy_L10 n (u2 S 5 r2.toNatClampNeg v2) v1 v2 (v3 + (1 : Int32))
        else
          m_Gr_measureNamedBy_L10 n S v1 v2 (v3 + (1 : Int32))
def m_Gr_measureNamedBy (S : St) (a1 : Int32) : Option St :=
  o1 (m_Gr_distanceOf S a1) fun r1 =>
  o1 (m_Gr_measureNamedBy_L10 200 S a1 (r1 + (1 : Int32)) (0 : Int32)) fun S1 =>
  some S1
def m_Gr_measure_L19 : Nat → St → Int32 → Option (St)
  | 0, _, _ => none
  | n + 1, S, v1 =>
    if (6 : Int32) ≤ v1 then
      some S
    else
      oi (qin v1 6) <|
      o1 (m_Gr_isThing S (S 4 v1.toNatClampNeg)) fun r1 =>
      if r1 = (0 : Int32) then
        m_Gr_measure_L19 n S (v1 + (1 : Int32))
      else
        oi (qin v1 6) <|
        oi (qin (S 4 v1.toNatClampNeg) 80) <|
        m_Gr_measure_L19 n (u2 S 5 (S 4 v1.toNatClampNeg).toNatClampNeg (0 : Int32)) (v1 + (1 : Int32))
def m_Gr_measure_L58 : Nat → St → Int32 → Option (St)
  | 0, _, _ => none
  | n + 1, S, v1 =>
    if (S 6 2) ≤ v1 then
      some S
    else
      o1 (m_Row_get 6 S v1) fun r1 =>
      o1 (m_Gr_measureNamedBy S r1) fun S1 =>
      m_Gr_measure_L58 n S1 (v1 + (1 : Int32))
def m_Gr_measure (S : St)  : Option St :=
  o1 (m_Gr_trace 6 S (-1 : Int32)) fun S1 =>
  o1 (m_Arr_fill_80 5 S1 (-1 : Int32)) fun S2 =>
  o1 (m_Gr_measure_L19 200 S2 (0 : Int32)) fun S3 =>
  o1 (m_Gr_measure_L58 200 S3 (0 : Int32)) fun S4 =>
  some S4
def m_Gr_nameByRoot (S : St) (a1 : Int32) (a2 : Int32) : Option St :=
  if a1 < (0 : Int32) then
    some S
  else
    if (6 : Int32) ≤ a1 then
      some S
    else
      oi (qin a1 6) <|
      o1 (m_Gr_measure (u2 S 4 a1.toNatClampNeg a2)) fun S1 =>
      some S1
def m_St_has (k d : Nat) (S : St) (a1 : Int32) : Option Int32 :=
  if a1 < (0 : Int32) then
    some (0 : Int32)
  else
    if (80 : Int32) ≤ a1 then
      some (0 : Int32)
    else
      oi (qin a1 80) <|
      if (S (k + 1) a1.toNatClampNeg) = (0 : Int32) then
        some (0 : Int32)
      else
        some (1 : Int32)
def m_St_letGo (k d : Nat) (S : St) (a1 : Int32) : Option St :=
  if a1 < (0 : Int32) then
    some S
  else
    if (80 : Int32) ≤ a1 then
      some S
    else
      oi (qin a1 80) <|
      some (u2 S (k + 1) a1.toNatClampNeg (0 : Int32))
def m_Cou_lowerOnce (S : St) (a1 : Int32) : Option St :=
  o1 (m_St_has 42 1 S a1) fun r1 =>
  if r1 = (0 : Int32) then
    some S
  else
    oi (qin a1 80) <|
    oi (qin a1 80) <|
    oi (qin a1 80) <|
    if ((u2 S 46 a1.toNatClampNeg ((S 46 a1.toNatClampNeg) - (1 : Int32))) 46 a1.toNatClampNeg) ≤ (0 : Int32) then
      o1 (m_St_letGo 42 1 (u2 (u2 S 46 a1.toNatClampNeg ((S 46 a1.toNatClampNeg) - (1 : Int32))) 42 3 ((S 42 3) + (1 : Int32))) a1) fun S1 =>
      o1 (m_Row_add 49 S1 a1) fun S2 =>
      some S2
    else
      oi (qin a1 80) <|
      some (u2 (u2 (u2 S 46 a1.toNatClampNeg ((S 46 a1.toNatClampNeg) - (1 : Int32))) 42 3 ((S 42 3) + (1 : Int32))) 47 a1.toNatClampNeg (1 : Int32))
def m_Cou_lower_L43 : Nat → St → Int32 → Int32 → Option (St)
  | 0, _, _, _ => none
  | n + 1, S, v3, v4 =>
    o1 (m_Gr_fieldsOf S v3) fun r1 =>
    if r1 ≤ v4 then
      some S
    else
      o1 (m_Gr_nameOf S v3 v4) fun r2 =>
      o1 (m_Cou_lowerOnce S r2) fun S1 =>
      m_Cou_lower_L43 n S1 v3 (v4 + (1 : Int32))
def m_Cou_lower_L14 : Nat → St → Int32 → Option (St)
  | 0, _, _ => none
  | n + 1, S, v2 =>
    if (S 49 2) ≤ v2 then
      some S
    else
      if (80 : Int32) ≤ v2 then
        some S
      else
        o1 (m_Row_get 49 S v2) fun r1 =>
        o1 (m_Cou_lower_L43 200 S r1 (0 : Int32)) fun S1 =>
        m_Cou_lower_L14 n S1 (v2 + (1 : Int32))
def m_Cou_lower (S : St) (a1 : Int32) : Option St :=
  o1 (m_Row_empty 49 S) fun S1 =>
  o1 (m_Cou_lowerOnce S1 a1) fun S2 =>
  o1 (m_Cou_lower_L14 200 S2 (0 : Int32)) fun S3 =>
  some S3
def m_Cou_learnNaming (S : St) (a1 : Int32) (a2 : Int32) (a3 : Int32) : Option St :=
  o1 (m_St_has 42 1 S a3) fun r1 =>
  if r1 = (0 : Int32) then
    o1 (m_St_has 42 1 S a2) fun r2 =>
    if r2 = (0 : Int32) then
      some S
    else
      o1 (m_Cou_lower S a2) fun S1 =>
      some S1
  else
    oi (qin a3 80) <|
    oi (qin a3 80) <|
    o1 (m_St_has 42 1 (u2 (u2 S 46 a3.toNatClampNeg ((S 46 a3.toNatClampNeg) + (1 : Int32))) 42 3 ((S 42 3) + (1 : Int32))) a2) fun r3 =>
    if r3 = (0 : Int32) then
      some (u2 (u2 S 46 a3.toNatClampNeg ((S 46 a3.toNatClampNeg) + (1 : Int32))) 42 3 ((S 42 3) + (1 : Int32)))
    else
      o1 (m_Cou_lower (u2 (u2 S 46 a3.toNatClampNeg ((S 46 a3.toNatClampNeg) + (1 : Int32))) 42 3 ((S 42 3) + (1 : Int32))) a2) fun S2 =>
      some S2
def m_Mar_colourOf (S : St) (a1 : Int32) : Option Int32 :=
  o1 (m_St_has 31 1 S a1) fun r1 =>
  if r1 = (0 : Int32) then
    some (-1 : Int32)
  else
    o1 (m_Gr_isThing S a1) fun r2 =>
    if r2 = (0 : Int32) then
      some (-1 : Int32)
    else
      oi (qin a1 80) <|
      some (S 35 a1.toNatClampNeg)
def m_Mar_paint (S : St) (a1 : Int32) (a2 : Int32) : Option St :=
  o1 (m_Gr_isThing S a1) fun r1 =>
  if r1 = (0 : Int32) then
    some S
  else
    oi (qin a1 80) <|
    some (u2 S 35 a1.toNatClampNeg a2)
def m_Mar_becomeGrey (S : St) (a1 : Int32) : Option St :=
  o1 (m_Mar_colourOf S a1) fun r1 =>
  if r1 = (0 : Int32) then
    o1 (m_Mar_paint S a1 (1 : Int32)) fun S1 =>
    o1 (m_Row_add 36 S1 a1) fun S2 =>
    some S2
  else
    some S
def m_Mar_learnNaming (S : St) (a1 : Int32) (a2 : Int32) (a3 : Int32) : Option St :=
  if (S 31 10) = (0 : Int32) then
    some S
  else
    if a1 = (-1 : Int32) then
      o1 (m_Mar_becomeGrey S a3) fun S1 =>
      some S1
    else
      o1 (m_Mar_colourOf S a1) fun r1 =>
      if r1 = (2 : Int32) then
        o1 (m_Mar_becomeGrey S a3) fun S2 =>
        some S2
      else
        some S
def m_St_learnNaming_Nur (S : St) (a1 : Int32) (a2 : Int32) (a3 : Int32) : Option Unit :=
  some ()
def m_St_learnNaming_Cop (S : St) (a1 : Int32) (a2 : Int32) (a3 : Int32) : Option Unit :=
  some ()
def m_Te_tellStores (S : St) (a1 : Int32) (a2 : Int32) (a3 : Int32) : Option St :=
  if (S 12 5) = (0 : Int32) then
    o1 (m_St_learnNaming_Cop S a1 a2 a3) fun u2 =>
    if (S 18 5) = (0 : Int32) then
      o1 (m_St_learnNaming_Nur S a1 a2 a3) fun u3 =>
      if (S 31 6) = (0 : Int32) then
        o1 (m_Mar_learnNaming S a1 a2 a3) fun S11 =>
        if (S11 42 6) = (0 : Int32) then
          o1 (m_Cou_learnNaming S11 a1 a2 a3) fun S12 =>
          some S12
        else
          some S11
      else
        if (S 42 6) = (0 : Int32) then
          o1 (m_Cou_learnNaming S a1 a2 a3) fun S10 =>
          some S10
        else
          some S
    else
      if (S 31 6) = (0 : Int32) then
        o1 (m_Mar_learnNaming S a1 a2 a3) fun S8 =>
        if (S8 42 6) = (0 : Int32) then
          o1 (m_Cou_learnNaming S8 a1 a2 a3) fun S9 =>
          some S9
        else
          some S8
      else
        if (S 42 6) = (0 : Int32) then
          o1 (m_Cou_learnNaming S a1 a2 a3) fun S7 =>
          some S7
        else
          some S
  else
    if (S 18 5) = (0 : Int32) then
      o1 (m_St_learnNaming_Nur S a1 a2 a3) fun u1 =>
      if (S 31 6) = (0 : Int32) then
        o1 (m_Mar_learnNaming S a1 a2 a3) fun S5 =>
        if (S5 42 6) = (0 : Int32) then
          o1 (m_Cou_learnNaming S5 a1 a2 a3) fun S6 =>
          some S6
        else
          some S5
      else
        if (S 42 6) = (0 : Int32) then
          o1 (m_Cou_learnNaming S a1 a2 a3) fun S4 =>
          some S4
        else
          some S
    else
      if (S 31 6) = (0 : Int32) then
        o1 (m_Mar_learnNaming S a1 a2 a3) fun S2 =>
        if (S2 42 6) = (0 : Int32) then
          o1 (m_Cou_learnNaming S2 a1 a2 a3) fun S3 =>
          some S3
        else
          some S2
      else
        if (S 42 6) = (0 : Int32) then
          o1 (m_Cou_learnNaming S a1 a2 a3) fun S1 =>
          some S1
        else
          some S
def m_Te_nameByRoot (S : St) (a1 : Int32) (a2 : Int32) : Option (Int32 × St) :=
  o1 (m_Gr_rootAt S a1) fun r1 =>
  if r1 = a2 then
    some (r1, S)
  else
    o1 (m_Gr_nameByRoot S a1 a2) fun S1 =>
    o1 (m_Te_tellStores S1 (-1 : Int32) r1 a2) fun S2 =>
    some (r1, S2)
def m_St_closePause (k d : Nat) (S : St)  : Option St :=
  some (u2 S k (d + 3) (if (S k (d + 3)) < ((S k (d + 2)) - (S k (d + 6))) then ((S k (d + 2)) - (S k (d + 6))) else (S k (d + 3))))
def m_Te_closePauses (S : St)  : Option St :=
  o1 (m_St_closePause 12 0 S) fun S1 =>
  o1 (m_St_closePause 18 0 S1) fun S2 =>
  o1 (m_St_closePause 31 1 S2) fun S3 =>
  o1 (m_St_closePause 42 1 S3) fun S4 =>
  some S4
def m_Gr_wordsOf (S : St) (a1 : Int32) : Option Int32 :=
  if a1 < (0 : Int32) then
    some (0 : Int32)
  else
    if (S 1 6) ≤ a1 then
      some (0 : Int32)
    else
      oi (qin a1 80) <|
      some ((S 2 a1.toNatClampNeg) + (1 : Int32))
def m_St_placeOf (k d : Nat) (S : St) (a1 : Int32) : Option Int32 :=
  o1 (m_St_has k d S a1) fun r1 =>
  if r1 = (0 : Int32) then
    some (-1 : Int32)
  else
    oi (qin a1 80) <|
    some (S (k + 2) a1.toNatClampNeg)
def m_Sc_markTakenBy_L20 (k : Nat) : Nat → St → Int32 → Int32 → Option (St)
  | 0, _, _, _ => none
  | n + 1, S, v3, v4 =>
    if v4 < (0 : Int32) then
      some S
    else
      if v3 ≤ v4 then
        some S
      else
        if (160 : Int32) ≤ v4 then
          some S
        else
          oi (qin v4 160) <|
          m_Sc_markTakenBy_L20 k n (u2 S (k + 3) v4.toNatClampNeg (1 : Int32)) v3 (v4 + (1 : Int32))
def m_Sc_markTakenBy (k : Nat) (S : St) (a1 : Int32) : Option St :=
  o1 (m_St_placeOf k 1 S a1) fun r1 =>
  o1 (m_Gr_wordsOf S a1) fun r2 =>
  o1 (m_Sc_markTakenBy_L20 k 200 S (r1 + r2) r1) fun S1 =>
  some S1
def m_Sc_markTaken_L2 (k : Nat) : Nat → St → Int32 → Option (St)
  | 0, _, _ => none
  | n + 1, S, v1 =>
    if (160 : Int32) ≤ v1 then
      some S
    else
      oi (qin v1 160) <|
      m_Sc_markTaken_L2 k n (u2 S (k + 3) v1.toNatClampNeg (0 : Int32)) (v1 + (1 : Int32))
def m_Sc_markTaken_L24 (k : Nat) : Nat → St → Int32 → Option (St)
  | 0, _, _ => none
  | n + 1, S, v1 =>
    if (S 1 6) ≤ v1 then
      some S
    else
      o1 (m_St_has k 1 S v1) fun r1 =>
      if r1 = (0 : Int32) then
        m_Sc_markTaken_L24 k n S (v1 + (1 : Int32))
      else
        o1 (m_Sc_markTakenBy k S v1) fun S1 =>
        m_Sc_markTaken_L24 k n S1 (v1 + (1 : Int32))
def m_Sc_markTaken (k : Nat) (S : St)  : Option St :=
  o1 (m_Sc_markTaken_L2 k 200 S (0 : Int32)) fun S1 =>
  o1 (m_Sc_markTaken_L24 k 200 S1 (0 : Int32)) fun S2 =>
  some S2
def m_Sc_firstPlaceFor_L18 (k : Nat) : Nat → St → Int32 → Int32 → Int32 → Option (Int32 × St)
  | 0, _, _, _, _ => none
  | n + 1, S, v2, v3, v4 =>
    if (S k 2) ≤ v4 then
      some ((-1 : Int32), S)
    else
      if (160 : Int32) ≤ v4 then
        some ((-1 : Int32), S)
      else
        oi (qin v4 160) <|
        if (S (k + 3) v4.toNatClampNeg) = (0 : Int32) then
          if (v3 + (1 : Int32)) = v2 then
            some (((v4 - v2) + (1 : Int32)), S)
          else
            m_Sc_firstPlaceFor_L18 k n S v2 (v3 + (1 : Int32)) (v4 + (1 : Int32))
        else
          if (0 : Int32) = v2 then
            some (((v4 - v2) + (1 : Int32)), S)
          else
            m_Sc_firstPlaceFor_L18 k n S v2 (0 : Int32) (v4 + (1 : Int32))
def m_Sc_firstPlaceFor (k : Nat) (S : St) (a1 : Int32) : Option (Int32 × St) :=
  o1 (m_Gr_wordsOf S a1) fun r1 =>
  o1 (m_Sc_markTaken k S) fun S1 =>
  m_Sc_firstPlaceFor_L18 k 200 S1 r1 (0 : Int32) (0 : Int32)
def m_St_put (k d : Nat) (S : St) (a1 : Int32) (a2 : Int32) : Option St :=
  o1 (m_Gr_isThing S a1) fun r1 =>
  if r1 = (0 : Int32) then
    some S
  else
    oi (qin a1 80) <|
    oi (qin a1 80) <|
    some (u2 (u2 S (k + 1) a1.toNatClampNeg (1 : Int32)) (k + 2) a1.toNatClampNeg a2)
def m_St_breakDown_Cou (S : St)  : Option St :=
  o1 (m_St_letAllGo 42 1 (u2 S 42 6 (1 : Int32))) fun S1 =>
  o1 (m_Cou_forgetThings S1) fun S2 =>
  some S2
def m_Cou_isSuspect (S : St) (a1 : Int32) : Option Int32 :=
  o1 (m_St_has 42 1 S a1) fun r1 =>
  if r1 = (0 : Int32) then
    some (0 : Int32)
  else
    oi (qin a1 80) <|
    if (S 47 a1.toNatClampNeg) = (0 : Int32) then
      some (0 : Int32)
    else
      some (1 : Int32)
def m_Cou_countNamedInside_L32 : Nat → St → Int32 → Int32 → Option (St)
  | 0, _, _, _ => none
  | n + 1, S, v2, v3 =>
    o1 (m_Gr_fieldsOf S v2) fun r1 =>
    if r1 ≤ v3 then
      some S
    else
      o1 (m_Gr_nameOf S v2 v3) fun r2 =>
      o1 (m_Gr_isThing S r2) fun r3 =>
      if r3 = (0 : Int32) then
        m_Cou_countNamedInside_L32 n S v2 (v3 + (1 : Int32))
      else
        oi (qin r2 80) <|
        oi (qin r2 80) <|
        m_Cou_countNamedInside_L32 n (u2 S 48 r2.toNatClampNeg ((S 48 r2.toNatClampNeg) + (1 : Int32))) v2 (v3 + (1 : Int32))
def m_Cou_countNamedInside_L10 : Nat → St → Int32 → Option (St)
  | 0, _, _ => none
  | n + 1, S, v1 =>
    if (S 52 2) ≤ v1 then
      some S
    else
      o1 (m_Row_get 52 S v1) fun r1 =>
      o1 (m_Cou_countNamedInside_L32 200 S r1 (0 : Int32)) fun S1 =>
      m_Cou_countNamedInside_L10 n S1 (v1 + (1 : Int32))
def m_Cou_countNamedInside (S : St)  : Option St :=
  o1 (m_Arr_fill_80 48 S (0 : Int32)) fun S1 =>
  o1 (m_Cou_countNamedInside_L10 200 S1 (0 : Int32)) fun S2 =>
  some S2
def m_Cou_findLeftOut_L9 : Nat → St → Int32 → Option (St)
  | 0, _, _ => none
  | n + 1, S, v1 =>
    if (S 52 2) ≤ v1 then
      some S
    else
      o1 (m_Row_get 52 S v1) fun r1 =>
      o1 (m_Gr_isThing S r1) fun r2 =>
      if r2 = (0 : Int32) then
        m_Cou_findLeftOut_L9 n S (v1 + (1 : Int32))
      else
        oi (qin r1 80) <|
        oi (qin r1 80) <|
        if (S 46 r1.toNatClampNeg) ≤ (S 48 r1.toNatClampNeg) then
          m_Cou_findLeftOut_L9 n S (v1 + (1 : Int32))
        else
          o1 (m_Row_add 55 S r1) fun S1 =>
          m_Cou_findLeftOut_L9 n S1 (v1 + (1 : Int32))
def m_Cou_findLeftOut_L71 : Nat → St → Int32 → Option (St)
  | 0, _, _ => none
  | n + 1, S, v1 =>
    if (S 55 2) ≤ v1 then
      some S
    else
      if (80 : Int32) ≤ v1 then
        some S
      else
        o1 (m_Row_get 55 S v1) fun r1 =>
        o1 (m_Gr_addNamedBy 55 S r1) fun S1 =>
        m_Cou_findLeftOut_L71 n S1 (v1 + (1 : Int32))
def m_Cou_findLeftOut (S : St)  : Option St :=
  o1 (m_Row_empty 55 S) fun S1 =>
  o1 (m_Cou_findLeftOut_L9 200 S1 (0 : Int32)) fun S2 =>
  o1 (m_Cou_findLeftOut_L71 200 S2 (0 : Int32)) fun S3 =>
  some S3
def m_Cou_findRings_L9 : Nat → St → Int32 → Option (St)
  | 0, _, _ => none
  | n + 1, S, v1 =>
    if (S 1 6) ≤ v1 then
      some S
    else
      o1 (m_Cou_isSuspect S v1) fun r1 =>
      if r1 = (0 : Int32) then
        m_Cou_findRings_L9 n S (v1 + (1 : Int32))
      else
        o1 (m_Row_add 52 S v1) fun S1 =>
        m_Cou_findRings_L9 n S1 (v1 + (1 : Int32))
def m_Cou_findRings_L44 : Nat → St → Int32 → Option (St)
  | 0, _, _ => none
  | n + 1, S, v1 =>
    if (S 52 2) ≤ v1 then
      some S
    else
      if (80 : Int32) ≤ v1 then
        some S
      else
        o1 (m_Row_get 52 S v1) fun r1 =>
        o1 (m_Gr_addNamedBy 52 S r1) fun S1 =>
        m_Cou_findRings_L44 n S1 (v1 + (1 : Int32))
def m_Cou_findRings (S : St)  : Option St :=
  o1 (m_Row_empty 52 S) fun S1 =>
  o1 (m_Cou_findRings_L9 200 S1 (0 : Int32)) fun S2 =>
  o1 (m_Cou_findRings_L44 200 S2 (0 : Int32)) fun S3 =>
  o1 (m_Cou_countNamedInside S3) fun S4 =>
  o1 (m_Cou_findLeftOut S4) fun S5 =>
  some S5
def m_Row_holds (k : Nat) (S : St) (a1 : Int32) : Option Int32 :=
  if a1 < (0 : Int32) then
    some (0 : Int32)
  else
    if (80 : Int32) ≤ a1 then
      some (0 : Int32)
    else
      oi (qin a1 80) <|
      if (S (k + 2) a1.toNatClampNeg) = (0 : Int32) then
        some (0 : Int32)
      else
        some (1 : Int32)
def m_Cou_letRingGo_L7 : Nat → St → Int32 → Int32 → Option (St)
  | 0, _, _, _ => none
  | n + 1, S, v1, v2 =>
    o1 (m_Gr_fieldsOf S v1) fun r1 =>
    if r1 ≤ v2 then
      some S
    else
      o1 (m_Gr_nameOf S v1 v2) fun r2 =>
      o1 (m_St_has 42 1 S r2) fun r3 =>
      if r3 = (0 : Int32) then
        m_Cou_letRingGo_L7 n S v1 (v2 + (1 : Int32))
      else
        oi (qin r2 80) <|
        oi (qin r2 80) <|
        m_Cou_letRingGo_L7 n (u2 S 46 r2.toNatClampNeg ((S 46 r2.toNatClampNeg) - (1 : Int32))) v1 (v2 + (1 : Int32))
def m_Cou_letRingGo (S : St) (a1 : Int32) : Option St :=
  o1 (m_St_letGo 42 1 S a1) fun S1 =>
  o1 (m_Cou_letRingGo_L7 200 S1 a1 (0 : Int32)) fun S2 =>
  some S2
def m_Cou_collectNow_L38 : Nat → St → Int32 → Option (St)
  | 0, _, _ => none
  | n + 1, S, v2 =>
    if (S 52 2) ≤ v2 then
      some S
    else
      o1 (m_Row_get 52 S v2) fun r1 =>
      o1 (m_Row_holds 55 S r1) fun r2 =>
      if r2 = (0 : Int32) then
        o1 (m_Row_get 52 S v2) fun r3 =>
        o1 (m_Cou_letRingGo S r3) fun S1 =>
        m_Cou_collectNow_L38 n S1 (v2 + (1 : Int32))
      else
        m_Cou_collectNow_L38 n S (v2 + (1 : Int32))
def m_Cou_collectNow_L87 : Nat → St → Int32 → Option (St)
  | 0, _, _ => none
  | n + 1, S, v2 =>
    if (80 : Int32) ≤ v2 then
      some S
    else
      oi (qin v2 80) <|
      m_Cou_collectNow_L87 n (u2 S 47 v2.toNatClampNeg (0 : Int32)) (v2 + (1 : Int32))
def m_Cou_collectNow (S : St)  : Option (Int32 × St) :=
  o1 (m_Cou_findRings S) fun S1 =>
  o1 (m_Cou_collectNow_L38 200 (u2 S1 42 3 ((S1 42 3) + (S1 52 2))) (0 : Int32)) fun S2 =>
  o1 (m_Cou_collectNow_L87 200 S2 (0 : Int32)) fun S3 =>
  some (((S1 52 2) - (S1 55 2)), (u2 (u2 S3 42 10 ((S3 42 10) + ((S1 52 2) - (S1 55 2)))) 42 5 ((S3 42 5) + (1 : Int32))))
def m_Cou_placeNew (S : St) (a1 : Int32) : Option St :=
  ob (m_Sc_firstPlaceFor 42 S a1) fun r1 S1 =>
  if r1 = (-1 : Int32) then
    ob (m_Cou_collectNow S1) fun r3 S4 =>
    ob (m_Sc_firstPlaceFor 42 S4 a1) fun r4 S5 =>
    if r4 = (-1 : Int32) then
      o1 (m_St_breakDown_Cou S5) fun S7 =>
      some S7
    else
      o1 (m_St_put 42 1 S5 a1 r4) fun S6 =>
      o1 (m_Gr_isThing S6 a1) fun r5 =>
      if r5 = (0 : Int32) then
        some S6
      else
        oi (qin a1 80) <|
        oi (qin a1 80) <|
        some (u2 (u2 S6 46 a1.toNatClampNeg (0 : Int32)) 47 a1.toNatClampNeg (0 : Int32))
  else
    if r1 = (-1 : Int32) then
      o1 (m_St_breakDown_Cou S1) fun S3 =>
      some S3
    else
      o1 (m_St_put 42 1 S1 a1 r1) fun S2 =>
      o1 (m_Gr_isThing S2 a1) fun r2 =>
      if r2 = (0 : Int32) then
        some S2
      else
        oi (qin a1 80) <|
        oi (qin a1 80) <|
        some (u2 (u2 S2 46 a1.toNatClampNeg (0 : Int32)) 47 a1.toNatClampNeg (0 : Int32))
def m_St_countHad_L4 (k d : Nat) : Nat → St → Int32 → Int32 → Option (Int32)
  | 0, _, _, _ => none
  | n + 1, S, v1, v2 =>
    if (S 1 6) ≤ v2 then
      some v1
    else
      o1 (m_St_has k d S v2) fun r1 =>
      if r1 = (0 : Int32) then
        m_St_countHad_L4 k d n S (v1 + (0 : Int32)) (v2 + (1 : Int32))
      else
        m_St_countHad_L4 k d n S (v1 + (1 : Int32)) (v2 + (1 : Int32))
def m_St_countHad (k d : Nat) (S : St)  : Option Int32 :=
  o1 (m_St_countHad_L4 k d 200 S (0 : Int32) (0 : Int32)) fun y1 =>
  some y1
def m_Mar_sweep_L15 : Nat → St → Int32 → Option (St)
  | 0, _, _ => none
  | n + 1, S, v1 =>
    if (S 1 6) ≤ v1 then
      some S
    else
      o1 (m_Mar_colourOf S v1) fun r1 =>
      if r1 = (0 : Int32) then
        o1 (m_St_letGo 31 1 S v1) fun S2 =>
        o1 (m_Mar_paint S2 v1 (0 : Int32)) fun S3 =>
        m_Mar_sweep_L15 n S3 (v1 + (1 : Int32))
      else
        o1 (m_Mar_paint S v1 (0 : Int32)) fun S1 =>
        m_Mar_sweep_L15 n S1 (v1 + (1 : Int32))
def m_Mar_sweep (S : St)  : Option St :=
  o1 (m_St_countHad 31 1 S) fun r1 =>
  o1 (m_Mar_sweep_L15 200 (u2 S 31 3 ((S 31 3) + r1)) (0 : Int32)) fun S1 =>
  some (u2 (u2 S1 31 10 (0 : Int32)) 31 5 ((S1 31 5) + (1 : Int32)))
def m_Mar_step_L49 : Nat → St → Int32 → Int32 → Option (St)
  | 0, _, _, _ => none
  | n + 1, S, v1, v2 =>
    o1 (m_Gr_fieldsOf S v1) fun r1 =>
    if r1 ≤ v2 then
      some S
    else
      o1 (m_Gr_nameOf S v1 v2) fun r2 =>
      o1 (m_Mar_becomeGrey S r2) fun S1 =>
      m_Mar_step_L49 n S1 v1 (v2 + (1 : Int32))
def m_Mar_step (S : St)  : Option St :=
  if (S 31 14) < (S 36 2) then
    o1 (m_Row_get 36 S (S 31 14)) fun r1 =>
    o1 (m_Mar_paint (u2 S 31 14 ((S 31 14) + (1 : Int32))) r1 (2 : Int32)) fun S1 =>
    o1 (m_Mar_step_L49 200 S1 r1 (0 : Int32)) fun S2 =>
    o1 (m_Gr_wordsOf S2 r1) fun r2 =>
    some (u2 S2 31 3 ((S2 31 3) + r2))
  else
    o1 (m_Mar_sweep S) fun S3 =>
    some S3
def m_St_wordsHad_L4 (k d : Nat) : Nat → St → Int32 → Int32 → Option (Int32)
  | 0, _, _, _ => none
  | n + 1, S, v1, v2 =>
    if (S 1 6) ≤ v2 then
      some v1
    else
      o1 (m_St_has k d S v2) fun r1 =>
      if r1 = (0 : Int32) then
        m_St_wordsHad_L4 k d n S (v1 + (0 : Int32)) (v2 + (1 : Int32))
      else
        o1 (m_Gr_wordsOf S v2) fun r2 =>
        m_St_wordsHad_L4 k d n S (v1 + r2) (v2 + (1 : Int32))
def m_St_wordsHad (k d : Nat) (S : St)  : Option Int32 :=
  o1 (m_St_wordsHad_L4 k d 200 S (0 : Int32) (0 : Int32)) fun y1 =>
  some y1
def m_Mar_beginToMark_L19 : Nat → St → Int32 → Option (St)
  | 0, _, _ => none
  | n + 1, S, v1 =>
    if (6 : Int32) ≤ v1 then
      some S
    else
      o1 (m_Gr_rootAt S v1) fun r1 =>
      o1 (m_Mar_becomeGrey S r1) fun S1 =>
      m_Mar_beginToMark_L19 n S1 (v1 + (1 : Int32))
def m_Mar_beginToMark (S : St)  : Option St :=
  o1 (m_Row_empty 36 (u2 S 31 10 (1 : Int32))) fun S1 =>
  o1 (m_Mar_beginToMark_L19 200 (u2 S1 31 14 (0 : Int32)) (0 : Int32)) fun S2 =>
  some S2
def m_Mar_workAheadOfPlacing_L32 : Nat → St → Int32 → Option (St)
  | 0, _, _ => none
  | n + 1, S, v1 =>
    if (S 31 10) = (0 : Int32) then
      some S
    else
      if (2 : Int32) ≤ v1 then
        some S
      else
        o1 (m_Mar_step S) fun S1 =>
        m_Mar_workAheadOfPlacing_L32 n S1 (v1 + (1 : Int32))
def m_Mar_workAheadOfPlacing (S : St)  : Option St :=
  if (S 31 10) = (0 : Int32) then
    o1 (m_St_wordsHad 31 1 S) fun r1 =>
    if ((S 31 2) / (2 : Int32)) ≤ ((S 31 2) - r1) then
      some S
    else
      o1 (m_Mar_beginToMark S) fun S2 =>
      some S2
  else
    o1 (m_Mar_workAheadOfPlacing_L32 200 S (0 : Int32)) fun S1 =>
    some S1
def m_St_breakDown_Mar (S : St)  : Option St :=
  o1 (m_St_letAllGo 31 1 (u2 S 31 6 (1 : Int32))) fun S1 =>
  o1 (m_Mar_forgetThings S1) fun S2 =>
  some S2
def m_Mar_collectNow_L18 : Nat → St → Int32 → Option (St)
  | 0, _, _ => none
  | n + 1, S, v2 =>
    if (S 31 10) = (0 : Int32) then
      some S
    else
      if (80 : Int32) < v2 then
        some S
      else
        o1 (m_Mar_step S) fun S1 =>
        m_Mar_collectNow_L18 n S1 (v2 + (1 : Int32))
def m_Mar_collectNow (S : St)  : Option (Int32 × St) :=
  o1 (m_St_countHad 31 1 S) fun r1 =>
  if (S 31 10) = (0 : Int32) then
    o1 (m_Mar_beginToMark S) fun S2 =>
    o1 (m_Mar_collectNow_L18 200 S2 (0 : Int32)) fun S3 =>
    o1 (m_St_countHad 31 1 S3) fun r3 =>
    some ((r1 - r3), S3)
  else
    o1 (m_Mar_collectNow_L18 200 S (0 : Int32)) fun S1 =>
    o1 (m_St_countHad 31 1 S1) fun r2 =>
    some ((r1 - r2), S1)
def m_Mar_placeNew (S : St) (a1 : Int32) : Option St :=
  o1 (m_Mar_workAheadOfPlacing S) fun S1 =>
  ob (m_Sc_firstPlaceFor 31 S1 a1) fun r1 S2 =>
  if r1 = (-1 : Int32) then
    ob (m_Mar_collectNow S2) fun r4 S13 =>
    ob (m_Sc_firstPlaceFor 31 S13 a1) fun r5 S14 =>
    if r5 = (-1 : Int32) then
      ob (m_Mar_collectNow S14) fun r6 S19 =>
      ob (m_Sc_firstPlaceFor 31 S19 a1) fun r7 S20 =>
      if r7 = (-1 : Int32) then
        o1 (m_St_breakDown_Mar S20) fun S24 =>
        some S24
      else
        o1 (m_St_put 31 1 S20 a1 r7) fun S21 =>
        if (S21 31 10) = (0 : Int32) then
          o1 (m_Mar_paint S21 a1 (0 : Int32)) fun S22 =>
          some S22
        else
          o1 (m_Mar_paint S21 a1 (2 : Int32)) fun S23 =>
          some S23
    else
      if r5 = (-1 : Int32) then
        o1 (m_St_breakDown_Mar S14) fun S18 =>
        some S18
      else
        o1 (m_St_put 31 1 S14 a1 r5) fun S15 =>
        if (S15 31 10) = (0 : Int32) then
          o1 (m_Mar_paint S15 a1 (0 : Int32)) fun S16 =>
          some S16
        else
          o1 (m_Mar_paint S15 a1 (2 : Int32)) fun S17 =>
          some S17
  else
    if r1 = (-1 : Int32) then
      ob (m_Mar_collectNow S2) fun r2 S7 =>
      ob (m_Sc_firstPlaceFor 31 S7 a1) fun r3 S8 =>
      if r3 = (-1 : Int32) then
        o1 (m_St_breakDown_Mar S8) fun S12 =>
        some S12
      else
        o1 (m_St_put 31 1 S8 a1 r3) fun S9 =>
        if (S9 31 10) = (0 : Int32) then
          o1 (m_Mar_paint S9 a1 (0 : Int32)) fun S10 =>
          some S10
        else
          o1 (m_Mar_paint S9 a1 (2 : Int32)) fun S11 =>
          some S11
    else
      if r1 = (-1 : Int32) then
        o1 (m_St_breakDown_Mar S2) fun S6 =>
        some S6
      else
        o1 (m_St_put 31 1 S2 a1 r1) fun S3 =>
        if (S3 31 10) = (0 : Int32) then
          o1 (m_Mar_paint S3 a1 (0 : Int32)) fun S4 =>
          some S4
        else
          o1 (m_Mar_paint S3 a1 (2 : Int32)) fun S5 =>
          some S5
def m_Nur_freeTogether (S : St)  : Option Int32 :=
  some (((S 18 1) / (4 : Int32)) - (S 18 15))
def m_Nur_putYoung (S : St) (a1 : Int32) (a2 : Int32) : Option St :=
  o1 (m_Gr_isThing S a1) fun r1 =>
  if r1 = (0 : Int32) then
    some S
  else
    oi (qin a1 80) <|
    o1 (m_Row_add 21 (u2 S 30 a1.toNatClampNeg (vp_nar .boolean a2)) a1) fun S1 =>
    o1 (m_St_put 18 0 S1 a1 (S1 18 15)) fun S2 =>
    o1 (m_Gr_wordsOf S2 a1) fun r2 =>
    some (u2 S2 18 15 ((S2 18 15) + r2))
def m_Gr_isReached (S : St) (a1 : Int32) : Option Int32 :=
  if a1 < (0 : Int32) then
    some (0 : Int32)
  else
    if (S 1 6) ≤ a1 then
      some (0 : Int32)
    else
      oi (qin a1 80) <|
      if (S 5 a1.toNatClampNeg) = (-1 : Int32) then
        some (0 : Int32)
      else
        some (1 : Int32)
def m_St_wordsReached_L4 (k d : Nat) : Nat → St → Int32 → Int32 → Option (Int32)
  | 0, _, _, _ => none
  | n + 1, S, v1, v2 =>
    if (S 1 6) ≤ v2 then
      some v1
    else
      o1 (m_St_has k d S v2) fun r1 =>
      if r1 = (0 : Int32) then
        m_St_wordsReached_L4 k d n S (v1 + (0 : Int32)) (v2 + (1 : Int32))
      else
        o1 (m_Gr_isReached S v2) fun r2 =>
        if r2 = (0 : Int32) then
          m_St_wordsReached_L4 k d n S (v1 + (0 : Int32)) (v2 + (1 : Int32))
        else
          o1 (m_Gr_wordsOf S v2) fun r3 =>
          m_St_wordsReached_L4 k d n S (v1 + r3) (v2 + (1 : Int32))
def m_St_wordsReached (k d : Nat) (S : St)  : Option Int32 :=
  o1 (m_St_wordsReached_L4 k d 200 S (0 : Int32) (0 : Int32)) fun y1 =>
  some y1
def m_Nur_greatFits (S : St)  : Option Int32 :=
  o1 (m_St_wordsReached 18 0 S) fun r1 =>
  if ((S 18 1) - ((S 18 1) / (4 : Int32))) < r1 then
    some (0 : Int32)
  else
    some (1 : Int32)
def m_Nur_addReached_L2 (q : Nat) : Nat → St → Int32 → Option (St)
  | 0, _, _ => none
  | n + 1, S, v2 =>
    if (S q 2) ≤ v2 then
      some S
    else
      o1 (m_Row_get q S v2) fun r1 =>
      o1 (m_Gr_isReached S r1) fun r2 =>
      if r2 = (0 : Int32) then
        m_Nur_addReached_L2 q n S (v2 + (1 : Int32))
      else
        o1 (m_Row_get q S v2) fun r3 =>
        o1 (m_Row_add 27 S r3) fun S1 =>
        m_Nur_addReached_L2 q n S1 (v2 + (1 : Int32))
def m_Nur_addReached (q : Nat) (S : St)  : Option St :=
  o1 (m_Nur_addReached_L2 q 200 S (0 : Int32)) fun S1 =>
  some S1
def m_Nur_findReached (S : St)  : Option St :=
  o1 (m_Row_empty 27 S) fun S1 =>
  o1 (m_Nur_addReached 24 S1) fun S2 =>
  o1 (m_Nur_addReached 21 S2) fun S3 =>
  some S3
def m_Nur_putOld (S : St) (a1 : Int32) : Option St :=
  o1 (m_Row_add 24 S a1) fun S1 =>
  o1 (m_St_put 18 0 S1 a1 (S1 18 16)) fun S2 =>
  o1 (m_Gr_wordsOf S2 a1) fun r1 =>
  some (u2 S2 18 16 ((S2 18 16) + r1))
def m_St_breakDown_Nur (S : St)  : Option St :=
  o1 (m_St_letAllGo 18 0 (u2 S 18 5 (1 : Int32))) fun S1 =>
  o1 (m_Nur_forgetThings S1) fun S2 =>
  some S2
def m_Nur_collectNow_L32 : Nat → St → Int32 → Option (St)
  | 0, _, _ => none
  | n + 1, S, v2 =>
    if (S 27 2) ≤ v2 then
      some S
    else
      o1 (m_Row_get 27 S v2) fun r1 =>
      o1 (m_Nur_putOld S r1) fun S1 =>
      o1 (m_Row_get 27 S1 v2) fun r2 =>
      o1 (m_Gr_wordsOf S1 r2) fun r3 =>
      m_Nur_collectNow_L32 n (u2 S1 18 2 ((S1 18 2) + r3)) (v2 + (1 : Int32))
def m_Nur_collectNow (S : St)  : Option (Int32 × St) :=
  o1 (m_Nur_greatFits S) fun r1 =>
  if r1 = (0 : Int32) then
    o1 (m_St_breakDown_Nur S) fun S5 =>
    some ((0 : Int32), S5)
  else
    o1 (m_St_countHad 18 0 S) fun r2 =>
    o1 (m_Nur_findReached S) fun S1 =>
    o1 (m_St_letAllGo 18 0 S1) fun S2 =>
    o1 (m_Nur_forgetThings S2) fun S3 =>
    o1 (m_Nur_collectNow_L32 200 S3 (0 : Int32)) fun S4 =>
    some ((r2 - (S4 27 2)), (u2 S4 18 4 ((S4 18 4) + (1 : Int32))))
def m_Nur_isGrown (S : St) (a1 : Int32) : Option Int32 :=
  o1 (m_Gr_isThing S a1) fun r1 =>
  if r1 = (0 : Int32) then
    some (0 : Int32)
  else
    oi (qin a1 80) <|
    if (S 30 a1.toNatClampNeg) = (0 : Int32) then
      some (0 : Int32)
    else
      some (1 : Int32)
def m_Nur_wordsGrown_L4 : Nat → St → Int32 → Int32 → Option (Int32)
  | 0, _, _, _ => none
  | n + 1, S, v1, v2 =>
    if (S 21 2) ≤ v2 then
      some v1
    else
      o1 (m_Row_get 21 S v2) fun r1 =>
      o1 (m_Nur_isGrown S r1) fun r2 =>
      if r2 = (0 : Int32) then
        m_Nur_wordsGrown_L4 n S (v1 + (0 : Int32)) (v2 + (1 : Int32))
      else
        o1 (m_Row_get 21 S v2) fun r3 =>
        o1 (m_Gr_wordsOf S r3) fun r4 =>
        m_Nur_wordsGrown_L4 n S (v1 + r4) (v2 + (1 : Int32))
def m_Nur_wordsGrown (S : St)  : Option Int32 :=
  o1 (m_Nur_wordsGrown_L4 200 S (0 : Int32) (0 : Int32)) fun y1 =>
  some y1
def m_Nur_addYoung (S : St) (a1 : Int32) : Option St :=
  o1 (m_Row_holds 21 S a1) fun r1 =>
  if r1 = (0 : Int32) then
    some S
  else
    o1 (m_Row_add 27 S a1) fun S1 =>
    some S1
def m_Nur_addYoungNamedBy_L2 : Nat → St → Int32 → Int32 → Option (St)
  | 0, _, _, _ => none
  | n + 1, S, v1, v2 =>
    o1 (m_Gr_fieldsOf S v1) fun r1 =>
    if r1 ≤ v2 then
      some S
    else
      o1 (m_Gr_nameOf S v1 v2) fun r2 =>
      o1 (m_Nur_addYoung S r2) fun S1 =>
      m_Nur_addYoungNamedBy_L2 n S1 v1 (v2 + (1 : Int32))
def m_Nur_addYoungNamedBy (S : St) (a1 : Int32) : Option St :=
  o1 (m_Nur_addYoungNamedBy_L2 200 S a1 (0 : Int32)) fun S1 =>
  some S1
def m_Nur_findYoung_L9 : Nat → St → Int32 → Option (St)
  | 0, _, _ => none
  | n + 1, S, v1 =>
    if (6 : Int32) ≤ v1 then
      some S
    else
      o1 (m_Gr_rootAt S v1) fun r1 =>
      o1 (m_Nur_addYoung S r1) fun S1 =>
      m_Nur_findYoung_L9 n S1 (v1 + (1 : Int32))
def m_Nur_findYoung_L35 : Nat → St → Int32 → Option (St)
  | 0, _, _ => none
  | n + 1, S, v1 =>
    if (S 1 6) ≤ v1 then
      some S
    else
      o1 (m_Row_holds 24 S v1) fun r1 =>
      if r1 = (0 : Int32) then
        m_Nur_findYoung_L35 n S (v1 + (1 : Int32))
      else
        o1 (m_Nur_addYoungNamedBy S v1) fun S1 =>
        m_Nur_findYoung_L35 n S1 (v1 + (1 : Int32))
def m_Nur_findYoung_L70 : Nat → St → Int32 → Option (St)
  | 0, _, _ => none
  | n + 1, S, v1 =>
    if (S 27 2) ≤ v1 then
      some S
    else
      if (80 : Int32) ≤ v1 then
        some S
      else
        o1 (m_Row_get 27 S v1) fun r1 =>
        o1 (m_Nur_addYoungNamedBy S r1) fun S1 =>
        m_Nur_findYoung_L70 n S1 (v1 + (1 : Int32))
def m_Nur_findYoung (S : St)  : Option St :=
  o1 (m_Row_empty 27 S) fun S1 =>
  o1 (m_Nur_findYoung_L9 200 S1 (0 : Int32)) fun S2 =>
  o1 (m_Nur_findYoung_L35 200 S2 (0 : Int32)) fun S3 =>
  o1 (m_Nur_findYoung_L70 200 S3 (0 : Int32)) fun S4 =>
  some S4
def m_Nur_moveFound (S : St) (a1 : Int32) : Option St :=
  o1 (m_Gr_wordsOf S a1) fun r1 =>
  o1 (m_Nur_isGrown S a1) fun r2 =>
  if r2 = (0 : Int32) then
    o1 (m_Nur_putYoung S a1 (1 : Int32)) fun S1 =>
    some (u2 S1 18 2 ((S1 18 2) + r1))
  else
    o1 (m_Nur_putOld S a1) fun S2 =>
    some (u2 (u2 S2 18 10 ((S2 18 10) + r1)) 18 2 ((S2 18 2) + r1))
def m_Nur_cleanUpYoung_L44 : Nat → St → Int32 → Option (St)
  | 0, _, _ => none
  | n + 1, S, v2 =>
    if (S 21 2) ≤ v2 then
      some S
    else
      o1 (m_Row_get 21 S v2) fun r1 =>
      o1 (m_St_letGo 18 0 S r1) fun S1 =>
      m_Nur_cleanUpYoung_L44 n S1 (v2 + (1 : Int32))
def m_Nur_cleanUpYoung_L87 : Nat → St → Int32 → Option (St)
  | 0, _, _ => none
  | n + 1, S, v2 =>
    if (S 27 2) ≤ v2 then
      some S
    else
      o1 (m_Row_get 27 S v2) fun r1 =>
      o1 (m_Nur_moveFound S r1) fun S1 =>
      m_Nur_cleanUpYoung_L87 n S1 (v2 + (1 : Int32))
def m_Nur_cleanUpYoung (S : St)  : Option (Int32 × St) :=
  if (S 18 5) = (0 : Int32) then
    o1 (m_Nur_wordsGrown S) fun r1 =>
    if r1 ≤ ((S 18 1) - (S 18 16)) then
      o1 (m_Nur_findYoung S) fun S1 =>
      o1 (m_Nur_cleanUpYoung_L44 200 S1 (0 : Int32)) fun S2 =>
      o1 (m_Row_empty 21 S2) fun S3 =>
      o1 (m_Nur_cleanUpYoung_L87 200 (u2 S3 18 15 (0 : Int32)) (0 : Int32)) fun S4 =>
      some (((S 21 2) - (S4 27 2)), (u2 S4 18 9 ((S4 18 9) + (1 : Int32))))
    else
      ob (m_Nur_collectNow S) fun r2 S5 =>
      some (r2, S5)
  else
    some ((0 : Int32), S)
def m_Nur_placeNew (S : St) (a1 : Int32) : Option St :=
  o1 (m_Gr_wordsOf S a1) fun r1 =>
  o1 (m_Nur_freeTogether S) fun r2 =>
  if r1 ≤ r2 then
    if (S 18 5) = (0 : Int32) then
      o1 (m_Nur_freeTogether S) fun r3 =>
      if r1 ≤ r3 then
        if (S 18 5) = (0 : Int32) then
          o1 (m_Nur_putYoung S a1 (0 : Int32)) fun S2 =>
          some S2
        else
          some S
      else
        ob (m_Nur_collectNow S) fun r4 S3 =>
        if (S3 18 5) = (0 : Int32) then
          o1 (m_Nur_putYoung S3 a1 (0 : Int32)) fun S4 =>
          some S4
        else
          some S3
    else
      if (S 18 5) = (0 : Int32) then
        o1 (m_Nur_putYoung S a1 (0 : Int32)) fun S1 =>
        some S1
      else
        some S
  else
    ob (m_Nur_cleanUpYoung S) fun r5 S5 =>
    if (S5 18 5) = (0 : Int32) then
      o1 (m_Nur_freeTogether S5) fun r6 =>
      if r1 ≤ r6 then
        if (S5 18 5) = (0 : Int32) then
          o1 (m_Nur_putYoung S5 a1 (0 : Int32)) fun S7 =>
          some S7
        else
          some S5
      else
        ob (m_Nur_collectNow S5) fun r7 S8 =>
        if (S8 18 5) = (0 : Int32) then
          o1 (m_Nur_putYoung S8 a1 (0 : Int32)) fun S9 =>
          some S9
        else
          some S8
    else
      if (S5 18 5) = (0 : Int32) then
        o1 (m_Nur_putYoung S5 a1 (0 : Int32)) fun S6 =>
        some S6
      else
        some S5
def m_Cop_freeTogether (S : St)  : Option Int32 :=
  some (((S 12 1) / (2 : Int32)) - (S 12 11))
def m_Cop_putBehind (S : St) (a1 : Int32) : Option St :=
  if (S 12 10) = (0 : Int32) then
    o1 (m_St_put 12 0 S a1 ((0 : Int32) + (S 12 11))) fun S1 =>
    o1 (m_Gr_wordsOf S1 a1) fun r1 =>
    some (u2 S1 12 11 ((S1 12 11) + r1))
  else
    o1 (m_St_put 12 0 S a1 (((S 12 1) / (2 : Int32)) + (S 12 11))) fun S2 =>
    o1 (m_Gr_wordsOf S2 a1) fun r2 =>
    some (u2 S2 12 11 ((S2 12 11) + r2))
def m_St_breakDown_Cop (S : St)  : Option St :=
  o1 (m_St_letAllGo 12 0 (u2 S 12 5 (1 : Int32))) fun S1 =>
  o1 (m_Cop_forgetThings S1) fun S2 =>
  some S2
def m_Cop_collectNow_L44 : Nat → St → Int32 → Option (St)
  | 0, _, _ => none
  | n + 1, S, v2 =>
    if (S 15 2) ≤ v2 then
      some S
    else
      o1 (m_Row_get 15 S v2) fun r1 =>
      o1 (m_Cop_putBehind S r1) fun S1 =>
      m_Cop_collectNow_L44 n S1 (v2 + (1 : Int32))
def m_Cop_collectNow (S : St)  : Option (Int32 × St) :=
  o1 (m_St_countHad 12 0 S) fun r1 =>
  o1 (m_Gr_trace 15 S (-1 : Int32)) fun S1 =>
  o1 (m_St_letAllGo 12 0 S1) fun S2 =>
  if (S2 12 10) = (0 : Int32) then
    o1 (m_Cop_collectNow_L44 200 (u2 (u2 S2 12 10 (1 : Int32)) 12 11 (0 : Int32)) (0 : Int32)) fun S4 =>
    some ((r1 - (S4 15 2)), (u2 (u2 S4 12 2 ((S4 12 2) + (S4 12 11))) 12 4 ((S4 12 4) + (1 : Int32))))
  else
    o1 (m_Cop_collectNow_L44 200 (u2 (u2 S2 12 10 (0 : Int32)) 12 11 (0 : Int32)) (0 : Int32)) fun S3 =>
    some ((r1 - (S3 15 2)), (u2 (u2 S3 12 2 ((S3 12 2) + (S3 12 11))) 12 4 ((S3 12 4) + (1 : Int32))))
def m_Cop_placeNew (S : St) (a1 : Int32) : Option St :=
  o1 (m_Gr_wordsOf S a1) fun r1 =>
  o1 (m_Cop_freeTogether S) fun r2 =>
  if r1 ≤ r2 then
    o1 (m_Cop_freeTogether S) fun r3 =>
    if r1 ≤ r3 then
      o1 (m_Cop_putBehind S a1) fun S1 =>
      some S1
    else
      o1 (m_St_breakDown_Cop S) fun S2 =>
      some S2
  else
    ob (m_Cop_collectNow S) fun r4 S3 =>
    o1 (m_Cop_freeTogether S3) fun r5 =>
    if r1 ≤ r5 then
      o1 (m_Cop_putBehind S3 a1) fun S4 =>
      some S4
    else
      o1 (m_St_breakDown_Cop S3) fun S5 =>
      some S5
def m_Te_make (S : St) (a1 : Int32) (a2 : Int32) : Option (Int32 × St) :=
  if a1 < (0 : Int32) then
    none
  else
    if a1 ≤ (3 : Int32) then
      o1 (m_Te_checkRoot S a2) fun u1 =>
      if (S 1 6) < (80 : Int32) then
        o1 (m_Te_openPauses S) fun S1 =>
        ob (m_Gr_addThing S1 a1) fun r1 S2 =>
        if (S2 12 5) = (0 : Int32) then
          o1 (m_Cop_placeNew S2 r1) fun S26 =>
          if (S26 18 5) = (0 : Int32) then
            o1 (m_Nur_placeNew S26 r1) fun S38 =>
            if (S38 31 6) = (0 : Int32) then
              o1 (m_Mar_placeNew S38 r1) fun S44 =>
              if (S44 42 6) = (0 : Int32) then
                o1 (m_Cou_placeNew S44 r1) fun S47 =>
                ob (m_Te_nameByRoot S47 a2 r1) fun r17 S48 =>
                o1 (m_Te_closePauses S48) fun S49 =>
                some (r1, S49)
              else
                ob (m_Te_nameByRoot S44 a2 r1) fun r16 S45 =>
                o1 (m_Te_closePauses S45) fun S46 =>
                some (r1, S46)
            else
              if (S38 42 6) = (0 : Int32) then
                o1 (m_Cou_placeNew S38 r1) fun S41 =>
                ob (m_Te_nameByRoot S41 a2 r1) fun r15 S42 =>
                o1 (m_Te_closePauses S42) fun S43 =>
                some (r1, S43)
              else
                ob (m_Te_nameByRoot S38 a2 r1) fun r14 S39 =>
                o1 (m_Te_closePauses S39) fun S40 =>
                some (r1, S40)
          else
            if (S26 31 6) = (0 : Int32) then
              o1 (m_Mar_placeNew S26 r1) fun S32 =>
              if (S32 42 6) = (0 : Int32) then
                o1 (m_Cou_placeNew S32 r1) fun S35 =>
                ob (m_Te_nameByRoot S35 a2 r1) fun r13 S36 =>
                o1 (m_Te_closePauses S36) fun S37 =>
                some (r1, S37)
              else
                ob (m_Te_nameByRoot S32 a2 r1) fun r12 S33 =>
                o1 (m_Te_closePauses S33) fun S34 =>
                some (r1, S34)
            else
              if (S26 42 6) = (0 : Int32) then
                o1 (m_Cou_placeNew S26 r1) fun S29 =>
                ob (m_Te_nameByRoot S29 a2 r1) fun r11 S30 =>
                o1 (m_Te_closePauses S30) fun S31 =>
                some (r1, S31)
              else
                ob (m_Te_nameByRoot S26 a2 r1) fun r10 S27 =>
                o1 (m_Te_closePauses S27) fun S28 =>
                some (r1, S28)
        else
          if (S2 18 5) = (0 : Int32) then
            o1 (m_Nur_placeNew S2 r1) fun S14 =>
            if (S14 31 6) = (0 : Int32) then
              o1 (m_Mar_placeNew S14 r1) fun S20 =>
              if (S20 42 6) = (0 : Int32) then
                o1 (m_Cou_placeNew S20 r1) fun S23 =>
                ob (m_Te_nameByRoot S23 a2 r1) fun r9 S24 =>
                o1 (m_Te_closePauses S24) fun S25 =>
                some (r1, S25)
              else
                ob (m_Te_nameByRoot S20 a2 r1) fun r8 S21 =>
                o1 (m_Te_closePauses S21) fun S22 =>
                some (r1, S22)
            else
              if (S14 42 6) = (0 : Int32) then
                o1 (m_Cou_placeNew S14 r1) fun S17 =>
                ob (m_Te_nameByRoot S17 a2 r1) fun r7 S18 =>
                o1 (m_Te_closePauses S18) fun S19 =>
                some (r1, S19)
              else
                ob (m_Te_nameByRoot S14 a2 r1) fun r6 S15 =>
                o1 (m_Te_closePauses S15) fun S16 =>
                some (r1, S16)
          else
            if (S2 31 6) = (0 : Int32) then
              o1 (m_Mar_placeNew S2 r1) fun S8 =>
              if (S8 42 6) = (0 : Int32) then
                o1 (m_Cou_placeNew S8 r1) fun S11 =>
                ob (m_Te_nameByRoot S11 a2 r1) fun r5 S12 =>
                o1 (m_Te_closePauses S12) fun S13 =>
                some (r1, S13)
              else
                ob (m_Te_nameByRoot S8 a2 r1) fun r4 S9 =>
                o1 (m_Te_closePauses S9) fun S10 =>
                some (r1, S10)
            else
              if (S2 42 6) = (0 : Int32) then
                o1 (m_Cou_placeNew S2 r1) fun S5 =>
                ob (m_Te_nameByRoot S5 a2 r1) fun r3 S6 =>
                o1 (m_Te_closePauses S6) fun S7 =>
                some (r1, S7)
              else
                ob (m_Te_nameByRoot S2 a2 r1) fun r2 S3 =>
                o1 (m_Te_closePauses S3) fun S4 =>
                some (r1, S4)
      else
        none
    else
      none
def m_Te_checkNameable (S : St) (a1 : Int32) : Option Unit :=
  if a1 = (-1 : Int32) then
    some ()
  else
    o1 (m_Gr_isReached S a1) fun r1 =>
    if r1 = (0 : Int32) then
      none
    else
      some ()
def m_Te_root (S : St) (a1 : Int32) (a2 : Int32) : Option (Int32 × St) :=
  o1 (m_Te_checkRoot S a1) fun u1 =>
  o1 (m_Te_checkNameable S a2) fun u2 =>
  o1 (m_Te_openPauses S) fun S1 =>
  ob (m_Te_nameByRoot S1 a1 a2) fun r1 S2 =>
  o1 (m_Te_closePauses S2) fun S3 =>
  some (r1, S3)
def m_Te_checkThing (S : St) (a1 : Int32) : Option Unit :=
  o1 (m_Gr_isThing S a1) fun r1 =>
  if r1 = (0 : Int32) then
    none
  else
    some ()
def m_Te_checkWhat (S : St) (a0 : Int32) (a1 : Int32) : Option Unit :=
  if a0 < (0 : Int32) then
    none
  else
    if a0 ≤ a1 then
      some ()
    else
      none
def m_Te_asNumber (S : St) (a0 : Int32) : Option Int32 :=
  if a0 = (0 : Int32) then
    some (0 : Int32)
  else
    some (1 : Int32)
def m_Te_ofThing (S : St) (a1 : Int32) (a2 : Int32) : Option Int32 :=
  o1 (m_Te_checkThing S a1) fun u1 =>
  o1 (m_Te_checkWhat S a2 (2 : Int32)) fun u2 =>
  if a2 = (0 : Int32) then
    o1 (m_Gr_fieldsOf S a1) fun r1 =>
    some r1
  else if a2 = (1 : Int32) then
    o1 (m_Gr_isReached S a1) fun r2 =>
    o1 (m_Te_asNumber S r2) fun r3 =>
    some r3
  else
    o1 (m_Gr_distanceOf S a1) fun r4 =>
    some r4
def m_Gr_hasField (S : St) (a1 : Int32) (a2 : Int32) : Option Int32 :=
  if a1 < (0 : Int32) then
    some (0 : Int32)
  else
    if (S 1 6) ≤ a1 then
      some (0 : Int32)
    else
      if a2 < (0 : Int32) then
        some (0 : Int32)
      else
        oi (qin a1 80) <|
        if (S 2 a1.toNatClampNeg) ≤ a2 then
          some (0 : Int32)
        else
          some (1 : Int32)
def m_Gr_nameByField (S : St) (a1 : Int32) (a2 : Int32) (a3 : Int32) : Option St :=
  o1 (m_Gr_hasField S a1 a2) fun r1 =>
  if r1 = (0 : Int32) then
    some S
  else
    oi (qin ((a1 * (3 : Int32)) + a2) 240) <|
    o1 (m_Gr_measure (u2 S 3 ((a1 * (3 : Int32)) + a2).toNatClampNeg a3)) fun S1 =>
    some S1
def m_Te_set (S : St) (a1 : Int32) (a2 : Int32) (a3 : Int32) : Option (Int32 × St) :=
  o1 (m_Gr_isReached S a1) fun r1 =>
  if r1 = (0 : Int32) then
    none
  else
    o1 (m_Gr_hasField S a1 a2) fun r2 =>
    if r2 = (0 : Int32) then
      none
    else
      o1 (m_Te_checkNameable S a3) fun u1 =>
      o1 (m_Te_openPauses S) fun S1 =>
      o1 (m_Gr_nameOf S1 a1 a2) fun r3 =>
      if r3 = a3 then
        o1 (m_Te_closePauses S1) fun S2 =>
        some (r3, S2)
      else
        o1 (m_Gr_nameByField S1 a1 a2 a3) fun S3 =>
        o1 (m_Te_tellStores S3 a1 r3 a3) fun S4 =>
        o1 (m_Te_closePauses S4) fun S5 =>
        some (r3, S5)
def m_Te_named (S : St) (a1 : Int32) (a2 : Int32) : Option Int32 :=
  o1 (m_Gr_hasField S a1 a2) fun r1 =>
  if r1 = (0 : Int32) then
    none
  else
    o1 (m_Gr_nameOf S a1 a2) fun r2 =>
    some r2
def m_Mar_goOn_L22 : Nat → St → Int32 → Int32 → Option (St)
  | 0, _, _, _ => none
  | n + 1, S, v1, v2 =>
    if (S 31 10) = (0 : Int32) then
      some S
    else
      if v1 ≤ v2 then
        some S
      else
        o1 (m_Mar_step S) fun S1 =>
        m_Mar_goOn_L22 n S1 v1 (v2 + (1 : Int32))
def m_Mar_goOn (S : St) (a1 : Int32) : Option (Int32 × St) :=
  if (S 31 6) = (0 : Int32) then
    if (S 31 10) = (0 : Int32) then
      o1 (m_Mar_beginToMark S) fun S2 =>
      o1 (m_Mar_goOn_L22 200 S2 a1 (0 : Int32)) fun S3 =>
      if (S3 31 10) = (0 : Int32) then
        some ((-1 : Int32), S3)
      else
        some (((S3 36 2) - (S3 31 14)), S3)
    else
      o1 (m_Mar_goOn_L22 200 S a1 (0 : Int32)) fun S1 =>
      if (S1 31 10) = (0 : Int32) then
        some ((-1 : Int32), S1)
      else
        some (((S1 36 2) - (S1 31 14)), S1)
  else
    some ((-1 : Int32), S)
def m_Te_steps (S : St) (a1 : Int32) : Option (Int32 × St) :=
  if a1 < (1 : Int32) then
    none
  else
    if a1 ≤ (20 : Int32) then
      o1 (m_St_openPause 31 1 S) fun S1 =>
      ob (m_Mar_goOn S1 a1) fun r1 S2 =>
      o1 (m_St_closePause 31 1 S2) fun S3 =>
      some (r1, S3)
    else
      none
def m_Te_storeOf (S : St) (a1 : Int32) : Option Nat :=
  if a1 < (0 : Int32) then
    none
  else
    if a1 < (4 : Int32) then
      if a1 = (0 : Int32) then
        some 12
      else if a1 = (1 : Int32) then
        some 18
      else if a1 = (2 : Int32) then
        some 31
      else if a1 = (3 : Int32) then
        some 42
      else none
    else
      none
def m_St_countUnreached_L4 (k d : Nat) : Nat → St → Int32 → Int32 → Option (Int32)
  | 0, _, _, _ => none
  | n + 1, S, v1, v2 =>
    if (S 1 6) ≤ v2 then
      some v1
    else
      o1 (m_St_has k d S v2) fun r1 =>
      if r1 = (0 : Int32) then
        m_St_countUnreached_L4 k d n S (v1 + (0 : Int32)) (v2 + (1 : Int32))
      else
        o1 (m_Gr_isReached S v2) fun r2 =>
        if r2 = (0 : Int32) then
          m_St_countUnreached_L4 k d n S (v1 + (1 : Int32)) (v2 + (1 : Int32))
        else
          m_St_countUnreached_L4 k d n S (v1 + (0 : Int32)) (v2 + (1 : Int32))
def m_St_countUnreached (k d : Nat) (S : St)  : Option Int32 :=
  o1 (m_St_countUnreached_L4 k d 200 S (0 : Int32) (0 : Int32)) fun y1 =>
  some y1
def m_Sc_freeTogether_L10 (k : Nat) : Nat → St → Int32 → Int32 → Int32 → Option (Int32)
  | 0, _, _, _, _ => none
  | n + 1, S, v1, v2, v3 =>
    if (S k 2) ≤ v3 then
      some v1
    else
      if (160 : Int32) ≤ v3 then
        some v1
      else
        oi (qin v3 160) <|
        if (S (k + 3) v3.toNatClampNeg) = (0 : Int32) then
          m_Sc_freeTogether_L10 k n S (if v1 < (v2 + (1 : Int32)) then (v2 + (1 : Int32)) else v1) (v2 + (1 : Int32)) (v3 + (1 : Int32))
        else
          m_Sc_freeTogether_L10 k n S (if v1 < (0 : Int32) then (0 : Int32) else v1) (0 : Int32) (v3 + (1 : Int32))
def m_Sc_freeTogether (k : Nat) (S : St)  : Option (Int32 × St) :=
  o1 (m_Sc_markTaken k S) fun S1 =>
  o1 (m_Sc_freeTogether_L10 k 200 S1 (0 : Int32) (0 : Int32) (0 : Int32)) fun y1 =>
  some (y1, S1)
def m_Te_told (S : St) (a1 : Int32) (a2 : Int32) : Option (Int32 × St) :=
  o1 (m_Te_storeOf S a1) fun k1 =>
  if k1 = 12 then
    o1 (m_Te_checkWhat S a2 (7 : Int32)) fun u1 =>
    if a2 = (0 : Int32) then
      o1 (m_St_countHad 12 0 S) fun r1 =>
      some (r1, S)
    else if a2 = (1 : Int32) then
      o1 (m_St_wordsHad 12 0 S) fun r2 =>
      some (r2, S)
    else if a2 = (2 : Int32) then
      o1 (m_St_countUnreached 12 0 S) fun r3 =>
      some (r3, S)
    else if a2 = (3 : Int32) then
      some ((S 12 2), S)
    else if a2 = (4 : Int32) then
      some ((S 12 3), S)
    else if a2 = (5 : Int32) then
      if (S 12 5) = (0 : Int32) then
        o1 (m_Cop_freeTogether S) fun r4 =>
        some (r4, S)
      else
        some ((0 : Int32), S)
    else if a2 = (6 : Int32) then
      some ((S 12 4), S)
    else
      o1 (m_Te_asNumber S (S 12 5)) fun r5 =>
      some (r5, S)
  else if k1 = 18 then
    o1 (m_Te_checkWhat S a2 (7 : Int32)) fun u2 =>
    if a2 = (0 : Int32) then
      o1 (m_St_countHad 18 0 S) fun r6 =>
      some (r6, S)
    else if a2 = (1 : Int32) then
      o1 (m_St_wordsHad 18 0 S) fun r7 =>
      some (r7, S)
    else if a2 = (2 : Int32) then
      o1 (m_St_countUnreached 18 0 S) fun r8 =>
      some (r8, S)
    else if a2 = (3 : Int32) then
      some ((S 18 2), S)
    else if a2 = (4 : Int32) then
      some ((S 18 3), S)
    else if a2 = (5 : Int32) then
      if (S 18 5) = (0 : Int32) then
        o1 (m_Nur_freeTogether S) fun r9 =>
        some (r9, S)
      else
        some ((0 : Int32), S)
    else if a2 = (6 : Int32) then
      some ((S 18 4), S)
    else
      o1 (m_Te_asNumber S (S 18 5)) fun r10 =>
      some (r10, S)
  else if k1 = 31 then
    o1 (m_Te_checkWhat S a2 (7 : Int32)) fun u3 =>
    if a2 = (0 : Int32) then
      o1 (m_St_countHad 31 1 S) fun r11 =>
      some (r11, S)
    else if a2 = (1 : Int32) then
      o1 (m_St_wordsHad 31 1 S) fun r12 =>
      some (r12, S)
    else if a2 = (2 : Int32) then
      o1 (m_St_countUnreached 31 1 S) fun r13 =>
      some (r13, S)
    else if a2 = (3 : Int32) then
      some ((S 31 3), S)
    else if a2 = (4 : Int32) then
      some ((S 31 4), S)
    else if a2 = (5 : Int32) then
      if (S 31 6) = (0 : Int32) then
        ob (m_Sc_freeTogether 31 S) fun r14 S1 =>
        some (r14, S1)
      else
        some ((0 : Int32), S)
    else if a2 = (6 : Int32) then
      some ((S 31 5), S)
    else
      o1 (m_Te_asNumber S (S 31 6)) fun r15 =>
      some (r15, S)
  else if k1 = 42 then
    o1 (m_Te_checkWhat S a2 (7 : Int32)) fun u4 =>
    if a2 = (0 : Int32) then
      o1 (m_St_countHad 42 1 S) fun r16 =>
      some (r16, S)
    else if a2 = (1 : Int32) then
      o1 (m_St_wordsHad 42 1 S) fun r17 =>
      some (r17, S)
    else if a2 = (2 : Int32) then
      o1 (m_St_countUnreached 42 1 S) fun r18 =>
      some (r18, S)
    else if a2 = (3 : Int32) then
      some ((S 42 3), S)
    else if a2 = (4 : Int32) then
      some ((S 42 4), S)
    else if a2 = (5 : Int32) then
      if (S 42 6) = (0 : Int32) then
        ob (m_Sc_freeTogether 42 S) fun r19 S2 =>
        some (r19, S2)
      else
        some ((0 : Int32), S)
    else if a2 = (6 : Int32) then
      some ((S 42 5), S)
    else
      o1 (m_Te_asNumber S (S 42 6)) fun r20 =>
      some (r20, S)
  else none
def m_Te_at (S : St) (a1 : Int32) (a2 : Int32) : Option Int32 :=
  o1 (m_Te_storeOf S a1) fun k1 =>
  if k1 = 12 then
    o1 (m_Te_checkThing S a2) fun u1 =>
    o1 (m_St_placeOf 12 0 S a2) fun r1 =>
    some r1
  else if k1 = 18 then
    o1 (m_Te_checkThing S a2) fun u2 =>
    o1 (m_St_placeOf 18 0 S a2) fun r2 =>
    some r2
  else if k1 = 31 then
    o1 (m_Te_checkThing S a2) fun u3 =>
    o1 (m_St_placeOf 31 1 S a2) fun r3 =>
    some r3
  else if k1 = 42 then
    o1 (m_Te_checkThing S a2) fun u4 =>
    o1 (m_St_placeOf 42 1 S a2) fun r4 =>
    some r4
  else none
def m_Nur_ageOf (S : St) (a1 : Int32) : Option Int32 :=
  o1 (m_St_has 18 0 S a1) fun r1 =>
  if r1 = (0 : Int32) then
    some (-1 : Int32)
  else
    o1 (m_Row_holds 21 S a1) fun r2 =>
    if r2 = (0 : Int32) then
      some (2 : Int32)
    else
      o1 (m_Nur_isGrown S a1) fun r3 =>
      if r3 = (0 : Int32) then
        some (0 : Int32)
      else
        some (1 : Int32)
def m_Nur_isRemembered_L15 : Nat → St → Int32 → Int32 → Option (Int32)
  | 0, _, _, _ => none
  | n + 1, S, v1, v2 =>
    o1 (m_Gr_fieldsOf S v1) fun r1 =>
    if r1 ≤ v2 then
      some (0 : Int32)
    else
      o1 (m_Gr_nameOf S v1 v2) fun r2 =>
      o1 (m_Row_holds 21 S r2) fun r3 =>
      if r3 = (0 : Int32) then
        m_Nur_isRemembered_L15 n S v1 (v2 + (1 : Int32))
      else
        some (1 : Int32)
def m_Nur_isRemembered (S : St) (a1 : Int32) : Option Int32 :=
  o1 (m_Row_holds 24 S a1) fun r1 =>
  if r1 = (0 : Int32) then
    some (0 : Int32)
  else
    m_Nur_isRemembered_L15 200 S a1 (0 : Int32)
def m_Cou_countOf (S : St) (a1 : Int32) : Option Int32 :=
  o1 (m_St_has 42 1 S a1) fun r1 =>
  if r1 = (0 : Int32) then
    some (-1 : Int32)
  else
    oi (qin a1 80) <|
    some (S 46 a1.toNatClampNeg)
def m_Te_kept (S : St) (a1 : Int32) (a2 : Int32) : Option Int32 :=
  o1 (m_Te_checkThing S a1) fun u1 =>
  o1 (m_Te_checkWhat S a2 (4 : Int32)) fun u2 =>
  if a2 = (0 : Int32) then
    o1 (m_Nur_ageOf S a1) fun r1 =>
    some r1
  else if a2 = (1 : Int32) then
    o1 (m_St_has 18 0 S a1) fun r2 =>
    if r2 = (0 : Int32) then
      some (-1 : Int32)
    else
      o1 (m_Nur_isRemembered S a1) fun r3 =>
      o1 (m_Te_asNumber S r3) fun r4 =>
      some r4
  else if a2 = (2 : Int32) then
    o1 (m_Mar_colourOf S a1) fun r5 =>
    some r5
  else if a2 = (3 : Int32) then
    o1 (m_Cou_countOf S a1) fun r6 =>
    some r6
  else
    o1 (m_St_has 42 1 S a1) fun r7 =>
    if r7 = (0 : Int32) then
      some (-1 : Int32)
    else
      o1 (m_Cou_isSuspect S a1) fun r8 =>
      o1 (m_Te_asNumber S r8) fun r9 =>
      some r9
def m_Te_mixed (S : St) (a0 : Int64) (a2 : Int32) : Option Int64 :=
  some ((a0 * (31 : Int64)) + a2.toInt64)
def m_Te_mixedThing_L35 : Nat → St → Int32 → Int64 → Int32 → Option (Int64)
  | 0, _, _, _, _ => none
  | n + 1, S, v3, v4, v6 =>
    o1 (m_Gr_fieldsOf S v3) fun r1 =>
    if r1 ≤ v6 then
      some v4
    else
      o1 (m_Gr_nameOf S v3 v6) fun r2 =>
      o1 (m_Te_mixed S v4 r2) fun r3 =>
      m_Te_mixedThing_L35 n S v3 r3 (v6 + (1 : Int32))
def m_Te_mixedThing (S : St) (a1 : Int64) (a3 : Int32) : Option Int64 :=
  o1 (m_Te_ofThing S a3 (0 : Int32)) fun r1 =>
  o1 (m_Te_mixed S a1 r1) fun r2 =>
  o1 (m_Te_ofThing S a3 (1 : Int32)) fun r3 =>
  o1 (m_Te_mixed S r2 r3) fun r4 =>
  o1 (m_Te_ofThing S a3 (2 : Int32)) fun r5 =>
  o1 (m_Te_mixed S r4 r5) fun r6 =>
  o1 (m_Te_mixedThing_L35 200 S a3 r6 (0 : Int32)) fun y1 =>
  o1 (m_St_placeOf 12 0 S a3) fun r7 =>
  o1 (m_Te_mixed S y1 r7) fun r8 =>
  o1 (m_St_placeOf 18 0 S a3) fun r9 =>
  o1 (m_Te_mixed S r8 r9) fun r10 =>
  o1 (m_St_placeOf 31 1 S a3) fun r11 =>
  o1 (m_Te_mixed S r10 r11) fun r12 =>
  o1 (m_St_placeOf 42 1 S a3) fun r13 =>
  o1 (m_Te_mixed S r12 r13) fun r14 =>
  o1 (m_Te_kept S a3 (0 : Int32)) fun r15 =>
  o1 (m_Te_mixed S r14 r15) fun r16 =>
  o1 (m_Te_kept S a3 (1 : Int32)) fun r17 =>
  o1 (m_Te_mixed S r16 r17) fun r18 =>
  o1 (m_Te_kept S a3 (2 : Int32)) fun r19 =>
  o1 (m_Te_mixed S r18 r19) fun r20 =>
  o1 (m_Te_kept S a3 (3 : Int32)) fun r21 =>
  o1 (m_Te_mixed S r20 r21) fun r22 =>
  o1 (m_Te_kept S a3 (4 : Int32)) fun r23 =>
  o1 (m_Te_mixed S r22 r23) fun r24 =>
  some r24
def m_Cop_countToGo (S : St)  : Option Int32 :=
  o1 (m_St_countUnreached 12 0 S) fun r1 =>
  some r1
def m_Nur_countToGo (S : St)  : Option Int32 :=
  o1 (m_Nur_greatFits S) fun r1 =>
  if r1 = (0 : Int32) then
    some (0 : Int32)
  else
    o1 (m_St_countUnreached 18 0 S) fun r2 =>
    some r2
def m_Mar_foreseeIfWhite (S : St) (a1 : Int32) : Option St :=
  o1 (m_Mar_colourOf S a1) fun r1 =>
  if r1 = (0 : Int32) then
    o1 (m_Row_add 39 S a1) fun S1 =>
    some S1
  else
    some S
def m_Mar_foresee_L12 : Nat → St → Int32 → Option (St)
  | 0, _, _ => none
  | n + 1, S, v1 =>
    if (S 31 10) = (0 : Int32) then
      some S
    else
      if (S 36 2) ≤ v1 then
        some S
      else
        o1 (m_Row_get 36 S v1) fun r1 =>
        o1 (m_Row_add 39 S r1) fun S1 =>
        m_Mar_foresee_L12 n S1 (v1 + (1 : Int32))
def m_Mar_foresee_L53 : Nat → St → Int32 → Option (St)
  | 0, _, _ => none
  | n + 1, S, v1 =>
    if (S 31 10) = (0 : Int32) then
      if (6 : Int32) ≤ v1 then
        some S
      else
        o1 (m_Gr_rootAt S v1) fun r1 =>
        o1 (m_Mar_foreseeIfWhite S r1) fun S1 =>
        m_Mar_foresee_L53 n S1 (v1 + (1 : Int32))
    else
      some S
def m_Mar_foresee_L114 : Nat → St → Int32 → Int32 → Option (St)
  | 0, _, _, _ => none
  | n + 1, S, v2, v3 =>
    o1 (m_Gr_fieldsOf S v2) fun r1 =>
    if r1 ≤ v3 then
      some S
    else
      o1 (m_Gr_nameOf S v2 v3) fun r2 =>
      o1 (m_Mar_foreseeIfWhite S r2) fun S1 =>
      m_Mar_foresee_L114 n S1 v2 (v3 + (1 : Int32))
def m_Mar_foresee_L86 : Nat → St → Int32 → Option (St)
  | 0, _, _ => none
  | n + 1, S, v1 =>
    if (S 39 2) ≤ v1 then
      some S
    else
      if (80 : Int32) ≤ v1 then
        some S
      else
        o1 (m_Row_get 39 S v1) fun r1 =>
        o1 (m_Mar_foresee_L114 200 S r1 (0 : Int32)) fun S1 =>
        m_Mar_foresee_L86 n S1 (v1 + (1 : Int32))
def m_Mar_foresee (S : St)  : Option St :=
  o1 (m_Row_empty 39 S) fun S1 =>
  o1 (m_Mar_foresee_L12 200 S1 (S1 31 14)) fun S2 =>
  o1 (m_Mar_foresee_L53 200 S2 (0 : Int32)) fun S3 =>
  o1 (m_Mar_foresee_L86 200 S3 (0 : Int32)) fun S4 =>
  some S4
def m_Mar_countToGo_L8 : Nat → St → Int32 → Int32 → Option (Int32)
  | 0, _, _, _ => none
  | n + 1, S, v1, v2 =>
    if (S 1 6) ≤ v2 then
      some v1
    else
      o1 (m_Mar_colourOf S v2) fun r1 =>
      if r1 = (0 : Int32) then
        o1 (m_Row_holds 39 S v2) fun r2 =>
        if r2 = (0 : Int32) then
          m_Mar_countToGo_L8 n S (v1 + (1 : Int32)) (v2 + (1 : Int32))
        else
          m_Mar_countToGo_L8 n S (v1 + (0 : Int32)) (v2 + (1 : Int32))
      else
        m_Mar_countToGo_L8 n S (v1 + (0 : Int32)) (v2 + (1 : Int32))
def m_Mar_countToGo (S : St)  : Option (Int32 × St) :=
  o1 (m_Mar_foresee S) fun S1 =>
  o1 (m_Mar_countToGo_L8 200 S1 (0 : Int32) (0 : Int32)) fun y1 =>
  some (y1, S1)
def m_Cou_countToGo (S : St)  : Option (Int32 × St) :=
  o1 (m_Cou_findRings S) fun S1 =>
  some (((S1 52 2) - (S1 55 2)), S1)
def m_Te_wouldGo (S : St) (a1 : Int32) : Option (Int32 × St) :=
  o1 (m_Te_storeOf S a1) fun k1 =>
  if k1 = 12 then
    if (S 12 5) = (0 : Int32) then
      o1 (m_Cop_countToGo S) fun r1 =>
      some (r1, S)
    else
      some ((0 : Int32), S)
  else if k1 = 18 then
    if (S 18 5) = (0 : Int32) then
      o1 (m_Nur_countToGo S) fun r2 =>
      some (r2, S)
    else
      some ((0 : Int32), S)
  else if k1 = 31 then
    if (S 31 6) = (0 : Int32) then
      ob (m_Mar_countToGo S) fun r3 S1 =>
      some (r3, S1)
    else
      some ((0 : Int32), S)
  else if k1 = 42 then
    if (S 42 6) = (0 : Int32) then
      ob (m_Cou_countToGo S) fun r4 S2 =>
      some (r4, S2)
    else
      some ((0 : Int32), S)
  else none
def m_Cop_workToDo (S : St)  : Option Int32 :=
  o1 (m_St_wordsReached 12 0 S) fun r1 =>
  some r1
def m_Nur_workToDo (S : St)  : Option Int32 :=
  o1 (m_Nur_greatFits S) fun r1 =>
  if r1 = (0 : Int32) then
    some (0 : Int32)
  else
    o1 (m_St_wordsReached 18 0 S) fun r2 =>
    some r2
def m_Mar_workToDo_L11 : Nat → St → Int32 → Int32 → Option (Int32)
  | 0, _, _, _ => none
  | n + 1, S, v1, v2 =>
    if (S 39 2) ≤ v2 then
      some v1
    else
      o1 (m_Row_get 39 S v2) fun r1 =>
      o1 (m_Gr_wordsOf S r1) fun r2 =>
      m_Mar_workToDo_L11 n S (v1 + r2) (v2 + (1 : Int32))
def m_Mar_workToDo (S : St)  : Option (Int32 × St) :=
  o1 (m_Mar_foresee S) fun S1 =>
  o1 (m_St_countHad 31 1 S1) fun r1 =>
  o1 (m_Mar_workToDo_L11 200 S1 r1 (0 : Int32)) fun y1 =>
  some (y1, S1)
def m_Cou_workToDo (S : St)  : Option (Int32 × St) :=
  o1 (m_Cou_findRings S) fun S1 =>
  some ((S1 52 2), S1)
def m_Te_wouldWork (S : St) (a1 : Int32) : Option (Int32 × St) :=
  o1 (m_Te_storeOf S a1) fun k1 =>
  if k1 = 12 then
    if (S 12 5) = (0 : Int32) then
      o1 (m_Cop_workToDo S) fun r1 =>
      some (r1, S)
    else
      some ((0 : Int32), S)
  else if k1 = 18 then
    if (S 18 5) = (0 : Int32) then
      o1 (m_Nur_workToDo S) fun r2 =>
      some (r2, S)
    else
      some ((0 : Int32), S)
  else if k1 = 31 then
    if (S 31 6) = (0 : Int32) then
      ob (m_Mar_workToDo S) fun r3 S1 =>
      some (r3, S1)
    else
      some ((0 : Int32), S)
  else if k1 = 42 then
    if (S 42 6) = (0 : Int32) then
      ob (m_Cou_workToDo S) fun r4 S2 =>
      some (r4, S2)
    else
      some ((0 : Int32), S)
  else none
def m_Te_more (S : St) (a1 : Int32) : Option Int32 :=
  o1 (m_Te_checkWhat S a1 (3 : Int32)) fun u1 =>
  if a1 = (0 : Int32) then
    some (S 18 9)
  else if a1 = (1 : Int32) then
    some (S 18 10)
  else if a1 = (2 : Int32) then
    o1 (m_Te_asNumber S (S 31 10)) fun r1 =>
    some r1
  else
    some (S 42 10)
def m_Gr_countLostWithout (S : St) (a1 : Int32) : Option (Int32 × St) :=
  o1 (m_Gr_trace 9 S a1) fun S1 =>
  some (((S1 6 2) - (S1 9 2)), S1)
def m_Te_wouldLose (S : St) (a1 : Int32) : Option (Int32 × St) :=
  o1 (m_Te_checkRoot S a1) fun u1 =>
  ob (m_Gr_countLostWithout S a1) fun r1 S1 =>
  some (r1, S1)
def m_Te_digest_L16 : Nat → St → Int64 → Int32 → Option (Int64)
  | 0, _, _, _ => none
  | n + 1, S, v1, v3 =>
    if (S 1 6) ≤ v3 then
      some v1
    else
      o1 (m_Te_mixedThing S v1 v3) fun r1 =>
      m_Te_digest_L16 n S r1 (v3 + (1 : Int32))
def m_Te_digest (S : St)  : Option (Int64 × St) :=
  o1 (m_Te_mixed S (58088 : Int64) (S 1 6)) fun r1 =>
  o1 (m_Te_digest_L16 200 S r1 (0 : Int32)) fun y1 =>
  ob (m_Te_told S (0 : Int32) (0 : Int32)) fun r2 S1 =>
  o1 (m_Te_mixed S1 y1 r2) fun r3 =>
  ob (m_Te_told S1 (0 : Int32) (1 : Int32)) fun r4 S2 =>
  o1 (m_Te_mixed S2 r3 r4) fun r5 =>
  ob (m_Te_told S2 (0 : Int32) (2 : Int32)) fun r6 S3 =>
  o1 (m_Te_mixed S3 r5 r6) fun r7 =>
  ob (m_Te_told S3 (0 : Int32) (3 : Int32)) fun r8 S4 =>
  o1 (m_Te_mixed S4 r7 r8) fun r9 =>
  ob (m_Te_told S4 (0 : Int32) (4 : Int32)) fun r10 S5 =>
  o1 (m_Te_mixed S5 r9 r10) fun r11 =>
  ob (m_Te_told S5 (0 : Int32) (5 : Int32)) fun r12 S6 =>
  o1 (m_Te_mixed S6 r11 r12) fun r13 =>
  ob (m_Te_told S6 (0 : Int32) (6 : Int32)) fun r14 S7 =>
  o1 (m_Te_mixed S7 r13 r14) fun r15 =>
  ob (m_Te_told S7 (0 : Int32) (7 : Int32)) fun r16 S8 =>
  o1 (m_Te_mixed S8 r15 r16) fun r17 =>
  ob (m_Te_wouldGo S8 (0 : Int32)) fun r18 S9 =>
  o1 (m_Te_mixed S9 r17 r18) fun r19 =>
  ob (m_Te_wouldWork S9 (0 : Int32)) fun r20 S10 =>
  o1 (m_Te_mixed S10 r19 r20) fun r21 =>
  ob (m_Te_told S10 (1 : Int32) (0 : Int32)) fun r22 S11 =>
  o1 (m_Te_mixed S11 r21 r22) fun r23 =>
  ob (m_Te_told S11 (1 : Int32) (1 : Int32)) fun r24 S12 =>
  o1 (m_Te_mixed S12 r23 r24) fun r25 =>
  ob (m_Te_told S12 (1 : Int32) (2 : Int32)) fun r26 S13 =>
  o1 (m_Te_mixed S13 r25 r26) fun r27 =>
  ob (m_Te_told S13 (1 : Int32) (3 : Int32)) fun r28 S14 =>
  o1 (m_Te_mixed S14 r27 r28) fun r29 =>
  ob (m_Te_told S14 (1 : Int32) (4 : Int32)) fun r30 S15 =>
  o1 (m_Te_mixed S15 r29 r30) fun r31 =>
  ob (m_Te_told S15 (1 : Int32) (5 : Int32)) fun r32 S16 =>
  o1 (m_Te_mixed S16 r31 r32) fun r33 =>
  ob (m_Te_told S16 (1 : Int32) (6 : Int32)) fun r34 S17 =>
  o1 (m_Te_mixed S17 r33 r34) fun r35 =>
  ob (m_Te_told S17 (1 : Int32) (7 : Int32)) fun r36 S18 =>
  o1 (m_Te_mixed S18 r35 r36) fun r37 =>
  ob (m_Te_wouldGo S18 (1 : Int32)) fun r38 S19 =>
  o1 (m_Te_mixed S19 r37 r38) fun r39 =>
  ob (m_Te_wouldWork S19 (1 : Int32)) fun r40 S20 =>
  o1 (m_Te_mixed S20 r39 r40) fun r41 =>
  ob (m_Te_told S20 (2 : Int32) (0 : Int32)) fun r42 S21 =>
  o1 (m_Te_mixed S21 r41 r42) fun r43 =>
  ob (m_Te_told S21 (2 : Int32) (1 : Int32)) fun r44 S22 =>
  o1 (m_Te_mixed S22 r43 r44) fun r45 =>
  ob (m_Te_told S22 (2 : Int32) (2 : Int32)) fun r46 S23 =>
  o1 (m_Te_mixed S23 r45 r46) fun r47 =>
  ob (m_Te_told S23 (2 : Int32) (3 : Int32)) fun r48 S24 =>
  o1 (m_Te_mixed S24 r47 r48) fun r49 =>
  ob (m_Te_told S24 (2 : Int32) (4 : Int32)) fun r50 S25 =>
  o1 (m_Te_mixed S25 r49 r50) fun r51 =>
  ob (m_Te_told S25 (2 : Int32) (5 : Int32)) fun r52 S26 =>
  o1 (m_Te_mixed S26 r51 r52) fun r53 =>
  ob (m_Te_told S26 (2 : Int32) (6 : Int32)) fun r54 S27 =>
  o1 (m_Te_mixed S27 r53 r54) fun r55 =>
  ob (m_Te_told S27 (2 : Int32) (7 : Int32)) fun r56 S28 =>
  o1 (m_Te_mixed S28 r55 r56) fun r57 =>
  ob (m_Te_wouldGo S28 (2 : Int32)) fun r58 S29 =>
  o1 (m_Te_mixed S29 r57 r58) fun r59 =>
  ob (m_Te_wouldWork S29 (2 : Int32)) fun r60 S30 =>
  o1 (m_Te_mixed S30 r59 r60) fun r61 =>
  ob (m_Te_told S30 (3 : Int32) (0 : Int32)) fun r62 S31 =>
  o1 (m_Te_mixed S31 r61 r62) fun r63 =>
  ob (m_Te_told S31 (3 : Int32) (1 : Int32)) fun r64 S32 =>
  o1 (m_Te_mixed S32 r63 r64) fun r65 =>
  ob (m_Te_told S32 (3 : Int32) (2 : Int32)) fun r66 S33 =>
  o1 (m_Te_mixed S33 r65 r66) fun r67 =>
  ob (m_Te_told S33 (3 : Int32) (3 : Int32)) fun r68 S34 =>
  o1 (m_Te_mixed S34 r67 r68) fun r69 =>
  ob (m_Te_told S34 (3 : Int32) (4 : Int32)) fun r70 S35 =>
  o1 (m_Te_mixed S35 r69 r70) fun r71 =>
  ob (m_Te_told S35 (3 : Int32) (5 : Int32)) fun r72 S36 =>
  o1 (m_Te_mixed S36 r71 r72) fun r73 =>
  ob (m_Te_told S36 (3 : Int32) (6 : Int32)) fun r74 S37 =>
  o1 (m_Te_mixed S37 r73 r74) fun r75 =>
  ob (m_Te_told S37 (3 : Int32) (7 : Int32)) fun r76 S38 =>
  o1 (m_Te_mixed S38 r75 r76) fun r77 =>
  ob (m_Te_wouldGo S38 (3 : Int32)) fun r78 S39 =>
  o1 (m_Te_mixed S39 r77 r78) fun r79 =>
  ob (m_Te_wouldWork S39 (3 : Int32)) fun r80 S40 =>
  o1 (m_Te_mixed S40 r79 r80) fun r81 =>
  o1 (m_Te_more S40 (0 : Int32)) fun r82 =>
  o1 (m_Te_mixed S40 r81 r82) fun r83 =>
  o1 (m_Te_more S40 (1 : Int32)) fun r84 =>
  o1 (m_Te_mixed S40 r83 r84) fun r85 =>
  o1 (m_Te_more S40 (2 : Int32)) fun r86 =>
  o1 (m_Te_mixed S40 r85 r86) fun r87 =>
  o1 (m_Te_more S40 (3 : Int32)) fun r88 =>
  o1 (m_Te_mixed S40 r87 r88) fun r89 =>
  ob (m_Te_wouldLose S40 (0 : Int32)) fun r90 S41 =>
  o1 (m_Te_mixed S41 r89 r90) fun r91 =>
  ob (m_Te_wouldLose S41 (1 : Int32)) fun r92 S42 =>
  o1 (m_Te_mixed S42 r91 r92) fun r93 =>
  ob (m_Te_wouldLose S42 (2 : Int32)) fun r94 S43 =>
  o1 (m_Te_mixed S43 r93 r94) fun r95 =>
  ob (m_Te_wouldLose S43 (3 : Int32)) fun r96 S44 =>
  o1 (m_Te_mixed S44 r95 r96) fun r97 =>
  ob (m_Te_wouldLose S44 (4 : Int32)) fun r98 S45 =>
  o1 (m_Te_mixed S45 r97 r98) fun r99 =>
  ob (m_Te_wouldLose S45 (5 : Int32)) fun r100 S46 =>
  o1 (m_Te_mixed S46 r99 r100) fun r101 =>
  some (r101, S46)
def m_St_cleanUp_Cop (S : St)  : Option (Int32 × St) :=
  if (S 12 5) = (0 : Int32) then
    ob (m_Cop_collectNow S) fun r1 S1 =>
    some (r1, S1)
  else
    some ((0 : Int32), S)
def m_St_cleanUp_Nur (S : St)  : Option (Int32 × St) :=
  if (S 18 5) = (0 : Int32) then
    ob (m_Nur_collectNow S) fun r1 S1 =>
    some (r1, S1)
  else
    some ((0 : Int32), S)
def m_St_cleanUp_Mar (S : St)  : Option (Int32 × St) :=
  if (S 31 6) = (0 : Int32) then
    ob (m_Mar_collectNow S) fun r1 S1 =>
    some (r1, S1)
  else
    some ((0 : Int32), S)
def m_St_cleanUp_Cou (S : St)  : Option (Int32 × St) :=
  if (S 42 6) = (0 : Int32) then
    ob (m_Cou_collectNow S) fun r1 S1 =>
    some (r1, S1)
  else
    some ((0 : Int32), S)
def m_Te_collect (S : St) (a1 : Int32) : Option (Int32 × St) :=
  o1 (m_Te_storeOf S a1) fun k1 =>
  if k1 = 12 then
    o1 (m_St_openPause 12 0 S) fun S1 =>
    ob (m_St_cleanUp_Cop S1) fun r1 S2 =>
    o1 (m_St_closePause 12 0 S2) fun S3 =>
    some (r1, S3)
  else if k1 = 18 then
    o1 (m_St_openPause 18 0 S) fun S4 =>
    ob (m_St_cleanUp_Nur S4) fun r2 S5 =>
    o1 (m_St_closePause 18 0 S5) fun S6 =>
    some (r2, S6)
  else if k1 = 31 then
    o1 (m_St_openPause 31 1 S) fun S7 =>
    ob (m_St_cleanUp_Mar S7) fun r3 S8 =>
    o1 (m_St_closePause 31 1 S8) fun S9 =>
    some (r3, S9)
  else if k1 = 42 then
    o1 (m_St_openPause 42 1 S) fun S10 =>
    ob (m_St_cleanUp_Cou S10) fun r4 S11 =>
    o1 (m_St_closePause 42 1 S11) fun S12 =>
    some (r4, S12)
  else none
def m_Law_below (S : St) (a0 : Int32) (a1 : Int32) : Option Int32 :=
  oi (¬ a1 = 0) <|
  some ((a0 &&& (2147483647 : Int32)) - (a0 &&& (2147483647 : Int32)) / a1 * a1)
