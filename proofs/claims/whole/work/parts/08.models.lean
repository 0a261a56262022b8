/-! THE MODELS: what each method of the class (X0 .. X8), of the reference (X9) and of the JDK (J..) does to a state, printed from the listing by wip/whole/gen/decomp.py -/
def qt_isEmpty (i : Nat) (s0 : qe_S) : Option (Int32 × qe_S) := some (if Int32.ofNat (qe_len.getD i 0) = 0 then 1 else 0, s0)
def qt_length (i : Nat) (s0 : qe_S) : Option (Int32 × qe_S) := some (Int32.ofNat (qe_len.getD i 0), s0)
def qt_ch (i : Nat) (j : Int32) : Int32 := ((qe_byt.getD i []).getD j.toNatClampNeg 0) &&& 255
def qt_charAt (i : Nat) (j : Int32) (s0 : qe_S) : Option (Int32 × qe_S) := qm_g j (qe_len.getD i 0) (some (qt_ch i j, s0))
def g_X3_oddsFit (v0 : Int32) (v1 : Int32) (v2 : Int32) (s0 : qe_S) : Option (Int32 × qe_S) :=
  qm_j (fun  (s1 : qe_S) =>
      some ((0 : Int32), s1)
  ) fun j33 =>
  if v2 < (1 : Int32) then (
    j33 s0)
  else
  if (nI 60) < v2 then (
    j33 s0)
  else
  qm_j (fun (q2 : Int32) (q3 : Int32) (s4 : qe_S) =>
      if q3 < q2 then (
        j33 s4)
      else
        if v2 < v1 then (
          j33 s4)
        else
          some ((1 : Int32), s4)
  ) fun j21 =>
  if v0 = (0 : Int32) then (
    j21 (1 : Int32) v1 s0)
  else
    j21 (0 : Int32) v1 s0

def g_X3_stratumFits (v0 : Int32) (s0 : qe_S) : Option (Int32 × qe_S) :=
  qm_j (fun  (s1 : qe_S) =>
      some ((0 : Int32), s1)
  ) fun j13 =>
  if v0 < (0 : Int32) then (
    j13 s0)
  else
  if (nI 3) < v0 then (
    j13 s0)
  else
    some ((1 : Int32), s0)

def g_X3_markFits (v0 : Int32) (s0 : qe_S) : Option (Int32 × qe_S) :=
  qm_j (fun  (s1 : qe_S) =>
      some ((0 : Int32), s1)
  ) fun j16 =>
  if v0 < (-99 : Int32) then (
    j16 s0)
  else
  if (nI 99) < v0 then (
    j16 s0)
  else
    some ((1 : Int32), s0)

def g_X3_has (v1 : Int32) (s0 : qe_S) : Option (Int32 × qe_S) :=
  qm_j (fun  (s1 : qe_S) =>
      some ((0 : Int32), s1)
  ) fun j16 =>
  if v1 < (0 : Int32) then (
    j16 s0)
  else
  if (s0.1 1 0) ≤ v1 then (
    j16 s0)
  else
    some ((1 : Int32), s0)

def g_X8_isRow (v0 : Int32) (s0 : qe_S) : Option (Int32 × qe_S) :=
  qm_j (fun  (s1 : qe_S) =>
      some ((0 : Int32), s1)
  ) fun j13 =>
  if v0 < (0 : Int32) then (
    j13 s0)
  else
  if (nI 3) ≤ v0 then (
    j13 s0)
  else
    some ((1 : Int32), s0)

def g_X3_putOdds (v1 : Int32) (v2 : Int32) (v3 : Int32) (v4 : Int32) (s0 : qe_S) : Option (qe_S) :=
  qm_b (g_X3_has v1 s0) fun a2 s1 =>
  if a2 = (0 : Int32) then (
    some s1)
  else
  qm_b (g_X8_isRow v2 s1) fun a4 s3 =>
  if a4 = (0 : Int32) then (
    some s3)
  else
  qm_g ((v2 * (nI 12)) + v1) 36 <| qm_l (qe_si s3 6 ((v2 * (nI 12)) + v1).toNatClampNeg v3) fun s5 =>
  qm_g ((v2 * (nI 12)) + v1) 36 <| qm_l (qe_si s5 7 ((v2 * (nI 12)) + v1).toNatClampNeg v4) fun s6 =>
  some s6

def g_X3_above (v1 : Int32) (v2 : Int32) (s0 : qe_S) : Option (Int32 × qe_S) :=
  qm_j (fun (q1 : Int32) (s2 : qe_S) =>
      if q1 = (0 : Int32) then (
        some ((0 : Int32), s2))
      else
      qm_g ((v2 * (nI 12)) + v1) 36 <| qm_l (s2.1 6 ((v2 * (nI 12)) + v1).toNatClampNeg) fun a3 =>
      some (a3, s2)
  ) fun j26 =>
  qm_j (fun  (s4 : qe_S) =>
      j26 (0 : Int32) s4
  ) fun j25 =>
  if v1 < (0 : Int32) then (
    j25 s0)
  else
  if (s0.1 1 0) ≤ v1 then (
    j25 s0)
  else
  if v2 < (0 : Int32) then (
    j25 s0)
  else
    if (nI 3) ≤ v2 then (
      j25 s0)
    else
      j26 (1 : Int32) s0

def g_X3_below (v1 : Int32) (v2 : Int32) (s0 : qe_S) : Option (Int32 × qe_S) :=
  qm_j (fun (q1 : Int32) (s2 : qe_S) =>
      if q1 = (0 : Int32) then (
        some ((1 : Int32), s2))
      else
      qm_g ((v2 * (nI 12)) + v1) 36 <| qm_l (s2.1 7 ((v2 * (nI 12)) + v1).toNatClampNeg) fun a3 =>
      some (a3, s2)
  ) fun j26 =>
  qm_j (fun  (s4 : qe_S) =>
      j26 (0 : Int32) s4
  ) fun j25 =>
  if v1 < (0 : Int32) then (
    j25 s0)
  else
  if (s0.1 1 0) ≤ v1 then (
    j25 s0)
  else
  if v2 < (0 : Int32) then (
    j25 s0)
  else
    if (nI 3) ≤ v2 then (
      j25 s0)
    else
      j26 (1 : Int32) s0

def g_X3_standsAhead (v1 : Int32) (v2 : Int32) (s0 : qe_S) : Option (Int32 × qe_S) :=
  qm_b (g_X3_has v1 s0) fun a2 s1 =>
  if a2 = (0 : Int32) then (
    some ((0 : Int32), s1))
  else
  qm_b (g_X3_has v2 s1) fun a4 s3 =>
  if a4 = (0 : Int32) then (
    some ((0 : Int32), s3))
  else
  qm_g v1 12 <| qm_l (s3.1 2 v1.toNatClampNeg) fun a5 =>
  qm_g v2 12 <| qm_l (s3.1 2 v2.toNatClampNeg) fun a6 =>
  qm_l (a5 - a6) fun a7 =>
  qm_g v1 12 <| qm_l (s3.1 3 v1.toNatClampNeg) fun a8 =>
  qm_g v2 12 <| qm_l (s3.1 3 v2.toNatClampNeg) fun a9 =>
  qm_l (a8 - a9) fun a10 =>
  if (s3.1 1 2) = (1 : Int32) then (
    qm_b (g_X3_above v1 (0 : Int32) s3) fun a12 s11 =>
    qm_b (g_X3_below v2 (0 : Int32) s11) fun a14 s13 =>
    qm_b (g_X3_above v2 (0 : Int32) s13) fun a16 s15 =>
    qm_b (g_X3_below v1 (0 : Int32) s15) fun a18 s17 =>
    if (a12 * a14) ≤ (a16 * a18) then (
      some ((0 : Int32), s17))
    else
      some ((1 : Int32), s17))
  else
  if (s3.1 1 2) = (nI 2) then (
    if (0 : Int32) ≤ a7 then (
      some ((0 : Int32), s3))
    else
      some ((1 : Int32), s3))
  else
  if (s3.1 1 2) = (nI 3) then (
    if (0 : Int32) ≤ a10 then (
      some ((0 : Int32), s3))
    else
      some ((1 : Int32), s3))
  else
  if (s3.1 1 2) = (nI 4) then (
    qm_j (fun  (s19 : qe_S) =>
        some ((1 : Int32), s19)
    ) fun j168 =>
    if a7 < (0 : Int32) then (
      j168 s3)
    else
    qm_j (fun  (s20 : qe_S) =>
        some ((0 : Int32), s20)
    ) fun j172 =>
    if a7 = (0 : Int32) then (
      qm_g v1 12 <| qm_l (s3.1 2 v1.toNatClampNeg) fun a21 =>
      qm_z (nI 2) <|
      if (qm_ir a21 (nI 2)) = (0 : Int32) then (
        if (0 : Int32) ≤ a10 then (
          j172 s3)
        else
          j168 s3)
      else
        if a10 ≤ (0 : Int32) then (
          j172 s3)
        else
          j168 s3)
    else
      j172 s3)
  else
  some ((0 : Int32), s3)

def g_X3_arrange_L31 (k71 : Int32 → qe_S → Option (qe_S)) (v1 : Int32) (v2 : Int32) : Nat → Int32 → qe_S → Option (qe_S)
  | 0, _, _ => none
  | n + 1, v3, s0 =>
    if v3 ≤ (0 : Int32) then (
      k71 v3 s0)
    else
    qm_g (v3 - (1 : Int32)) 12 <| qm_l (s0.1 5 (v3 - (1 : Int32)).toNatClampNeg) fun a5 =>
    qm_b (g_X3_standsAhead v2 a5 s0) fun a7 s6 =>
    if a7 = (0 : Int32) then (
      k71 v3 s6)
    else
    qm_g (v3 - (1 : Int32)) 12 <| qm_l (s6.1 5 (v3 - (1 : Int32)).toNatClampNeg) fun a8 =>
    qm_g v3 12 <| qm_l (qe_si s6 5 v3.toNatClampNeg a8) fun s9 =>
    qm_l (v3 + (-1 : Int32)) fun a10 =>
    g_X3_arrange_L31 k71 v1 v2 n a10 s9

def g_X3_arrange_L2   : Nat → Int32 → qe_S → Option (qe_S)
  | 0, _, _ => none
  | n + 1, v1, s0 =>
    if (s0.1 1 0) ≤ v1 then (
      some s0)
    else
    qm_j (fun (q2 : Int32) (s3 : qe_S) =>
        g_X3_arrange_L31
            (fun (a11 : Int32) (s12 : qe_S) =>
              qm_g a11 12 <| qm_l (qe_si s12 5 a11.toNatClampNeg q2) fun s13 =>
              qm_l (v1 + (1 : Int32)) fun a14 =>
              g_X3_arrange_L2 n a14 s13)
            v1 q2 qm_F v1 s3
    ) fun j28 =>
    if (s0.1 1 2) = (nI 5) then (
      qm_g v1 12 <| qm_l (s0.1 4 v1.toNatClampNeg) fun a15 =>
      j28 a15 s0)
    else
      j28 v1 s0

def g_X3_arrange  (s0 : qe_S) : Option (qe_S) :=
  qm_l (0 : Int32) fun a1 =>
  g_X3_arrange_L2 qm_F a1 s0

def g_X3_admit (v1 : Int32) (v2 : Int32) (v3 : Int32) (v4 : Int32) (s0 : qe_S) : Option (Int32 × qe_S) :=
  qm_b (g_X3_oddsFit (0 : Int32) v1 v2 s0) fun a2 s1 =>
  if a2 = (0 : Int32) then (
    some ((-2 : Int32), s1))
  else
  qm_b (g_X3_stratumFits v3 s1) fun a4 s3 =>
  if a4 = (0 : Int32) then (
    some ((-2 : Int32), s3))
  else
  qm_b (g_X3_markFits v4 s3) fun a6 s5 =>
  if a6 = (0 : Int32) then (
    some ((-2 : Int32), s5))
  else
  if (s5.1 1 0) < (nI 12) then (
    qm_l (s5.1 1 0) fun a7 =>
    qm_l (qe_si s5 1 0 ((s5.1 1 0) + (1 : Int32))) fun s8 =>
    qm_o (g_X3_putOdds a7 (0 : Int32) v1 v2 s8) fun s9 =>
    qm_o (g_X3_putOdds a7 (1 : Int32) (1 : Int32) (1 : Int32) s9) fun s10 =>
    qm_o (g_X3_putOdds a7 (nI 2) (1 : Int32) (1 : Int32) s10) fun s11 =>
    qm_g a7 12 <| qm_l (qe_si s11 2 a7.toNatClampNeg v3) fun s12 =>
    qm_g a7 12 <| qm_l (qe_si s12 3 a7.toNatClampNeg v4) fun s13 =>
    qm_g a7 12 <| qm_l (qe_si s13 4 a7.toNatClampNeg a7) fun s14 =>
    qm_o (g_X3_arrange s14) fun s15 =>
    some (a7, s15))
  else
    some ((-4 : Int32), s5)

def g_X1_note (v1 : Int32) (v2 : Int32) (v3 : Int32) (v4 : Int32) (s0 : qe_S) : Option (qe_S) :=
  qm_l (qe_si s0 40 0 v1) fun s1 =>
  qm_l (qe_si s1 40 1 v2) fun s2 =>
  qm_l (qe_si s2 40 2 v3) fun s3 =>
  qm_l (qe_si s3 40 3 v4) fun s4 =>
  some s4

def g_X8_refuse (v1 : Int32) (s0 : qe_S) : Option (Int32 × qe_S) :=
  if v1 = (-7 : Int32) then (
    qm_o (g_X1_note v1 (1 : Int32) (-9 : Int32) (-9 : Int32) s0) fun s2 =>
    some (v1, s2))
  else
  qm_o (g_X1_note v1 (0 : Int32) (0 : Int32) (0 : Int32) s0) fun s1 =>
  some (v1, s1)

def g_X8_answered (v1 : Int32) (s0 : qe_S) : Option (Int32 × qe_S) :=
  if (0 : Int32) ≤ v1 then (
    some (v1, s0))
  else
    qm_b (g_X8_refuse v1 s0) fun a2 s1 =>
    some (a2, s1)

def g_X8_unit (v1 : Int32) (v2 : Int32) (v3 : Int32) (v4 : Int32) (s0 : qe_S) : Option (Int32 × qe_S) :=
  qm_b (g_X3_admit v1 v2 v3 v4 s0) fun a2 s1 =>
  qm_b (g_X8_answered a2 s1) fun a4 s3 =>
  some (a4, s3)

def g_X3_changeOdds (v1 : Int32) (v2 : Int32) (v3 : Int32) (v4 : Int32) (s0 : qe_S) : Option (Int32 × qe_S) :=
  qm_b (g_X3_has v1 s0) fun a2 s1 =>
  if a2 = (0 : Int32) then (
    some ((-1 : Int32), s1))
  else
  qm_b (g_X8_isRow v2 s1) fun a4 s3 =>
  if a4 = (0 : Int32) then (
    some ((-1 : Int32), s3))
  else
  qm_b (g_X3_oddsFit v2 v3 v4 s3) fun a6 s5 =>
  if a6 = (0 : Int32) then (
    some ((-2 : Int32), s5))
  else
  qm_b (g_X3_above v1 v2 s5) fun a8 s7 =>
  qm_b (g_X3_below v1 v2 s7) fun a10 s9 =>
  qm_l (((nI 100) * a8) + a10) fun a11 =>
  qm_o (g_X3_putOdds v1 v2 v3 v4 s9) fun s12 =>
  qm_o (g_X3_arrange s12) fun s13 =>
  some (a11, s13)

def g_X8_odds (v1 : Int32) (v2 : Int32) (v3 : Int32) (v4 : Int32) (s0 : qe_S) : Option (Int32 × qe_S) :=
  qm_b (g_X3_changeOdds v1 v2 v3 v4 s0) fun a2 s1 =>
  qm_b (g_X8_answered a2 s1) fun a4 s3 =>
  some (a4, s3)

def g_X3_changeStratum (v1 : Int32) (v2 : Int32) (s0 : qe_S) : Option (Int32 × qe_S) :=
  qm_b (g_X3_has v1 s0) fun a2 s1 =>
  if a2 = (0 : Int32) then (
    some ((-1 : Int32), s1))
  else
  qm_b (g_X3_stratumFits v2 s1) fun a4 s3 =>
  if a4 = (0 : Int32) then (
    some ((-2 : Int32), s3))
  else
  qm_g v1 12 <| qm_l (s3.1 2 v1.toNatClampNeg) fun a5 =>
  qm_g v1 12 <| qm_l (qe_si s3 2 v1.toNatClampNeg v2) fun s6 =>
  qm_o (g_X3_arrange s6) fun s7 =>
  some (a5, s7)

def g_X8_isIn (v0 : Int32) (v1 : Int32) (s0 : qe_S) : Option (Int32 × qe_S) :=
  if ((v0 >>> (v1 &&& 31)) &&& (1 : Int32)) = (0 : Int32) then (
    some ((0 : Int32), s0))
  else
    some ((1 : Int32), s0)

def g_X3_isRefusing (v1 : Int32) (s0 : qe_S) : Option (Int32 × qe_S) :=
  qm_j (fun  (s1 : qe_S) =>
      some ((0 : Int32), s1)
  ) fun j23 =>
  qm_b (g_X3_has v1 s0) fun a3 s2 =>
  if a3 = (0 : Int32) then (
    j23 s2)
  else
  qm_b (g_X8_isIn (s2.1 1 1) v1 s2) fun a5 s4 =>
  if a5 = (0 : Int32) then (
    j23 s4)
  else
    some ((1 : Int32), s4)

def g_X3_changeRefusing (v1 : Int32) (v2 : Int32) (s0 : qe_S) : Option (Int32 × qe_S) :=
  qm_b (g_X3_has v1 s0) fun a2 s1 =>
  if a2 = (0 : Int32) then (
    some ((-1 : Int32), s1))
  else
  if v2 < (0 : Int32) then (
    some ((-2 : Int32), s1))
  else
  if v2 ≤ (1 : Int32) then (
    qm_j (fun (q3 : Int32) (s4 : qe_S) =>
        qm_l (qe_si s4 1 1 (((s4.1 1 1) &&& (((1 : Int32) <<< (v1 &&& 31)) ^^^ (-1 : Int32))) ||| (v2 <<< (v1 &&& 31)))) fun s5 =>
        some (q3, s5)
    ) fun j35 =>
    qm_b (g_X3_isRefusing v1 s1) fun a7 s6 =>
    if a7 = (0 : Int32) then (
      j35 (0 : Int32) s6)
    else
      j35 (1 : Int32) s6)
  else
    some ((-2 : Int32), s1)

def g_X8_set (v1 : Int32) (v2 : Int32) (v3 : Int32) (s0 : qe_S) : Option (Int32 × qe_S) :=
  qm_b (g_X3_has v1 s0) fun a2 s1 =>
  if a2 = (0 : Int32) then (
    qm_b (g_X8_refuse (-1 : Int32) s1) fun a4 s3 =>
    some (a4, s3))
  else
  if v2 < (0 : Int32) then (
    qm_b (g_X8_refuse (-1 : Int32) s1) fun a6 s5 =>
    some (a6, s5))
  else
  if v2 ≤ (1 : Int32) then (
    if v2 = (0 : Int32) then (
      qm_b (g_X3_changeStratum v1 v3 s1) fun a12 s11 =>
      qm_b (g_X8_answered a12 s11) fun a14 s13 =>
      some (a14, s13))
    else
    qm_b (g_X3_changeRefusing v1 v3 s1) fun a8 s7 =>
    qm_b (g_X8_answered a8 s7) fun a10 s9 =>
    some (a10, s9))
  else
  qm_b (g_X8_refuse (-1 : Int32) s1) fun a16 s15 =>
  some (a16, s15)

def g_X3_changeMark (v1 : Int32) (v2 : Int32) (s0 : qe_S) : Option (Int32 × qe_S) :=
  qm_b (g_X3_has v1 s0) fun a2 s1 =>
  if a2 = (0 : Int32) then (
    some ((-1 : Int32), s1))
  else
  qm_b (g_X3_markFits v2 s1) fun a4 s3 =>
  if a4 = (0 : Int32) then (
    some ((-2 : Int32), s3))
  else
  qm_g v1 12 <| qm_l (qe_si s3 3 v1.toNatClampNeg v2) fun s5 =>
  qm_o (g_X3_arrange s5) fun s6 =>
  some ((1 : Int32), s6)

def g_X8_mark (v1 : Int32) (v2 : Int32) (s0 : qe_S) : Option (Int32 × qe_S) :=
  qm_b (g_X3_changeMark v1 v2 s0) fun a2 s1 =>
  qm_b (g_X8_answered a2 s1) fun a4 s3 =>
  some (a4, s3)

def g_X8_refuseLong (v1 : Int32) (s0 : qe_S) : Option (Int64 × qe_S) :=
  qm_b (g_X8_refuse v1 s0) fun a2 s1 =>
  some (((lN 4000000000000000000) - a2.toInt64), s1)

def g_X3_placeOf_L2  (v1 : Int32) : Nat → Int32 → qe_S → Option (Int32 × qe_S)
  | 0, _, _ => none
  | n + 1, v2, s0 =>
    if (s0.1 1 0) ≤ v2 then (
      some ((-1 : Int32), s0))
    else
    qm_g v2 12 <| qm_l (s0.1 5 v2.toNatClampNeg) fun a2 =>
    if a2 = v1 then (
      some (v2, s0))
    else
    qm_l (v2 + (1 : Int32)) fun a3 =>
    g_X3_placeOf_L2 v1 n a3 s0

def g_X3_placeOf (v1 : Int32) (s0 : qe_S) : Option (Int32 × qe_S) :=
  qm_l (0 : Int32) fun a1 =>
  g_X3_placeOf_L2 v1 qm_F a1 s0

def g_X8_of (v1 : Int32) (v2 : Int32) (s0 : qe_S) : Option (Int64 × qe_S) :=
  qm_b (g_X3_has v1 s0) fun a2 s1 =>
  if a2 = (0 : Int32) then (
    qm_b (g_X8_refuseLong (-1 : Int32) s1) fun b4 s3 =>
    some (b4, s3))
  else
  if v2 < (0 : Int32) then (
    qm_b (g_X8_refuseLong (-1 : Int32) s1) fun b6 s5 =>
    some (b6, s5))
  else
  if v2 ≤ (nI 3) then (
    if v2 = (0 : Int32) then (
      qm_g v1 12 <| qm_l (s1.1 2 v1.toNatClampNeg) fun a7 =>
      some (a7.toInt64, s1))
    else
    if v2 = (1 : Int32) then (
      qm_b (g_X3_isRefusing v1 s1) fun a9 s8 =>
      if a9 = (0 : Int32) then (
        some ((0 : Int64), s8))
      else
        some ((1 : Int64), s8))
    else
    if v2 = (nI 2) then (
      qm_g v1 12 <| qm_l (s1.1 3 v1.toNatClampNeg) fun a10 =>
      some (a10.toInt64, s1))
    else
    qm_b (g_X3_placeOf v1 s1) fun a12 s11 =>
    some (a12.toInt64, s11))
  else
  qm_b (g_X8_refuseLong (-1 : Int32) s1) fun b14 s13 =>
  some (b14, s13)

def g_X8_isPart (v0 : Int32) (s0 : qe_S) : Option (Int32 × qe_S) :=
  qm_j (fun  (s1 : qe_S) =>
      some ((1 : Int32), s1)
  ) fun j9 =>
  if v0 = (0 : Int32) then (
    j9 s0)
  else
  if v0 = (1 : Int32) then (
    j9 s0)
  else
    some ((0 : Int32), s0)

def g_X8_gcd_L9 (k45 : Int64 → qe_S → Option (Int64 × qe_S))  : Nat → Int64 → Int64 → Int32 → qe_S → Option (Int64 × qe_S)
  | 0, _, _, _, _ => none
  | n + 1, v4, v6, v8, s0 =>
    if (nI 1000) ≤ v8 then (
      k45 v4 s0)
    else
    if v6 = (0 : Int64) then (
      k45 v4 s0)
    else
    qm_zl v6 <|
    qm_l (qm_lr v4 v6) fun b3 =>
    qm_l (v8 + (1 : Int32)) fun a4 =>
    g_X8_gcd_L9 k45 n v6 b3 a4 s0

def g_X8_gcd (v0 : Int64) (v2 : Int64) (s0 : qe_S) : Option (Int64 × qe_S) :=
  qm_l (0 : Int32) fun a1 =>
  g_X8_gcd_L9
      (fun (b5 : Int64) (s6 : qe_S) =>
        if (0 : Int64) ≤ b5 then (
          some (b5, s6))
        else
          some ((-b5), s6))
      qm_F v0 v2 a1 s0

def g_X0_reduce (o0 : Nat) (v1 : Int64) (v3 : Int64) (s0 : qe_S) : Option (qe_S) :=
  qm_j (fun (b1 : Int64) (q2 : Int64) (s3 : qe_S) =>
      qm_j (fun (q4 : Int64) (s5 : qe_S) =>
          qm_l (qe_sl s5 o0 1 q4) fun s6 =>
          some s6
      ) fun j42 =>
      qm_l (qe_sl s3 o0 0 q2) fun s7 =>
      if b1 ≤ (1 : Int64) then (
        j42 v3 s7)
      else
        qm_zl b1 <|
        j42 (v3 / b1) s7
  ) fun j23 =>
  qm_b (g_X8_gcd v1 v3 s0) fun b9 s8 =>
  if b9 ≤ (1 : Int64) then (
    j23 b9 v1 s8)
  else
    qm_zl b9 <|
    j23 b9 (v1 / b9) s8

def g_X0_begin (o0 : Nat) (v1 : Int64) (v3 : Int64) (s0 : qe_S) : Option (qe_S) :=
  qm_l (qe_si s0 o0 2 (0 : Int32)) fun s1 =>
  qm_o (g_X0_reduce o0 v1 v3 s1) fun s2 =>
  some s2

def g_X8_lowest (v1 : Int64) (v3 : Int64) (v5 : Int32) (s0 : qe_S) : Option (Int64 × qe_S) :=
  qm_o (g_X0_begin 34 v1 v3 s0) fun s1 =>
  if v5 = (0 : Int32) then (
    some ((s1.2 34 0), s1))
  else
    some ((s1.2 34 1), s1)

def g_X8_fraction (v1 : Int32) (v2 : Int32) (v3 : Int32) (s0 : qe_S) : Option (Int64 × qe_S) :=
  qm_b (g_X3_has v1 s0) fun a2 s1 =>
  if a2 = (0 : Int32) then (
    qm_b (g_X8_refuseLong (-1 : Int32) s1) fun b4 s3 =>
    some (b4, s3))
  else
  qm_b (g_X8_isRow v2 s1) fun a6 s5 =>
  if a6 = (0 : Int32) then (
    qm_b (g_X8_refuseLong (-1 : Int32) s5) fun b18 s17 =>
    some (b18, s17))
  else
  qm_b (g_X8_isPart v3 s5) fun a8 s7 =>
  if a8 = (0 : Int32) then (
    qm_b (g_X8_refuseLong (-2 : Int32) s7) fun b16 s15 =>
    some (b16, s15))
  else
  qm_b (g_X3_above v1 v2 s7) fun a10 s9 =>
  qm_b (g_X3_below v1 v2 s9) fun a12 s11 =>
  qm_b (g_X8_lowest a10.toInt64 a12.toInt64 v3 s11) fun b14 s13 =>
  some (b14, s13)

def g_X3_changeOrder (v1 : Int32) (s0 : qe_S) : Option (Int32 × qe_S) :=
  if v1 < (0 : Int32) then (
    some ((-2 : Int32), s0))
  else
  if v1 ≤ (nI 5) then (
    qm_l (s0.1 1 2) fun a1 =>
    qm_l (qe_si s0 1 2 v1) fun s2 =>
    qm_o (g_X3_arrange s2) fun s3 =>
    some (a1, s3))
  else
    some ((-2 : Int32), s0)

def g_X8_order (v1 : Int32) (s0 : qe_S) : Option (Int32 × qe_S) :=
  qm_b (g_X3_changeOrder v1 s0) fun a2 s1 =>
  qm_b (g_X8_answered a2 s1) fun a4 s3 =>
  some (a4, s3)

def g_X3_unitAt (v1 : Int32) (s0 : qe_S) : Option (Int32 × qe_S) :=
  qm_j (fun  (s1 : qe_S) =>
      some ((-1 : Int32), s1)
  ) fun j21 =>
  if v1 < (0 : Int32) then (
    j21 s0)
  else
  if (s0.1 1 0) ≤ v1 then (
    j21 s0)
  else
  qm_g v1 12 <| qm_l (s0.1 5 v1.toNatClampNeg) fun a2 =>
  some (a2, s0)

def g_X8_at (v1 : Int32) (s0 : qe_S) : Option (Int32 × qe_S) :=
  qm_b (g_X3_unitAt v1 s0) fun a2 s1 =>
  qm_b (g_X8_answered a2 s1) fun a4 s3 =>
  some (a4, s3)

def g_X3_exchange (v1 : Int32) (v2 : Int32) (s0 : qe_S) : Option (Int32 × qe_S) :=
  qm_b (g_X3_has v1 s0) fun a2 s1 =>
  if a2 = (0 : Int32) then (
    some ((-1 : Int32), s1))
  else
  qm_b (g_X3_has v2 s1) fun a4 s3 =>
  if a4 = (0 : Int32) then (
    some ((-1 : Int32), s3))
  else
  if v1 = v2 then (
    some ((-5 : Int32), s3))
  else
  qm_g v1 12 <| qm_l (s3.1 4 v1.toNatClampNeg) fun a5 =>
  qm_g v2 12 <| qm_l (s3.1 4 v2.toNatClampNeg) fun a6 =>
  qm_g v1 12 <| qm_l (qe_si s3 4 v1.toNatClampNeg a6) fun s7 =>
  qm_g v2 12 <| qm_l (qe_si s7 4 v2.toNatClampNeg a5) fun s8 =>
  qm_o (g_X3_arrange s8) fun s9 =>
  qm_g v1 12 <| qm_l (s9.1 4 v1.toNatClampNeg) fun a10 =>
  some (a10, s9)

def g_X8_swap (v1 : Int32) (v2 : Int32) (s0 : qe_S) : Option (Int32 × qe_S) :=
  qm_b (g_X3_exchange v1 v2 s0) fun a2 s1 =>
  qm_b (g_X8_answered a2 s1) fun a4 s3 =>
  some (a4, s3)

def g_X3_commonMultiple (v0 : Int64) (v2 : Int64) (s0 : qe_S) : Option (Int64 × qe_S) :=
  qm_b (g_X8_gcd v0 v2 s0) fun b2 s1 =>
  if (1 : Int64) ≤ b2 then (
    qm_zl b2 <|
    some (((v0 / b2) * v2), s1))
  else
    some ((0 : Int64), s1)

def g_X3_partsOf (v1 : Int32) (v2 : Int32) (v3 : Int64) (s0 : qe_S) : Option (Int64 × qe_S) :=
  qm_b (g_X3_below v1 v2 s0) fun a2 s1 =>
  if (1 : Int32) ≤ a2 then (
    qm_b (g_X3_above v1 v2 s1) fun a4 s3 =>
    qm_zl a2.toInt64 <|
    some ((a4.toInt64 * (v3 / a2.toInt64)), s3))
  else
    some ((0 : Int64), s1)

def g_X3_partsOfAll_L6  (v1 : Int32) (v2 : Int64) : Nat → Int64 → Int32 → qe_S → Option (Int64 × qe_S)
  | 0, _, _, _ => none
  | n + 1, v4, v6, s0 =>
    if (s0.1 1 0) ≤ v6 then (
      some (v4, s0))
    else
    qm_b (g_X3_partsOf v6 v1 v2 s0) fun b4 s3 =>
    qm_l (v4 + b4) fun b5 =>
    qm_l (v6 + (1 : Int32)) fun a6 =>
    g_X3_partsOfAll_L6 v1 v2 n b5 a6 s3

def g_X3_partsOfAll (v1 : Int32) (v2 : Int64) (s0 : qe_S) : Option (Int64 × qe_S) :=
  qm_l (0 : Int64) fun b1 =>
  qm_l (0 : Int32) fun a2 =>
  g_X3_partsOfAll_L6 v1 v2 qm_F b1 a2 s0

def g_X3_places_L5 (k74 : Int64 → qe_S → Option (Int64 × qe_S)) (v1 : Int32) : Nat → Int64 → Int32 → qe_S → Option (Int64 × qe_S)
  | 0, _, _, _ => none
  | n + 1, v2, v4, s0 =>
    if (s0.1 1 0) ≤ v4 then (
      k74 v2 s0)
    else
    qm_j (fun (q4 : Int32) (q5 : Int32) (q6 : Int64) (s7 : qe_S) =>
        qm_j (fun (q8 : Int64) (s9 : qe_S) =>
            if q8 ≤ (lN 2147483647) then (
              qm_l (v4 + (1 : Int32)) fun a10 =>
              g_X3_places_L5 k74 v1 n q8 a10 s9)
            else
              some ((0 : Int64), s9)
        ) fun j57 =>
        qm_b (g_X3_below q5 q4 s7) fun a12 s11 =>
        qm_b (g_X3_commonMultiple q6 a12.toInt64 s11) fun b14 s13 =>
        if v1 = (nI 2) then (
          qm_b (g_X3_below v4 (nI 2) s13) fun a16 s15 =>
          qm_b (g_X3_commonMultiple b14 a16.toInt64 s15) fun b18 s17 =>
          j57 b18 s17)
        else
          j57 b14 s13
    ) fun j28 =>
    if v1 = (1 : Int32) then (
      j28 (1 : Int32) v4 v2 s0)
    else
      j28 (0 : Int32) v4 v2 s0

def g_X3_places (v1 : Int32) (s0 : qe_S) : Option (Int64 × qe_S) :=
  qm_l (1 : Int64) fun b1 =>
  qm_l (0 : Int32) fun a2 =>
  g_X3_places_L5
      (fun (b19 : Int64) (s20 : qe_S) =>
        qm_j (fun (q21 : Int32) (s22 : qe_S) =>
            if q21 = (0 : Int32) then (
              some (b19, s22))
            else
              some ((0 : Int64), s22)
        ) fun j110 =>
        qm_j (fun  (s23 : qe_S) =>
            j110 (1 : Int32) s23
        ) fun j105 =>
        qm_b (g_X3_partsOfAll v1 b19 s20) fun b25 s24 =>
        if (lN 2147483647) < b25 then (
          j105 s24)
        else
        qm_j (fun  (s26 : qe_S) =>
            j110 (0 : Int32) s26
        ) fun j109 =>
        if v1 = (nI 2) then (
          qm_b (g_X3_partsOfAll (0 : Int32) b19 s24) fun b28 s27 =>
          if b28 ≤ (lN 2147483647) then (
            j109 s27)
          else
            j105 s27)
        else
          j109 s24)
      v1 qm_F b1 a2 s0

def g_X8_common (v1 : Int32) (s0 : qe_S) : Option (Int32 × qe_S) :=
  qm_b (g_X8_isRow v1 s0) fun a2 s1 =>
  if a2 = (0 : Int32) then (
    qm_b (g_X8_refuse (-1 : Int32) s1) fun a8 s7 =>
    some (a8, s7))
  else
  qm_b (g_X3_places v1 s1) fun b4 s3 =>
  if b4 ≤ (0 : Int64) then (
    qm_b (g_X8_refuse (-7 : Int32) s3) fun a6 s5 =>
    some (a6, s5))
  else
    some (b4.toInt32, s3)

def g_X8_parts (v1 : Int32) (s0 : qe_S) : Option (Int32 × qe_S) :=
  qm_b (g_X3_has v1 s0) fun a2 s1 =>
  if a2 = (0 : Int32) then (
    qm_b (g_X8_refuse (-1 : Int32) s1) fun a10 s9 =>
    some (a10, s9))
  else
  qm_b (g_X3_places (0 : Int32) s1) fun b4 s3 =>
  if b4 ≤ (0 : Int64) then (
    qm_b (g_X8_refuse (-7 : Int32) s3) fun a6 s5 =>
    some (a6, s5))
  else
  qm_b (g_X3_partsOf v1 (0 : Int32) b4 s3) fun b8 s7 =>
  some (b8.toInt32, s7)

def g_X8_size (v1 : Int32) (s0 : qe_S) : Option (Int32 × qe_S) :=
  if v1 < (0 : Int32) then (
    qm_b (g_X8_refuse (-1 : Int32) s0) fun a2 s1 =>
    some (a2, s1))
  else
  if v1 ≤ (1 : Int32) then (
    qm_b (g_X3_places (0 : Int32) s0) fun b4 s3 =>
    if (1 : Int64) ≤ b4 then (
      qm_j (fun (q5 : Int64) (s6 : qe_S) =>
          qm_zl b4 <|
          some ((q5 / b4).toInt32, s6)
      ) fun j63 =>
      qm_b (g_X3_partsOfAll (0 : Int32) b4 s3) fun b8 s7 =>
      if v1 = (0 : Int32) then (
        j63 b8 s7)
      else
        j63 ((b8 + b4) - (1 : Int64)) s7)
    else
    qm_b (g_X8_refuse (-7 : Int32) s3) fun a10 s9 =>
    some (a10, s9))
  else
  qm_b (g_X8_refuse (-1 : Int32) s0) fun a12 s11 =>
  some (a12, s11)

def g_X3_everyone  (s0 : qe_S) : Option (Int32 × qe_S) :=
  some ((((1 : Int32) <<< ((s0.1 1 0) &&& 31)) - (1 : Int32)), s0)

def g_X7_lay_L8 (k37 : qe_S → Option (qe_S)) (o0 : Nat) (v2 : Int32) (v3 : Int64) (v5 : Int32) : Nat → Int32 → qe_S → Option (qe_S)
  | 0, _, _ => none
  | n + 1, v6, s0 =>
    if (nI 12) ≤ v6 then (
      k37 s0)
    else
    qm_g v6 12 <| qm_l (qe_sl s0 (o0 + 1) v6.toNatClampNeg (0 : Int64)) fun s3 =>
    qm_g v6 12 <| qm_l (qe_sl s3 (o0 + 2) v6.toNatClampNeg (0 : Int64)) fun s4 =>
    qm_l (v6 + (1 : Int32)) fun a5 =>
    g_X7_lay_L8 k37 o0 v2 v3 v5 n a5 s4

def g_X7_lay_L43  (o0 : Nat) (v2 : Int32) (v3 : Int64) (v5 : Int32) : Nat → Int64 → Int32 → qe_S → Option (qe_S)
  | 0, _, _, _ => none
  | n + 1, v6, v8, s0 =>
    if (s0.1 1 0) ≤ v8 then (
      some s0)
    else
    if v3 ≤ (0 : Int64) then (
      some s0)
    else
    qm_j (fun (b9 : Int64) (s10 : qe_S) =>
        qm_l (v8 + (1 : Int32)) fun a11 =>
        g_X7_lay_L43 o0 v2 v3 v5 n b9 a11 s10
    ) fun j123 =>
    qm_b (g_X3_unitAt v8 s0) fun a13 s12 =>
    qm_b (g_X3_has a13 s12) fun a15 s14 =>
    if a15 = (0 : Int32) then (
      j123 v6 s14)
    else
    qm_b (g_X8_isIn v5 a13 s14) fun a17 s16 =>
    if a17 = (0 : Int32) then (
      j123 v6 s16)
    else
    qm_g a13 12 <| qm_l (qe_sl s16 (o0 + 1) a13.toNatClampNeg v6) fun s18 =>
    qm_b (g_X3_partsOf a13 v2 v3 s18) fun b20 s19 =>
    qm_g a13 12 <| qm_l (qe_sl s19 (o0 + 2) a13.toNatClampNeg b20) fun s21 =>
    qm_g a13 12 <| qm_l (s21.2 (o0 + 2) a13.toNatClampNeg) fun b22 =>
    qm_zl v3 <|
    qm_l (qm_lr (v6 + b22) v3) fun b23 =>
    j123 b23 s21

def g_X7_lay (o0 : Nat) (v2 : Int32) (v3 : Int64) (v5 : Int32) (s0 : qe_S) : Option (qe_S) :=
  qm_l (qe_sl s0 o0 0 v3) fun s1 =>
  qm_l (0 : Int32) fun a2 =>
  g_X7_lay_L8
      (fun  (s6 : qe_S) =>
        qm_l (0 : Int64) fun b7 =>
        qm_l (0 : Int32) fun a8 =>
        g_X7_lay_L43 o0 v2 v3 v5 qm_F b7 a8 s6)
      o0 v2 v3 v5 qm_F a2 s1

def g_X8_layWheel  (s0 : qe_S) : Option (Int32 × qe_S) :=
  qm_b (g_X3_places (0 : Int32) s0) fun b2 s1 =>
  if (1 : Int64) ≤ b2 then (
    qm_b (g_X3_everyone s1) fun a4 s3 =>
    qm_o (g_X7_lay 22 (0 : Int32) b2 a4 s3) fun s5 =>
    some ((1 : Int32), s5))
  else
    some ((0 : Int32), s1)

def g_X7_hasPlace (v1 : Int32) (s0 : qe_S) : Option (Int32 × qe_S) :=
  qm_j (fun  (s1 : qe_S) =>
      some ((0 : Int32), s1)
  ) fun j18 =>
  if v1 < (0 : Int32) then (
    j18 s0)
  else
  if (s0.2 22 0) ≤ v1.toInt64 then (
    j18 s0)
  else
    some ((1 : Int32), s0)

def g_J9_floorMod_f86c9 (v0 : Int64) (v2 : Int64) (s0 : qe_S) : Option (Int64 × qe_S) :=
  qm_zl v2 <|
  qm_l (qm_lr v0 v2) fun b1 =>
  if (0 : Int64) ≤ (v0 ^^^ v2) then (
    some (b1, s0))
  else
  if b1 = (0 : Int64) then (
    some (b1, s0))
  else
    some ((b1 + v2), s0)

def g_X7_chooses (o0 : Nat) (v1 : Int32) (v2 : Int64) (s0 : qe_S) : Option (Int32 × qe_S) :=
  if v1 < (0 : Int32) then (
    some ((0 : Int32), s0))
  else
  if (nI 12) ≤ v1 then (
    some ((0 : Int32), s0))
  else
  if (1 : Int64) ≤ (s0.2 o0 0) then (
    qm_g v1 12 <| qm_l (s0.2 (o0 + 1) v1.toNatClampNeg) fun b1 =>
    qm_b (g_J9_floorMod_f86c9 (v2 - b1) (s0.2 o0 0) s0) fun b3 s2 =>
    qm_g v1 12 <| qm_l (s2.2 (o0 + 2) v1.toNatClampNeg) fun b4 =>
    if b4 ≤ b3 then (
      some ((0 : Int32), s2))
    else
      some ((1 : Int32), s2))
  else
    some ((0 : Int32), s0)

def g_X7_chosenBy_L5  (o0 : Nat) (v1 : Int64) : Nat → Int32 → Int32 → qe_S → Option (Int32 × qe_S)
  | 0, _, _, _ => none
  | n + 1, v3, v4, s0 =>
    if (nI 12) ≤ v4 then (
      some (v3, s0))
    else
    qm_j (fun (q3 : Int32) (q4 : Int32) (s5 : qe_S) =>
        qm_l (q4 ||| q3) fun a6 =>
        qm_l (v4 + (1 : Int32)) fun a7 =>
        g_X7_chosenBy_L5 o0 v1 n a6 a7 s5
    ) fun j31 =>
    qm_b (g_X7_chooses o0 v4 v1 s0) fun a9 s8 =>
    if a9 = (0 : Int32) then (
      j31 (0 : Int32) v3 s8)
    else
      j31 ((1 : Int32) <<< (v4 &&& 31)) v3 s8

def g_X7_chosenBy (o0 : Nat) (v1 : Int64) (s0 : qe_S) : Option (Int32 × qe_S) :=
  qm_l (0 : Int32) fun a1 =>
  qm_l (0 : Int32) fun a2 =>
  g_X7_chosenBy_L5 o0 v1 qm_F a1 a2 s0

def g_X8_chosen (v1 : Int32) (s0 : qe_S) : Option (Int32 × qe_S) :=
  qm_b (g_X8_layWheel s0) fun a2 s1 =>
  if a2 = (0 : Int32) then (
    qm_b (g_X8_refuse (-7 : Int32) s1) fun a10 s9 =>
    some (a10, s9))
  else
  qm_b (g_X7_hasPlace v1 s1) fun a4 s3 =>
  if a4 = (0 : Int32) then (
    qm_b (g_X8_refuse (-2 : Int32) s3) fun a6 s5 =>
    some (a6, s5))
  else
  qm_b (g_X7_chosenBy 22 v1.toInt64 s3) fun a8 s7 =>
  some (a8, s7)

def g_J9_min_f86c9 (v0 : Int64) (v2 : Int64) (s0 : qe_S) : Option (Int64 × qe_S) :=
  if v2 < v0 then (
    some (v2, s0))
  else
    some (v0, s0)

def g_X7_nextEnd_L8  (v1 : Int64) : Nat → Int64 → Int32 → qe_S → Option (Int64 × qe_S)
  | 0, _, _, _ => none
  | n + 1, v3, v5, s0 =>
    if (nI 12) ≤ v5 then (
      some (v3, s0))
    else
    if (s0.2 22 0) ≤ (0 : Int64) then (
      some (v3, s0))
    else
    qm_j (fun (q3 : Int64) (s4 : qe_S) =>
        qm_l (v5 + (1 : Int32)) fun a5 =>
        g_X7_nextEnd_L8 v1 n q3 a5 s4
    ) fun j63 =>
    qm_g v5 12 <| qm_l (s0.2 23 v5.toNatClampNeg) fun b6 =>
    qm_g v5 12 <| qm_l (s0.2 24 v5.toNatClampNeg) fun b7 =>
    qm_zl (s0.2 22 0) <|
    qm_l (qm_lr (b6 + b7) (s0.2 22 0)) fun b8 =>
    if b8 ≤ v1 then (
      j63 v3 s0)
    else
      qm_b (g_J9_min_f86c9 v3 b8 s0) fun b10 s9 =>
      j63 b10 s9

def g_X7_nextEnd (v1 : Int64) (s0 : qe_S) : Option (Int64 × qe_S) :=
  qm_l (s0.2 22 0) fun b1 =>
  qm_l (0 : Int32) fun a2 =>
  g_X7_nextEnd_L8 v1 qm_F b1 a2 s0

def g_X5_trace_L7   : Nat → Int64 → qe_S → Option (qe_S)
  | 0, _, _ => none
  | n + 1, v2, s0 =>
    if (nI 13) ≤ (s0.1 28 0) then (
      some s0)
    else
    if (s0.2 22 0) ≤ v2 then (
      some s0)
    else
    qm_b (g_X7_nextEnd v2 s0) fun b4 s3 =>
    qm_g (s3.1 28 0) 13 <| qm_l (qe_sl s3 29 (s3.1 28 0).toNatClampNeg v2) fun s5 =>
    qm_g (s5.1 28 0) 13 <| qm_l (qe_sl s5 30 (s5.1 28 0).toNatClampNeg (b4 - v2)) fun s6 =>
    qm_b (g_X7_chosenBy 22 v2 s6) fun a8 s7 =>
    qm_g (s6.1 28 0) 13 <| qm_l (qe_si s7 31 (s6.1 28 0).toNatClampNeg a8) fun s9 =>
    qm_l (qe_si s9 28 0 ((s9.1 28 0) + (1 : Int32))) fun s10 =>
    g_X5_trace_L7 n b4 s10

def g_X5_trace  (s0 : qe_S) : Option (qe_S) :=
  qm_l (qe_si s0 28 0 (0 : Int32)) fun s1 =>
  qm_l (0 : Int64) fun b2 =>
  g_X5_trace_L7 qm_F b2 s1

def g_X8_run (v1 : Int32) (v2 : Int32) (s0 : qe_S) : Option (Int32 × qe_S) :=
  if v1 < (-1 : Int32) then (
    qm_b (g_X8_refuse (-1 : Int32) s0) fun a2 s1 =>
    some (a2, s1))
  else
  if v2 < (0 : Int32) then (
    qm_b (g_X8_refuse (-1 : Int32) s0) fun a4 s3 =>
    some (a4, s3))
  else
  if v2 ≤ (nI 2) then (
    qm_b (g_X8_layWheel s0) fun a6 s5 =>
    if a6 = (0 : Int32) then (
      qm_b (g_X8_refuse (-7 : Int32) s5) fun a14 s13 =>
      some (a14, s13))
    else
    qm_o (g_X5_trace s5) fun s7 =>
    if v1 = (-1 : Int32) then (
      some ((s7.1 28 0), s7))
    else
    if v1 < (s7.1 28 0) then (
      if v2 = (0 : Int32) then (
        qm_g v1 13 <| qm_l (s7.2 29 v1.toNatClampNeg) fun b8 =>
        some (b8.toInt32, s7))
      else
      if v2 = (1 : Int32) then (
        qm_g v1 13 <| qm_l (s7.2 30 v1.toNatClampNeg) fun b9 =>
        some (b9.toInt32, s7))
      else
      qm_g v1 13 <| qm_l (s7.1 31 v1.toNatClampNeg) fun a10 =>
      some (a10, s7))
    else
    qm_b (g_X8_refuse (-5 : Int32) s7) fun a12 s11 =>
    some (a12, s11))
  else
  qm_b (g_X8_refuse (-1 : Int32) s0) fun a16 s15 =>
  some (a16, s15)

def g_J9_max_f86c9 (v0 : Int64) (v2 : Int64) (s0 : qe_S) : Option (Int64 × qe_S) :=
  if v0 < v2 then (
    some (v2, s0))
  else
    some (v0, s0)

def g_X8_meeting_L6  (v0 : Int64) (v2 : Int64) (v4 : Int64) (v6 : Int64) (v8 : Int64) : Nat → Int64 → Int32 → qe_S → Option (Int64 × qe_S)
  | 0, _, _, _ => none
  | n + 1, v10, v12, s0 =>
    if (1 : Int32) < v12 then (
      some (v10, s0))
    else
    qm_l (v4 + (v12.toInt64 * v8)) fun b3 =>
    qm_b (g_J9_min_f86c9 (v0 + v2) (b3 + v6) s0) fun b5 s4 =>
    qm_b (g_J9_max_f86c9 v0 b3 s4) fun b7 s6 =>
    qm_l (b5 - b7) fun b8 =>
    qm_b (g_J9_max_f86c9 (0 : Int64) b8 s6) fun b10 s9 =>
    qm_l (v10 + b10) fun b11 =>
    qm_l (v12 + (1 : Int32)) fun a12 =>
    g_X8_meeting_L6 v0 v2 v4 v6 v8 n b11 a12 s9

def g_X8_meeting (v0 : Int64) (v2 : Int64) (v4 : Int64) (v6 : Int64) (v8 : Int64) (s0 : qe_S) : Option (Int64 × qe_S) :=
  qm_l (0 : Int64) fun b1 =>
  qm_l (-1 : Int32) fun a2 =>
  g_X8_meeting_L6 v0 v2 v4 v6 v8 qm_F b1 a2 s0

def g_X7_together (o0 : Nat) (v1 : Int32) (v2 : Int32) (s0 : qe_S) : Option (Int64 × qe_S) :=
  qm_g v1 12 <| qm_l (s0.2 (o0 + 1) v1.toNatClampNeg) fun b1 =>
  qm_g v1 12 <| qm_l (s0.2 (o0 + 2) v1.toNatClampNeg) fun b2 =>
  qm_g v2 12 <| qm_l (s0.2 (o0 + 1) v2.toNatClampNeg) fun b3 =>
  qm_g v2 12 <| qm_l (s0.2 (o0 + 2) v2.toNatClampNeg) fun b4 =>
  qm_b (g_X8_meeting b1 b2 b3 b4 (s0.2 o0 0) s0) fun b6 s5 =>
  some (b6, s5)

def g_X8_joint (v1 : Int32) (v2 : Int32) (v3 : Int32) (s0 : qe_S) : Option (Int64 × qe_S) :=
  qm_b (g_X3_has v1 s0) fun a2 s1 =>
  if a2 = (0 : Int32) then (
    qm_b (g_X8_refuseLong (-1 : Int32) s1) fun b4 s3 =>
    some (b4, s3))
  else
  qm_b (g_X3_has v2 s1) fun a6 s5 =>
  if a6 = (0 : Int32) then (
    qm_b (g_X8_refuseLong (-1 : Int32) s5) fun b20 s19 =>
    some (b20, s19))
  else
  qm_b (g_X8_isPart v3 s5) fun a8 s7 =>
  if a8 = (0 : Int32) then (
    qm_b (g_X8_refuseLong (-2 : Int32) s7) fun b18 s17 =>
    some (b18, s17))
  else
  qm_b (g_X8_layWheel s7) fun a10 s9 =>
  if a10 = (0 : Int32) then (
    qm_b (g_X8_refuseLong (-7 : Int32) s9) fun b16 s15 =>
    some (b16, s15))
  else
  qm_b (g_X7_together 22 v1 v2 s9) fun b12 s11 =>
  qm_b (g_X8_lowest b12 (s11.2 22 0) v3 s11) fun b14 s13 =>
  some (b14, s13)

def g_X8_joints_L50 (k81 : Int64 → qe_S → Option (Int64 × qe_S)) (v1 : Int32) (v2 : Int32) : Nat → Int64 → Int32 → qe_S → Option (Int64 × qe_S)
  | 0, _, _, _ => none
  | n + 1, v3, v5, s0 =>
    if (s0.1 1 0) ≤ v5 then (
      k81 v3 s0)
    else
    qm_b (g_X7_together 22 v1 v5 s0) fun b11 s10 =>
    qm_l (v3 + b11) fun b12 =>
    qm_l (v5 + (1 : Int32)) fun a13 =>
    g_X8_joints_L50 k81 v1 v2 n b12 a13 s10

def g_X8_joints (v1 : Int32) (v2 : Int32) (s0 : qe_S) : Option (Int64 × qe_S) :=
  qm_b (g_X3_has v1 s0) fun a2 s1 =>
  if a2 = (0 : Int32) then (
    qm_b (g_X8_refuseLong (-1 : Int32) s1) fun b23 s22 =>
    some (b23, s22))
  else
  qm_b (g_X8_isPart v2 s1) fun a4 s3 =>
  if a4 = (0 : Int32) then (
    qm_b (g_X8_refuseLong (-2 : Int32) s3) fun b21 s20 =>
    some (b21, s20))
  else
  qm_b (g_X8_layWheel s3) fun a6 s5 =>
  if a6 = (0 : Int32) then (
    qm_b (g_X8_refuseLong (-7 : Int32) s5) fun b19 s18 =>
    some (b19, s18))
  else
  qm_l (0 : Int64) fun b7 =>
  qm_l (0 : Int32) fun a8 =>
  g_X8_joints_L50
      (fun (b14 : Int64) (s15 : qe_S) =>
        qm_b (g_X8_lowest b14 (s15.2 22 0) v2 s15) fun b17 s16 =>
        some (b17, s16))
      v1 v2 qm_F b7 a8 s5

def g_J6_bitCount_0f7a4 (v0 : Int32) (s0 : qe_S) : Option (Int32 × qe_S) :=
  qm_l (v0 - ((qm_us v0 (1 : Int32)) &&& (nI 1431655765))) fun a1 =>
  qm_l ((a1 &&& (nI 858993459)) + ((qm_us a1 (nI 2)) &&& (nI 858993459))) fun a2 =>
  qm_l ((a2 + (qm_us a2 (nI 4))) &&& (nI 252645135)) fun a3 =>
  qm_l (a3 + (qm_us a3 (nI 8))) fun a4 =>
  qm_l (a4 + (qm_us a4 (nI 16))) fun a5 =>
  some ((a5 &&& (nI 63)), s0)

def g_X8_isFair_L8 (k69 : Int64 → Int32 → qe_S → Option (Int32 × qe_S)) (v1 : Int32) : Nat → Int64 → Int32 → Int32 → qe_S → Option (Int32 × qe_S)
  | 0, _, _, _, _ => none
  | n + 1, v2, v4, v5, s0 =>
    if (s0.1 1 0) ≤ v5 then (
      k69 v2 v4 s0)
    else
    qm_j (fun (b6 : Int64) (a7 : Int32) (s8 : qe_S) =>
        qm_l (v5 + (1 : Int32)) fun a9 =>
        g_X8_isFair_L8 k69 v1 n b6 a7 a9 s8
    ) fun j63 =>
    qm_g v5 12 <| qm_l (s0.1 2 v5.toNatClampNeg) fun a10 =>
    if a10 = v1 then (
      qm_b (g_X3_partsOf v5 (0 : Int32) (s0.2 22 0) s0) fun b12 s11 =>
      qm_l (v2 + b12) fun b13 =>
      qm_l (v4 ||| ((1 : Int32) <<< (v5 &&& 31))) fun a14 =>
      j63 b13 a14 s11)
    else
      j63 v2 v4 s0

def g_X8_isFair_L72  (v2 : Int64) (v4 : Int32) : Nat → Int32 → qe_S → Option (Int32 × qe_S)
  | 0, _, _ => none
  | n + 1, v5, s0 =>
    if (s0.1 28 0) ≤ v5 then (
      some ((1 : Int32), s0))
    else
    qm_g v5 13 <| qm_l (s0.1 31 v5.toNatClampNeg) fun a19 =>
    qm_b (g_J6_bitCount_0f7a4 (a19 &&& v4) s0) fun a21 s20 =>
    qm_l ((a21.toInt64 * (s20.2 22 0)) - v2) fun b22 =>
    if b22 ≤ (-(s20.2 22 0)) then (
      some ((0 : Int32), s20))
    else
    if b22 < (s20.2 22 0) then (
      qm_l (v5 + (1 : Int32)) fun a23 =>
      g_X8_isFair_L72 v2 v4 n a23 s20)
    else
      some ((0 : Int32), s20)

def g_X8_isFair (v1 : Int32) (s0 : qe_S) : Option (Int32 × qe_S) :=
  qm_l (0 : Int64) fun b1 =>
  qm_l (0 : Int32) fun a2 =>
  qm_l (0 : Int32) fun a3 =>
  g_X8_isFair_L8
      (fun (b15 : Int64) (a16 : Int32) (s17 : qe_S) =>
        qm_l (0 : Int32) fun a18 =>
        g_X8_isFair_L72 b15 a16 qm_F a18 s17)
      v1 qm_F b1 a2 a3 s0

def g_X8_fair (v1 : Int32) (s0 : qe_S) : Option (Int32 × qe_S) :=
  if v1 < (0 : Int32) then (
    qm_b (g_X8_refuse (-1 : Int32) s0) fun a2 s1 =>
    some (a2, s1))
  else
  if v1 ≤ (nI 3) then (
    qm_b (g_X8_layWheel s0) fun a4 s3 =>
    if a4 = (0 : Int32) then (
      qm_b (g_X8_refuse (-7 : Int32) s3) fun a9 s8 =>
      some (a9, s8))
    else
    qm_o (g_X5_trace s3) fun s5 =>
    qm_b (g_X8_isFair v1 s5) fun a7 s6 =>
    if a7 = (0 : Int32) then (
      some ((0 : Int32), s6))
    else
      some ((1 : Int32), s6))
  else
  qm_b (g_X8_refuse (-1 : Int32) s0) fun a11 s10 =>
  some (a11, s10)

def g_X0_productFits (v0 : Int64) (v2 : Int64) (s0 : qe_S) : Option (Int32 × qe_S) :=
  qm_j (fun  (s1 : qe_S) =>
      qm_j (fun  (s2 : qe_S) =>
          some ((1 : Int32), s2)
      ) fun j28 =>
      if v0 = (0 : Int64) then (
        j28 s1)
      else
      if v2 = (-9223372036854775808 : Int64) then (
        some ((0 : Int32), s1))
      else
        j28 s1
  ) fun j14 =>
  if v0 = (0 : Int64) then (
    j14 s0)
  else
  if v0 = (-1 : Int64) then (
    j14 s0)
  else
  qm_zl v0 <|
  if ((v0 * v2) / v0) = v2 then (
    some ((1 : Int32), s0))
  else
    some ((0 : Int32), s0)

def g_X0_add (o0 : Nat) (v1 : Int64) (v3 : Int64) (s0 : qe_S) : Option (qe_S) :=
  qm_j (fun (b1 : Int64) (q2 : Int32) (s3 : qe_S) =>
      qm_j (fun  (s4 : qe_S) =>
          qm_l (qe_si s4 o0 2 (1 : Int32)) fun s5 =>
          some s5
      ) fun j84 =>
      qm_b (g_X0_productFits (s3.2 o0 0) v3 s3) fun a7 s6 =>
      if a7 = (0 : Int32) then (
        j84 s6)
      else
      qm_b (g_X0_productFits v1 (s6.2 o0 1) s6) fun a9 s8 =>
      if a9 = (0 : Int32) then (
        j84 s8)
      else
      qm_b (g_X0_productFits (s8.2 o0 1) v3 s8) fun a11 s10 =>
      if a11 = (0 : Int32) then (
        j84 s10)
      else
      if q2 = (0 : Int32) then (
        j84 s10)
      else
      qm_o (g_X0_reduce o0 b1 ((s10.2 o0 1) * v3) s10) fun s12 =>
      some s12
  ) fun j44 =>
  qm_l ((s0.2 o0 0) * v3) fun b13 =>
  qm_l (v1 * (s0.2 o0 1)) fun b14 =>
  qm_l (b13 + b14) fun b15 =>
  if ((b13 ^^^ b15) &&& (b14 ^^^ b15)) < (0 : Int64) then (
    j44 b15 (0 : Int32) s0)
  else
    j44 b15 (1 : Int32) s0

def g_X8_addEstimate_L2  (o1 : Nat) (v2 : Int32) : Nat → Int32 → qe_S → Option (qe_S)
  | 0, _, _ => none
  | n + 1, v3, s0 =>
    if (s0.1 1 0) ≤ v3 then (
      some s0)
    else
    qm_j (fun  (s2 : qe_S) =>
        qm_l (v3 + (1 : Int32)) fun a3 =>
        g_X8_addEstimate_L2 o1 v2 n a3 s2
    ) fun j77 =>
    qm_b (g_X8_isIn v2 v3 s0) fun a5 s4 =>
    if a5 = (0 : Int32) then (
      j77 s4)
    else
    qm_g v3 12 <| qm_l (s4.1 3 v3.toNatClampNeg) fun a6 =>
    qm_b (g_X3_below v3 (0 : Int32) s4) fun a8 s7 =>
    qm_b (g_X3_above v3 (0 : Int32) s7) fun a10 s9 =>
    qm_o (g_X0_begin 34 (a6.toInt64 * a8.toInt64) a10.toInt64 s9) fun s11 =>
    qm_o (g_X0_add o1 (s11.2 34 0) (s11.2 34 1) s11) fun s12 =>
    j77 s12

def g_X8_addEstimate (o1 : Nat) (v2 : Int32) (s0 : qe_S) : Option (qe_S) :=
  qm_l (0 : Int32) fun a1 =>
  g_X8_addEstimate_L2 o1 v2 qm_F a1 s0

def g_X8_partOf (v2 : Int32) (s0 : qe_S) : Option (Int64 × qe_S) :=
  if (s0.1 32 2) = (0 : Int32) then (
    if v2 = (0 : Int32) then (
      some ((s0.2 32 0), s0))
    else
      some ((s0.2 32 1), s0))
  else
  qm_b (g_X8_refuseLong (-7 : Int32) s0) fun b2 s1 =>
  some (b2, s1)

def g_X8_estimate (v1 : Int32) (v2 : Int32) (s0 : qe_S) : Option (Int64 × qe_S) :=
  qm_b (g_X8_isPart v2 s0) fun a2 s1 =>
  if a2 = (0 : Int32) then (
    qm_b (g_X8_refuseLong (-2 : Int32) s1) fun b18 s17 =>
    some (b18, s17))
  else
  qm_b (g_X8_layWheel s1) fun a4 s3 =>
  if a4 = (0 : Int32) then (
    qm_b (g_X8_refuseLong (-7 : Int32) s3) fun b16 s15 =>
    some (b16, s15))
  else
  qm_b (g_X7_hasPlace v1 s3) fun a6 s5 =>
  if a6 = (0 : Int32) then (
    qm_b (g_X8_refuseLong (-2 : Int32) s5) fun b14 s13 =>
    some (b14, s13))
  else
  qm_o (g_X0_begin 32 (0 : Int64) (1 : Int64) s5) fun s7 =>
  qm_b (g_X7_chosenBy 22 v1.toInt64 s7) fun a9 s8 =>
  qm_o (g_X8_addEstimate 32 a9 s8) fun s10 =>
  qm_b (g_X8_partOf v2 s10) fun b12 s11 =>
  some (b12, s11)

def g_X3_marksTogether_L4   : Nat → Int64 → Int32 → qe_S → Option (Int64 × qe_S)
  | 0, _, _, _ => none
  | n + 1, v1, v3, s0 =>
    if (s0.1 1 0) ≤ v3 then (
      some (v1, s0))
    else
    qm_g v3 12 <| qm_l (s0.1 3 v3.toNatClampNeg) fun a3 =>
    qm_l (v1 + a3.toInt64) fun b4 =>
    qm_l (v3 + (1 : Int32)) fun a5 =>
    g_X3_marksTogether_L4 n b4 a5 s0

def g_X3_marksTogether  (s0 : qe_S) : Option (Int64 × qe_S) :=
  qm_l (0 : Int64) fun b1 =>
  qm_l (0 : Int32) fun a2 =>
  g_X3_marksTogether_L4 qm_F b1 a2 s0

def g_X0_times (v1 : Int64) (v3 : Int64) (s0 : qe_S) : Option (qe_S) :=
  qm_j (fun  (s1 : qe_S) =>
      qm_l (qe_si s1 33 2 (1 : Int32)) fun s2 =>
      some s2
  ) fun j22 =>
  qm_b (g_X0_productFits (s0.2 33 0) v1 s0) fun a4 s3 =>
  if a4 = (0 : Int32) then (
    j22 s3)
  else
  qm_b (g_X0_productFits (s3.2 33 1) v3 s3) fun a6 s5 =>
  if a6 = (0 : Int32) then (
    j22 s5)
  else
  qm_o (g_X0_reduce 33 ((s5.2 33 0) * v1) ((s5.2 33 1) * v3) s5) fun s7 =>
  some s7

def g_X8_overAllRuns_L50 (k216 : qe_S → Option (Int64 × qe_S)) (v1 : Int32) (v2 : Int32) : Nat → Int32 → qe_S → Option (Int64 × qe_S)
  | 0, _, _ => none
  | n + 1, v3, s0 =>
    if (s0.1 28 0) ≤ v3 then (
      k216 s0)
    else
    qm_j (fun  (s8 : qe_S) =>
        qm_g v3 13 <| qm_l (s8.2 30 v3.toNatClampNeg) fun b9 =>
        qm_o (g_X0_begin 34 b9 (s8.2 22 0) s8) fun s10 =>
        qm_o (g_X0_times (s10.2 34 0) (s10.2 34 1) s10) fun s11 =>
        if (s11.1 33 2) = (0 : Int32) then (
          qm_o (g_X0_add 32 (s11.2 33 0) (s11.2 33 1) s11) fun s12 =>
          qm_l (v3 + (1 : Int32)) fun a13 =>
          g_X8_overAllRuns_L50 k216 v1 v2 n a13 s12)
        else
        qm_b (g_X8_refuseLong (-7 : Int32) s11) fun b15 s14 =>
        some (b15, s14)
    ) fun j128 =>
    qm_o (g_X0_begin 33 (0 : Int64) (1 : Int64) s0) fun s16 =>
    qm_g v3 13 <| qm_l (s16.1 31 v3.toNatClampNeg) fun a17 =>
    qm_o (g_X8_addEstimate 33 a17 s16) fun s18 =>
    if v2 = (0 : Int32) then (
      j128 s18)
    else
    qm_b (g_X3_marksTogether s18) fun b20 s19 =>
    qm_o (g_X0_add 33 (-b20) (1 : Int64) s19) fun s21 =>
    qm_o (g_X0_times (s21.2 33 0) (s21.2 33 1) s21) fun s22 =>
    j128 s22

def g_X8_overAllRuns (v1 : Int32) (v2 : Int32) (s0 : qe_S) : Option (Int64 × qe_S) :=
  qm_b (g_X8_isPart v1 s0) fun a2 s1 =>
  if a2 = (0 : Int32) then (
    qm_b (g_X8_refuseLong (-2 : Int32) s1) fun b29 s28 =>
    some (b29, s28))
  else
  qm_b (g_X8_layWheel s1) fun a4 s3 =>
  if a4 = (0 : Int32) then (
    qm_b (g_X8_refuseLong (-7 : Int32) s3) fun b27 s26 =>
    some (b27, s26))
  else
  qm_o (g_X5_trace s3) fun s5 =>
  qm_o (g_X0_begin 32 (0 : Int64) (1 : Int64) s5) fun s6 =>
  qm_l (0 : Int32) fun a7 =>
  g_X8_overAllRuns_L50
      (fun  (s23 : qe_S) =>
        qm_b (g_X8_partOf v1 s23) fun b25 s24 =>
        some (b25, s24))
      v1 v2 qm_F a7 s6

def g_X8_mean (v1 : Int32) (s0 : qe_S) : Option (Int64 × qe_S) :=
  qm_b (g_X8_overAllRuns v1 (0 : Int32) s0) fun b2 s1 =>
  some (b2, s1)

def g_X8_spread (v1 : Int32) (s0 : qe_S) : Option (Int64 × qe_S) :=
  qm_b (g_X8_overAllRuns v1 (1 : Int32) s0) fun b2 s1 =>
  some (b2, s1)

def g_X8_twice (v1 : Int32) (v2 : Int32) (s0 : qe_S) : Option (Int32 × qe_S) :=
  qm_b (g_X8_layWheel s0) fun a2 s1 =>
  if a2 = (0 : Int32) then (
    qm_b (g_X8_refuse (-7 : Int32) s1) fun a21 s20 =>
    some (a21, s20))
  else
  qm_b (g_X3_places (1 : Int32) s1) fun b4 s3 =>
  if (1 : Int64) ≤ b4 then (
    qm_b (g_X7_hasPlace v1 s3) fun a6 s5 =>
    if a6 = (0 : Int32) then (
      qm_b (g_X8_refuse (-2 : Int32) s5) fun a8 s7 =>
      some (a8, s7))
    else
    if v2 < (0 : Int32) then (
      qm_b (g_X8_refuse (-2 : Int32) s5) fun a10 s9 =>
      some (a10, s9))
    else
    if v2.toInt64 < b4 then (
      qm_b (g_X7_chosenBy 22 v1.toInt64 s5) fun a12 s11 =>
      qm_o (g_X7_lay 25 (1 : Int32) b4 a12 s11) fun s13 =>
      qm_b (g_X7_chosenBy 25 v2.toInt64 s13) fun a15 s14 =>
      some (a15, s14))
    else
    qm_b (g_X8_refuse (-2 : Int32) s5) fun a17 s16 =>
    some (a17, s16))
  else
  qm_b (g_X8_refuse (-7 : Int32) s3) fun a19 s18 =>
  some (a19, s18)

def g_X8_pairsOfBoth_L17  (v1 : Int32) (v2 : Int32) (v3 : Int64) : Nat → Int64 → Int32 → qe_S → Option (Int64 × qe_S)
  | 0, _, _, _ => none
  | n + 1, v5, v7, s0 =>
    if (s0.1 28 0) ≤ v7 then (
      some (v5, s0))
    else
    qm_g v7 13 <| qm_l (s0.1 31 v7.toNatClampNeg) fun a4 =>
    qm_o (g_X7_lay 25 (1 : Int32) v3 a4 s0) fun s5 =>
    qm_g v7 13 <| qm_l (s5.2 30 v7.toNatClampNeg) fun b6 =>
    qm_b (g_X7_together 25 v1 v2 s5) fun b8 s7 =>
    qm_l (v5 + (b6 * b8)) fun b9 =>
    qm_l (v7 + (1 : Int32)) fun a10 =>
    g_X8_pairsOfBoth_L17 v1 v2 v3 n b9 a10 s7

def g_X8_pairsOfBoth (v1 : Int32) (v2 : Int32) (v3 : Int64) (s0 : qe_S) : Option (Int64 × qe_S) :=
  qm_o (g_X5_trace s0) fun s1 =>
  qm_l (0 : Int64) fun b2 =>
  qm_l (0 : Int32) fun a3 =>
  g_X8_pairsOfBoth_L17 v1 v2 v3 qm_F b2 a3 s1

def g_X8_both (v1 : Int32) (v2 : Int32) (v3 : Int32) (s0 : qe_S) : Option (Int64 × qe_S) :=
  qm_b (g_X3_has v1 s0) fun a2 s1 =>
  if a2 = (0 : Int32) then (
    qm_b (g_X8_refuseLong (-1 : Int32) s1) fun b4 s3 =>
    some (b4, s3))
  else
  qm_b (g_X3_has v2 s1) fun a6 s5 =>
  if a6 = (0 : Int32) then (
    qm_b (g_X8_refuseLong (-1 : Int32) s5) fun b24 s23 =>
    some (b24, s23))
  else
  qm_b (g_X8_isPart v3 s5) fun a8 s7 =>
  if a8 = (0 : Int32) then (
    qm_b (g_X8_refuseLong (-2 : Int32) s7) fun b22 s21 =>
    some (b22, s21))
  else
  qm_b (g_X3_places (1 : Int32) s7) fun b10 s9 =>
  qm_b (g_X8_layWheel s9) fun a12 s11 =>
  if a12 = (0 : Int32) then (
    qm_b (g_X8_refuseLong (-7 : Int32) s11) fun b14 s13 =>
    some (b14, s13))
  else
  if (1 : Int64) ≤ b10 then (
    qm_b (g_X8_pairsOfBoth v1 v2 b10 s11) fun b16 s15 =>
    qm_b (g_X8_lowest b16 ((s15.2 22 0) * b10) v3 s15) fun b18 s17 =>
    some (b18, s17))
  else
  qm_b (g_X8_refuseLong (-7 : Int32) s11) fun b20 s19 =>
  some (b20, s19)

def g_X8_layBothTimes  (s0 : qe_S) : Option (Int32 × qe_S) :=
  qm_b (g_X3_places (nI 2) s0) fun b2 s1 =>
  if (1 : Int64) ≤ b2 then (
    qm_b (g_X3_everyone s1) fun a4 s3 =>
    qm_o (g_X7_lay 22 (0 : Int32) b2 a4 s3) fun s5 =>
    qm_b (g_X3_everyone s5) fun a7 s6 =>
    qm_o (g_X7_lay 25 (nI 2) b2 a7 s6) fun s8 =>
    some ((1 : Int32), s8))
  else
    some ((0 : Int32), s1)

def g_X8_keptBy (v1 : Int32) (v2 : Int64) (s0 : qe_S) : Option (Int64 × qe_S) :=
  qm_l (s0.2 22 0) fun b1 =>
  if (1 : Int64) ≤ b1 then (
    qm_g v1 12 <| qm_l (s0.2 26 v1.toNatClampNeg) fun b2 =>
    qm_zl b1 <|
    qm_l (qm_lr (b2 + v2) b1) fun b3 =>
    qm_g v1 12 <| qm_l (s0.2 23 v1.toNatClampNeg) fun b4 =>
    qm_g v1 12 <| qm_l (s0.2 24 v1.toNatClampNeg) fun b5 =>
    qm_g v1 12 <| qm_l (s0.2 27 v1.toNatClampNeg) fun b6 =>
    qm_b (g_X8_meeting b4 b5 b3 b6 b1 s0) fun b8 s7 =>
    some (b8, s7))
  else
    some ((0 : Int64), s0)

def g_X8_kept (v1 : Int32) (v2 : Int32) (v3 : Int32) (s0 : qe_S) : Option (Int64 × qe_S) :=
  qm_b (g_X3_has v1 s0) fun a2 s1 =>
  if a2 = (0 : Int32) then (
    qm_b (g_X8_refuseLong (-1 : Int32) s1) fun b20 s19 =>
    some (b20, s19))
  else
  qm_b (g_X8_isPart v3 s1) fun a4 s3 =>
  if a4 = (0 : Int32) then (
    qm_b (g_X8_refuseLong (-2 : Int32) s3) fun b18 s17 =>
    some (b18, s17))
  else
  qm_b (g_X8_layBothTimes s3) fun a6 s5 =>
  if a6 = (0 : Int32) then (
    qm_b (g_X8_refuseLong (-7 : Int32) s5) fun b16 s15 =>
    some (b16, s15))
  else
  qm_b (g_X7_hasPlace v2 s5) fun a8 s7 =>
  if a8 = (0 : Int32) then (
    qm_b (g_X8_refuseLong (-2 : Int32) s7) fun b14 s13 =>
    some (b14, s13))
  else
  qm_b (g_X8_keptBy v1 v2.toInt64 s7) fun b10 s9 =>
  qm_b (g_X8_lowest b10 (s9.2 22 0) v3 s9) fun b12 s11 =>
  some (b12, s11)

def g_X8_allKeptBy_L5  (v1 : Int64) : Nat → Int64 → Int32 → qe_S → Option (Int64 × qe_S)
  | 0, _, _, _ => none
  | n + 1, v3, v5, s0 =>
    if (s0.1 1 0) ≤ v5 then (
      some (v3, s0))
    else
    qm_b (g_X8_keptBy v5 v1 s0) fun b4 s3 =>
    qm_l (v3 + b4) fun b5 =>
    qm_l (v5 + (1 : Int32)) fun a6 =>
    g_X8_allKeptBy_L5 v1 n b5 a6 s3

def g_X8_allKeptBy (v1 : Int64) (s0 : qe_S) : Option (Int64 × qe_S) :=
  qm_l (0 : Int64) fun b1 =>
  qm_l (0 : Int32) fun a2 =>
  g_X8_allKeptBy_L5 v1 qm_F b1 a2 s0

def g_X8_overlap (v1 : Int32) (v2 : Int32) (s0 : qe_S) : Option (Int64 × qe_S) :=
  qm_b (g_X8_isPart v2 s0) fun a2 s1 =>
  if a2 = (0 : Int32) then (
    qm_b (g_X8_refuseLong (-2 : Int32) s1) fun b16 s15 =>
    some (b16, s15))
  else
  qm_b (g_X8_layBothTimes s1) fun a4 s3 =>
  if a4 = (0 : Int32) then (
    qm_b (g_X8_refuseLong (-7 : Int32) s3) fun b14 s13 =>
    some (b14, s13))
  else
  qm_b (g_X7_hasPlace v1 s3) fun a6 s5 =>
  if a6 = (0 : Int32) then (
    qm_b (g_X8_refuseLong (-2 : Int32) s5) fun b12 s11 =>
    some (b12, s11))
  else
  qm_b (g_X8_allKeptBy v1.toInt64 s5) fun b8 s7 =>
  qm_b (g_X8_lowest b8 (s7.2 22 0) v2 s7) fun b10 s9 =>
  some (b10, s9)

def g_X8_extremeShift_L24  (v1 : Int32) (v2 : Int64) : Nat → Int64 → Int64 → Int32 → qe_S → Option (Int64 × qe_S)
  | 0, _, _, _, _ => none
  | n + 1, v4, v6, v8, s0 =>
    if ((nI 4) * (s0.1 1 0)) ≤ v8 then (
      some (v4, s0))
    else
    if v2 ≤ (0 : Int64) then (
      some (v4, s0))
    else
    qm_j (fun (a7 : Int32) (q8 : Int64) (q9 : Int64) (s10 : qe_S) =>
        qm_j (fun (b11 : Int64) (q12 : Int64) (q13 : Int64) (s14 : qe_S) =>
            qm_j (fun (b15 : Int64) (b16 : Int64) (s17 : qe_S) =>
                qm_l (v8 + (1 : Int32)) fun a18 =>
                g_X8_extremeShift_L24 v1 v2 n b15 b16 a18 s17
            ) fun j173 =>
            qm_j (fun (b19 : Int64) (b20 : Int64) (s21 : qe_S) =>
                j173 b19 b20 s21
            ) fun j165 =>
            qm_l (q13 + q12) fun b22 =>
            qm_b (g_J9_floorMod_f86c9 (b11 - b22) v2 s14) fun b24 s23 =>
            qm_b (g_X8_allKeptBy b24 s23) fun b26 s25 =>
            qm_l (v1.toInt64 * b26) fun b27 =>
            if v6 < b27 then (
              j165 b24 b27 s25)
            else
            if b27 = v6 then (
              if v4 ≤ b24 then (
                j173 v4 v6 s25)
              else
                j165 b24 b27 s25)
            else
              j173 v4 v6 s25
        ) fun j116 =>
        qm_l (q9 + q8) fun b28 =>
        qm_g a7 12 <| qm_l (s10.2 26 a7.toNatClampNeg) fun b29 =>
        qm_z (nI 4) <|
        if (nI 2) ≤ (qm_ir v8 (nI 4)) then (
          qm_g a7 12 <| qm_l (s10.2 27 a7.toNatClampNeg) fun b30 =>
          j116 b28 b30 b29 s10)
        else
          j116 b28 (0 : Int64) b29 s10
    ) fun j81 =>
    qm_z (nI 4) <|
    qm_l (v8 / (nI 4)) fun a31 =>
    qm_g a31 12 <| qm_l (s0.2 23 a31.toNatClampNeg) fun b32 =>
    qm_z (nI 2) <|
    if (qm_ir v8 (nI 2)) = (0 : Int32) then (
      j81 a31 (0 : Int64) b32 s0)
    else
    qm_g a31 12 <| qm_l (s0.2 24 a31.toNatClampNeg) fun b33 =>
    j81 a31 b33 b32 s0

def g_X8_extremeShift (v1 : Int32) (s0 : qe_S) : Option (Int64 × qe_S) :=
  qm_l (s0.2 22 0) fun b1 =>
  qm_l (0 : Int64) fun b2 =>
  qm_b (g_X8_allKeptBy (0 : Int64) s0) fun b4 s3 =>
  qm_l (v1.toInt64 * b4) fun b5 =>
  qm_l (0 : Int32) fun a6 =>
  g_X8_extremeShift_L24 v1 b1 qm_F b2 b5 a6 s3

def g_X8_shift (v1 : Int32) (s0 : qe_S) : Option (Int32 × qe_S) :=
  if v1 < (0 : Int32) then (
    qm_b (g_X8_refuse (-1 : Int32) s0) fun a2 s1 =>
    some (a2, s1))
  else
  if v1 ≤ (1 : Int32) then (
    qm_b (g_X8_layBothTimes s0) fun a4 s3 =>
    if a4 = (0 : Int32) then (
      qm_b (g_X8_refuse (-7 : Int32) s3) fun a10 s9 =>
      some (a10, s9))
    else
    if v1 = (0 : Int32) then (
      qm_b (g_X8_extremeShift (1 : Int32) s3) fun b8 s7 =>
      some (b8.toInt32, s7))
    else
    qm_b (g_X8_extremeShift (-1 : Int32) s3) fun b6 s5 =>
    some (b6.toInt32, s5))
  else
  qm_b (g_X8_refuse (-1 : Int32) s0) fun a12 s11 =>
  some (a12, s11)

def g_X8_isManner (v0 : Int32) (s0 : qe_S) : Option (Int32 × qe_S) :=
  qm_j (fun  (s1 : qe_S) =>
      some ((1 : Int32), s1)
  ) fun j9 =>
  if v0 = (0 : Int32) then (
    j9 s0)
  else
  if v0 = (1 : Int32) then (
    j9 s0)
  else
    some ((0 : Int32), s0)

def g_X3_stratumAt (v1 : Int32) (s0 : qe_S) : Option (Int32 × qe_S) :=
  qm_b (g_X3_unitAt v1 s0) fun a2 s1 =>
  qm_b (g_X3_has a2 s1) fun a4 s3 =>
  if a4 = (0 : Int32) then (
    some ((-1 : Int32), s3))
  else
  qm_g a2 12 <| qm_l (s3.1 2 a2.toNatClampNeg) fun a5 =>
  some (a5, s3)

def g_X2_firstBehind_L10  (v1 : Int32) (v2 : Int32) (v3 : Int32) (v4 : Int32) : Nat → Int32 → qe_S → Option (Int32 × qe_S)
  | 0, _, _ => none
  | n + 1, v5, s0 =>
    if (s0.1 1 0) ≤ v5 then (
      some ((-1 : Int32), s0))
    else
    qm_j (fun  (s4 : qe_S) =>
        qm_l (v5 + (1 : Int32)) fun a5 =>
        g_X2_firstBehind_L10 v1 v2 v3 v4 n a5 s4
    ) fun j65 =>
    qm_z (s0.1 1 0) <|
    qm_l (qm_ir (v1 + v5) (s0.1 1 0)) fun a6 =>
    qm_b (g_X3_unitAt a6 s0) fun a8 s7 =>
    qm_b (g_X8_isIn v2 a8 s7) fun a10 s9 =>
    if a10 = (0 : Int32) then (
      if v3 = (0 : Int32) then (
        some (a8, s9))
      else
      qm_b (g_X3_stratumAt a6 s9) fun a12 s11 =>
      if a12 = v4 then (
        some (a8, s11))
      else
        j65 s11)
    else
      j65 s9

def g_X2_firstBehind (v1 : Int32) (v2 : Int32) (v3 : Int32) (s0 : qe_S) : Option (Int32 × qe_S) :=
  qm_b (g_X3_stratumAt v1 s0) fun a2 s1 =>
  qm_l (1 : Int32) fun a3 =>
  g_X2_firstBehind_L10 v1 v2 v3 a2 qm_F a3 s1

def g_X2_settle_L6 (k92 : Int32 → qe_S → Option (qe_S)) (v2 : Int32) (v3 : Int32) : Nat → Int32 → Int32 → qe_S → Option (qe_S)
  | 0, _, _, _ => none
  | n + 1, v4, v5, s0 =>
    if (s0.1 1 0) ≤ v5 then (
      k92 v4 s0)
    else
    qm_j (fun (a4 : Int32) (s5 : qe_S) =>
        qm_l (v5 + (1 : Int32)) fun a6 =>
        g_X2_settle_L6 k92 v2 v3 n a4 a6 s5
    ) fun j86 =>
    qm_b (g_X3_unitAt v5 s0) fun a8 s7 =>
    qm_b (g_X3_isRefusing a8 s7) fun a10 s9 =>
    if a10 = (0 : Int32) then (
      j86 v4 s9)
    else
    qm_b (g_X8_isIn v2 a8 s9) fun a12 s11 =>
    if a12 = (0 : Int32) then (
      j86 v4 s11)
    else
    qm_j (fun (q13 : Int32) (q14 : Int32) (s15 : qe_S) =>
        qm_l (q14 ||| q13) fun a16 =>
        j86 a16 s15
    ) fun j83 =>
    qm_b (g_X2_firstBehind v5 ((v2 ||| (s11.1 1 1)) ||| v4) v3 s11) fun a18 s17 =>
    qm_g a8 12 <| qm_l (qe_si s17 36 a8.toNatClampNeg a18) fun s19 =>
    if a18 < (0 : Int32) then (
      j83 (0 : Int32) v4 s19)
    else
      j83 ((1 : Int32) <<< (a18 &&& 31)) v4 s19

def g_X2_settle (v2 : Int32) (v3 : Int32) (s0 : qe_S) : Option (qe_S) :=
  qm_l (0 : Int32) fun a1 =>
  qm_l (0 : Int32) fun a2 =>
  g_X2_settle_L6
      (fun (a20 : Int32) (s21 : qe_S) =>
        qm_l (qe_si s21 35 0 ((v2 &&& ((s21.1 1 1) ^^^ (-1 : Int32))) ||| a20)) fun s22 =>
        some s22)
      v2 v3 qm_F a1 a2 s0

def g_X8_replaced (v1 : Int32) (v2 : Int32) (s0 : qe_S) : Option (Int32 × qe_S) :=
  qm_b (g_X8_isManner v2 s0) fun a2 s1 =>
  if a2 = (0 : Int32) then (
    qm_b (g_X8_refuse (-1 : Int32) s1) fun a15 s14 =>
    some (a15, s14))
  else
  qm_b (g_X8_layWheel s1) fun a4 s3 =>
  if a4 = (0 : Int32) then (
    qm_b (g_X8_refuse (-7 : Int32) s3) fun a13 s12 =>
    some (a13, s12))
  else
  qm_b (g_X7_hasPlace v1 s3) fun a6 s5 =>
  if a6 = (0 : Int32) then (
    qm_b (g_X8_refuse (-2 : Int32) s5) fun a11 s10 =>
    some (a11, s10))
  else
  qm_b (g_X7_chosenBy 22 v1.toInt64 s5) fun a8 s7 =>
  qm_o (g_X2_settle a8 v2 s7) fun s9 =>
  some ((s9.1 35 0), s9)

def g_X8_substitute (v1 : Int32) (v2 : Int32) (v3 : Int32) (s0 : qe_S) : Option (Int32 × qe_S) :=
  qm_b (g_X3_has v1 s0) fun a2 s1 =>
  if a2 = (0 : Int32) then (
    qm_b (g_X8_refuse (-1 : Int32) s1) fun a4 s3 =>
    some (a4, s3))
  else
  qm_b (g_X8_isManner v3 s1) fun a6 s5 =>
  if a6 = (0 : Int32) then (
    qm_b (g_X8_refuse (-1 : Int32) s5) fun a30 s29 =>
    some (a30, s29))
  else
  qm_b (g_X8_layWheel s5) fun a8 s7 =>
  if a8 = (0 : Int32) then (
    qm_b (g_X8_refuse (-7 : Int32) s7) fun a28 s27 =>
    some (a28, s27))
  else
  qm_b (g_X7_hasPlace v2 s7) fun a10 s9 =>
  if a10 = (0 : Int32) then (
    qm_b (g_X8_refuse (-2 : Int32) s9) fun a26 s25 =>
    some (a26, s25))
  else
  qm_b (g_X7_chosenBy 22 v2.toInt64 s9) fun a12 s11 =>
  qm_b (g_X8_isIn a12 v1 s11) fun a14 s13 =>
  if a14 = (0 : Int32) then (
    qm_b (g_X8_refuse (-3 : Int32) s13) fun a16 s15 =>
    some (a16, s15))
  else
  qm_b (g_X3_isRefusing v1 s13) fun a18 s17 =>
  if a18 = (0 : Int32) then (
    qm_b (g_X8_refuse (-3 : Int32) s17) fun a24 s23 =>
    some (a24, s23))
  else
  qm_o (g_X2_settle a12 v3 s17) fun s19 =>
  qm_g v1 12 <| qm_l (s19.1 36 v1.toNatClampNeg) fun a20 =>
  if a20 < (0 : Int32) then (
    qm_b (g_X8_refuse (-5 : Int32) s19) fun a22 s21 =>
    some (a22, s21))
  else
    some (a20, s19)

def g_X8_finals_L69 (k138 : Int64 → qe_S → Option (Int64 × qe_S)) (v1 : Int32) (v2 : Int32) (v3 : Int32) : Nat → Int64 → Int32 → qe_S → Option (Int64 × qe_S)
  | 0, _, _, _ => none
  | n + 1, v4, v6, s0 =>
    if (s0.1 28 0) ≤ v6 then (
      k138 v4 s0)
    else
    qm_j (fun (b15 : Int64) (s16 : qe_S) =>
        qm_l (v6 + (1 : Int32)) fun a17 =>
        g_X8_finals_L69 k138 v1 v2 v3 n b15 a17 s16
    ) fun j132 =>
    qm_g v6 13 <| qm_l (s0.1 31 v6.toNatClampNeg) fun a18 =>
    qm_o (g_X2_settle a18 v2 s0) fun s19 =>
    qm_b (g_X8_isIn (s19.1 35 0) v1 s19) fun a21 s20 =>
    if a21 = (0 : Int32) then (
      j132 v4 s20)
    else
    qm_g v6 13 <| qm_l (s20.2 30 v6.toNatClampNeg) fun b22 =>
    qm_l (v4 + b22) fun b23 =>
    j132 b23 s20

def g_X8_finals (v1 : Int32) (v2 : Int32) (v3 : Int32) (s0 : qe_S) : Option (Int64 × qe_S) :=
  qm_b (g_X3_has v1 s0) fun a2 s1 =>
  if a2 = (0 : Int32) then (
    qm_b (g_X8_refuseLong (-1 : Int32) s1) fun b4 s3 =>
    some (b4, s3))
  else
  qm_b (g_X8_isManner v2 s1) fun a6 s5 =>
  if a6 = (0 : Int32) then (
    qm_b (g_X8_refuseLong (-1 : Int32) s5) fun b33 s32 =>
    some (b33, s32))
  else
  qm_b (g_X8_isPart v3 s5) fun a8 s7 =>
  if a8 = (0 : Int32) then (
    qm_b (g_X8_refuseLong (-2 : Int32) s7) fun b31 s30 =>
    some (b31, s30))
  else
  qm_b (g_X8_layWheel s7) fun a10 s9 =>
  if a10 = (0 : Int32) then (
    qm_b (g_X8_refuseLong (-7 : Int32) s9) fun b29 s28 =>
    some (b29, s28))
  else
  qm_o (g_X5_trace s9) fun s11 =>
  qm_l (0 : Int64) fun b12 =>
  qm_l (0 : Int32) fun a13 =>
  g_X8_finals_L69
      (fun (b24 : Int64) (s25 : qe_S) =>
        qm_b (g_X8_lowest b24 (s25.2 22 0) v3 s25) fun b27 s26 =>
        some (b27, s26))
      v1 v2 v3 qm_F b12 a13 s11

def g_X8_drawn_L70  (v1 : Int32) (v2 : Int32) : Nat → Int32 → Int64 → Int32 → qe_S → Option (Int32 × qe_S)
  | 0, _, _, _, _ => none
  | n + 1, v5, v6, v8, s0 =>
    if v2 ≤ v8 then (
      some (v5, s0))
    else
    qm_j (fun (a11 : Int32) (b12 : Int64) (s13 : qe_S) =>
        qm_l (v8 + (1 : Int32)) fun a14 =>
        g_X8_drawn_L70 v1 v2 n a11 b12 a14 s13
    ) fun j115 =>
    qm_l ((v6 * (lN 6364136223846793005)) + (lN 1442695040888963407)) fun b15 =>
    qm_zl (s0.2 22 0) <|
    qm_b (g_X7_chooses 22 v1 (qm_lr (qm_lu b15 (nI 33)) (s0.2 22 0)) s0) fun a17 s16 =>
    if a17 = (0 : Int32) then (
      j115 v5 b15 s16)
    else
      qm_l (v5 + (1 : Int32)) fun a18 =>
      j115 a18 b15 s16

def g_X8_drawn (v1 : Int32) (v2 : Int32) (v3 : Int64) (s0 : qe_S) : Option (Int32 × qe_S) :=
  qm_b (g_X3_has v1 s0) fun a2 s1 =>
  if a2 = (0 : Int32) then (
    qm_b (g_X8_refuse (-1 : Int32) s1) fun a24 s23 =>
    some (a24, s23))
  else
  if v2 < (1 : Int32) then (
    qm_b (g_X8_refuse (-2 : Int32) s1) fun a4 s3 =>
    some (a4, s3))
  else
  if v2 ≤ (nI 60) then (
    qm_b (g_X8_layWheel s1) fun a6 s5 =>
    if a6 = (0 : Int32) then (
      qm_b (g_X8_refuse (-7 : Int32) s5) fun a8 s7 =>
      some (a8, s7))
    else
    if (1 : Int64) ≤ (s5.2 22 0) then (
      qm_l (0 : Int32) fun a9 =>
      qm_l (0 : Int32) fun a10 =>
      g_X8_drawn_L70 v1 v2 qm_F a9 v3 a10 s5)
    else
    qm_b (g_X8_refuse (-7 : Int32) s5) fun a20 s19 =>
    some (a20, s19))
  else
  qm_b (g_X8_refuse (-2 : Int32) s1) fun a22 s21 =>
  some (a22, s21)

def g_X6_take (v1 : Int32) (s0 : qe_S) : Option (Int32 × qe_S) :=
  if v1 < (1 : Int32) then (
    some ((-2 : Int32), s0))
  else
  if v1 ≤ (nI 127) then (
    if (s0.1 37 0) < (nI 120) then (
      qm_g (s0.1 37 0) 120 <| qm_l (qe_si s0 39 (s0.1 37 0).toNatClampNeg v1) fun s1 =>
      qm_l (qe_si s1 37 0 ((s1.1 37 0) + (1 : Int32))) fun s2 =>
      some ((s2.1 37 0), s2))
    else
      some ((-4 : Int32), s0))
  else
    some ((-2 : Int32), s0)

def g_X8_feed (v1 : Int32) (s0 : qe_S) : Option (Int32 × qe_S) :=
  qm_b (g_X6_take v1 s0) fun a2 s1 =>
  qm_b (g_X8_answered a2 s1) fun a4 s3 =>
  some (a4, s3)

def g_X6_byteAt (v1 : Int32) (s0 : qe_S) : Option (Int32 × qe_S) :=
  qm_j (fun  (s1 : qe_S) =>
      some ((0 : Int32), s1)
  ) fun j21 =>
  if v1 < (0 : Int32) then (
    j21 s0)
  else
  if (s0.1 37 0) ≤ v1 then (
    j21 s0)
  else
  qm_g v1 120 <| qm_l (s0.1 39 v1.toNatClampNeg) fun a2 =>
  some (a2, s0)

def g_X6_shapeOf (v0 : Int32) (s0 : qe_S) : Option (Value × qe_S) :=
  if v0 = (nI 110) then (
    some ((.float (1 : UInt32) : Value), s0))
  else
  if v0 = (nI 111) then (
    some ((.float (2 : UInt32) : Value), s0))
  else
  if v0 = (nI 114) then (
    some ((.float (3 : UInt32) : Value), s0))
  else
  if v0 = (nI 115) then (
    some ((.float (1 : UInt32) : Value), s0))
  else
  if v0 = (nI 117) then (
    some ((.float (0 : UInt32) : Value), s0))
  else
  if v0 = (nI 120) then (
    some ((.float (4 : UInt32) : Value), s0))
  else
  some ((.float (5 : UInt32) : Value), s0)

def g_X6_isDigit (v0 : Int32) (s0 : qe_S) : Option (Int32 × qe_S) :=
  qm_j (fun  (s1 : qe_S) =>
      some ((0 : Int32), s1)
  ) fun j16 =>
  if v0 < (nI 48) then (
    j16 s0)
  else
  if (nI 57) < v0 then (
    j16 s0)
  else
    some ((1 : Int32), s0)

def g_X6_readNumber_L5 (k59 : Int32 → Int32 → qe_S → Option (Int32 × qe_S)) (v1 : Int32) (v2 : Int32) : Nat → Int32 → Int32 → qe_S → Option (Int32 × qe_S)
  | 0, _, _, _ => none
  | n + 1, v3, v4, s0 =>
    if v1 ≤ v3 then (
      k59 v3 v4 s0)
    else
    qm_b (g_X6_byteAt (s0.1 37 2) s0) fun a6 s5 =>
    qm_b (g_X6_isDigit a6 s5) fun a8 s7 =>
    if a8 = (0 : Int32) then (
      k59 v3 v4 s7)
    else
    qm_b (g_X6_byteAt (s7.1 37 2) s7) fun a10 s9 =>
    qm_l ((((nI 10) * v4) + a10) - (nI 48)) fun a11 =>
    qm_l (qe_si s9 37 2 ((s9.1 37 2) + (1 : Int32))) fun s12 =>
    qm_l (v3 + (1 : Int32)) fun a13 =>
    g_X6_readNumber_L5 k59 v1 v2 n a13 a11 s12

def g_X6_readNumber (v1 : Int32) (v2 : Int32) (s0 : qe_S) : Option (Int32 × qe_S) :=
  qm_l (0 : Int32) fun a1 =>
  qm_l (0 : Int32) fun a2 =>
  g_X6_readNumber_L5
      (fun (a14 : Int32) (a15 : Int32) (s16 : qe_S) =>
        qm_j (fun  (s17 : qe_S) =>
            if a14 ≤ (0 : Int32) then (
              some ((0 : Int32), s17))
            else
              some ((1 : Int32), s17)
        ) fun j94 =>
        if a14 ≤ (0 : Int32) then (
          j94 s16)
        else
        if (nI 4) ≤ (s16.1 37 4) then (
          j94 s16)
        else
        qm_g (s16.1 37 4) 4 <| qm_l (qe_si s16 38 (s16.1 37 4).toNatClampNeg (v2 * a15)) fun s18 =>
        qm_l (qe_si s18 37 4 ((s18.1 37 4) + (1 : Int32))) fun s19 =>
        j94 s19)
      v1 v2 qm_F a1 a2 s0

def g_X6_readsByte (v1 : Int32) (s0 : qe_S) : Option (Int32 × qe_S) :=
  qm_j (fun (q1 : Int32) (s2 : qe_S) =>
      qm_j (fun (a3 : Int32) (q4 : Int32) (q5 : Int32) (s6 : qe_S) =>
          qm_l (qe_si s6 37 2 (q5 + q4)) fun s7 =>
          qm_bo a3 (some (a3, s7))
      ) fun j32 =>
      if q1 = (0 : Int32) then (
        j32 q1 (0 : Int32) (s2.1 37 2) s2)
      else
        j32 q1 (1 : Int32) (s2.1 37 2) s2
  ) fun j17 =>
  qm_b (g_X6_byteAt (s0.1 37 2) s0) fun a9 s8 =>
  if a9 = v1 then (
    j17 (1 : Int32) s8)
  else
    j17 (0 : Int32) s8

def g_X6_readSign (v1 : Int32) (s0 : qe_S) : Option (Int32 × qe_S) :=
  if v1 = (nI 68) then (
    qm_b (g_X6_readNumber (1 : Int32) (1 : Int32) s0) fun a2 s1 =>
    qm_bo a2 (some (a2, s1)))
  else
  if v1 = (nI 77) then (
    qm_b (g_X6_readsByte (nI 45) s0) fun a4 s3 =>
    if a4 = (0 : Int32) then (
      qm_b (g_X6_readNumber (nI 2) (1 : Int32) s3) fun a6 s5 =>
      qm_bo a6 (some (a6, s5)))
    else
    qm_b (g_X6_readNumber (nI 2) (-1 : Int32) s3) fun a8 s7 =>
    qm_bo a8 (some (a8, s7)))
  else
  if v1 = (nI 78) then (
    qm_b (g_X6_readNumber (nI 2) (1 : Int32) s0) fun a10 s9 =>
    qm_bo a10 (some (a10, s9)))
  else
  qm_b (g_X6_readsByte v1 s0) fun a12 s11 =>
  qm_bo a12 (some (a12, s11))

def g_X6_readClause_L48  (x2 : UInt32) : Nat → Int32 → qe_S → Option (Int32 × qe_S)
  | 0, _, _ => none
  | n + 1, v3, s0 =>
    qm_b (qt_length x2.toNat s0) fun a14 s13 =>
    if a14 ≤ v3 then (
      some ((1 : Int32), s13))
    else
    qm_b (qt_charAt x2.toNat v3 s13) fun a16 s15 =>
    qm_b (g_X6_readSign a16 s15) fun a18 s17 =>
    if a18 = (0 : Int32) then (
      some ((0 : Int32), s17))
    else
    qm_l (v3 + (1 : Int32)) fun a19 =>
    g_X6_readClause_L48 x2 n a19 s17

def g_X6_readClause (v1 : Int32) (s0 : qe_S) : Option (Int32 × qe_S) :=
  qm_b (g_X6_byteAt v1 s0) fun a2 s1 =>
  qm_l (qe_si s1 37 1 a2) fun s3 =>
  qm_l (qe_si s3 37 2 v1) fun s4 =>
  qm_l (qe_si s4 37 4 (0 : Int32)) fun s5 =>
  qm_b (g_X6_shapeOf (s5.1 37 1) s5) fun q7 s6 =>
  qm_s q7 fun x8 =>
  qm_b (qt_isEmpty x8.toNat s6) fun a10 s9 =>
  if a10 = (0 : Int32) then (
    qm_l (qe_si s9 37 2 ((s9.1 37 2) + (1 : Int32))) fun s11 =>
    qm_l (0 : Int32) fun a12 =>
    g_X6_readClause_L48 x8 qm_F a12 s11)
  else
    some ((0 : Int32), s9)

def g_X6_fault_L4   : Nat → Int32 → Int32 → qe_S → Option (Int32 × qe_S)
  | 0, _, _, _ => none
  | n + 1, v1, v2, s0 =>
    if (nI 120) < v2 then (
      some ((s0.1 37 2), s0))
    else
    qm_b (g_X6_readClause v1 s0) fun a4 s3 =>
    if a4 = (0 : Int32) then (
      some ((s3.1 37 2), s3))
    else
    if (s3.1 37 2) < (s3.1 37 0) then (
      qm_b (g_X6_byteAt (s3.1 37 2) s3) fun a6 s5 =>
      if a6 = (nI 59) then (
        qm_l ((s5.1 37 2) + (1 : Int32)) fun a7 =>
        qm_l (v2 + (1 : Int32)) fun a8 =>
        g_X6_fault_L4 n a7 a8 s5)
      else
        some ((s5.1 37 2), s5))
    else
      some ((-1 : Int32), s3)

def g_X6_fault  (s0 : qe_S) : Option (Int32 × qe_S) :=
  qm_l (0 : Int32) fun a1 =>
  qm_l (0 : Int32) fun a2 =>
  g_X6_fault_L4 qm_F a1 a2 s0

def g_X3_copyOf (o0 : Nat) (o1 : Nat) (s0 : qe_S) : Option (qe_S) :=
  qm_l (qe_si s0 o0 0 (s0.1 o1 0)) fun s1 =>
  qm_l (qe_si s1 o0 1 (s1.1 o1 1)) fun s2 =>
  qm_l (qe_si s2 o0 2 (s2.1 o1 2)) fun s3 =>
  qm_l (qe_cp s3 (o1 + 1) (o0 + 1) 12) fun s4 =>
  qm_l (qe_cp s4 (o1 + 2) (o0 + 2) 12) fun s5 =>
  qm_l (qe_cp s5 (o1 + 3) (o0 + 3) 12) fun s6 =>
  qm_l (qe_cp s6 (o1 + 4) (o0 + 4) 12) fun s7 =>
  qm_l (qe_cp s7 (o1 + 5) (o0 + 5) 36) fun s8 =>
  qm_l (qe_cp s8 (o1 + 6) (o0 + 6) 36) fun s9 =>
  some s9

def g_X8_doClause  (s0 : qe_S) : Option (Int32 × qe_S) :=
  qm_j (fun  (s1 : qe_S) =>
      qm_g (0 : Int32) 4 <| qm_l (s1.1 38 (0 : Int32).toNatClampNeg) fun a2 =>
      qm_g (1 : Int32) 4 <| qm_l (s1.1 38 (1 : Int32).toNatClampNeg) fun a3 =>
      qm_b (g_X3_exchange a2 a3 s1) fun a5 s4 =>
      some (a5, s4)
  ) fun j156 =>
  if (s0.1 37 1) = (nI 110) then (
    qm_g (0 : Int32) 4 <| qm_l (s0.1 38 (0 : Int32).toNatClampNeg) fun a6 =>
    qm_g (1 : Int32) 4 <| qm_l (s0.1 38 (1 : Int32).toNatClampNeg) fun a7 =>
    qm_g (nI 2) 4 <| qm_l (s0.1 38 (nI 2).toNatClampNeg) fun a8 =>
    qm_b (g_X3_changeOdds a6 (nI 2) a7 a8 s0) fun a10 s9 =>
    some (a10, s9))
  else
  if (s0.1 37 1) = (nI 111) then (
    qm_g (0 : Int32) 4 <| qm_l (s0.1 38 (0 : Int32).toNatClampNeg) fun a11 =>
    qm_b (g_X3_changeOrder a11 s0) fun a13 s12 =>
    some (a13, s12))
  else
  if (s0.1 37 1) = (nI 114) then (
    qm_g (0 : Int32) 4 <| qm_l (s0.1 38 (0 : Int32).toNatClampNeg) fun a14 =>
    qm_g (0 : Int32) 4 <| qm_l (s0.1 38 (0 : Int32).toNatClampNeg) fun a15 =>
    qm_b (g_X3_isRefusing a15 s0) fun a17 s16 =>
    if a17 = (0 : Int32) then (
      qm_b (g_X3_changeRefusing a14 (1 : Int32) s16) fun a19 s18 =>
      some (a19, s18))
    else
    qm_b (g_X3_changeRefusing a14 (0 : Int32) s16) fun a21 s20 =>
    some (a21, s20))
  else
  if (s0.1 37 1) = (nI 115) then (
    qm_g (0 : Int32) 4 <| qm_l (s0.1 38 (0 : Int32).toNatClampNeg) fun a22 =>
    qm_g (1 : Int32) 4 <| qm_l (s0.1 38 (1 : Int32).toNatClampNeg) fun a23 =>
    qm_g (nI 2) 4 <| qm_l (s0.1 38 (nI 2).toNatClampNeg) fun a24 =>
    qm_b (g_X3_changeOdds a22 (1 : Int32) a23 a24 s0) fun a26 s25 =>
    some (a26, s25))
  else
  if (s0.1 37 1) = (nI 117) then (
    qm_g (0 : Int32) 4 <| qm_l (s0.1 38 (0 : Int32).toNatClampNeg) fun a27 =>
    qm_g (1 : Int32) 4 <| qm_l (s0.1 38 (1 : Int32).toNatClampNeg) fun a28 =>
    qm_g (nI 2) 4 <| qm_l (s0.1 38 (nI 2).toNatClampNeg) fun a29 =>
    qm_g (nI 3) 4 <| qm_l (s0.1 38 (nI 3).toNatClampNeg) fun a30 =>
    qm_b (g_X3_admit a27 a28 a29 a30 s0) fun a32 s31 =>
    some (a32, s31))
  else
  j156 s0

def g_X8_doClauses_L15 (k98 : Int32 → qe_S → Option (Int32 × qe_S)) (k50 : Int32 → Int32 → qe_S → Option (Int32 × qe_S))  : Nat → Int32 → Int32 → qe_S → Option (Int32 × qe_S)
  | 0, _, _, _ => none
  | n + 1, v1, v2, s0 =>
    if (nI 120) ≤ v1 then (
      k98 v1 s0)
    else
    if (s0.1 37 0) ≤ v2 then (
      k98 v1 s0)
    else
    qm_b (g_X6_readClause v2 s0) fun a8 s7 =>
    qm_b (g_X8_doClause s7) fun a10 s9 =>
    if (0 : Int32) ≤ a10 then (
      qm_l ((s9.1 37 2) + (1 : Int32)) fun a11 =>
      qm_l (v1 + (1 : Int32)) fun a12 =>
      g_X8_doClauses_L15 k98 k50 n a12 a11 s9)
    else
      k50 v2 a10 s9

def g_X8_doClauses  (s0 : qe_S) : Option (Int32 × qe_S) :=
  qm_o (g_X3_copyOf 15 1 s0) fun s1 =>
  qm_l (0 : Int32) fun a2 =>
  qm_l (0 : Int32) fun a3 =>
  g_X8_doClauses_L15
      (fun (a13 : Int32) (s14 : qe_S) =>
        qm_b (g_X3_places (0 : Int32) s14) fun b16 s15 =>
        if (1 : Int64) ≤ b16 then (
          some (a13, s15))
        else
        qm_o (g_X3_copyOf 1 15 s15) fun s17 =>
        qm_o (g_X1_note (-7 : Int32) (nI 2) (-7 : Int32) (-9 : Int32) s17) fun s18 =>
        some ((-7 : Int32), s18))
      (fun (a19 : Int32) (a20 : Int32) (s21 : qe_S) =>
        qm_o (g_X3_copyOf 1 15 s21) fun s22 =>
        qm_o (g_X1_note ((-300 : Int32) - a19) (1 : Int32) a20 a20 s22) fun s23 =>
        some (((-300 : Int32) - a19), s23))
      qm_F a2 a3 s1

def g_X8_tells  (s0 : qe_S) : Option (Int32 × qe_S) :=
  qm_j (fun (q1 : Int32) (s2 : qe_S) =>
      qm_l (qe_si s2 37 0 (0 : Int32)) fun s3 =>
      some (q1, s3)
  ) fun j27 =>
  qm_b (g_X6_fault s0) fun a5 s4 =>
  if a5 < (0 : Int32) then (
    qm_b (g_X8_doClauses s4) fun a7 s6 =>
    j27 a7 s6)
  else
  qm_b (g_X8_refuse ((-100 : Int32) - a5) s4) fun a9 s8 =>
  j27 a9 s8

def g_X8_reason (v1 : Int32) (s0 : qe_S) : Option (Int32 × qe_S) :=
  if v1 = (0 : Int32) then (
    some ((s0.1 40 0), s0))
  else
  if v1 = (1 : Int32) then (
    some ((s0.1 40 1), s0))
  else
  if v1 = (nI 2) then (
    some ((s0.1 40 2), s0))
  else
  if v1 = (nI 3) then (
    some ((s0.1 40 3), s0))
  else
  some ((0 : Int32), s0)

def g_X8_rowOf (v1 : Int32) (s0 : qe_S) : Option (Value × qe_S) :=
  qm_j (fun  (s1 : qe_S) =>
      some ((.null : Value), s1)
  ) fun j22 =>
  if v1 < (0 : Int32) then (
    j22 s0)
  else
  if (nI 3) ≤ v1 then (
    j22 s0)
  else
    qm_g v1 3 <|
    some ((va_rf (qe_rows v1.toNatClampNeg)), s0)

def g_X4_become_L23  (o0 : Nat) : Nat → Int32 → qe_S → Option (Int32 × qe_S)
  | 0, _, _ => none
  | n + 1, v2, s0 =>
    if (nI 15) ≤ v2 then (
      some ((1 : Int32), s0))
    else
    qm_g v2 15 <| qm_l (qe_sl s0 (o0 + 1) v2.toNatClampNeg (0 : Int64)) fun s3 =>
    qm_l (v2 + (1 : Int32)) fun a4 =>
    g_X4_become_L23 o0 n a4 s3

def g_X4_become (o0 : Nat) (v1 : Int32) (s0 : qe_S) : Option (Int32 × qe_S) :=
  if v1 ≤ (nI 15) then (
    if (0 : Int32) ≤ v1 then (
      qm_l (qe_si s0 o0 0 v1) fun s1 =>
      qm_l (0 : Int32) fun a2 =>
      g_X4_become_L23 o0 qm_F a2 s1)
    else
      some ((-14 : Int32), s0))
  else
    some ((-2 : Int32), s0)

def g_X8_list (v1 : Int32) (v2 : Int32) (s0 : qe_S) : Option (Int32 × qe_S) :=
  qm_b (g_X8_rowOf v1 s0) fun q2 s1 =>
  qm_r q2 (
    qm_b (g_X8_refuse (-1 : Int32) s1) fun a4 s3 =>
    some (a4, s3)
    ) fun o5 => qm_w o5 <|
  qm_b (g_X4_become o5 v2 s1) fun a7 s6 =>
  qm_b (g_X8_answered a7 s6) fun a9 s8 =>
  some (a9, s8)

def g_X8_refusalAt_n (v1 : Int32) (s0 : qe_S) : Option (Int32 × qe_S) :=
  some ((-1 : Int32), s0)

def g_X8_refusalAt (o0 : Nat) (v1 : Int32) (s0 : qe_S) : Option (Int32 × qe_S) :=
  if (0 : Int32) ≤ (s0.1 o0 0) then (
    qm_j (fun  (s1 : qe_S) =>
        some ((-13 : Int32), s1)
    ) fun j28 =>
    if v1 < (0 : Int32) then (
      j28 s0)
    else
    if v1 < (s0.1 o0 0) then (
      some ((0 : Int32), s0))
    else
      j28 s0)
  else
    some ((-11 : Int32), s0)

def g_X8_put (v1 : Int32) (v2 : Int32) (v3 : Int64) (s0 : qe_S) : Option (Int32 × qe_S) :=
  qm_b (g_X8_rowOf v1 s0) fun q2 s1 =>
  qm_r q2 (
    qm_b (g_X8_refusalAt_n v2 s1) fun a4 s3 =>
    qm_b (g_X8_refuse a4 s3) fun a6 s5 =>
    some (a6, s5)
    ) fun o7 => qm_w o7 <|
  qm_b (g_X8_refusalAt o7 v2 s1) fun a9 s8 =>
  if (0 : Int32) ≤ a9 then (
    qm_g v2 15 <| qm_l (qe_sl s8 (o7 + 1) v2.toNatClampNeg v3) fun s10 =>
    some ((1 : Int32), s10))
  else
    qm_b (g_X8_refuse a9 s8) fun a12 s11 =>
    some (a12, s11)

def g_X8_look (v1 : Int32) (v2 : Int32) (s0 : qe_S) : Option (Int64 × qe_S) :=
  qm_j (fun (a1 : Int32) (s2 : qe_S) =>
      qm_b (g_X8_refuseLong a1 s2) fun b4 s3 =>
      some (b4, s3)
  ) fun j22 =>
  qm_b (g_X8_rowOf v1 s0) fun q6 s5 =>
  qm_r q6 (
    qm_b (g_X8_refusalAt_n v2 s5) fun a8 s7 =>
    j22 a8 s7
    ) fun o9 => qm_w o9 <|
  qm_b (g_X8_refusalAt o9 v2 s5) fun a11 s10 =>
  if (0 : Int32) ≤ a11 then (
    qm_g v2 15 <| qm_l (s10.2 (o9 + 1) v2.toNatClampNeg) fun b12 =>
    some (b12, s10))
  else
    j22 a11 s10

def g_X8_judge_L61  (v2 : Int32) (o5 : Nat) (v4 : Int64) : Nat → Int32 → qe_S → Option (Int32 × qe_S)
  | 0, _, _ => none
  | n + 1, v6, s0 =>
    if (s0.1 1 0) ≤ v6 then (
      some ((-5 : Int32), s0))
    else
    if v2 < ((s0.1 o5 0) - v6) then (
      qm_g (v2 + v6) 15 <| qm_l (s0.2 (o5 + 1) (v2 + v6).toNatClampNeg) fun b9 =>
      qm_b (g_X3_partsOf v6 (0 : Int32) v4 s0) fun b11 s10 =>
      if b9 = b11 then (
        qm_l (v6 + (1 : Int32)) fun a12 =>
        g_X8_judge_L61 v2 o5 v4 n a12 s10)
      else
        some (v6, s10))
    else
      some (((nI 100) + v6), s0)

def g_X8_judge (v1 : Int32) (v2 : Int32) (s0 : qe_S) : Option (Int32 × qe_S) :=
  qm_b (g_X8_rowOf v1 s0) fun q2 s1 =>
  qm_r q2 (
    qm_b (g_X8_refuse (-1 : Int32) s1) fun a4 s3 =>
    some (a4, s3)
    ) fun o5 => qm_w o5 <|
  if (0 : Int32) ≤ v2 then (
    if (0 : Int32) ≤ (s1.1 o5 0) then (
      qm_b (g_X3_places (0 : Int32) s1) fun b7 s6 =>
      if (1 : Int64) ≤ b7 then (
        qm_l (0 : Int32) fun a8 =>
        g_X8_judge_L61 v2 o5 b7 qm_F a8 s6)
      else
      qm_b (g_X8_refuse (-7 : Int32) s6) fun a14 s13 =>
      some (a14, s13))
    else
    qm_b (g_X8_refuse (-11 : Int32) s1) fun a16 s15 =>
    some (a16, s15))
  else
  qm_b (g_X8_refuse (-1 : Int32) s1) fun a18 s17 =>
  some (a18, s17)

def g_X8_image  (s0 : qe_S) : Option (Int32 × qe_S) :=
  qm_o (g_X3_copyOf 8 1 s0) fun s1 =>
  qm_l (qe_si s1 0 3 (1 : Int32)) fun s2 =>
  some ((s2.1 8 0), s2)

def g_X8_undo  (s0 : qe_S) : Option (Int32 × qe_S) :=
  if (s0.1 0 3) = (0 : Int32) then (
    qm_b (g_X8_refuse (-3 : Int32) s0) fun a3 s2 =>
    some (a3, s2))
  else
    qm_o (g_X3_copyOf 1 8 s0) fun s1 =>
    some ((s1.1 1 0), s1)

def g_X8_count (v1 : Int32) (s0 : qe_S) : Option (Int32 × qe_S) :=
  if v1 = (0 : Int32) then (
    some ((s0.1 1 0), s0))
  else
  if v1 = (1 : Int32) then (
    some ((s0.1 1 2), s0))
  else
  if v1 = (nI 2) then (
    some ((s0.1 37 0), s0))
  else
  if v1 = (nI 3) then (
    some ((s0.1 1 1), s0))
  else
  qm_b (g_X8_refuse (-1 : Int32) s0) fun a2 s1 =>
  some (a2, s1)

def g_X9_within (v0 : Int32) (v1 : Int32) (v2 : Int32) (s0 : qe_S) : Option (Int32 × qe_S) :=
  qm_j (fun  (s1 : qe_S) =>
      some ((0 : Int32), s1)
  ) fun j14 =>
  if v0 < v1 then (
    j14 s0)
  else
    if v2 < v0 then (
      j14 s0)
    else
      some ((1 : Int32), s0)

def g_X9_isOdds (v0 : Int32) (v1 : Int32) (v2 : Int32) (s0 : qe_S) : Option (Int32 × qe_S) :=
  qm_j (fun  (s1 : qe_S) =>
      some ((0 : Int32), s1)
  ) fun j31 =>
  qm_b (g_X9_within v2 (1 : Int32) (nI 60) s0) fun a3 s2 =>
  if a3 = (0 : Int32) then (
    j31 s2)
  else
  qm_j (fun (q4 : Int32) (q5 : Int32) (s6 : qe_S) =>
      qm_b (g_X9_within q5 q4 v2 s6) fun a8 s7 =>
      if a8 = (0 : Int32) then (
        j31 s7)
      else
        some ((1 : Int32), s7)
  ) fun j20 =>
  if v0 = (0 : Int32) then (
    j20 (1 : Int32) v1 s2)
  else
    j20 (0 : Int32) v1 s2

def g_X9_comes_L108  (v1 : Int32) (v2 : Int32) (v5 : Int32) : Nat → Int32 → qe_S → Option (Int32 × qe_S)
  | 0, _, _ => none
  | n + 1, v6, s0 =>
    if (nI 3) ≤ v6 then (
      some (v5, s0))
    else
    qm_j (fun (q15 : Int32) (q16 : Int32) (s17 : qe_S) =>
        qm_j (fun (q18 : Int32) (q19 : Int32) (s20 : qe_S) =>
            qm_g q19 122 <| qm_l (qe_si s20 1 q19.toNatClampNeg q18) fun s21 =>
            qm_l (v6 + (1 : Int32)) fun a22 =>
            g_X9_comes_L108 v1 v2 v5 n a22 s21
        ) fun j165 =>
        qm_g q16 122 <| qm_l (qe_si s17 1 q16.toNatClampNeg q15) fun s23 =>
        if v6 = (0 : Int32) then (
          j165 v2 (((nI 86) + ((nI 12) * v6)) + v5) s23)
        else
          j165 (1 : Int32) (((nI 86) + ((nI 12) * v6)) + v5) s23
    ) fun j139 =>
    if v6 = (0 : Int32) then (
      j139 v1 (((nI 50) + ((nI 12) * v6)) + v5) s0)
    else
      j139 (1 : Int32) (((nI 50) + ((nI 12) * v6)) + v5) s0

def g_X9_comes (v1 : Int32) (v2 : Int32) (v3 : Int32) (v4 : Int32) (s0 : qe_S) : Option (Int32 × qe_S) :=
  qm_b (g_X9_isOdds (0 : Int32) v1 v2 s0) fun a2 s1 =>
  if a2 = (0 : Int32) then (
    some ((-2 : Int32), s1))
  else
  qm_b (g_X9_within v3 (0 : Int32) (nI 3) s1) fun a4 s3 =>
  if a4 = (0 : Int32) then (
    some ((-2 : Int32), s3))
  else
  qm_b (g_X9_within v4 (-99 : Int32) (nI 99) s3) fun a6 s5 =>
  if a6 = (0 : Int32) then (
    some ((-2 : Int32), s5))
  else
  qm_g (0 : Int32) 122 <| qm_l (s5.1 1 (0 : Int32).toNatClampNeg) fun a7 =>
  if a7 = (nI 12) then (
    some ((-4 : Int32), s5))
  else
  qm_g (0 : Int32) 122 <| qm_l (s5.1 1 (0 : Int32).toNatClampNeg) fun a8 =>
  qm_g (0 : Int32) 122 <| qm_l (qe_si s5 1 (0 : Int32).toNatClampNeg (a8 + (1 : Int32))) fun s9 =>
  qm_g ((nI 2) + a8) 122 <| qm_l (qe_si s9 1 ((nI 2) + a8).toNatClampNeg a8) fun s10 =>
  qm_g ((nI 14) + a8) 122 <| qm_l (qe_si s10 1 ((nI 14) + a8).toNatClampNeg v3) fun s11 =>
  qm_g ((nI 26) + a8) 122 <| qm_l (qe_si s11 1 ((nI 26) + a8).toNatClampNeg v4) fun s12 =>
  qm_g ((nI 38) + a8) 122 <| qm_l (qe_si s12 1 ((nI 38) + a8).toNatClampNeg (0 : Int32)) fun s13 =>
  qm_l (0 : Int32) fun a14 =>
  g_X9_comes_L108 v1 v2 a8 qm_F a14 s13

def g_X9_refused (v1 : Int32) (v2 : Int32) (v3 : Int32) (v4 : Int32) (s0 : qe_S) : Option (Int32 × qe_S) :=
  qm_g (0 : Int32) 4 <| qm_l (qe_si s0 4 (0 : Int32).toNatClampNeg v1) fun s1 =>
  qm_g (1 : Int32) 4 <| qm_l (qe_si s1 4 (1 : Int32).toNatClampNeg v2) fun s2 =>
  qm_g (nI 2) 4 <| qm_l (qe_si s2 4 (nI 2).toNatClampNeg v3) fun s3 =>
  qm_g (nI 3) 4 <| qm_l (qe_si s3 4 (nI 3).toNatClampNeg v4) fun s4 =>
  some (v1, s4)

def g_X9_no (v1 : Int32) (s0 : qe_S) : Option (Int32 × qe_S) :=
  if v1 = (-7 : Int32) then (
    qm_b (g_X9_refused v1 (1 : Int32) (-9 : Int32) (-9 : Int32) s0) fun a4 s3 =>
    some (a4, s3))
  else
  qm_b (g_X9_refused v1 (0 : Int32) (0 : Int32) (0 : Int32) s0) fun a2 s1 =>
  some (a2, s1)

def g_X9_unit (v1 : Int32) (v2 : Int32) (v3 : Int32) (v4 : Int32) (s0 : qe_S) : Option (Int32 × qe_S) :=
  qm_b (g_X9_comes v1 v2 v3 v4 s0) fun a2 s1 =>
  if (0 : Int32) ≤ a2 then (
    some (a2, s1))
  else
    qm_b (g_X9_no a2 s1) fun a4 s3 =>
    some (a4, s3)

def g_X9_isUnit (v1 : Int32) (s0 : qe_S) : Option (Int32 × qe_S) :=
  qm_g (0 : Int32) 122 <| qm_l (s0.1 1 (0 : Int32).toNatClampNeg) fun a1 =>
  qm_b (g_X9_within v1 (0 : Int32) (a1 - (1 : Int32)) s0) fun a3 s2 =>
  qm_bo a3 (some (a3, s2))

def g_X9_becomes (v1 : Int32) (v2 : Int32) (v3 : Int32) (v4 : Int32) (s0 : qe_S) : Option (Int32 × qe_S) :=
  qm_b (g_X9_isUnit v1 s0) fun a2 s1 =>
  if a2 = (0 : Int32) then (
    some ((-1 : Int32), s1))
  else
  qm_b (g_X9_within v2 (0 : Int32) (nI 2) s1) fun a4 s3 =>
  if a4 = (0 : Int32) then (
    some ((-1 : Int32), s3))
  else
  qm_b (g_X9_isOdds v2 v3 v4 s3) fun a6 s5 =>
  if a6 = (0 : Int32) then (
    some ((-2 : Int32), s5))
  else
  qm_l (((nI 12) * v2) + v1) fun a7 =>
  qm_g ((nI 50) + a7) 122 <| qm_l (s5.1 1 ((nI 50) + a7).toNatClampNeg) fun a8 =>
  qm_g ((nI 86) + a7) 122 <| qm_l (s5.1 1 ((nI 86) + a7).toNatClampNeg) fun a9 =>
  qm_l (((nI 100) * a8) + a9) fun a10 =>
  qm_g ((nI 50) + a7) 122 <| qm_l (qe_si s5 1 ((nI 50) + a7).toNatClampNeg v3) fun s11 =>
  qm_g ((nI 86) + a7) 122 <| qm_l (qe_si s11 1 ((nI 86) + a7).toNatClampNeg v4) fun s12 =>
  some (a10, s12)

def g_X9_odds (v1 : Int32) (v2 : Int32) (v3 : Int32) (v4 : Int32) (s0 : qe_S) : Option (Int32 × qe_S) :=
  qm_b (g_X9_becomes v1 v2 v3 v4 s0) fun a2 s1 =>
  if (0 : Int32) ≤ a2 then (
    some (a2, s1))
  else
    qm_b (g_X9_no a2 s1) fun a4 s3 =>
    some (a4, s3)

def g_X9_set (v1 : Int32) (v2 : Int32) (v3 : Int32) (s0 : qe_S) : Option (Int32 × qe_S) :=
  qm_b (g_X9_isUnit v1 s0) fun a2 s1 =>
  if a2 = (0 : Int32) then (
    qm_b (g_X9_no (-1 : Int32) s1) fun a4 s3 =>
    some (a4, s3))
  else
  qm_b (g_X9_within v2 (0 : Int32) (1 : Int32) s1) fun a6 s5 =>
  if a6 = (0 : Int32) then (
    qm_b (g_X9_no (-1 : Int32) s5) fun a21 s20 =>
    some (a21, s20))
  else
  qm_j (fun (q7 : Int32) (q8 : Int32) (q9 : Int32) (s10 : qe_S) =>
      qm_b (g_X9_within q9 q8 q7 s10) fun a12 s11 =>
      if a12 = (0 : Int32) then (
        qm_b (g_X9_no (-2 : Int32) s11) fun a19 s18 =>
        some (a19, s18))
      else
      qm_j (fun (q13 : Int32) (s14 : qe_S) =>
          qm_l (q13 + v1) fun a15 =>
          qm_g a15 122 <| qm_l (s14.1 1 a15.toNatClampNeg) fun a16 =>
          qm_g a15 122 <| qm_l (qe_si s14 1 a15.toNatClampNeg v3) fun s17 =>
          some (a16, s17)
      ) fun j58 =>
      if v2 = (0 : Int32) then (
        j58 (nI 14) s11)
      else
        j58 (nI 38) s11
  ) fun j34 =>
  if v2 = (0 : Int32) then (
    j34 (nI 3) (0 : Int32) v3 s5)
  else
    j34 (1 : Int32) (0 : Int32) v3 s5

def g_X9_mark (v1 : Int32) (v2 : Int32) (s0 : qe_S) : Option (Int32 × qe_S) :=
  qm_b (g_X9_isUnit v1 s0) fun a2 s1 =>
  if a2 = (0 : Int32) then (
    qm_b (g_X9_no (-1 : Int32) s1) fun a9 s8 =>
    some (a9, s8))
  else
  qm_b (g_X9_within v2 (-99 : Int32) (nI 99) s1) fun a4 s3 =>
  if a4 = (0 : Int32) then (
    qm_b (g_X9_no (-2 : Int32) s3) fun a7 s6 =>
    some (a7, s6))
  else
  qm_g ((nI 26) + v1) 122 <| qm_l (qe_si s3 1 ((nI 26) + v1).toNatClampNeg v2) fun s5 =>
  some ((1 : Int32), s5)

def g_X9_noLong (v1 : Int32) (s0 : qe_S) : Option (Int64 × qe_S) :=
  qm_b (g_X9_no v1 s0) fun a2 s1 =>
  some (((lN 4000000000000000000) - a2.toInt64), s1)

def g_X9_more (v1 : Int32) (v2 : Int32) (s0 : qe_S) : Option (Int32 × qe_S) :=
  qm_g v1 122 <| qm_l (s0.1 1 v1.toNatClampNeg) fun a1 =>
  qm_g v2 122 <| qm_l (s0.1 1 v2.toNatClampNeg) fun a2 =>
  some ((a1 - a2), s0)

def g_X9_isAhead (v1 : Int32) (v2 : Int32) (s0 : qe_S) : Option (Int32 × qe_S) :=
  qm_g (1 : Int32) 122 <| qm_l (s0.1 1 (1 : Int32).toNatClampNeg) fun a1 =>
  if a1 = (1 : Int32) then (
    qm_g ((nI 50) + v1) 122 <| qm_l (s0.1 1 ((nI 50) + v1).toNatClampNeg) fun a2 =>
    qm_g ((nI 86) + v2) 122 <| qm_l (s0.1 1 ((nI 86) + v2).toNatClampNeg) fun a3 =>
    qm_g ((nI 50) + v2) 122 <| qm_l (s0.1 1 ((nI 50) + v2).toNatClampNeg) fun a4 =>
    qm_g ((nI 86) + v1) 122 <| qm_l (s0.1 1 ((nI 86) + v1).toNatClampNeg) fun a5 =>
    if (a2 * a3) ≤ (a4 * a5) then (
      some ((0 : Int32), s0))
    else
      some ((1 : Int32), s0))
  else
  if a1 = (nI 2) then (
    qm_b (g_X9_more ((nI 14) + v1) ((nI 14) + v2) s0) fun a7 s6 =>
    if (0 : Int32) ≤ a7 then (
      some ((0 : Int32), s6))
    else
      some ((1 : Int32), s6))
  else
  if a1 = (nI 3) then (
    qm_b (g_X9_more ((nI 26) + v1) ((nI 26) + v2) s0) fun a9 s8 =>
    if (0 : Int32) ≤ a9 then (
      some ((0 : Int32), s8))
    else
      some ((1 : Int32), s8))
  else
  if a1 = (nI 4) then (
    qm_b (g_X9_more ((nI 14) + v1) ((nI 14) + v2) s0) fun a11 s10 =>
    if a11 = (0 : Int32) then (
      qm_b (g_X9_more ((nI 26) + v1) ((nI 26) + v2) s10) fun a13 s12 =>
      qm_g ((nI 14) + v1) 122 <| qm_l (s12.1 1 ((nI 14) + v1).toNatClampNeg) fun a14 =>
      qm_z (nI 2) <|
      if (qm_ir a14 (nI 2)) = (0 : Int32) then (
        if (0 : Int32) ≤ a13 then (
          some ((0 : Int32), s12))
        else
          some ((1 : Int32), s12))
      else
      if a13 ≤ (0 : Int32) then (
        some ((0 : Int32), s12))
      else
        some ((1 : Int32), s12))
    else
    if (0 : Int32) ≤ a11 then (
      some ((0 : Int32), s10))
    else
      some ((1 : Int32), s10))
  else
  some ((0 : Int32), s0)

def g_X9_inOrder_L14 (k64 : Int32 → qe_S → Option (qe_S)) (v1 : Int32) : Nat → Int32 → qe_S → Option (qe_S)
  | 0, _, _ => none
  | n + 1, v2, s0 =>
    qm_g (1 : Int32) 122 <| qm_l (s0.1 1 (1 : Int32).toNatClampNeg) fun a4 =>
    if a4 = (nI 5) then (
      k64 v2 s0)
    else
    if v2 ≤ (0 : Int32) then (
      k64 v2 s0)
    else
    qm_g (v2 - (1 : Int32)) 12 <| qm_l (s0.1 5 (v2 - (1 : Int32)).toNatClampNeg) fun a5 =>
    qm_b (g_X9_isAhead v1 a5 s0) fun a7 s6 =>
    if a7 = (0 : Int32) then (
      k64 v2 s6)
    else
    qm_g (v2 - (1 : Int32)) 12 <| qm_l (s6.1 5 (v2 - (1 : Int32)).toNatClampNeg) fun a8 =>
    qm_g v2 12 <| qm_l (qe_si s6 5 v2.toNatClampNeg a8) fun s9 =>
    qm_l (v2 + (-1 : Int32)) fun a10 =>
    g_X9_inOrder_L14 k64 v1 n a10 s9

def g_X9_inOrder_L2   : Nat → Int32 → qe_S → Option (qe_S)
  | 0, _, _ => none
  | n + 1, v1, s0 =>
    qm_g (0 : Int32) 122 <| qm_l (s0.1 1 (0 : Int32).toNatClampNeg) fun a2 =>
    if a2 ≤ v1 then (
      some s0)
    else
    g_X9_inOrder_L14
        (fun (a11 : Int32) (s12 : qe_S) =>
          qm_j (fun (q13 : Int32) (q14 : Int32) (s15 : qe_S) =>
              qm_g q14 12 <| qm_l (qe_si s15 5 q14.toNatClampNeg q13) fun s16 =>
              qm_l (v1 + (1 : Int32)) fun a17 =>
              g_X9_inOrder_L2 n a17 s16
          ) fun j91 =>
          qm_g (1 : Int32) 122 <| qm_l (s12.1 1 (1 : Int32).toNatClampNeg) fun a18 =>
          if a18 = (nI 5) then (
            qm_g ((nI 2) + v1) 122 <| qm_l (s12.1 1 ((nI 2) + v1).toNatClampNeg) fun a19 =>
            j91 a19 a11 s12)
          else
            j91 v1 a11 s12)
        v1 qm_F v1 s0

def g_X9_inOrder  (s0 : qe_S) : Option (qe_S) :=
  qm_l (0 : Int32) fun a1 =>
  g_X9_inOrder_L2 qm_F a1 s0

def g_X9_place_L2  (v1 : Int32) : Nat → Int32 → qe_S → Option (Int32 × qe_S)
  | 0, _, _ => none
  | n + 1, v2, s0 =>
    qm_g v2 12 <| qm_l (s0.1 5 v2.toNatClampNeg) fun a2 =>
    if a2 = v1 then (
      some (v2, s0))
    else
      qm_l (v2 + (1 : Int32)) fun a3 =>
      g_X9_place_L2 v1 n a3 s0

def g_X9_place (v1 : Int32) (s0 : qe_S) : Option (Int32 × qe_S) :=
  qm_l (0 : Int32) fun a1 =>
  g_X9_place_L2 v1 qm_F a1 s0

def g_X9_of (v1 : Int32) (v2 : Int32) (s0 : qe_S) : Option (Int64 × qe_S) :=
  qm_b (g_X9_isUnit v1 s0) fun a2 s1 =>
  if a2 = (0 : Int32) then (
    qm_b (g_X9_noLong (-1 : Int32) s1) fun b4 s3 =>
    some (b4, s3))
  else
  qm_b (g_X9_within v2 (0 : Int32) (nI 3) s1) fun a6 s5 =>
  if a6 = (0 : Int32) then (
    qm_b (g_X9_noLong (-1 : Int32) s5) fun b14 s13 =>
    some (b14, s13))
  else
  if (nI 3) ≤ v2 then (
    qm_o (g_X9_inOrder s5) fun s7 =>
    qm_b (g_X9_place v1 s7) fun a9 s8 =>
    some (a9.toInt64, s8))
  else
  qm_j (fun (q10 : Int32) (s11 : qe_S) =>
      qm_g (q10 + v1) 122 <| qm_l (s11.1 1 (q10 + v1).toNatClampNeg) fun a12 =>
      some (a12.toInt64, s11)
  ) fun j53 =>
  if v2 = (0 : Int32) then (
    j53 (nI 14) s5)
  else
  if v2 = (1 : Int32) then (
    j53 (nI 38) s5)
  else
    j53 (nI 26) s5

def g_X9_isPart (v0 : Int32) (s0 : qe_S) : Option (Int32 × qe_S) :=
  qm_b (g_X9_within v0 (0 : Int32) (1 : Int32) s0) fun a2 s1 =>
  qm_bo a2 (some (a2, s1))

def g_X9_divisor_L6 (k31 : Int64 → qe_S → Option (Int64 × qe_S))  : Nat → Int64 → Int64 → qe_S → Option (Int64 × qe_S)
  | 0, _, _, _ => none
  | n + 1, v4, v6, s0 =>
    if v6 = (0 : Int64) then (
      k31 v4 s0)
    else
    qm_zl v6 <|
    qm_l (qm_lr v4 v6) fun b2 =>
    g_X9_divisor_L6 k31 n v6 b2 s0

def g_X9_divisor (v0 : Int64) (v2 : Int64) (s0 : qe_S) : Option (Int64 × qe_S) :=
  g_X9_divisor_L6
      (fun (b3 : Int64) (s4 : qe_S) =>
        if (0 : Int64) ≤ b3 then (
          some (b3, s4))
        else
          some ((-b3), s4))
      qm_F v0 v2 s0

def g_X9_lowest (v0 : Int64) (v2 : Int64) (v4 : Int32) (s0 : qe_S) : Option (Int64 × qe_S) :=
  qm_j (fun (q1 : Int64) (s2 : qe_S) =>
      qm_b (g_X9_divisor v0 v2 s2) fun b4 s3 =>
      qm_zl b4 <|
      some ((q1 / b4), s3)
  ) fun j10 =>
  if v4 = (0 : Int32) then (
    j10 v0 s0)
  else
    j10 v2 s0

def g_X9_fraction (v1 : Int32) (v2 : Int32) (v3 : Int32) (s0 : qe_S) : Option (Int64 × qe_S) :=
  qm_b (g_X9_isUnit v1 s0) fun a2 s1 =>
  if a2 = (0 : Int32) then (
    qm_b (g_X9_noLong (-1 : Int32) s1) fun b4 s3 =>
    some (b4, s3))
  else
  qm_b (g_X9_within v2 (0 : Int32) (nI 2) s1) fun a6 s5 =>
  if a6 = (0 : Int32) then (
    qm_b (g_X9_noLong (-1 : Int32) s5) fun b16 s15 =>
    some (b16, s15))
  else
  qm_b (g_X9_isPart v3 s5) fun a8 s7 =>
  if a8 = (0 : Int32) then (
    qm_b (g_X9_noLong (-2 : Int32) s7) fun b10 s9 =>
    some (b10, s9))
  else
  qm_g (((nI 50) + ((nI 12) * v2)) + v1) 122 <| qm_l (s7.1 1 (((nI 50) + ((nI 12) * v2)) + v1).toNatClampNeg) fun a11 =>
  qm_g (((nI 86) + ((nI 12) * v2)) + v1) 122 <| qm_l (s7.1 1 (((nI 86) + ((nI 12) * v2)) + v1).toNatClampNeg) fun a12 =>
  qm_b (g_X9_lowest a11.toInt64 a12.toInt64 v3 s7) fun b14 s13 =>
  some (b14, s13)

def g_X9_order (v1 : Int32) (s0 : qe_S) : Option (Int32 × qe_S) :=
  qm_b (g_X9_within v1 (0 : Int32) (nI 5) s0) fun a2 s1 =>
  if a2 = (0 : Int32) then (
    qm_b (g_X9_no (-2 : Int32) s1) fun a6 s5 =>
    some (a6, s5))
  else
  qm_g (1 : Int32) 122 <| qm_l (s1.1 1 (1 : Int32).toNatClampNeg) fun a3 =>
  qm_g (1 : Int32) 122 <| qm_l (qe_si s1 1 (1 : Int32).toNatClampNeg v1) fun s4 =>
  some (a3, s4)

def g_X9_at (v1 : Int32) (s0 : qe_S) : Option (Int32 × qe_S) :=
  qm_b (g_X9_isUnit v1 s0) fun a2 s1 =>
  if a2 = (0 : Int32) then (
    qm_b (g_X9_no (-1 : Int32) s1) fun a6 s5 =>
    some (a6, s5))
  else
  qm_o (g_X9_inOrder s1) fun s3 =>
  qm_g v1 12 <| qm_l (s3.1 5 v1.toNatClampNeg) fun a4 =>
  some (a4, s3)

def g_X9_swaps (v1 : Int32) (v2 : Int32) (s0 : qe_S) : Option (Int32 × qe_S) :=
  qm_b (g_X9_isUnit v1 s0) fun a2 s1 =>
  if a2 = (0 : Int32) then (
    some ((-1 : Int32), s1))
  else
  qm_b (g_X9_isUnit v2 s1) fun a4 s3 =>
  if a4 = (0 : Int32) then (
    some ((-1 : Int32), s3))
  else
  if v1 = v2 then (
    some ((-5 : Int32), s3))
  else
  qm_g ((nI 2) + v1) 122 <| qm_l (s3.1 1 ((nI 2) + v1).toNatClampNeg) fun a5 =>
  qm_g ((nI 2) + v2) 122 <| qm_l (s3.1 1 ((nI 2) + v2).toNatClampNeg) fun a6 =>
  qm_g ((nI 2) + v1) 122 <| qm_l (qe_si s3 1 ((nI 2) + v1).toNatClampNeg a6) fun s7 =>
  qm_g ((nI 2) + v2) 122 <| qm_l (qe_si s7 1 ((nI 2) + v2).toNatClampNeg a5) fun s8 =>
  qm_g ((nI 2) + v1) 122 <| qm_l (s8.1 1 ((nI 2) + v1).toNatClampNeg) fun a9 =>
  some (a9, s8)

def g_X9_swap (v1 : Int32) (v2 : Int32) (s0 : qe_S) : Option (Int32 × qe_S) :=
  qm_b (g_X9_swaps v1 v2 s0) fun a2 s1 =>
  if (0 : Int32) ≤ a2 then (
    some (a2, s1))
  else
    qm_b (g_X9_no a2 s1) fun a4 s3 =>
    some (a4, s3)

def g_X9_meets_L2 (k64 : qe_S → Option (Int32 × qe_S)) (v1 : Int32) : Nat → Int32 → qe_S → Option (Int32 × qe_S)
  | 0, _, _ => none
  | n + 1, v2, s0 =>
    qm_g (0 : Int32) 122 <| qm_l (s0.1 1 (0 : Int32).toNatClampNeg) fun a2 =>
    if a2 ≤ v2 then (
      k64 s0)
    else
    if (lN 2147483647) < (s0.2 0 6) then (
      k64 s0)
    else
    qm_g (((nI 86) + ((nI 12) * v1)) + v2) 122 <| qm_l (s0.1 1 (((nI 86) + ((nI 12) * v1)) + v2).toNatClampNeg) fun a3 =>
    qm_l a3.toInt64 fun b4 =>
    qm_b (g_X9_divisor (s0.2 0 6) b4 s0) fun b6 s5 =>
    qm_zl b6 <|
    qm_l (qe_sl s5 0 6 (((s0.2 0 6) / b6) * b4)) fun s7 =>
    qm_l (v2 + (1 : Int32)) fun a8 =>
    g_X9_meets_L2 k64 v1 n a8 s7

def g_X9_meets (v1 : Int32) (s0 : qe_S) : Option (Int32 × qe_S) :=
  qm_l (0 : Int32) fun a1 =>
  g_X9_meets_L2
      (fun  (s9 : qe_S) =>
        if (lN 2147483647) < (s9.2 0 6) then (
          some ((0 : Int32), s9))
        else
          some ((1 : Int32), s9))
      v1 qm_F a1 s0

def g_X9_everyone  (s0 : qe_S) : Option (Int32 × qe_S) :=
  qm_g (0 : Int32) 122 <| qm_l (s0.1 1 (0 : Int32).toNatClampNeg) fun a1 =>
  some ((((1 : Int32) <<< (a1 &&& 31)) - (1 : Int32)), s0)

def g_X9_arcs_L8 (k125 : qe_S → Option (Int32 × qe_S)) (v1 : Int32) (o2 : Nat) (o3 : Nat) (v4 : Int32) : Nat → Int32 → qe_S → Option (Int32 × qe_S)
  | 0, _, _ => none
  | n + 1, v5, s0 =>
    qm_g (0 : Int32) 122 <| qm_l (s0.1 1 (0 : Int32).toNatClampNeg) fun a3 =>
    if a3 ≤ v5 then (
      k125 s0)
    else
    qm_j (fun  (s4 : qe_S) =>
        qm_l (v5 + (1 : Int32)) fun a5 =>
        g_X9_arcs_L8 k125 v1 o2 o3 v4 n a5 s4
    ) fun j119 =>
    qm_g v5 12 <| qm_l (s0.1 5 v5.toNatClampNeg) fun a6 =>
    qm_g a6 12 <| qm_l (qe_sl s0 o2 a6.toNatClampNeg (0 : Int64)) fun s7 =>
    qm_g a6 12 <| qm_l (qe_sl s7 o3 a6.toNatClampNeg (0 : Int64)) fun s8 =>
    if ((v4 >>> (a6 &&& 31)) &&& (1 : Int32)) = (0 : Int32) then (
      j119 s8)
    else
    qm_zl (s8.2 0 6) <|
    qm_g a6 12 <| qm_l (qe_sl s8 o2 a6.toNatClampNeg (qm_lr (s8.2 0 11) (s8.2 0 6))) fun s9 =>
    qm_g (((nI 50) + ((nI 12) * v1)) + a6) 122 <| qm_l (s9.1 1 (((nI 50) + ((nI 12) * v1)) + a6).toNatClampNeg) fun a10 =>
    qm_g (((nI 86) + ((nI 12) * v1)) + a6) 122 <| qm_l (s9.1 1 (((nI 86) + ((nI 12) * v1)) + a6).toNatClampNeg) fun a11 =>
    qm_zl a11.toInt64 <|
    qm_g a6 12 <| qm_l (qe_sl s9 o3 a6.toNatClampNeg (a10.toInt64 * ((s9.2 0 6) / a11.toInt64))) fun s12 =>
    qm_g a6 12 <| qm_l (s12.2 o3 a6.toNatClampNeg) fun b13 =>
    qm_l (qe_sl s12 0 11 ((s12.2 0 11) + b13)) fun s14 =>
    j119 s14

def g_X9_arcs (v1 : Int32) (o2 : Nat) (o3 : Nat) (v4 : Int32) (s0 : qe_S) : Option (Int32 × qe_S) :=
  qm_l (qe_sl s0 0 11 (0 : Int64)) fun s1 =>
  qm_l (0 : Int32) fun a2 =>
  g_X9_arcs_L8
      (fun  (s15 : qe_S) =>
        if (lN 2147483647) < (s15.2 0 11) then (
          some ((0 : Int32), s15))
        else
          some ((1 : Int32), s15))
      v1 o2 o3 v4 qm_F a2 s1

def g_X9_lays (v1 : Int32) (s0 : qe_S) : Option (Int32 × qe_S) :=
  qm_j (fun (q1 : Int32) (s2 : qe_S) =>
      qm_b (g_X9_meets q1 s2) fun a4 s3 =>
      if a4 = (0 : Int32) then (
        some ((0 : Int32), s3))
      else
      qm_j (fun  (s5 : qe_S) =>
          qm_j (fun  (s6 : qe_S) =>
              qm_j (fun (q7 : Int32) (s8 : qe_S) =>
                  qm_b (g_X9_everyone s8) fun a10 s9 =>
                  qm_b (g_X9_arcs q7 6 7 a10 s9) fun a12 s11 =>
                  qm_bo a12 (some (a12, s11))
              ) fun j79 =>
              if v1 = (nI 2) then (
                j79 (0 : Int32) s6)
              else
                j79 v1 s6
          ) fun j68 =>
          if v1 = (nI 2) then (
            qm_b (g_X9_everyone s5) fun a14 s13 =>
            qm_b (g_X9_arcs (nI 2) 8 9 a14 s13) fun a16 s15 =>
            if a16 = (0 : Int32) then (
              some ((0 : Int32), s15))
            else
              j68 s15)
          else
            j68 s5
      ) fun j41 =>
      if v1 = (nI 2) then (
        qm_b (g_X9_meets (nI 2) s3) fun a18 s17 =>
        if a18 = (0 : Int32) then (
          some ((0 : Int32), s17))
        else
          j41 s17)
      else
        j41 s3
  ) fun j20 =>
  qm_o (g_X9_inOrder s0) fun s19 =>
  qm_l (qe_sl s19 0 6 (1 : Int64)) fun s20 =>
  if v1 = (nI 2) then (
    j20 (0 : Int32) s20)
  else
    j20 v1 s20

def g_X9_common (v1 : Int32) (s0 : qe_S) : Option (Int32 × qe_S) :=
  qm_b (g_X9_within v1 (0 : Int32) (nI 2) s0) fun a2 s1 =>
  if a2 = (0 : Int32) then (
    qm_b (g_X9_no (-1 : Int32) s1) fun a8 s7 =>
    some (a8, s7))
  else
  qm_b (g_X9_lays v1 s1) fun a4 s3 =>
  if a4 = (0 : Int32) then (
    qm_b (g_X9_no (-7 : Int32) s3) fun a6 s5 =>
    some (a6, s5))
  else
    some ((s3.2 0 6).toInt32, s3)

def g_X9_parts (v1 : Int32) (s0 : qe_S) : Option (Int32 × qe_S) :=
  qm_b (g_X9_isUnit v1 s0) fun a2 s1 =>
  if a2 = (0 : Int32) then (
    qm_b (g_X9_no (-1 : Int32) s1) fun a9 s8 =>
    some (a9, s8))
  else
  qm_b (g_X9_lays (0 : Int32) s1) fun a4 s3 =>
  if a4 = (0 : Int32) then (
    qm_b (g_X9_no (-7 : Int32) s3) fun a6 s5 =>
    some (a6, s5))
  else
  qm_g v1 12 <| qm_l (s3.2 7 v1.toNatClampNeg) fun b7 =>
  some (b7.toInt32, s3)

def g_X9_size (v1 : Int32) (s0 : qe_S) : Option (Int32 × qe_S) :=
  qm_b (g_X9_within v1 (0 : Int32) (1 : Int32) s0) fun a2 s1 =>
  if a2 = (0 : Int32) then (
    qm_b (g_X9_no (-1 : Int32) s1) fun a10 s9 =>
    some (a10, s9))
  else
  qm_b (g_X9_lays (0 : Int32) s1) fun a4 s3 =>
  if a4 = (0 : Int32) then (
    qm_b (g_X9_no (-7 : Int32) s3) fun a8 s7 =>
    some (a8, s7))
  else
  qm_j (fun (q5 : Int64) (s6 : qe_S) =>
      qm_zl (s6.2 0 6) <|
      some ((q5 / (s6.2 0 6)).toInt32, s6)
  ) fun j52 =>
  if v1 = (0 : Int32) then (
    j52 (s3.2 0 11) s3)
  else
    j52 (((s3.2 0 11) + (s3.2 0 6)) - (1 : Int64)) s3

def g_X9_isPlace (v1 : Int32) (s0 : qe_S) : Option (Int32 × qe_S) :=
  qm_j (fun  (s1 : qe_S) =>
      some ((0 : Int32), s1)
  ) fun j18 =>
  if v1 < (0 : Int32) then (
    j18 s0)
  else
  if (s0.2 0 6) ≤ v1.toInt64 then (
    j18 s0)
  else
    some ((1 : Int32), s0)

def g_X9_isOn (v0 : Int64) (v2 : Int64) (v4 : Int64) (v6 : Int64) (s0 : qe_S) : Option (Int32 × qe_S) :=
  qm_zl v6 <|
  if v4 ≤ (qm_lr ((v0 + v6) - v2) v6) then (
    some ((0 : Int32), s0))
  else
    some ((1 : Int32), s0)

def g_X9_chosenBy_L5  (v1 : Int64) : Nat → Int32 → Int32 → qe_S → Option (Int32 × qe_S)
  | 0, _, _, _ => none
  | n + 1, v3, v4, s0 =>
    qm_g (0 : Int32) 122 <| qm_l (s0.1 1 (0 : Int32).toNatClampNeg) fun a3 =>
    if a3 ≤ v4 then (
      some (v3, s0))
    else
    qm_j (fun (a4 : Int32) (s5 : qe_S) =>
        qm_l (v4 + (1 : Int32)) fun a6 =>
        g_X9_chosenBy_L5 v1 n a4 a6 s5
    ) fun j48 =>
    qm_g v4 12 <| qm_l (s0.2 6 v4.toNatClampNeg) fun b7 =>
    qm_g v4 12 <| qm_l (s0.2 7 v4.toNatClampNeg) fun b8 =>
    qm_b (g_X9_isOn v1 b7 b8 (s0.2 0 6) s0) fun a10 s9 =>
    if a10 = (0 : Int32) then (
      j48 v3 s9)
    else
    qm_l (v3 ||| ((1 : Int32) <<< (v4 &&& 31))) fun a11 =>
    j48 a11 s9

def g_X9_chosenBy (v1 : Int64) (s0 : qe_S) : Option (Int32 × qe_S) :=
  qm_l (0 : Int32) fun a1 =>
  qm_l (0 : Int32) fun a2 =>
  g_X9_chosenBy_L5 v1 qm_F a1 a2 s0

def g_X9_chosen (v1 : Int32) (s0 : qe_S) : Option (Int32 × qe_S) :=
  qm_b (g_X9_lays (0 : Int32) s0) fun a2 s1 =>
  if a2 = (0 : Int32) then (
    qm_b (g_X9_no (-7 : Int32) s1) fun a10 s9 =>
    some (a10, s9))
  else
  qm_b (g_X9_isPlace v1 s1) fun a4 s3 =>
  if a4 = (0 : Int32) then (
    qm_b (g_X9_no (-2 : Int32) s3) fun a6 s5 =>
    some (a6, s5))
  else
  qm_b (g_X9_chosenBy v1.toInt64 s3) fun a8 s7 =>
  some (a8, s7)

def g_X9_cutsAt_L3 (k44 : Int32 → qe_S → Option (Int32 × qe_S)) (v1 : Int32) (v2 : Int64) : Nat → Int32 → qe_S → Option (Int32 × qe_S)
  | 0, _, _ => none
  | n + 1, v4, s0 =>
    if v4 ≤ (0 : Int32) then (
      k44 v4 s0)
    else
    qm_g (v4 - (1 : Int32)) 26 <| qm_l (s0.2 13 (v4 - (1 : Int32)).toNatClampNeg) fun b2 =>
    if b2 ≤ v2 then (
      k44 v4 s0)
    else
    qm_g (v4 - (1 : Int32)) 26 <| qm_l (s0.2 13 (v4 - (1 : Int32)).toNatClampNeg) fun b3 =>
    qm_g v4 26 <| qm_l (qe_sl s0 13 v4.toNatClampNeg b3) fun s4 =>
    qm_l (v4 + (-1 : Int32)) fun a5 =>
    g_X9_cutsAt_L3 k44 v1 v2 n a5 s4

def g_X9_cutsAt (v1 : Int32) (v2 : Int64) (s0 : qe_S) : Option (Int32 × qe_S) :=
  g_X9_cutsAt_L3
      (fun (a6 : Int32) (s7 : qe_S) =>
        qm_g a6 26 <| qm_l (qe_sl s7 13 a6.toNatClampNeg v2) fun s8 =>
        some ((v1 + (1 : Int32)), s8))
      v1 v2 qm_F v1 s0

def g_X9_goesRound_L9 (k61 : Int32 → qe_S → Option (qe_S))  : Nat → Int32 → Int32 → qe_S → Option (qe_S)
  | 0, _, _, _ => none
  | n + 1, v1, v2, s0 =>
    qm_g (0 : Int32) 122 <| qm_l (s0.1 1 (0 : Int32).toNatClampNeg) fun a5 =>
    if a5 ≤ v2 then (
      k61 v1 s0)
    else
    qm_g v2 12 <| qm_l (s0.2 6 v2.toNatClampNeg) fun b6 =>
    qm_b (g_X9_cutsAt v1 b6 s0) fun a8 s7 =>
    qm_g v2 12 <| qm_l (s7.2 6 v2.toNatClampNeg) fun b9 =>
    qm_g v2 12 <| qm_l (s7.2 7 v2.toNatClampNeg) fun b10 =>
    qm_zl (s7.2 0 6) <|
    qm_b (g_X9_cutsAt a8 (qm_lr (b9 + b10) (s7.2 0 6)) s7) fun a12 s11 =>
    qm_l (v2 + (1 : Int32)) fun a13 =>
    g_X9_goesRound_L9 k61 n a12 a13 s11

def g_X9_goesRound_L68  (v1 : Int32) : Nat → Int32 → qe_S → Option (qe_S)
  | 0, _, _ => none
  | n + 1, v2, s0 =>
    if v1 ≤ v2 then (
      some s0)
    else
    qm_j (fun (q18 : Int64) (s19 : qe_S) =>
        qm_j (fun  (s20 : qe_S) =>
            qm_l (v2 + (1 : Int32)) fun a21 =>
            g_X9_goesRound_L68 v1 n a21 s20
        ) fun j223 =>
        qm_g v2 26 <| qm_l (s19.2 13 v2.toNatClampNeg) fun b22 =>
        if q18 = b22 then (
          j223 s19)
        else
        qm_j (fun (a23 : Int32) (s24 : qe_S) =>
            qm_g v2 26 <| qm_l (s24.2 13 v2.toNatClampNeg) fun b25 =>
            qm_g (s24.1 0 12) 26 <| qm_l (qe_sl s24 10 (s24.1 0 12).toNatClampNeg b25) fun s26 =>
            qm_g v2 26 <| qm_l (s26.2 13 v2.toNatClampNeg) fun b27 =>
            qm_g (s26.1 0 12) 26 <| qm_l (qe_sl s26 11 (s26.1 0 12).toNatClampNeg (q18 - b27)) fun s28 =>
            qm_g (s28.1 0 12) 26 <| qm_l (qe_si s28 12 (s28.1 0 12).toNatClampNeg a23) fun s29 =>
            qm_l (qe_si s29 0 12 ((s29.1 0 12) + (1 : Int32))) fun s30 =>
            j223 s30
        ) fun j170 =>
        qm_g v2 26 <| qm_l (s19.2 13 v2.toNatClampNeg) fun b31 =>
        qm_b (g_X9_chosenBy b31 s19) fun a33 s32 =>
        if (s32.1 0 12) ≤ (0 : Int32) then (
          j170 a33 s32)
        else
        qm_g ((s32.1 0 12) - (1 : Int32)) 26 <| qm_l (s32.1 12 ((s32.1 0 12) - (1 : Int32)).toNatClampNeg) fun a34 =>
        if a34 = a33 then (
          qm_g ((s32.1 0 12) - (1 : Int32)) 26 <| qm_l (s32.2 11 ((s32.1 0 12) - (1 : Int32)).toNatClampNeg) fun b35 =>
          qm_g v2 26 <| qm_l (s32.2 13 v2.toNatClampNeg) fun b36 =>
          qm_g ((s32.1 0 12) - (1 : Int32)) 26 <| qm_l (qe_sl s32 11 ((s32.1 0 12) - (1 : Int32)).toNatClampNeg (b35 + (q18 - b36))) fun s37 =>
          j223 s37)
        else
          j170 a33 s32
    ) fun j95 =>
    if v1 ≤ (v2 + (1 : Int32)) then (
      j95 (s0.2 0 6) s0)
    else
    qm_g (v2 + (1 : Int32)) 26 <| qm_l (s0.2 13 (v2 + (1 : Int32)).toNatClampNeg) fun b38 =>
    j95 b38 s0

def g_X9_goesRound  (s0 : qe_S) : Option (qe_S) :=
  qm_b (g_X9_cutsAt (0 : Int32) (0 : Int64) s0) fun a2 s1 =>
  qm_l (0 : Int32) fun a3 =>
  g_X9_goesRound_L9
      (fun (a14 : Int32) (s15 : qe_S) =>
        qm_l (qe_si s15 0 12 (0 : Int32)) fun s16 =>
        qm_l (0 : Int32) fun a17 =>
        g_X9_goesRound_L68 a14 qm_F a17 s16)
      qm_F a2 a3 s1

def g_X9_laysRuns  (s0 : qe_S) : Option (Int32 × qe_S) :=
  qm_b (g_X9_lays (0 : Int32) s0) fun a2 s1 =>
  if a2 = (0 : Int32) then (
    some ((0 : Int32), s1))
  else
    qm_o (g_X9_goesRound s1) fun s3 =>
    some ((1 : Int32), s3)

def g_X9_run (v1 : Int32) (v2 : Int32) (s0 : qe_S) : Option (Int32 × qe_S) :=
  if v1 < (-1 : Int32) then (
    qm_b (g_X9_no (-1 : Int32) s0) fun a2 s1 =>
    some (a2, s1))
  else
  qm_b (g_X9_within v2 (0 : Int32) (nI 2) s0) fun a4 s3 =>
  if a4 = (0 : Int32) then (
    qm_b (g_X9_no (-1 : Int32) s3) fun a15 s14 =>
    some (a15, s14))
  else
  qm_b (g_X9_laysRuns s3) fun a6 s5 =>
  if a6 = (0 : Int32) then (
    qm_b (g_X9_no (-7 : Int32) s5) fun a13 s12 =>
    some (a13, s12))
  else
  if v1 = (-1 : Int32) then (
    some ((s5.1 0 12), s5))
  else
  if v1 < (s5.1 0 12) then (
    if v2 = (0 : Int32) then (
      qm_g v1 26 <| qm_l (s5.2 10 v1.toNatClampNeg) fun b9 =>
      some (b9.toInt32, s5))
    else
    if v2 = (1 : Int32) then (
      qm_g v1 26 <| qm_l (s5.2 11 v1.toNatClampNeg) fun b8 =>
      some (b8.toInt32, s5))
    else
    qm_g v1 26 <| qm_l (s5.1 12 v1.toNatClampNeg) fun a7 =>
    some (a7, s5))
  else
  qm_b (g_X9_no (-5 : Int32) s5) fun a11 s10 =>
  some (a11, s10)

def g_X9_has (v1 : Int32) (v2 : Int32) (s0 : qe_S) : Option (Int32 × qe_S) :=
  if ((v1 >>> (v2 &&& 31)) &&& (1 : Int32)) = (1 : Int32) then (
    some ((1 : Int32), s0))
  else
    some ((0 : Int32), s0)

def g_X9_joint_L56 (k113 : Int64 → qe_S → Option (Int64 × qe_S)) (v1 : Int32) (v2 : Int32) (v3 : Int32) : Nat → Int64 → Int32 → qe_S → Option (Int64 × qe_S)
  | 0, _, _, _ => none
  | n + 1, v4, v6, s0 =>
    if (s0.1 0 12) ≤ v6 then (
      k113 v4 s0)
    else
    qm_j (fun (b14 : Int64) (s15 : qe_S) =>
        qm_l (v6 + (1 : Int32)) fun a16 =>
        g_X9_joint_L56 k113 v1 v2 v3 n b14 a16 s15
    ) fun j107 =>
    qm_g v6 26 <| qm_l (s0.1 12 v6.toNatClampNeg) fun a17 =>
    qm_b (g_X9_has a17 v1 s0) fun a19 s18 =>
    if a19 = (0 : Int32) then (
      j107 v4 s18)
    else
    qm_g v6 26 <| qm_l (s18.1 12 v6.toNatClampNeg) fun a20 =>
    qm_b (g_X9_has a20 v2 s18) fun a22 s21 =>
    if a22 = (0 : Int32) then (
      j107 v4 s21)
    else
    qm_g v6 26 <| qm_l (s21.2 11 v6.toNatClampNeg) fun b23 =>
    qm_l (v4 + b23) fun b24 =>
    j107 b24 s21

def g_X9_joint (v1 : Int32) (v2 : Int32) (v3 : Int32) (s0 : qe_S) : Option (Int64 × qe_S) :=
  qm_b (g_X9_isUnit v1 s0) fun a2 s1 =>
  if a2 = (0 : Int32) then (
    qm_b (g_X9_noLong (-1 : Int32) s1) fun b4 s3 =>
    some (b4, s3))
  else
  qm_b (g_X9_isUnit v2 s1) fun a6 s5 =>
  if a6 = (0 : Int32) then (
    qm_b (g_X9_noLong (-1 : Int32) s5) fun b34 s33 =>
    some (b34, s33))
  else
  qm_b (g_X9_isPart v3 s5) fun a8 s7 =>
  if a8 = (0 : Int32) then (
    qm_b (g_X9_noLong (-2 : Int32) s7) fun b32 s31 =>
    some (b32, s31))
  else
  qm_b (g_X9_laysRuns s7) fun a10 s9 =>
  if a10 = (0 : Int32) then (
    qm_b (g_X9_noLong (-7 : Int32) s9) fun b30 s29 =>
    some (b30, s29))
  else
  qm_l (0 : Int64) fun b11 =>
  qm_l (0 : Int32) fun a12 =>
  g_X9_joint_L56
      (fun (b25 : Int64) (s26 : qe_S) =>
        qm_b (g_X9_lowest b25 (s26.2 0 6) v3 s26) fun b28 s27 =>
        some (b28, s27))
      v1 v2 v3 qm_F b11 a12 s9

def g_X9_joints_L47 (k99 : Int64 → qe_S → Option (Int64 × qe_S)) (v1 : Int32) (v2 : Int32) : Nat → Int64 → Int32 → qe_S → Option (Int64 × qe_S)
  | 0, _, _, _ => none
  | n + 1, v3, v5, s0 =>
    if (s0.1 0 12) ≤ v5 then (
      k99 v3 s0)
    else
    qm_j (fun (b10 : Int64) (s11 : qe_S) =>
        qm_l (v5 + (1 : Int32)) fun a12 =>
        g_X9_joints_L47 k99 v1 v2 n b10 a12 s11
    ) fun j93 =>
    qm_g v5 26 <| qm_l (s0.1 12 v5.toNatClampNeg) fun a13 =>
    qm_b (g_X9_has a13 v1 s0) fun a15 s14 =>
    if a15 = (0 : Int32) then (
      j93 v3 s14)
    else
    qm_g v5 26 <| qm_l (s14.2 11 v5.toNatClampNeg) fun b16 =>
    qm_g v5 26 <| qm_l (s14.1 12 v5.toNatClampNeg) fun a17 =>
    qm_b (g_J6_bitCount_0f7a4 a17 s14) fun a19 s18 =>
    qm_l (v3 + (b16 * a19.toInt64)) fun b20 =>
    j93 b20 s18

def g_X9_joints (v1 : Int32) (v2 : Int32) (s0 : qe_S) : Option (Int64 × qe_S) :=
  qm_b (g_X9_isUnit v1 s0) fun a2 s1 =>
  if a2 = (0 : Int32) then (
    qm_b (g_X9_noLong (-1 : Int32) s1) fun b30 s29 =>
    some (b30, s29))
  else
  qm_b (g_X9_isPart v2 s1) fun a4 s3 =>
  if a4 = (0 : Int32) then (
    qm_b (g_X9_noLong (-2 : Int32) s3) fun b28 s27 =>
    some (b28, s27))
  else
  qm_b (g_X9_laysRuns s3) fun a6 s5 =>
  if a6 = (0 : Int32) then (
    qm_b (g_X9_noLong (-7 : Int32) s5) fun b26 s25 =>
    some (b26, s25))
  else
  qm_l (0 : Int64) fun b7 =>
  qm_l (0 : Int32) fun a8 =>
  g_X9_joints_L47
      (fun (b21 : Int64) (s22 : qe_S) =>
        qm_b (g_X9_lowest b21 (s22.2 0 6) v2 s22) fun b24 s23 =>
        some (b24, s23))
      v1 v2 qm_F b7 a8 s5

def g_X9_fair_L36 (k87 : Int32 → Int64 → qe_S → Option (Int32 × qe_S)) (v1 : Int32) : Nat → Int32 → Int64 → Int32 → qe_S → Option (Int32 × qe_S)
  | 0, _, _, _, _ => none
  | n + 1, v2, v3, v5, s0 =>
    qm_g (0 : Int32) 122 <| qm_l (s0.1 1 (0 : Int32).toNatClampNeg) fun a10 =>
    if a10 ≤ v5 then (
      k87 v2 v3 s0)
    else
    qm_j (fun (a11 : Int32) (b12 : Int64) (s13 : qe_S) =>
        qm_l (v5 + (1 : Int32)) fun a14 =>
        g_X9_fair_L36 k87 v1 n a11 b12 a14 s13
    ) fun j81 =>
    qm_g ((nI 14) + v5) 122 <| qm_l (s0.1 1 ((nI 14) + v5).toNatClampNeg) fun a15 =>
    if a15 = v1 then (
      qm_l (v2 ||| ((1 : Int32) <<< (v5 &&& 31))) fun a16 =>
      qm_g v5 12 <| qm_l (s0.2 7 v5.toNatClampNeg) fun b17 =>
      qm_l (v3 + b17) fun b18 =>
      j81 a16 b18 s0)
    else
      j81 v2 v3 s0

def g_X9_fair_L90  (v2 : Int32) (v3 : Int64) : Nat → Int32 → qe_S → Option (Int32 × qe_S)
  | 0, _, _ => none
  | n + 1, v5, s0 =>
    if (s0.1 0 12) ≤ v5 then (
      some ((1 : Int32), s0))
    else
    qm_g v5 26 <| qm_l (s0.1 12 v5.toNatClampNeg) fun a23 =>
    qm_b (g_J6_bitCount_0f7a4 (a23 &&& v2) s0) fun a25 s24 =>
    qm_zl (s24.2 0 6) <|
    if a25.toInt64 < (v3 / (s24.2 0 6)) then (
      some ((0 : Int32), s24))
    else
    qm_zl (s24.2 0 6) <|
    if a25.toInt64 ≤ (((v3 + (s24.2 0 6)) - (1 : Int64)) / (s24.2 0 6)) then (
      qm_l (v5 + (1 : Int32)) fun a26 =>
      g_X9_fair_L90 v2 v3 n a26 s24)
    else
      some ((0 : Int32), s24)

def g_X9_fair (v1 : Int32) (s0 : qe_S) : Option (Int32 × qe_S) :=
  qm_b (g_X9_within v1 (0 : Int32) (nI 3) s0) fun a2 s1 =>
  if a2 = (0 : Int32) then (
    qm_b (g_X9_no (-1 : Int32) s1) fun a30 s29 =>
    some (a30, s29))
  else
  qm_b (g_X9_laysRuns s1) fun a4 s3 =>
  if a4 = (0 : Int32) then (
    qm_b (g_X9_no (-7 : Int32) s3) fun a28 s27 =>
    some (a28, s27))
  else
  qm_l (0 : Int32) fun a5 =>
  qm_l (0 : Int64) fun b6 =>
  qm_l (0 : Int32) fun a7 =>
  g_X9_fair_L36
      (fun (a19 : Int32) (b20 : Int64) (s21 : qe_S) =>
        qm_l (0 : Int32) fun a22 =>
        g_X9_fair_L90 a19 b20 qm_F a22 s21)
      v1 qm_F a5 b6 a7 s3

def g_X9_product (v1 : Int64) (v3 : Int64) (s0 : qe_S) : Option (Int64 × qe_S) :=
  qm_l (v1 * v3) fun b1 =>
  if v1 = (0 : Int64) then (
    some (b1, s0))
  else
  qm_j (fun  (s2 : qe_S) =>
      qm_l (qe_si s2 0 19 (1 : Int32)) fun s3 =>
      some (b1, s3)
  ) fun j36 =>
  qm_zl v1 <|
  if (b1 / v1) = v3 then (
    if v1 = (-1 : Int64) then (
      if v3 = (-9223372036854775808 : Int64) then (
        j36 s0)
      else
        some (b1, s0))
    else
      some (b1, s0))
  else
    j36 s0

def g_X9_sum (v1 : Int64) (v3 : Int64) (s0 : qe_S) : Option (Int64 × qe_S) :=
  qm_j (fun (b1 : Int64) (q2 : Int32) (s3 : qe_S) =>
      qm_j (fun (q4 : Int32) (q5 : Int32) (s6 : qe_S) =>
          if q5 = q4 then (
            qm_j (fun (q7 : Int32) (s8 : qe_S) =>
                qm_j (fun (q9 : Int32) (q10 : Int32) (s11 : qe_S) =>
                    if q10 = q9 then (
                      some (b1, s11))
                    else
                    qm_l (qe_si s11 0 19 (1 : Int32)) fun s12 =>
                    some (b1, s12)
                ) fun j53 =>
                if (0 : Int64) ≤ v1 then (
                  j53 (0 : Int32) q7 s8)
                else
                  j53 (1 : Int32) q7 s8
            ) fun j42 =>
            if (0 : Int64) ≤ b1 then (
              j42 (0 : Int32) s6)
            else
              j42 (1 : Int32) s6)
          else
            some (b1, s6)
      ) fun j27 =>
      if (0 : Int64) ≤ v3 then (
        j27 (0 : Int32) q2 s3)
      else
        j27 (1 : Int32) q2 s3
  ) fun j16 =>
  qm_l (v1 + v3) fun b13 =>
  if (0 : Int64) ≤ v1 then (
    j16 b13 (0 : Int32) s0)
  else
    j16 b13 (1 : Int32) s0

def g_X9_is (v1 : Int64) (v3 : Int64) (s0 : qe_S) : Option (qe_S) :=
  if (s0.1 0 19) = (0 : Int32) then (
    qm_b (g_X9_divisor v1 v3 s0) fun b2 s1 =>
    qm_zl b2 <|
    qm_l (qe_sl s1 0 17 (v1 / b2)) fun s3 =>
    qm_zl b2 <|
    qm_l (qe_sl s3 0 18 (v3 / b2)) fun s4 =>
    some s4)
  else
    some s0

def g_X9_adds (v1 : Int64) (v3 : Int64) (v5 : Int64) (v7 : Int64) (s0 : qe_S) : Option (qe_S) :=
  qm_b (g_X9_product v1 v7 s0) fun b2 s1 =>
  qm_b (g_X9_product v5 v3 s1) fun b4 s3 =>
  qm_b (g_X9_product v3 v7 s3) fun b6 s5 =>
  qm_b (g_X9_sum b2 b4 s5) fun b8 s7 =>
  qm_o (g_X9_is b8 b6 s7) fun s9 =>
  some s9

def g_X9_estimates_L12  (v1 : Int32) : Nat → Int32 → qe_S → Option (qe_S)
  | 0, _, _ => none
  | n + 1, v2, s0 =>
    qm_g (0 : Int32) 122 <| qm_l (s0.1 1 (0 : Int32).toNatClampNeg) fun a4 =>
    if a4 ≤ v2 then (
      some s0)
    else
    if (s0.1 0 19) = (0 : Int32) then (
      qm_j (fun  (s5 : qe_S) =>
          qm_l (v2 + (1 : Int32)) fun a6 =>
          g_X9_estimates_L12 v1 n a6 s5
      ) fun j101 =>
      qm_b (g_X9_has v1 v2 s0) fun a8 s7 =>
      if a8 = (0 : Int32) then (
        j101 s7)
      else
      qm_g ((nI 26) + v2) 122 <| qm_l (s7.1 1 ((nI 26) + v2).toNatClampNeg) fun a9 =>
      qm_g ((nI 86) + v2) 122 <| qm_l (s7.1 1 ((nI 86) + v2).toNatClampNeg) fun a10 =>
      qm_l (a9.toInt64 * a10.toInt64) fun b11 =>
      qm_g ((nI 50) + v2) 122 <| qm_l (s7.1 1 ((nI 50) + v2).toNatClampNeg) fun a12 =>
      qm_l a12.toInt64 fun b13 =>
      qm_b (g_X9_lowest b11 b13 (0 : Int32) s7) fun b15 s14 =>
      qm_b (g_X9_lowest b11 b13 (1 : Int32) s14) fun b17 s16 =>
      qm_o (g_X9_adds (s7.2 0 17) (s7.2 0 18) b15 b17 s16) fun s18 =>
      j101 s18)
    else
      some s0

def g_X9_estimates (v1 : Int32) (s0 : qe_S) : Option (qe_S) :=
  qm_l (qe_sl s0 0 17 (0 : Int64)) fun s1 =>
  qm_l (qe_sl s1 0 18 (1 : Int64)) fun s2 =>
  qm_l (0 : Int32) fun a3 =>
  g_X9_estimates_L12 v1 qm_F a3 s2

def g_X9_estimate (v1 : Int32) (v2 : Int32) (s0 : qe_S) : Option (Int64 × qe_S) :=
  qm_b (g_X9_isPart v2 s0) fun a2 s1 =>
  if a2 = (0 : Int32) then (
    qm_b (g_X9_noLong (-2 : Int32) s1) fun b18 s17 =>
    some (b18, s17))
  else
  qm_b (g_X9_lays (0 : Int32) s1) fun a4 s3 =>
  if a4 = (0 : Int32) then (
    qm_b (g_X9_noLong (-7 : Int32) s3) fun b16 s15 =>
    some (b16, s15))
  else
  qm_b (g_X9_isPlace v1 s3) fun a6 s5 =>
  if a6 = (0 : Int32) then (
    qm_b (g_X9_noLong (-2 : Int32) s5) fun b14 s13 =>
    some (b14, s13))
  else
  qm_l (qe_si s5 0 19 (0 : Int32)) fun s7 =>
  qm_b (g_X9_chosenBy v1.toInt64 s7) fun a9 s8 =>
  qm_o (g_X9_estimates a9 s8) fun s10 =>
  if (s10.1 0 19) = (0 : Int32) then (
    if v2 = (0 : Int32) then (
      some ((s10.2 0 17), s10))
    else
      some ((s10.2 0 18), s10))
  else
  qm_b (g_X9_noLong (-7 : Int32) s10) fun b12 s11 =>
  some (b12, s11)

def g_X9_times (v1 : Int64) (v3 : Int64) (v5 : Int64) (v7 : Int64) (s0 : qe_S) : Option (qe_S) :=
  qm_b (g_X9_product v1 v5 s0) fun b2 s1 =>
  qm_b (g_X9_product v3 v7 s1) fun b4 s3 =>
  qm_o (g_X9_is b2 b4 s3) fun s5 =>
  some s5

def g_X9_meansOf_L16 (k49 : Int64 → qe_S → Option (Int32 × qe_S)) (v1 : Int32) (v2 : Int64) (v4 : Int64) : Nat → Int64 → Int32 → qe_S → Option (Int32 × qe_S)
  | 0, _, _, _ => none
  | n + 1, v6, v8, s0 =>
    qm_g (0 : Int32) 122 <| qm_l (s0.1 1 (0 : Int32).toNatClampNeg) fun a7 =>
    if a7 ≤ v8 then (
      k49 v6 s0)
    else
    qm_g ((nI 26) + v8) 122 <| qm_l (s0.1 1 ((nI 26) + v8).toNatClampNeg) fun a8 =>
    qm_l (v6 + a8.toInt64) fun b9 =>
    qm_l (v8 + (1 : Int32)) fun a10 =>
    g_X9_meansOf_L16 k49 v1 v2 v4 n b9 a10 s0

def g_X9_meansOf_L52 (k193 : Int64 → Int64 → qe_S → Option (Int32 × qe_S)) (v1 : Int32) (v6 : Int64) : Nat → Int64 → Int64 → Int32 → qe_S → Option (Int32 × qe_S)
  | 0, _, _, _, _ => none
  | n + 1, v2, v4, v8, s0 =>
    if (s0.1 0 12) ≤ v8 then (
      k193 v2 v4 s0)
    else
    if (s0.1 0 19) = (0 : Int32) then (
      qm_j (fun  (s16 : qe_S) =>
          qm_g v8 26 <| qm_l (s16.2 11 v8.toNatClampNeg) fun b17 =>
          qm_b (g_X9_lowest b17 (s16.2 0 6) (0 : Int32) s16) fun b19 s18 =>
          qm_g v8 26 <| qm_l (s18.2 11 v8.toNatClampNeg) fun b20 =>
          qm_b (g_X9_lowest b20 (s18.2 0 6) (1 : Int32) s18) fun b22 s21 =>
          qm_o (g_X9_times (s16.2 0 17) (s16.2 0 18) b19 b22 s21) fun s23 =>
          qm_o (g_X9_adds v2 v4 (s23.2 0 17) (s23.2 0 18) s23) fun s24 =>
          qm_l (s24.2 0 17) fun b25 =>
          qm_l (s24.2 0 18) fun b26 =>
          qm_l (v8 + (1 : Int32)) fun a27 =>
          g_X9_meansOf_L52 k193 v1 v6 n b25 b26 a27 s24
      ) fun j119 =>
      qm_g v8 26 <| qm_l (s0.1 12 v8.toNatClampNeg) fun a28 =>
      qm_o (g_X9_estimates a28 s0) fun s29 =>
      if v1 = (0 : Int32) then (
        j119 s29)
      else
      qm_o (g_X9_adds (s29.2 0 17) (s29.2 0 18) (-v6) (1 : Int64) s29) fun s30 =>
      qm_o (g_X9_times (s30.2 0 17) (s30.2 0 18) (s30.2 0 17) (s30.2 0 18) s30) fun s31 =>
      j119 s31)
    else
      k193 v2 v4 s0

def g_X9_meansOf (v1 : Int32) (s0 : qe_S) : Option (Int32 × qe_S) :=
  qm_l (qe_si s0 0 19 (0 : Int32)) fun s1 =>
  qm_l (0 : Int64) fun b2 =>
  qm_l (1 : Int64) fun b3 =>
  qm_l (0 : Int64) fun b4 =>
  qm_l (0 : Int32) fun a5 =>
  g_X9_meansOf_L16
      (fun (b11 : Int64) (s12 : qe_S) =>
        qm_l (0 : Int32) fun a13 =>
        g_X9_meansOf_L52
            (fun (b32 : Int64) (b33 : Int64) (s34 : qe_S) =>
              qm_l (qe_sl s34 0 17 b32) fun s35 =>
              qm_l (qe_sl s35 0 18 b33) fun s36 =>
              if (s36.1 0 19) = (0 : Int32) then (
                some ((1 : Int32), s36))
              else
                some ((0 : Int32), s36))
            v1 b11 qm_F b2 b3 a13 s12)
      v1 b2 b3 qm_F b4 a5 s1

def g_X9_meant (v1 : Int32) (v2 : Int32) (s0 : qe_S) : Option (Int64 × qe_S) :=
  qm_b (g_X9_isPart v1 s0) fun a2 s1 =>
  if a2 = (0 : Int32) then (
    qm_b (g_X9_noLong (-2 : Int32) s1) fun b12 s11 =>
    some (b12, s11))
  else
  qm_b (g_X9_laysRuns s1) fun a4 s3 =>
  if a4 = (0 : Int32) then (
    qm_b (g_X9_noLong (-7 : Int32) s3) fun b6 s5 =>
    some (b6, s5))
  else
  qm_b (g_X9_meansOf v2 s3) fun a8 s7 =>
  if a8 = (0 : Int32) then (
    qm_b (g_X9_noLong (-7 : Int32) s7) fun b10 s9 =>
    some (b10, s9))
  else
  if v1 = (0 : Int32) then (
    some ((s7.2 0 17), s7))
  else
    some ((s7.2 0 18), s7)

def g_X9_mean (v1 : Int32) (s0 : qe_S) : Option (Int64 × qe_S) :=
  qm_b (g_X9_meant v1 (0 : Int32) s0) fun b2 s1 =>
  some (b2, s1)

def g_X9_spread (v1 : Int32) (s0 : qe_S) : Option (Int64 × qe_S) :=
  qm_b (g_X9_meant v1 (1 : Int32) s0) fun b2 s1 =>
  some (b2, s1)

def g_X9_twice (v1 : Int32) (v2 : Int32) (s0 : qe_S) : Option (Int32 × qe_S) :=
  qm_b (g_X9_lays (1 : Int32) s0) fun a2 s1 =>
  if a2 = (0 : Int32) then (
    qm_b (g_X9_no (-7 : Int32) s1) fun a4 s3 =>
    some (a4, s3))
  else
  qm_b (g_X9_lays (0 : Int32) s1) fun a6 s5 =>
  if a6 = (0 : Int32) then (
    qm_b (g_X9_no (-7 : Int32) s5) fun a24 s23 =>
    some (a24, s23))
  else
  qm_b (g_X9_isPlace v1 s5) fun a8 s7 =>
  if a8 = (0 : Int32) then (
    qm_b (g_X9_no (-2 : Int32) s7) fun a22 s21 =>
    some (a22, s21))
  else
  qm_b (g_X9_chosenBy v1.toInt64 s7) fun a10 s9 =>
  qm_b (g_X9_lays (1 : Int32) s9) fun a12 s11 =>
  qm_b (g_X9_isPlace v2 s11) fun a14 s13 =>
  if a14 = (0 : Int32) then (
    qm_b (g_X9_no (-2 : Int32) s13) fun a20 s19 =>
    some (a20, s19))
  else
  qm_b (g_X9_arcs (1 : Int32) 6 7 a10 s13) fun a16 s15 =>
  qm_b (g_X9_chosenBy v2.toInt64 s15) fun a18 s17 =>
  some (a18, s17)

def g_X9_overlaps_L10  (v0 : Int64) (v2 : Int64) (v4 : Int64) (v6 : Int64) (v8 : Int64) : Nat → Int64 → Int64 → qe_S → Option (Int64 × qe_S)
  | 0, _, _, _ => none
  | n + 1, v10, v12, s0 =>
    if (v4 + v8) < v12 then (
      some (v10, s0))
    else
    qm_b (g_J9_min_f86c9 (v0 + v2) (v12 + v6) s0) fun b4 s3 =>
    qm_b (g_J9_max_f86c9 v0 v12 s3) fun b6 s5 =>
    qm_b (g_J9_max_f86c9 (0 : Int64) (b4 - b6) s5) fun b8 s7 =>
    qm_l (v10 + b8) fun b9 =>
    qm_l (v12 + v8) fun b10 =>
    g_X9_overlaps_L10 v0 v2 v4 v6 v8 n b9 b10 s7

def g_X9_overlaps (v0 : Int64) (v2 : Int64) (v4 : Int64) (v6 : Int64) (v8 : Int64) (s0 : qe_S) : Option (Int64 × qe_S) :=
  qm_l (0 : Int64) fun b1 =>
  qm_l (v4 - v8) fun b2 =>
  g_X9_overlaps_L10 v0 v2 v4 v6 v8 qm_F b1 b2 s0

def g_X9_both_L76 (k189 : Int64 → qe_S → Option (Int64 × qe_S)) (v1 : Int32) (v2 : Int32) (v3 : Int32) (v4 : Int64) : Nat → Int64 → Int32 → qe_S → Option (Int64 × qe_S)
  | 0, _, _, _ => none
  | n + 1, v6, v8, s0 =>
    if (s0.1 0 12) ≤ v8 then (
      k189 v6 s0)
    else
    qm_j (fun (b21 : Int64) (s22 : qe_S) =>
        qm_l (v8 + (1 : Int32)) fun a23 =>
        g_X9_both_L76 k189 v1 v2 v3 v4 n b21 a23 s22
    ) fun j183 =>
    qm_g v8 26 <| qm_l (s0.1 12 v8.toNatClampNeg) fun a24 =>
    qm_b (g_X9_has a24 v1 s0) fun a26 s25 =>
    if a26 = (0 : Int32) then (
      j183 v6 s25)
    else
    qm_g v8 26 <| qm_l (s25.1 12 v8.toNatClampNeg) fun a27 =>
    qm_b (g_X9_has a27 v2 s25) fun a29 s28 =>
    if a29 = (0 : Int32) then (
      j183 v6 s28)
    else
    qm_g v8 26 <| qm_l (s28.1 12 v8.toNatClampNeg) fun a30 =>
    qm_b (g_X9_arcs (1 : Int32) 6 7 a30 s28) fun a32 s31 =>
    qm_g v8 26 <| qm_l (s31.2 11 v8.toNatClampNeg) fun b33 =>
    qm_g v1 12 <| qm_l (s31.2 6 v1.toNatClampNeg) fun b34 =>
    qm_g v1 12 <| qm_l (s31.2 7 v1.toNatClampNeg) fun b35 =>
    qm_g v2 12 <| qm_l (s31.2 6 v2.toNatClampNeg) fun b36 =>
    qm_g v2 12 <| qm_l (s31.2 7 v2.toNatClampNeg) fun b37 =>
    qm_b (g_X9_overlaps b34 b35 b36 b37 (s31.2 0 6) s31) fun b39 s38 =>
    qm_l (v6 + (b33 * b39)) fun b40 =>
    j183 b40 s38

def g_X9_both (v1 : Int32) (v2 : Int32) (v3 : Int32) (s0 : qe_S) : Option (Int64 × qe_S) :=
  qm_b (g_X9_isUnit v1 s0) fun a2 s1 =>
  if a2 = (0 : Int32) then (
    qm_b (g_X9_noLong (-1 : Int32) s1) fun b4 s3 =>
    some (b4, s3))
  else
  qm_b (g_X9_isUnit v2 s1) fun a6 s5 =>
  if a6 = (0 : Int32) then (
    qm_b (g_X9_noLong (-1 : Int32) s5) fun b50 s49 =>
    some (b50, s49))
  else
  qm_b (g_X9_isPart v3 s5) fun a8 s7 =>
  if a8 = (0 : Int32) then (
    qm_b (g_X9_noLong (-2 : Int32) s7) fun b48 s47 =>
    some (b48, s47))
  else
  qm_b (g_X9_lays (1 : Int32) s7) fun a10 s9 =>
  if a10 = (0 : Int32) then (
    qm_b (g_X9_noLong (-7 : Int32) s9) fun b12 s11 =>
    some (b12, s11))
  else
  qm_b (g_X9_laysRuns s9) fun a14 s13 =>
  if a14 = (0 : Int32) then (
    qm_b (g_X9_noLong (-7 : Int32) s13) fun b46 s45 =>
    some (b46, s45))
  else
  qm_l (s13.2 0 6) fun b15 =>
  qm_b (g_X9_lays (1 : Int32) s13) fun a17 s16 =>
  qm_l (0 : Int64) fun b18 =>
  qm_l (0 : Int32) fun a19 =>
  g_X9_both_L76
      (fun (b41 : Int64) (s42 : qe_S) =>
        qm_b (g_X9_lowest b41 (b15 * (s42.2 0 6)) v3 s42) fun b44 s43 =>
        some (b44, s43))
      v1 v2 v3 b15 qm_F b18 a19 s16

def g_X9_keptOf (v1 : Int32) (v2 : Int64) (s0 : qe_S) : Option (Int64 × qe_S) :=
  qm_g v1 12 <| qm_l (s0.2 6 v1.toNatClampNeg) fun b1 =>
  qm_g v1 12 <| qm_l (s0.2 7 v1.toNatClampNeg) fun b2 =>
  qm_g v1 12 <| qm_l (s0.2 8 v1.toNatClampNeg) fun b3 =>
  qm_zl (s0.2 0 6) <|
  qm_g v1 12 <| qm_l (s0.2 9 v1.toNatClampNeg) fun b4 =>
  qm_b (g_X9_overlaps b1 b2 (qm_lr (b3 + v2) (s0.2 0 6)) b4 (s0.2 0 6) s0) fun b6 s5 =>
  some (b6, s5)

def g_X9_kept (v1 : Int32) (v2 : Int32) (v3 : Int32) (s0 : qe_S) : Option (Int64 × qe_S) :=
  qm_b (g_X9_isUnit v1 s0) fun a2 s1 =>
  if a2 = (0 : Int32) then (
    qm_b (g_X9_noLong (-1 : Int32) s1) fun b20 s19 =>
    some (b20, s19))
  else
  qm_b (g_X9_isPart v3 s1) fun a4 s3 =>
  if a4 = (0 : Int32) then (
    qm_b (g_X9_noLong (-2 : Int32) s3) fun b18 s17 =>
    some (b18, s17))
  else
  qm_b (g_X9_lays (nI 2) s3) fun a6 s5 =>
  if a6 = (0 : Int32) then (
    qm_b (g_X9_noLong (-7 : Int32) s5) fun b16 s15 =>
    some (b16, s15))
  else
  qm_b (g_X9_isPlace v2 s5) fun a8 s7 =>
  if a8 = (0 : Int32) then (
    qm_b (g_X9_noLong (-2 : Int32) s7) fun b10 s9 =>
    some (b10, s9))
  else
  qm_b (g_X9_keptOf v1 v2.toInt64 s7) fun b12 s11 =>
  qm_b (g_X9_lowest b12 (s11.2 0 6) v3 s11) fun b14 s13 =>
  some (b14, s13)

def g_X9_overlapOf_L5  (v1 : Int64) : Nat → Int64 → Int32 → qe_S → Option (Int64 × qe_S)
  | 0, _, _, _ => none
  | n + 1, v3, v5, s0 =>
    qm_g (0 : Int32) 122 <| qm_l (s0.1 1 (0 : Int32).toNatClampNeg) fun a3 =>
    if a3 ≤ v5 then (
      some (v3, s0))
    else
    qm_b (g_X9_keptOf v5 v1 s0) fun b5 s4 =>
    qm_l (v3 + b5) fun b6 =>
    qm_l (v5 + (1 : Int32)) fun a7 =>
    g_X9_overlapOf_L5 v1 n b6 a7 s4

def g_X9_overlapOf (v1 : Int64) (s0 : qe_S) : Option (Int64 × qe_S) :=
  qm_l (0 : Int64) fun b1 =>
  qm_l (0 : Int32) fun a2 =>
  g_X9_overlapOf_L5 v1 qm_F b1 a2 s0

def g_X9_overlap (v1 : Int32) (v2 : Int32) (s0 : qe_S) : Option (Int64 × qe_S) :=
  qm_b (g_X9_isPart v2 s0) fun a2 s1 =>
  if a2 = (0 : Int32) then (
    qm_b (g_X9_noLong (-2 : Int32) s1) fun b16 s15 =>
    some (b16, s15))
  else
  qm_b (g_X9_lays (nI 2) s1) fun a4 s3 =>
  if a4 = (0 : Int32) then (
    qm_b (g_X9_noLong (-7 : Int32) s3) fun b14 s13 =>
    some (b14, s13))
  else
  qm_b (g_X9_isPlace v1 s3) fun a6 s5 =>
  if a6 = (0 : Int32) then (
    qm_b (g_X9_noLong (-2 : Int32) s5) fun b8 s7 =>
    some (b8, s7))
  else
  qm_b (g_X9_overlapOf v1.toInt64 s5) fun b10 s9 =>
  qm_b (g_X9_lowest b10 (s9.2 0 6) v2 s9) fun b12 s11 =>
  some (b12, s11)

def g_X9_shift_L56 (k217 : Int64 → Int64 → qe_S → Option (Int32 × qe_S)) (v1 : Int32) (v6 : Int32) : Nat → Int64 → Int64 → Int32 → qe_S → Option (Int32 × qe_S)
  | 0, _, _, _, _ => none
  | n + 1, v2, v4, v7, s0 =>
    if (nI 4) ≤ v7 then (
      k217 v2 v4 s0)
    else
    qm_j (fun (q13 : Int64) (q14 : Int64) (s15 : qe_S) =>
        qm_j (fun (b16 : Int64) (q17 : Int64) (q18 : Int64) (s19 : qe_S) =>
            qm_j (fun (b20 : Int64) (b21 : Int64) (q22 : Int32) (s23 : qe_S) =>
                qm_j (fun (b24 : Int64) (b25 : Int64) (s26 : qe_S) =>
                    qm_l (v7 + (1 : Int32)) fun a27 =>
                    g_X9_shift_L56 k217 v1 v6 n b24 b25 a27 s26
                ) fun j211 =>
                qm_j (fun  (s28 : qe_S) =>
                    j211 b20 b21 s28
                ) fun j204 =>
                if q22 = (0 : Int32) then (
                  if b21 = v4 then (
                    if b20 < v2 then (
                      j204 s23)
                    else
                      j211 v2 v4 s23)
                  else
                    j211 v2 v4 s23)
                else
                  j204 s23
            ) fun j179 =>
            qm_l (q18 + q17) fun b29 =>
            qm_zl (s19.2 0 6) <|
            qm_l (qm_lr ((b16 - b29) + ((lN 2) * (s19.2 0 6))) (s19.2 0 6)) fun b30 =>
            qm_b (g_X9_overlapOf b30 s19) fun b32 s31 =>
            if v1 = (0 : Int32) then (
              if b32 ≤ v4 then (
                j179 b30 b32 (0 : Int32) s31)
              else
                j179 b30 b32 (1 : Int32) s31)
            else
            if v4 ≤ b32 then (
              j179 b30 b32 (0 : Int32) s31)
            else
              j179 b30 b32 (1 : Int32) s31
        ) fun j114 =>
        qm_l (q14 + q13) fun b33 =>
        qm_g v6 12 <| qm_l (s15.2 8 v6.toNatClampNeg) fun b34 =>
        if (nI 2) ≤ v7 then (
          qm_g v6 12 <| qm_l (s15.2 9 v6.toNatClampNeg) fun b35 =>
          j114 b33 b35 b34 s15)
        else
          j114 b33 (0 : Int64) b34 s15
    ) fun j87 =>
    qm_g v6 12 <| qm_l (s0.2 6 v6.toNatClampNeg) fun b36 =>
    qm_z (nI 2) <|
    if (qm_ir v7 (nI 2)) = (0 : Int32) then (
      j87 (0 : Int64) b36 s0)
    else
    qm_g v6 12 <| qm_l (s0.2 7 v6.toNatClampNeg) fun b37 =>
    j87 b37 b36 s0

def g_X9_shift_L42  (v1 : Int32) : Nat → Int64 → Int64 → Int32 → qe_S → Option (Int32 × qe_S)
  | 0, _, _, _, _ => none
  | n + 1, v2, v4, v6, s0 =>
    qm_g (0 : Int32) 122 <| qm_l (s0.1 1 (0 : Int32).toNatClampNeg) fun a9 =>
    if a9 ≤ v6 then (
      some (v2.toInt32, s0))
    else
    qm_l (0 : Int32) fun a10 =>
    g_X9_shift_L56
        (fun (b38 : Int64) (b39 : Int64) (s40 : qe_S) =>
          qm_l (v6 + (1 : Int32)) fun a41 =>
          g_X9_shift_L42 v1 n b38 b39 a41 s40)
        v1 v6 qm_F v2 v4 a10 s0

def g_X9_shift (v1 : Int32) (s0 : qe_S) : Option (Int32 × qe_S) :=
  qm_b (g_X9_within v1 (0 : Int32) (1 : Int32) s0) fun a2 s1 =>
  if a2 = (0 : Int32) then (
    qm_b (g_X9_no (-1 : Int32) s1) fun a45 s44 =>
    some (a45, s44))
  else
  qm_b (g_X9_lays (nI 2) s1) fun a4 s3 =>
  if a4 = (0 : Int32) then (
    qm_b (g_X9_no (-7 : Int32) s3) fun a43 s42 =>
    some (a43, s42))
  else
  qm_l (0 : Int64) fun b5 =>
  qm_b (g_X9_overlapOf (0 : Int64) s3) fun b7 s6 =>
  qm_l (0 : Int32) fun a8 =>
  g_X9_shift_L42 v1 qm_F b5 b7 a8 s6

def g_X9_isManner (v0 : Int32) (s0 : qe_S) : Option (Int32 × qe_S) :=
  qm_b (g_X9_within v0 (0 : Int32) (1 : Int32) s0) fun a2 s1 =>
  qm_bo a2 (some (a2, s1))

def g_X9_finalOf_L80 (k194 : Int32 → qe_S → Option (Int32 × qe_S)) (v1 : Int32) (v2 : Int32) (v3 : Int32) (v4 : Int32) (v6 : Int32) (v7 : Int32) : Nat → Int32 → Int32 → qe_S → Option (Int32 × qe_S)
  | 0, _, _, _ => none
  | n + 1, v5, v8, s0 =>
    if v3 ≤ v8 then (
      k194 v5 s0)
    else
    qm_g v7 12 <| qm_l (s0.1 14 v7.toNatClampNeg) fun a16 =>
    if a16 = (-5 : Int32) then (
      qm_j (fun (a17 : Int32) (s18 : qe_S) =>
          qm_l (v8 + (1 : Int32)) fun a19 =>
          g_X9_finalOf_L80 k194 v1 v2 v3 v4 v6 v7 n a17 a19 s18
      ) fun j188 =>
      qm_z v3 <|
      qm_g (qm_ir (v6 + v8) v3) 12 <| qm_l (s0.1 5 (qm_ir (v6 + v8) v3).toNatClampNeg) fun a20 =>
      qm_b (g_X9_has (v1 ||| v5) a20 s0) fun a22 s21 =>
      if a22 = (0 : Int32) then (
        qm_g ((nI 38) + a20) 122 <| qm_l (s21.1 1 ((nI 38) + a20).toNatClampNeg) fun a23 =>
        if a23 = (1 : Int32) then (
          j188 v5 s21)
        else
        qm_j (fun  (s24 : qe_S) =>
            qm_g v7 12 <| qm_l (qe_si s24 14 v7.toNatClampNeg a20) fun s25 =>
            qm_l (v5 ||| ((1 : Int32) <<< (a20 &&& 31))) fun a26 =>
            j188 a26 s25
        ) fun j170 =>
        if v2 = (1 : Int32) then (
          qm_g ((nI 14) + a20) 122 <| qm_l (s21.1 1 ((nI 14) + a20).toNatClampNeg) fun a27 =>
          qm_g ((nI 14) + v7) 122 <| qm_l (s21.1 1 ((nI 14) + v7).toNatClampNeg) fun a28 =>
          if a27 = a28 then (
            j170 s21)
          else
            j188 v5 s21)
        else
          j170 s21)
      else
        j188 v5 s21)
    else
      k194 v5 s0

def g_X9_finalOf_L16  (v1 : Int32) (v2 : Int32) (v3 : Int32) : Nat → Int32 → Int32 → Int32 → qe_S → Option (Int32 × qe_S)
  | 0, _, _, _, _ => none
  | n + 1, v4, v5, v6, s0 =>
    if v3 ≤ v6 then (
      some ((v4 ||| v5), s0))
    else
    qm_j (fun (a4 : Int32) (a5 : Int32) (s6 : qe_S) =>
        qm_l (v6 + (1 : Int32)) fun a7 =>
        g_X9_finalOf_L16 v1 v2 v3 n a4 a5 a7 s6
    ) fun j194 =>
    qm_g v6 12 <| qm_l (s0.1 5 v6.toNatClampNeg) fun a8 =>
    qm_b (g_X9_has v1 a8 s0) fun a10 s9 =>
    if a10 = (0 : Int32) then (
      j194 v4 v5 s9)
    else
    qm_g ((nI 38) + a8) 122 <| qm_l (s9.1 1 ((nI 38) + a8).toNatClampNeg) fun a11 =>
    if a11 = (0 : Int32) then (
      j194 v4 v5 s9)
    else
    qm_l (v4 &&& (((1 : Int32) <<< (a8 &&& 31)) ^^^ (-1 : Int32))) fun a12 =>
    qm_g a8 12 <| qm_l (qe_si s9 14 a8.toNatClampNeg (-5 : Int32)) fun s13 =>
    qm_l (1 : Int32) fun a14 =>
    g_X9_finalOf_L80
        (fun (a29 : Int32) (s30 : qe_S) =>
          j194 a12 a29 s30)
        v1 v2 v3 a12 v6 a8 qm_F v5 a14 s13

def g_X9_finalOf (v1 : Int32) (v2 : Int32) (s0 : qe_S) : Option (Int32 × qe_S) :=
  qm_g (0 : Int32) 122 <| qm_l (s0.1 1 (0 : Int32).toNatClampNeg) fun a1 =>
  qm_l (0 : Int32) fun a2 =>
  qm_l (0 : Int32) fun a3 =>
  g_X9_finalOf_L16 v1 v2 a1 qm_F v1 a2 a3 s0

def g_X9_replaced (v1 : Int32) (v2 : Int32) (s0 : qe_S) : Option (Int32 × qe_S) :=
  qm_b (g_X9_isManner v2 s0) fun a2 s1 =>
  if a2 = (0 : Int32) then (
    qm_b (g_X9_no (-1 : Int32) s1) fun a16 s15 =>
    some (a16, s15))
  else
  qm_b (g_X9_lays (0 : Int32) s1) fun a4 s3 =>
  if a4 = (0 : Int32) then (
    qm_b (g_X9_no (-7 : Int32) s3) fun a14 s13 =>
    some (a14, s13))
  else
  qm_b (g_X9_isPlace v1 s3) fun a6 s5 =>
  if a6 = (0 : Int32) then (
    qm_b (g_X9_no (-2 : Int32) s5) fun a8 s7 =>
    some (a8, s7))
  else
  qm_b (g_X9_chosenBy v1.toInt64 s5) fun a10 s9 =>
  qm_b (g_X9_finalOf a10 v2 s9) fun a12 s11 =>
  some (a12, s11)

def g_X9_substitute (v1 : Int32) (v2 : Int32) (v3 : Int32) (s0 : qe_S) : Option (Int32 × qe_S) :=
  qm_b (g_X9_isUnit v1 s0) fun a2 s1 =>
  if a2 = (0 : Int32) then (
    qm_b (g_X9_no (-1 : Int32) s1) fun a4 s3 =>
    some (a4, s3))
  else
  qm_b (g_X9_isManner v3 s1) fun a6 s5 =>
  if a6 = (0 : Int32) then (
    qm_b (g_X9_no (-1 : Int32) s5) fun a31 s30 =>
    some (a31, s30))
  else
  qm_b (g_X9_lays (0 : Int32) s5) fun a8 s7 =>
  if a8 = (0 : Int32) then (
    qm_b (g_X9_no (-7 : Int32) s7) fun a29 s28 =>
    some (a29, s28))
  else
  qm_b (g_X9_isPlace v2 s7) fun a10 s9 =>
  if a10 = (0 : Int32) then (
    qm_b (g_X9_no (-2 : Int32) s9) fun a27 s26 =>
    some (a27, s26))
  else
  qm_b (g_X9_chosenBy v2.toInt64 s9) fun a12 s11 =>
  qm_b (g_X9_has a12 v1 s11) fun a14 s13 =>
  if a14 = (0 : Int32) then (
    qm_b (g_X9_no (-3 : Int32) s13) fun a16 s15 =>
    some (a16, s15))
  else
  qm_g ((nI 38) + v1) 122 <| qm_l (s13.1 1 ((nI 38) + v1).toNatClampNeg) fun a17 =>
  if a17 = (0 : Int32) then (
    qm_b (g_X9_no (-3 : Int32) s13) fun a25 s24 =>
    some (a25, s24))
  else
  qm_b (g_X9_finalOf a12 v3 s13) fun a19 s18 =>
  qm_g v1 12 <| qm_l (s18.1 14 v1.toNatClampNeg) fun a20 =>
  if a20 = (-5 : Int32) then (
    qm_b (g_X9_no (-5 : Int32) s18) fun a23 s22 =>
    some (a23, s22))
  else
  qm_g v1 12 <| qm_l (s18.1 14 v1.toNatClampNeg) fun a21 =>
  some (a21, s18)

def g_X9_finals_L55 (k102 : Int64 → qe_S → Option (Int64 × qe_S)) (v1 : Int32) (v2 : Int32) (v3 : Int32) : Nat → Int64 → Int32 → qe_S → Option (Int64 × qe_S)
  | 0, _, _, _ => none
  | n + 1, v4, v6, s0 =>
    if (s0.1 0 12) ≤ v6 then (
      k102 v4 s0)
    else
    qm_j (fun (b14 : Int64) (s15 : qe_S) =>
        qm_l (v6 + (1 : Int32)) fun a16 =>
        g_X9_finals_L55 k102 v1 v2 v3 n b14 a16 s15
    ) fun j96 =>
    qm_g v6 26 <| qm_l (s0.1 12 v6.toNatClampNeg) fun a17 =>
    qm_b (g_X9_finalOf a17 v2 s0) fun a19 s18 =>
    qm_b (g_X9_has a19 v1 s18) fun a21 s20 =>
    if a21 = (0 : Int32) then (
      j96 v4 s20)
    else
    qm_g v6 26 <| qm_l (s20.2 11 v6.toNatClampNeg) fun b22 =>
    qm_l (v4 + b22) fun b23 =>
    j96 b23 s20

def g_X9_finals (v1 : Int32) (v2 : Int32) (v3 : Int32) (s0 : qe_S) : Option (Int64 × qe_S) :=
  qm_b (g_X9_isUnit v1 s0) fun a2 s1 =>
  if a2 = (0 : Int32) then (
    qm_b (g_X9_noLong (-1 : Int32) s1) fun b4 s3 =>
    some (b4, s3))
  else
  qm_b (g_X9_isManner v2 s1) fun a6 s5 =>
  if a6 = (0 : Int32) then (
    qm_b (g_X9_noLong (-1 : Int32) s5) fun b33 s32 =>
    some (b33, s32))
  else
  qm_b (g_X9_isPart v3 s5) fun a8 s7 =>
  if a8 = (0 : Int32) then (
    qm_b (g_X9_noLong (-2 : Int32) s7) fun b31 s30 =>
    some (b31, s30))
  else
  qm_b (g_X9_laysRuns s7) fun a10 s9 =>
  if a10 = (0 : Int32) then (
    qm_b (g_X9_noLong (-7 : Int32) s9) fun b29 s28 =>
    some (b29, s28))
  else
  qm_l (0 : Int64) fun b11 =>
  qm_l (0 : Int32) fun a12 =>
  g_X9_finals_L55
      (fun (b24 : Int64) (s25 : qe_S) =>
        qm_b (g_X9_lowest b24 (s25.2 0 6) v3 s25) fun b27 s26 =>
        some (b27, s26))
      v1 v2 v3 qm_F b11 a12 s9

def g_X9_drawn_L55  (v1 : Int32) (v2 : Int32) : Nat → Int64 → Int32 → Int32 → qe_S → Option (Int32 × qe_S)
  | 0, _, _, _, _ => none
  | n + 1, v5, v7, v8, s0 =>
    if v2 ≤ v8 then (
      some (v7, s0))
    else
    qm_j (fun (b9 : Int64) (a10 : Int32) (s11 : qe_S) =>
        qm_l (v8 + (1 : Int32)) fun a12 =>
        g_X9_drawn_L55 v1 v2 n b9 a10 a12 s11
    ) fun j108 =>
    qm_l ((v5 * (lN 6364136223846793005)) + (lN 1442695040888963407)) fun b13 =>
    qm_zl (s0.2 0 6) <|
    qm_g v1 12 <| qm_l (s0.2 6 v1.toNatClampNeg) fun b14 =>
    qm_g v1 12 <| qm_l (s0.2 7 v1.toNatClampNeg) fun b15 =>
    qm_b (g_X9_isOn (qm_lr (qm_lu b13 (nI 33)) (s0.2 0 6)) b14 b15 (s0.2 0 6) s0) fun a17 s16 =>
    if a17 = (0 : Int32) then (
      j108 b13 v7 s16)
    else
      qm_l (v7 + (1 : Int32)) fun a18 =>
      j108 b13 a18 s16

def g_X9_drawn (v1 : Int32) (v2 : Int32) (v3 : Int64) (s0 : qe_S) : Option (Int32 × qe_S) :=
  qm_b (g_X9_isUnit v1 s0) fun a2 s1 =>
  if a2 = (0 : Int32) then (
    qm_b (g_X9_no (-1 : Int32) s1) fun a24 s23 =>
    some (a24, s23))
  else
  qm_b (g_X9_within v2 (1 : Int32) (nI 60) s1) fun a4 s3 =>
  if a4 = (0 : Int32) then (
    qm_b (g_X9_no (-2 : Int32) s3) fun a22 s21 =>
    some (a22, s21))
  else
  qm_b (g_X9_lays (0 : Int32) s3) fun a6 s5 =>
  if a6 = (0 : Int32) then (
    qm_b (g_X9_no (-7 : Int32) s5) fun a20 s19 =>
    some (a20, s19))
  else
  qm_l (0 : Int32) fun a7 =>
  qm_l (0 : Int32) fun a8 =>
  g_X9_drawn_L55 v1 v2 qm_F v3 a7 a8 s5

def g_X9_feed (v1 : Int32) (s0 : qe_S) : Option (Int32 × qe_S) :=
  qm_b (g_X9_within v1 (1 : Int32) (nI 127) s0) fun a2 s1 =>
  if a2 = (0 : Int32) then (
    qm_b (g_X9_no (-2 : Int32) s1) fun a8 s7 =>
    some (a8, s7))
  else
  if (s1.1 0 21) = (nI 120) then (
    qm_b (g_X9_no (-4 : Int32) s1) fun a6 s5 =>
    some (a6, s5))
  else
  qm_l (qe_si s1 0 21 ((s1.1 0 21) + (1 : Int32))) fun s3 =>
  qm_g (s1.1 0 21) 120 <| qm_l (qe_si s3 15 (s1.1 0 21).toNatClampNeg v1) fun s4 =>
  some ((s4.1 0 21), s4)

def g_X9_wrong  (s0 : qe_S) : Option (qe_S) :=
  if (0 : Int32) ≤ (s0.1 0 24) then (
    some s0)
  else
    qm_l (qe_si s0 0 24 (s0.1 0 23)) fun s1 =>
    some s1

def g_X9_isFrom (v1 : Int32) (v2 : Int32) (s0 : qe_S) : Option (Int32 × qe_S) :=
  qm_j (fun  (s1 : qe_S) =>
      some ((0 : Int32), s1)
  ) fun j39 =>
  if (0 : Int32) ≤ (s0.1 0 24) then (
    j39 s0)
  else
  if (s0.1 0 21) ≤ (s0.1 0 23) then (
    j39 s0)
  else
  qm_g (s0.1 0 23) 120 <| qm_l (s0.1 15 (s0.1 0 23).toNatClampNeg) fun a2 =>
  qm_b (g_X9_within a2 v1 v2 s0) fun a4 s3 =>
  if a4 = (0 : Int32) then (
    j39 s3)
  else
    some ((1 : Int32), s3)

def g_X9_number_L4 (k54 : Int32 → Int32 → qe_S → Option (Int32 × qe_S)) (v1 : Int32) : Nat → Int32 → Int32 → qe_S → Option (Int32 × qe_S)
  | 0, _, _, _ => none
  | n + 1, v2, v3, s0 =>
    if v1 ≤ v3 then (
      k54 v2 v3 s0)
    else
    qm_b (g_X9_isFrom (nI 48) (nI 57) s0) fun a6 s5 =>
    if a6 = (0 : Int32) then (
      k54 v2 v3 s5)
    else
    qm_g (s5.1 0 23) 120 <| qm_l (s5.1 15 (s5.1 0 23).toNatClampNeg) fun a7 =>
    qm_l ((((nI 10) * v2) + a7) - (nI 48)) fun a8 =>
    qm_l (qe_si s5 0 23 ((s5.1 0 23) + (1 : Int32))) fun s9 =>
    qm_l (v3 + (1 : Int32)) fun a10 =>
    g_X9_number_L4 k54 v1 n a8 a10 s9

def g_X9_number (v1 : Int32) (s0 : qe_S) : Option (Int32 × qe_S) :=
  qm_l (0 : Int32) fun a1 =>
  qm_l (0 : Int32) fun a2 =>
  g_X9_number_L4
      (fun (a11 : Int32) (a12 : Int32) (s13 : qe_S) =>
        if a12 = (0 : Int32) then (
          qm_o (g_X9_wrong s13) fun s14 =>
          some (a11, s14))
        else
          some (a11, s13))
      v1 qm_F a1 a2 s0

def g_X9_needs (v1 : Int32) (s0 : qe_S) : Option (qe_S) :=
  qm_b (g_X9_isFrom v1 v1 s0) fun a2 s1 =>
  if a2 = (0 : Int32) then (
    qm_o (g_X9_wrong s1) fun s3 =>
    some s3)
  else
  qm_l (qe_si s1 0 23 ((s1.1 0 23) + (1 : Int32))) fun s4 =>
  some s4

def g_X9_reads  (s0 : qe_S) : Option (qe_S) :=
  qm_j (fun (a1 : Int32) (q2 : Int32) (s3 : qe_S) =>
      qm_j (fun (a4 : Int32) (s5 : qe_S) =>
          qm_j (fun (q6 : Int32) (q7 : Int32) (s8 : qe_S) =>
              qm_b (g_X9_number q6 s8) fun a10 s9 =>
              qm_g q7 305 <| qm_l (qe_si s9 16 q7.toNatClampNeg a10) fun s11 =>
              if a4 = (nI 111) then (
                some s11)
              else
              if a4 = (nI 114) then (
                some s11)
              else
              qm_j (fun (q12 : Int32) (s13 : qe_S) =>
                  qm_o (g_X9_needs q12 s13) fun s14 =>
                  qm_b (g_X9_number (nI 2) s14) fun a16 s15 =>
                  qm_g (a1 + (nI 2)) 305 <| qm_l (qe_si s15 16 (a1 + (nI 2)).toNatClampNeg a16) fun s17 =>
                  if a4 = (nI 120) then (
                    some s17)
                  else
                  qm_j (fun (q18 : Int32) (s19 : qe_S) =>
                      qm_j (fun (q20 : Int32) (q21 : Int32) (s22 : qe_S) =>
                          qm_b (g_X9_number q20 s22) fun a24 s23 =>
                          qm_g q21 305 <| qm_l (qe_si s23 16 q21.toNatClampNeg a24) fun s25 =>
                          if a4 = (nI 117) then (
                            qm_j (fun (a26 : Int32) (s27 : qe_S) =>
                                qm_b (g_X9_number (nI 2) s27) fun a29 s28 =>
                                if a26 = (0 : Int32) then (
                                  qm_g (a1 + (nI 4)) 305 <| qm_l (qe_si s28 16 (a1 + (nI 4)).toNatClampNeg a29) fun s30 =>
                                  some s30)
                                else
                                qm_g (a1 + (nI 4)) 305 <| qm_l (qe_si s28 16 (a1 + (nI 4)).toNatClampNeg (-a29)) fun s31 =>
                                some s31
                            ) fun j242 =>
                            qm_o (g_X9_needs (nI 44) s25) fun s32 =>
                            qm_b (g_X9_isFrom (nI 45) (nI 45) s32) fun a34 s33 =>
                            if a34 = (0 : Int32) then (
                              j242 a34 s33)
                            else
                            qm_l (qe_si s33 0 23 ((s33.1 0 23) + (1 : Int32))) fun s35 =>
                            j242 a34 s35)
                          else
                            some s25
                      ) fun j202 =>
                      qm_o (g_X9_needs q18 s19) fun s36 =>
                      if a4 = (nI 117) then (
                        j202 (1 : Int32) (a1 + (nI 3)) s36)
                      else
                        j202 (nI 2) (a1 + (nI 3)) s36
                  ) fun j180 =>
                  if a4 = (nI 117) then (
                    j180 (nI 44) s17)
                  else
                    j180 (nI 47) s17
              ) fun j143 =>
              if a4 = (nI 117) then (
                j143 (nI 47) s11)
              else
                j143 (nI 44) s11
          ) fun j112 =>
          qm_l (qe_si s5 0 23 ((s5.1 0 23) + (1 : Int32))) fun s37 =>
          if a4 = (nI 111) then (
            j112 (1 : Int32) (a1 + (1 : Int32)) s37)
          else
            j112 (nI 2) (a1 + (1 : Int32)) s37
      ) fun j83 =>
      qm_g a1 305 <| qm_l (qe_si s3 16 a1.toNatClampNeg (s3.1 0 23)) fun s38 =>
      if q2 = (nI 117) then (
        j83 q2 s38)
      else
      if q2 = (nI 115) then (
        j83 q2 s38)
      else
      if q2 = (nI 110) then (
        j83 q2 s38)
      else
      if q2 = (nI 111) then (
        j83 q2 s38)
      else
      if q2 = (nI 114) then (
        j83 q2 s38)
      else
      if q2 = (nI 120) then (
        j83 q2 s38)
      else
        qm_o (g_X9_wrong s38) fun s39 =>
        some s39
  ) fun j31 =>
  qm_l ((nI 5) * (s0.1 0 25)) fun a40 =>
  if (s0.1 0 21) ≤ (s0.1 0 23) then (
    j31 a40 (0 : Int32) s0)
  else
  qm_g (s0.1 0 23) 120 <| qm_l (s0.1 15 (s0.1 0 23).toNatClampNeg) fun a41 =>
  j31 a40 a41 s0

def g_X9_pours_L2  (o0 : Nat) (o1 : Nat) : Nat → Int32 → qe_S → Option (qe_S)
  | 0, _, _ => none
  | n + 1, v2, s0 =>
    if (nI 122) ≤ v2 then (
      some s0)
    else
    qm_g v2 122 <| qm_l (s0.1 o0 v2.toNatClampNeg) fun a2 =>
    qm_g v2 122 <| qm_l (qe_si s0 o1 v2.toNatClampNeg a2) fun s3 =>
    qm_l (v2 + (1 : Int32)) fun a4 =>
    g_X9_pours_L2 o0 o1 n a4 s3

def g_X9_pours (o0 : Nat) (o1 : Nat) (s0 : qe_S) : Option (qe_S) :=
  qm_l (0 : Int32) fun a1 =>
  g_X9_pours_L2 o0 o1 qm_F a1 s0

def g_X9_does (v1 : Int32) (s0 : qe_S) : Option (Int32 × qe_S) :=
  qm_j (fun (a1 : Int32) (s2 : qe_S) =>
      if a1 ≤ (nI 5) then (
        qm_g (1 : Int32) 122 <| qm_l (qe_si s2 1 (1 : Int32).toNatClampNeg a1) fun s3 =>
        some ((1 : Int32), s3))
      else
        some ((-2 : Int32), s2)
  ) fun j190 =>
  qm_l ((nI 5) * v1) fun a4 =>
  qm_g (a4 + (1 : Int32)) 305 <| qm_l (s0.1 16 (a4 + (1 : Int32)).toNatClampNeg) fun a5 =>
  qm_g (a4 + (nI 2)) 305 <| qm_l (s0.1 16 (a4 + (nI 2)).toNatClampNeg) fun a6 =>
  qm_g a4 305 <| qm_l (s0.1 16 a4.toNatClampNeg) fun a7 =>
  qm_g a7 120 <| qm_l (s0.1 15 a7.toNatClampNeg) fun a8 =>
  if a8 = (nI 110) then (
    qm_g (a4 + (nI 3)) 305 <| qm_l (s0.1 16 (a4 + (nI 3)).toNatClampNeg) fun a9 =>
    qm_b (g_X9_becomes a5 (nI 2) a6 a9 s0) fun a11 s10 =>
    some (a11, s10))
  else
  if a8 = (nI 114) then (
    qm_b (g_X9_isUnit a5 s0) fun a13 s12 =>
    if a13 = (0 : Int32) then (
      some ((-1 : Int32), s12))
    else
    qm_g ((nI 38) + a5) 122 <| qm_l (s12.1 1 ((nI 38) + a5).toNatClampNeg) fun a14 =>
    qm_g ((nI 38) + a5) 122 <| qm_l (qe_si s12 1 ((nI 38) + a5).toNatClampNeg ((1 : Int32) - a14)) fun s15 =>
    some ((1 : Int32), s15))
  else
  if a8 = (nI 115) then (
    qm_g (a4 + (nI 3)) 305 <| qm_l (s0.1 16 (a4 + (nI 3)).toNatClampNeg) fun a16 =>
    qm_b (g_X9_becomes a5 (1 : Int32) a6 a16 s0) fun a18 s17 =>
    some (a18, s17))
  else
  if a8 = (nI 117) then (
    qm_g (a4 + (nI 3)) 305 <| qm_l (s0.1 16 (a4 + (nI 3)).toNatClampNeg) fun a19 =>
    qm_g (a4 + (nI 4)) 305 <| qm_l (s0.1 16 (a4 + (nI 4)).toNatClampNeg) fun a20 =>
    qm_b (g_X9_comes a5 a6 a19 a20 s0) fun a22 s21 =>
    some (a22, s21))
  else
  if a8 = (nI 120) then (
    qm_b (g_X9_swaps a5 a6 s0) fun a24 s23 =>
    some (a24, s23))
  else
  j190 a5 s0

def g_X9_tells_L19 (k57 : qe_S → Option (Int32 × qe_S))  : Nat → qe_S → Option (Int32 × qe_S)
  | 0, _ => none
  | n + 1, s0 =>
    qm_b (g_X9_isFrom (nI 59) (nI 59) s0) fun a6 s5 =>
    if a6 = (0 : Int32) then (
      k57 s5)
    else
    qm_l (qe_si s5 0 25 ((s5.1 0 25) + (1 : Int32))) fun s7 =>
    qm_l (qe_si s7 0 23 ((s7.1 0 23) + (1 : Int32))) fun s8 =>
    qm_o (g_X9_reads s8) fun s9 =>
    g_X9_tells_L19 k57 n s9

def g_X9_tells_L126 (k184 : qe_S → Option (Int32 × qe_S)) (k147 : Int32 → Int32 → qe_S → Option (Int32 × qe_S))  : Nat → Int32 → qe_S → Option (Int32 × qe_S)
  | 0, _, _ => none
  | n + 1, v1, s0 =>
    if (s0.1 0 25) ≤ v1 then (
      k184 s0)
    else
    qm_b (g_X9_does v1 s0) fun a19 s18 =>
    if a19 < (0 : Int32) then (
      k147 v1 a19 s18)
    else
    qm_l (v1 + (1 : Int32)) fun a20 =>
    g_X9_tells_L126 k184 k147 n a20 s18

def g_X9_tells  (s0 : qe_S) : Option (Int32 × qe_S) :=
  qm_l (qe_si s0 0 23 (0 : Int32)) fun s1 =>
  qm_l (qe_si s1 0 24 (-1 : Int32)) fun s2 =>
  qm_l (qe_si s2 0 25 (0 : Int32)) fun s3 =>
  qm_o (g_X9_reads s3) fun s4 =>
  g_X9_tells_L19
      (fun  (s10 : qe_S) =>
        qm_j (fun  (s11 : qe_S) =>
            qm_l (qe_si s11 0 25 ((s11.1 0 25) + (1 : Int32))) fun s12 =>
            qm_l (qe_si s12 0 21 (0 : Int32)) fun s13 =>
            if (s13.1 0 24) < (0 : Int32) then (
              qm_o (g_X9_pours 1 3 s13) fun s14 =>
              qm_l (0 : Int32) fun a15 =>
              g_X9_tells_L126
                  (fun  (s21 : qe_S) =>
                    qm_b (g_X9_lays (0 : Int32) s21) fun a23 s22 =>
                    if a23 = (0 : Int32) then (
                      qm_o (g_X9_pours 3 1 s22) fun s24 =>
                      qm_b (g_X9_refused (-7 : Int32) (nI 2) (-7 : Int32) (-9 : Int32) s24) fun a26 s25 =>
                      some (a26, s25))
                    else
                      some ((s22.1 0 25), s22))
                  (fun (a27 : Int32) (a28 : Int32) (s29 : qe_S) =>
                    qm_o (g_X9_pours 3 1 s29) fun s30 =>
                    qm_g ((nI 5) * a27) 305 <| qm_l (s30.1 16 ((nI 5) * a27).toNatClampNeg) fun a31 =>
                    qm_b (g_X9_refused ((-300 : Int32) - a31) (1 : Int32) a28 a28 s30) fun a33 s32 =>
                    some (a33, s32))
                  qm_F a15 s14)
            else
            qm_b (g_X9_no ((-100 : Int32) - (s13.1 0 24)) s13) fun a35 s34 =>
            some (a35, s34)
        ) fun j79 =>
        if (0 : Int32) ≤ (s10.1 0 24) then (
          j79 s10)
        else
        if (s10.1 0 21) ≤ (s10.1 0 23) then (
          j79 s10)
        else
          qm_o (g_X9_wrong s10) fun s36 =>
          j79 s36)
      qm_F s4

def g_X9_reason (v1 : Int32) (s0 : qe_S) : Option (Int32 × qe_S) :=
  qm_b (g_X9_within v1 (0 : Int32) (nI 3) s0) fun a2 s1 =>
  if a2 = (0 : Int32) then (
    some ((0 : Int32), s1))
  else
  qm_g v1 4 <| qm_l (s1.1 4 v1.toNatClampNeg) fun a3 =>
  some (a3, s1)

def g_X9_isList (v0 : Int32) (s0 : qe_S) : Option (Int32 × qe_S) :=
  qm_b (g_X9_within v0 (0 : Int32) (nI 2) s0) fun a2 s1 =>
  qm_bo a2 (some (a2, s1))

def g_X9_list_L48  (v1 : Int32) : Nat → Int32 → qe_S → Option (Int32 × qe_S)
  | 0, _, _ => none
  | n + 1, v3, s0 =>
    if (nI 15) ≤ v3 then (
      some ((1 : Int32), s0))
    else
    qm_g (((nI 15) * v1) + v3) 45 <| qm_l (qe_sl s0 18 (((nI 15) * v1) + v3).toNatClampNeg (0 : Int64)) fun s5 =>
    qm_l (v3 + (1 : Int32)) fun a6 =>
    g_X9_list_L48 v1 n a6 s5

def g_X9_list (v1 : Int32) (v2 : Int32) (s0 : qe_S) : Option (Int32 × qe_S) :=
  qm_b (g_X9_isList v1 s0) fun a2 s1 =>
  if a2 = (0 : Int32) then (
    qm_b (g_X9_no (-1 : Int32) s1) fun a12 s11 =>
    some (a12, s11))
  else
  if v2 ≤ (nI 15) then (
    if (0 : Int32) ≤ v2 then (
      qm_g v1 3 <| qm_l (qe_si s1 17 v1.toNatClampNeg (v2 + (1 : Int32))) fun s3 =>
      qm_l (0 : Int32) fun a4 =>
      g_X9_list_L48 v1 qm_F a4 s3)
    else
      qm_b (g_X9_no (-14 : Int32) s1) fun a8 s7 =>
      some (a8, s7))
  else
  qm_b (g_X9_no (-2 : Int32) s1) fun a10 s9 =>
  some (a10, s9)

def g_X9_put (v1 : Int32) (v2 : Int32) (v3 : Int64) (s0 : qe_S) : Option (Int32 × qe_S) :=
  qm_b (g_X9_isList v1 s0) fun a2 s1 =>
  if a2 = (0 : Int32) then (
    qm_b (g_X9_no (-1 : Int32) s1) fun a13 s12 =>
    some (a13, s12))
  else
  qm_g v1 3 <| qm_l (s1.1 17 v1.toNatClampNeg) fun a3 =>
  if a3 = (0 : Int32) then (
    qm_b (g_X9_no (-11 : Int32) s1) fun a11 s10 =>
    some (a11, s10))
  else
  qm_g v1 3 <| qm_l (s1.1 17 v1.toNatClampNeg) fun a4 =>
  qm_b (g_X9_within v2 (0 : Int32) (a4 - (nI 2)) s1) fun a6 s5 =>
  if a6 = (0 : Int32) then (
    qm_b (g_X9_no (-13 : Int32) s5) fun a9 s8 =>
    some (a9, s8))
  else
  qm_g (((nI 15) * v1) + v2) 45 <| qm_l (qe_sl s5 18 (((nI 15) * v1) + v2).toNatClampNeg v3) fun s7 =>
  some ((1 : Int32), s7)

def g_X9_look (v1 : Int32) (v2 : Int32) (s0 : qe_S) : Option (Int64 × qe_S) :=
  qm_b (g_X9_isList v1 s0) fun a2 s1 =>
  if a2 = (0 : Int32) then (
    qm_b (g_X9_noLong (-1 : Int32) s1) fun b13 s12 =>
    some (b13, s12))
  else
  qm_g v1 3 <| qm_l (s1.1 17 v1.toNatClampNeg) fun a3 =>
  if a3 = (0 : Int32) then (
    qm_b (g_X9_noLong (-11 : Int32) s1) fun b11 s10 =>
    some (b11, s10))
  else
  qm_g v1 3 <| qm_l (s1.1 17 v1.toNatClampNeg) fun a4 =>
  qm_b (g_X9_within v2 (0 : Int32) (a4 - (nI 2)) s1) fun a6 s5 =>
  if a6 = (0 : Int32) then (
    qm_b (g_X9_noLong (-13 : Int32) s5) fun b8 s7 =>
    some (b8, s7))
  else
  qm_g (((nI 15) * v1) + v2) 45 <| qm_l (s5.2 18 (((nI 15) * v1) + v2).toNatClampNeg) fun b9 =>
  some (b9, s5)

def g_X9_judge_L50  (v1 : Int32) (v2 : Int32) : Nat → Int32 → qe_S → Option (Int32 × qe_S)
  | 0, _, _ => none
  | n + 1, v3, s0 =>
    qm_g (0 : Int32) 122 <| qm_l (s0.1 1 (0 : Int32).toNatClampNeg) fun a9 =>
    if a9 ≤ v3 then (
      some ((-5 : Int32), s0))
    else
    qm_g v1 3 <| qm_l (s0.1 17 v1.toNatClampNeg) fun a10 =>
    if (v2.toInt64 + v3.toInt64) < (a10 - (1 : Int32)).toInt64 then (
      qm_g ((((nI 15) * v1) + v2) + v3) 45 <| qm_l (s0.2 18 ((((nI 15) * v1) + v2) + v3).toNatClampNeg) fun b11 =>
      qm_g v3 12 <| qm_l (s0.2 7 v3.toNatClampNeg) fun b12 =>
      if b11 = b12 then (
        qm_l (v3 + (1 : Int32)) fun a13 =>
        g_X9_judge_L50 v1 v2 n a13 s0)
      else
        some (v3, s0))
    else
      some (((nI 100) + v3), s0)

def g_X9_judge (v1 : Int32) (v2 : Int32) (s0 : qe_S) : Option (Int32 × qe_S) :=
  qm_b (g_X9_isList v1 s0) fun a2 s1 =>
  if a2 = (0 : Int32) then (
    qm_b (g_X9_no (-1 : Int32) s1) fun a4 s3 =>
    some (a4, s3))
  else
  if (0 : Int32) ≤ v2 then (
    qm_g v1 3 <| qm_l (s1.1 17 v1.toNatClampNeg) fun a5 =>
    if a5 = (0 : Int32) then (
      qm_b (g_X9_no (-11 : Int32) s1) fun a17 s16 =>
      some (a17, s16))
    else
    qm_b (g_X9_lays (0 : Int32) s1) fun a7 s6 =>
    if a7 = (0 : Int32) then (
      qm_b (g_X9_no (-7 : Int32) s6) fun a15 s14 =>
      some (a15, s14))
    else
      qm_l (0 : Int32) fun a8 =>
      g_X9_judge_L50 v1 v2 qm_F a8 s6)
  else
  qm_b (g_X9_no (-1 : Int32) s1) fun a19 s18 =>
  some (a19, s18)

def g_X9_image  (s0 : qe_S) : Option (Int32 × qe_S) :=
  qm_l (qe_si s0 0 3 (1 : Int32)) fun s1 =>
  qm_o (g_X9_pours 1 2 s1) fun s2 =>
  qm_g (0 : Int32) 122 <| qm_l (s2.1 1 (0 : Int32).toNatClampNeg) fun a3 =>
  some (a3, s2)

def g_X9_undo  (s0 : qe_S) : Option (Int32 × qe_S) :=
  if (s0.1 0 3) = (0 : Int32) then (
    qm_b (g_X9_no (-3 : Int32) s0) fun a4 s3 =>
    some (a4, s3))
  else
  qm_o (g_X9_pours 2 1 s0) fun s1 =>
  qm_g (0 : Int32) 122 <| qm_l (s1.1 1 (0 : Int32).toNatClampNeg) fun a2 =>
  some (a2, s1)

def g_X9_count_L41   : Nat → Int32 → Int32 → qe_S → Option (Int32 × qe_S)
  | 0, _, _, _ => none
  | n + 1, v2, v3, s0 =>
    qm_g (0 : Int32) 122 <| qm_l (s0.1 1 (0 : Int32).toNatClampNeg) fun a5 =>
    if a5 ≤ v3 then (
      some (v2, s0))
    else
    qm_g ((nI 38) + v3) 122 <| qm_l (s0.1 1 ((nI 38) + v3).toNatClampNeg) fun a6 =>
    qm_l (v2 ||| (a6 <<< (v3 &&& 31))) fun a7 =>
    qm_l (v3 + (1 : Int32)) fun a8 =>
    g_X9_count_L41 n a7 a8 s0

def g_X9_count (v1 : Int32) (s0 : qe_S) : Option (Int32 × qe_S) :=
  qm_b (g_X9_within v1 (0 : Int32) (nI 3) s0) fun a2 s1 =>
  if a2 = (0 : Int32) then (
    qm_b (g_X9_no (-1 : Int32) s1) fun a11 s10 =>
    some (a11, s10))
  else
  if (nI 2) ≤ v1 then (
    if v1 = (nI 2) then (
      some ((s1.1 0 21), s1))
    else
    qm_l (0 : Int32) fun a3 =>
    qm_l (0 : Int32) fun a4 =>
    g_X9_count_L41 qm_F a3 a4 s1)
  else
  qm_g v1 122 <| qm_l (s1.1 1 v1.toNatClampNeg) fun a9 =>
  some (a9, s1)

