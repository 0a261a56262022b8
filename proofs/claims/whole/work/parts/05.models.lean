/-! THE MODELS: what each method of the class (X0 .. X8), of the reference (X9) and of the JDK (J..) does to a state, printed from the listing by wip/whole/gen/decomp.py -/
def qe_rows (j : Nat) : Option Nat := match j with
  | 0 => some 42
  | 1 => some 44
  | 2 => some 46
  | _ => none
def qm_r {α : Type} (v : Value) (N : Option α) (F : Nat → Option α) : Option α := match v with
  | .null => N
  | .ref k => F k
  | _ => none
def qm_w {α : Type} (k : Nat) (P : Option α) : Option α := if k = 42 ∨ k = 44 ∨ k = 46 then P else none
def qm_s {α : Type} (v : Value) (F : UInt32 → Option α) : Option α := match v with
  | .float n => if n.toNat < 6 then F n else none
  | _ => none
def qt_isEmpty (i : Nat) (s0 : qe_S) : Option (Int32 × qe_S) := some (if Int32.ofNat (qe_len.getD i 0) = 0 then 1 else 0, s0)
def qt_length (i : Nat) (s0 : qe_S) : Option (Int32 × qe_S) := some (Int32.ofNat (qe_len.getD i 0), s0)
def qt_ch (i : Nat) (j : Int32) : Int32 := ((qe_byt.getD i []).getD j.toNatClampNeg 0) &&& 255
def qt_charAt (i : Nat) (j : Int32) (s0 : qe_S) : Option (Int32 × qe_S) := qm_g j (qe_len.getD i 0) (some (qt_ch i j, s0))
def g_X3_oddsFit (v0 : Int32) (v1 : Int32) (v2 : Int32) (s0 : qe_S) : Option (Int32 × qe_S) :=
  qm_j (fun  (s1 : qe_S) =>
      some ((0 : Int32), s1)
  ) fun j33 =>
  if v2 < (1 : Int32) then (
    j33 s0)
  else
  if (60 : Int32) < v2 then (
    j33 s0)
  else
  qm_j (fun (a2 : Int32) (a3 : Int32) (q4 : Int32) (q5 : Int32) (s6 : qe_S) =>
      if q5 < q4 then (
        j33 s6)
      else
        if a3 < a2 then (
          j33 s6)
        else
          some ((1 : Int32), s6)
  ) fun j21 =>
  if v0 = (0 : Int32) then (
    j21 v1 v2 (1 : Int32) v1 s0)
  else
    j21 v1 v2 (0 : Int32) v1 s0

def g_X3_stratumFits (v0 : Int32) (s0 : qe_S) : Option (Int32 × qe_S) :=
  qm_j (fun  (s1 : qe_S) =>
      some ((0 : Int32), s1)
  ) fun j13 =>
  if v0 < (0 : Int32) then (
    j13 s0)
  else
  if (3 : Int32) < v0 then (
    j13 s0)
  else
    some ((1 : Int32), s0)

def g_X3_markFits (v0 : Int32) (s0 : qe_S) : Option (Int32 × qe_S) :=
  qm_j (fun  (s1 : qe_S) =>
      some ((0 : Int32), s1)
  ) fun j16 =>
  if v0 < (-99 : Int32) then (
    j16 s0)
  else
  if (99 : Int32) < v0 then (
    j16 s0)
  else
    some ((1 : Int32), s0)

def g_X3_has (v1 : Int32) (s0 : qe_S) : Option (Int32 × qe_S) :=
  qm_j (fun  (s1 : qe_S) =>
      some ((0 : Int32), s1)
  ) fun j16 =>
  if v1 < (0 : Int32) then (
    j16 s0)
  else
  if (s0.1 1 0) ≤ v1 then (
    j16 s0)
  else
    some ((1 : Int32), s0)

def g_X8_isRow (v0 : Int32) (s0 : qe_S) : Option (Int32 × qe_S) :=
  qm_j (fun  (s1 : qe_S) =>
      some ((0 : Int32), s1)
  ) fun j13 =>
  if v0 < (0 : Int32) then (
    j13 s0)
  else
  if (3 : Int32) ≤ v0 then (
    j13 s0)
  else
    some ((1 : Int32), s0)

def g_X3_putOdds (v1 : Int32) (v2 : Int32) (v3 : Int32) (v4 : Int32) (s0 : qe_S) : Option (qe_S) :=
  qm_b (g_X3_has v1 s0) fun a2 s1 =>
  if a2 = (0 : Int32) then (
    some s1)
  else
  qm_b (g_X8_isRow v2 s1) fun a4 s3 =>
  if a4 = (0 : Int32) then (
    some s3)
  else
  qm_g ((v2 * (12 : Int32)) + v1) 36 <| qm_l (qe_si s3 6 ((v2 * (12 : Int32)) + v1).toNatClampNeg v3) fun s5 =>
  qm_g ((v2 * (12 : Int32)) + v1) 36 <| qm_l (qe_si s5 7 ((v2 * (12 : Int32)) + v1).toNatClampNeg v4) fun s6 =>
  some s6

def g_X3_above (v1 : Int32) (v2 : Int32) (s0 : qe_S) : Option (Int32 × qe_S) :=
  qm_j (fun (a1 : Int32) (a2 : Int32) (q3 : Int32) (s4 : qe_S) =>
      if q3 = (0 : Int32) then (
        some ((0 : Int32), s4))
      else
      qm_g ((a2 * (12 : Int32)) + a1) 36 <| qm_l (s4.1 6 ((a2 * (12 : Int32)) + a1).toNatClampNeg) fun a5 =>
      some (a5, s4)
  ) fun j26 =>
  qm_j (fun (a6 : Int32) (a7 : Int32) (s8 : qe_S) =>
      j26 a6 a7 (0 : Int32) s8
  ) fun j25 =>
  if v1 < (0 : Int32) then (
    j25 v1 v2 s0)
  else
  if (s0.1 1 0) ≤ v1 then (
    j25 v1 v2 s0)
  else
  if v2 < (0 : Int32) then (
    j25 v1 v2 s0)
  else
  if (3 : Int32) ≤ v2 then (
    j25 v1 v2 s0)
  else
    j26 v1 v2 (1 : Int32) s0

def g_X3_below (v1 : Int32) (v2 : Int32) (s0 : qe_S) : Option (Int32 × qe_S) :=
  qm_j (fun (a1 : Int32) (a2 : Int32) (q3 : Int32) (s4 : qe_S) =>
      if q3 = (0 : Int32) then (
        some ((1 : Int32), s4))
      else
      qm_g ((a2 * (12 : Int32)) + a1) 36 <| qm_l (s4.1 7 ((a2 * (12 : Int32)) + a1).toNatClampNeg) fun a5 =>
      some (a5, s4)
  ) fun j26 =>
  qm_j (fun (a6 : Int32) (a7 : Int32) (s8 : qe_S) =>
      j26 a6 a7 (0 : Int32) s8
  ) fun j25 =>
  if v1 < (0 : Int32) then (
    j25 v1 v2 s0)
  else
  if (s0.1 1 0) ≤ v1 then (
    j25 v1 v2 s0)
  else
  if v2 < (0 : Int32) then (
    j25 v1 v2 s0)
  else
  if (3 : Int32) ≤ v2 then (
    j25 v1 v2 s0)
  else
    j26 v1 v2 (1 : Int32) s0

def g_X3_standsAhead (v1 : Int32) (v2 : Int32) (s0 : qe_S) : Option (Int32 × qe_S) :=
  qm_b (g_X3_has v1 s0) fun a2 s1 =>
  if a2 = (0 : Int32) then (
    some ((0 : Int32), s1))
  else
  qm_b (g_X3_has v2 s1) fun a4 s3 =>
  if a4 = (0 : Int32) then (
    some ((0 : Int32), s3))
  else
  qm_g v1 12 <| qm_l (s3.1 2 v1.toNatClampNeg) fun a5 =>
  qm_g v2 12 <| qm_l (s3.1 2 v2.toNatClampNeg) fun a6 =>
  qm_l (a5 - a6) fun a7 =>
  qm_g v1 12 <| qm_l (s3.1 3 v1.toNatClampNeg) fun a8 =>
  qm_g v2 12 <| qm_l (s3.1 3 v2.toNatClampNeg) fun a9 =>
  qm_l (a8 - a9) fun a10 =>
  if (s3.1 1 2) = (1 : Int32) then (
    qm_b (g_X3_above v1 (0 : Int32) s3) fun a12 s11 =>
    qm_b (g_X3_below v2 (0 : Int32) s11) fun a14 s13 =>
    qm_b (g_X3_above v2 (0 : Int32) s13) fun a16 s15 =>
    qm_b (g_X3_below v1 (0 : Int32) s15) fun a18 s17 =>
    if (a12 * a14) ≤ (a16 * a18) then (
      some ((0 : Int32), s17))
    else
      some ((1 : Int32), s17))
  else
  if (s3.1 1 2) = (2 : Int32) then (
    if (0 : Int32) ≤ a7 then (
      some ((0 : Int32), s3))
    else
      some ((1 : Int32), s3))
  else
  if (s3.1 1 2) = (3 : Int32) then (
    if (0 : Int32) ≤ a10 then (
      some ((0 : Int32), s3))
    else
      some ((1 : Int32), s3))
  else
  if (s3.1 1 2) = (4 : Int32) then (
    qm_j (fun  (s19 : qe_S) =>
        some ((1 : Int32), s19)
    ) fun j168 =>
    if a7 < (0 : Int32) then (
      j168 s3)
    else
    qm_j (fun  (s20 : qe_S) =>
        some ((0 : Int32), s20)
    ) fun j172 =>
    if a7 = (0 : Int32) then (
      qm_g v1 12 <| qm_l (s3.1 2 v1.toNatClampNeg) fun a21 =>
      qm_z (2 : Int32) <|
      if (qm_ir a21 (2 : Int32)) = (0 : Int32) then (
        if (0 : Int32) ≤ a10 then (
          j172 s3)
        else
          j168 s3)
      else
        if a10 ≤ (0 : Int32) then (
          j172 s3)
        else
          j168 s3)
    else
      j172 s3)
  else
  some ((0 : Int32), s3)

def g_X3_arrange_L31 (k71 : Int32 → Int32 → Int32 → qe_S → Option (qe_S)) (v1 : Int32) (v2 : Int32) : Nat → Int32 → qe_S → Option (qe_S)
  | 0, _, _ => none
  | n + 1, v3, s0 =>
    if v3 ≤ (0 : Int32) then (
      k71 v1 v2 v3 s0)
    else
    qm_g (v3 - (1 : Int32)) 12 <| qm_l (s0.1 5 (v3 - (1 : Int32)).toNatClampNeg) fun a8 =>
    qm_b (g_X3_standsAhead v2 a8 s0) fun a10 s9 =>
    if a10 = (0 : Int32) then (
      k71 v1 v2 v3 s9)
    else
    qm_g (v3 - (1 : Int32)) 12 <| qm_l (s9.1 5 (v3 - (1 : Int32)).toNatClampNeg) fun a11 =>
    qm_g v3 12 <| qm_l (qe_si s9 5 v3.toNatClampNeg a11) fun s12 =>
    qm_l (v3 + (-1 : Int32)) fun a13 =>
    g_X3_arrange_L31 k71 v1 v2 n a13 s12

def g_X3_arrange_L2   : Nat → Int32 → qe_S → Option (qe_S)
  | 0, _, _ => none
  | n + 1, v1, s0 =>
    if (s0.1 1 0) ≤ v1 then (
      some s0)
    else
    qm_j (fun (a2 : Int32) (q3 : Int32) (s4 : qe_S) =>
        g_X3_arrange_L31
            (fun (a14 : Int32) (a15 : Int32) (a16 : Int32) (s17 : qe_S) =>
              qm_g a16 12 <| qm_l (qe_si s17 5 a16.toNatClampNeg a15) fun s18 =>
              qm_l (a14 + (1 : Int32)) fun a19 =>
              g_X3_arrange_L2 n a19 s18)
            a2 q3 qm_F a2 s4
    ) fun j28 =>
    if (s0.1 1 2) = (5 : Int32) then (
      qm_g v1 12 <| qm_l (s0.1 4 v1.toNatClampNeg) fun a20 =>
      j28 v1 a20 s0)
    else
      j28 v1 v1 s0

def g_X3_arrange  (s0 : qe_S) : Option (qe_S) :=
  qm_l (0 : Int32) fun a1 =>
  g_X3_arrange_L2 qm_F a1 s0

def g_X3_admit (v1 : Int32) (v2 : Int32) (v3 : Int32) (v4 : Int32) (s0 : qe_S) : Option (Int32 × qe_S) :=
  qm_b (g_X3_oddsFit (0 : Int32) v1 v2 s0) fun a2 s1 =>
  if a2 = (0 : Int32) then (
    some ((-2 : Int32), s1))
  else
  qm_b (g_X3_stratumFits v3 s1) fun a4 s3 =>
  if a4 = (0 : Int32) then (
    some ((-2 : Int32), s3))
  else
  qm_b (g_X3_markFits v4 s3) fun a6 s5 =>
  if a6 = (0 : Int32) then (
    some ((-2 : Int32), s5))
  else
  if (s5.1 1 0) < (12 : Int32) then (
    qm_l (s5.1 1 0) fun a7 =>
    qm_l (qe_si s5 1 0 ((s5.1 1 0) + (1 : Int32))) fun s8 =>
    qm_o (g_X3_putOdds a7 (0 : Int32) v1 v2 s8) fun s9 =>
    qm_o (g_X3_putOdds a7 (1 : Int32) (1 : Int32) (1 : Int32) s9) fun s10 =>
    qm_o (g_X3_putOdds a7 (2 : Int32) (1 : Int32) (1 : Int32) s10) fun s11 =>
    qm_g a7 12 <| qm_l (qe_si s11 2 a7.toNatClampNeg v3) fun s12 =>
    qm_g a7 12 <| qm_l (qe_si s12 3 a7.toNatClampNeg v4) fun s13 =>
    qm_g a7 12 <| qm_l (qe_si s13 4 a7.toNatClampNeg a7) fun s14 =>
    qm_l (qe_si s14 1 1 ((s14.1 1 1) &&& (((1 : Int32) <<< (a7 &&& 31)) ^^^ (-1 : Int32)))) fun s15 =>
    qm_o (g_X3_arrange s15) fun s16 =>
    some (a7, s16))
  else
    some ((-4 : Int32), s5)

def g_X1_note (v1 : Int32) (v2 : Int32) (v3 : Int32) (v4 : Int32) (s0 : qe_S) : Option (qe_S) :=
  qm_l (qe_si s0 40 0 v1) fun s1 =>
  qm_l (qe_si s1 40 1 v2) fun s2 =>
  qm_l (qe_si s2 40 2 v3) fun s3 =>
  qm_l (qe_si s3 40 3 v4) fun s4 =>
  some s4

def g_X8_refuse (v1 : Int32) (s0 : qe_S) : Option (Int32 × qe_S) :=
  if v1 = (-7 : Int32) then (
    qm_o (g_X1_note v1 (1 : Int32) (-9 : Int32) (-9 : Int32) s0) fun s2 =>
    some (v1, s2))
  else
  qm_o (g_X1_note v1 (0 : Int32) (0 : Int32) (0 : Int32) s0) fun s1 =>
  some (v1, s1)

def g_X8_answered (v1 : Int32) (s0 : qe_S) : Option (Int32 × qe_S) :=
  if (0 : Int32) ≤ v1 then (
    some (v1, s0))
  else
    qm_b (g_X8_refuse v1 s0) fun a2 s1 =>
    some (a2, s1)

def g_X8_unit (v1 : Int32) (v2 : Int32) (v3 : Int32) (v4 : Int32) (s0 : qe_S) : Option (Int32 × qe_S) :=
  qm_b (g_X3_admit v1 v2 v3 v4 s0) fun a2 s1 =>
  qm_b (g_X8_answered a2 s1) fun a4 s3 =>
  some (a4, s3)

def g_X3_changeOdds (v1 : Int32) (v2 : Int32) (v3 : Int32) (v4 : Int32) (s0 : qe_S) : Option (Int32 × qe_S) :=
  qm_b (g_X3_has v1 s0) fun a2 s1 =>
  if a2 = (0 : Int32) then (
    some ((-1 : Int32), s1))
  else
  qm_b (g_X8_isRow v2 s1) fun a4 s3 =>
  if a4 = (0 : Int32) then (
    some ((-1 : Int32), s3))
  else
  qm_b (g_X3_oddsFit v2 v3 v4 s3) fun a6 s5 =>
  if a6 = (0 : Int32) then (
    some ((-2 : Int32), s5))
  else
  qm_b (g_X3_above v1 v2 s5) fun a8 s7 =>
  qm_b (g_X3_below v1 v2 s7) fun a10 s9 =>
  qm_l (((100 : Int32) * a8) + a10) fun a11 =>
  qm_o (g_X3_putOdds v1 v2 v3 v4 s9) fun s12 =>
  qm_o (g_X3_arrange s12) fun s13 =>
  some (a11, s13)

def g_X8_odds (v1 : Int32) (v2 : Int32) (v3 : Int32) (v4 : Int32) (s0 : qe_S) : Option (Int32 × qe_S) :=
  qm_b (g_X3_changeOdds v1 v2 v3 v4 s0) fun a2 s1 =>
  qm_b (g_X8_answered a2 s1) fun a4 s3 =>
  some (a4, s3)

def g_X3_changeStratum (v1 : Int32) (v2 : Int32) (s0 : qe_S) : Option (Int32 × qe_S) :=
  qm_b (g_X3_has v1 s0) fun a2 s1 =>
  if a2 = (0 : Int32) then (
    some ((-1 : Int32), s1))
  else
  qm_b (g_X3_stratumFits v2 s1) fun a4 s3 =>
  if a4 = (0 : Int32) then (
    some ((-2 : Int32), s3))
  else
  qm_g v1 12 <| qm_l (s3.1 2 v1.toNatClampNeg) fun a5 =>
  qm_g v1 12 <| qm_l (qe_si s3 2 v1.toNatClampNeg v2) fun s6 =>
  qm_o (g_X3_arrange s6) fun s7 =>
  some (a5, s7)

def g_X8_isIn (v0 : Int32) (v1 : Int32) (s0 : qe_S) : Option (Int32 × qe_S) :=
  if ((v0 >>> (v1 &&& 31)) &&& (1 : Int32)) = (0 : Int32) then (
    some ((0 : Int32), s0))
  else
    some ((1 : Int32), s0)

def g_X3_isRefusing (v1 : Int32) (s0 : qe_S) : Option (Int32 × qe_S) :=
  qm_j (fun  (s1 : qe_S) =>
      some ((0 : Int32), s1)
  ) fun j23 =>
  qm_b (g_X3_has v1 s0) fun a3 s2 =>
  if a3 = (0 : Int32) then (
    j23 s2)
  else
  qm_b (g_X8_isIn (s2.1 1 1) v1 s2) fun a5 s4 =>
  if a5 = (0 : Int32) then (
    j23 s4)
  else
    some ((1 : Int32), s4)

def g_X3_changeRefusing (v1 : Int32) (v2 : Int32) (s0 : qe_S) : Option (Int32 × qe_S) :=
  qm_b (g_X3_has v1 s0) fun a2 s1 =>
  if a2 = (0 : Int32) then (
    some ((-1 : Int32), s1))
  else
  if v2 < (0 : Int32) then (
    some ((-2 : Int32), s1))
  else
  if v2 ≤ (1 : Int32) then (
    qm_j (fun (a3 : Int32) (a4 : Int32) (q5 : Int32) (s6 : qe_S) =>
        qm_l (qe_si s6 1 1 (((s6.1 1 1) &&& (((1 : Int32) <<< (a3 &&& 31)) ^^^ (-1 : Int32))) ||| (a4 <<< (a3 &&& 31)))) fun s7 =>
        some (q5, s7)
    ) fun j35 =>
    qm_b (g_X3_isRefusing v1 s1) fun a9 s8 =>
    if a9 = (0 : Int32) then (
      j35 v1 v2 (0 : Int32) s8)
    else
      j35 v1 v2 (1 : Int32) s8)
  else
    some ((-2 : Int32), s1)

def g_X8_set (v1 : Int32) (v2 : Int32) (v3 : Int32) (s0 : qe_S) : Option (Int32 × qe_S) :=
  qm_b (g_X3_has v1 s0) fun a2 s1 =>
  if a2 = (0 : Int32) then (
    qm_b (g_X8_refuse (-1 : Int32) s1) fun a4 s3 =>
    some (a4, s3))
  else
  if v2 < (0 : Int32) then (
    qm_b (g_X8_refuse (-1 : Int32) s1) fun a6 s5 =>
    some (a6, s5))
  else
  if v2 ≤ (1 : Int32) then (
    if v2 = (0 : Int32) then (
      qm_b (g_X3_changeStratum v1 v3 s1) fun a12 s11 =>
      qm_b (g_X8_answered a12 s11) fun a14 s13 =>
      some (a14, s13))
    else
    qm_b (g_X3_changeRefusing v1 v3 s1) fun a8 s7 =>
    qm_b (g_X8_answered a8 s7) fun a10 s9 =>
    some (a10, s9))
  else
  qm_b (g_X8_refuse (-1 : Int32) s1) fun a16 s15 =>
  some (a16, s15)

def g_X3_changeMark (v1 : Int32) (v2 : Int32) (s0 : qe_S) : Option (Int32 × qe_S) :=
  qm_b (g_X3_has v1 s0) fun a2 s1 =>
  if a2 = (0 : Int32) then (
    some ((-1 : Int32), s1))
  else
  qm_b (g_X3_markFits v2 s1) fun a4 s3 =>
  if a4 = (0 : Int32) then (
    some ((-2 : Int32), s3))
  else
  qm_g v1 12 <| qm_l (qe_si s3 3 v1.toNatClampNeg v2) fun s5 =>
  qm_o (g_X3_arrange s5) fun s6 =>
  some ((1 : Int32), s6)

def g_X8_mark (v1 : Int32) (v2 : Int32) (s0 : qe_S) : Option (Int32 × qe_S) :=
  qm_b (g_X3_changeMark v1 v2 s0) fun a2 s1 =>
  qm_b (g_X8_answered a2 s1) fun a4 s3 =>
  some (a4, s3)

def g_X8_refuseLong (v1 : Int32) (s0 : qe_S) : Option (Int64 × qe_S) :=
  qm_b (g_X8_refuse v1 s0) fun a2 s1 =>
  some (((4000000000000000000 : Int64) - a2.toInt64), s1)

def g_X3_placeOf_L2  (v1 : Int32) : Nat → Int32 → qe_S → Option (Int32 × qe_S)
  | 0, _, _ => none
  | n + 1, v2, s0 =>
    if (s0.1 1 0) ≤ v2 then (
      some ((-1 : Int32), s0))
    else
    qm_g v2 12 <| qm_l (s0.1 5 v2.toNatClampNeg) fun a2 =>
    if a2 = v1 then (
      some (v2, s0))
    else
    qm_l (v2 + (1 : Int32)) fun a3 =>
    g_X3_placeOf_L2 v1 n a3 s0

def g_X3_placeOf (v1 : Int32) (s0 : qe_S) : Option (Int32 × qe_S) :=
  qm_l (0 : Int32) fun a1 =>
  g_X3_placeOf_L2 v1 qm_F a1 s0

def g_X8_of (v1 : Int32) (v2 : Int32) (s0 : qe_S) : Option (Int64 × qe_S) :=
  qm_b (g_X3_has v1 s0) fun a2 s1 =>
  if a2 = (0 : Int32) then (
    qm_b (g_X8_refuseLong (-1 : Int32) s1) fun b4 s3 =>
    some (b4, s3))
  else
  if v2 < (0 : Int32) then (
    qm_b (g_X8_refuseLong (-1 : Int32) s1) fun b6 s5 =>
    some (b6, s5))
  else
  if v2 ≤ (3 : Int32) then (
    if v2 = (0 : Int32) then (
      qm_g v1 12 <| qm_l (s1.1 2 v1.toNatClampNeg) fun a7 =>
      some (a7.toInt64, s1))
    else
    if v2 = (1 : Int32) then (
      qm_b (g_X3_isRefusing v1 s1) fun a9 s8 =>
      if a9 = (0 : Int32) then (
        some ((0 : Int64), s8))
      else
        some ((1 : Int64), s8))
    else
    if v2 = (2 : Int32) then (
      qm_g v1 12 <| qm_l (s1.1 3 v1.toNatClampNeg) fun a10 =>
      some (a10.toInt64, s1))
    else
    qm_b (g_X3_placeOf v1 s1) fun a12 s11 =>
    some (a12.toInt64, s11))
  else
  qm_b (g_X8_refuseLong (-1 : Int32) s1) fun b14 s13 =>
  some (b14, s13)

def g_X8_isPart (v0 : Int32) (s0 : qe_S) : Option (Int32 × qe_S) :=
  qm_j (fun  (s1 : qe_S) =>
      some ((1 : Int32), s1)
  ) fun j9 =>
  if v0 = (0 : Int32) then (
    j9 s0)
  else
  if v0 = (1 : Int32) then (
    j9 s0)
  else
    some ((0 : Int32), s0)

def g_X8_gcd_L9 (k45 : Int64 → qe_S → Option (Int64 × qe_S))  : Nat → Int64 → Int64 → Int32 → qe_S → Option (Int64 × qe_S)
  | 0, _, _, _, _ => none
  | n + 1, v4, v6, v8, s0 =>
    if (1000 : Int32) ≤ v8 then (
      k45 v4 s0)
    else
    if v6 = (0 : Int64) then (
      k45 v4 s0)
    else
    qm_zl v6 <|
    qm_l (qm_lr v4 v6) fun b3 =>
    qm_l (v8 + (1 : Int32)) fun a4 =>
    g_X8_gcd_L9 k45 n v6 b3 a4 s0

def g_X8_gcd (v0 : Int64) (v2 : Int64) (s0 : qe_S) : Option (Int64 × qe_S) :=
  qm_l (0 : Int32) fun a1 =>
  g_X8_gcd_L9
      (fun (b5 : Int64) (s6 : qe_S) =>
        if (0 : Int64) ≤ b5 then (
          some (b5, s6))
        else
          some ((-b5), s6))
      qm_F v0 v2 a1 s0

def g_X0_reduce (o0 : Nat) (v1 : Int64) (v3 : Int64) (s0 : qe_S) : Option (qe_S) :=
  qm_j (fun (b1 : Int64) (b2 : Int64) (q3 : Int64) (s4 : qe_S) =>
      qm_j (fun (q5 : Int64) (s6 : qe_S) =>
          qm_l (qe_sl s6 o0 1 q5) fun s7 =>
          some s7
      ) fun j42 =>
      qm_l (qe_sl s4 o0 0 q3) fun s8 =>
      if b2 ≤ (1 : Int64) then (
        j42 b1 s8)
      else
        qm_zl b2 <|
        j42 (b1 / b2) s8
  ) fun j23 =>
  qm_b (g_X8_gcd v1 v3 s0) fun b10 s9 =>
  if b10 ≤ (1 : Int64) then (
    j23 v3 b10 v1 s9)
  else
    qm_zl b10 <|
    j23 v3 b10 (v1 / b10) s9

def g_X0_begin (o0 : Nat) (v1 : Int64) (v3 : Int64) (s0 : qe_S) : Option (qe_S) :=
  qm_l (qe_si s0 o0 2 (0 : Int32)) fun s1 =>
  qm_o (g_X0_reduce o0 v1 v3 s1) fun s2 =>
  some s2

def g_X8_lowest (v1 : Int64) (v3 : Int64) (v5 : Int32) (s0 : qe_S) : Option (Int64 × qe_S) :=
  qm_o (g_X0_begin 34 v1 v3 s0) fun s1 =>
  if v5 = (0 : Int32) then (
    some ((s1.2 34 0), s1))
  else
    some ((s1.2 34 1), s1)

def g_X8_fraction (v1 : Int32) (v2 : Int32) (v3 : Int32) (s0 : qe_S) : Option (Int64 × qe_S) :=
  qm_b (g_X3_has v1 s0) fun a2 s1 =>
  if a2 = (0 : Int32) then (
    qm_b (g_X8_refuseLong (-1 : Int32) s1) fun b4 s3 =>
    some (b4, s3))
  else
  qm_b (g_X8_isRow v2 s1) fun a6 s5 =>
  if a6 = (0 : Int32) then (
    qm_b (g_X8_refuseLong (-1 : Int32) s5) fun b18 s17 =>
    some (b18, s17))
  else
  qm_b (g_X8_isPart v3 s5) fun a8 s7 =>
  if a8 = (0 : Int32) then (
    qm_b (g_X8_refuseLong (-2 : Int32) s7) fun b16 s15 =>
    some (b16, s15))
  else
  qm_b (g_X3_above v1 v2 s7) fun a10 s9 =>
  qm_b (g_X3_below v1 v2 s9) fun a12 s11 =>
  qm_b (g_X8_lowest a10.toInt64 a12.toInt64 v3 s11) fun b14 s13 =>
  some (b14, s13)

def g_X3_changeOrder (v1 : Int32) (s0 : qe_S) : Option (Int32 × qe_S) :=
  if v1 < (0 : Int32) then (
    some ((-2 : Int32), s0))
  else
  if v1 ≤ (5 : Int32) then (
    qm_l (s0.1 1 2) fun a1 =>
    qm_l (qe_si s0 1 2 v1) fun s2 =>
    qm_o (g_X3_arrange s2) fun s3 =>
    some (a1, s3))
  else
    some ((-2 : Int32), s0)

def g_X8_order (v1 : Int32) (s0 : qe_S) : Option (Int32 × qe_S) :=
  qm_b (g_X3_changeOrder v1 s0) fun a2 s1 =>
  qm_b (g_X8_answered a2 s1) fun a4 s3 =>
  some (a4, s3)

def g_X3_unitAt (v1 : Int32) (s0 : qe_S) : Option (Int32 × qe_S) :=
  qm_j (fun  (s1 : qe_S) =>
      some ((-1 : Int32), s1)
  ) fun j21 =>
  if v1 < (0 : Int32) then (
    j21 s0)
  else
  if (s0.1 1 0) ≤ v1 then (
    j21 s0)
  else
  qm_g v1 12 <| qm_l (s0.1 5 v1.toNatClampNeg) fun a2 =>
  some (a2, s0)

def g_X8_at (v1 : Int32) (s0 : qe_S) : Option (Int32 × qe_S) :=
  qm_b (g_X3_unitAt v1 s0) fun a2 s1 =>
  qm_b (g_X8_answered a2 s1) fun a4 s3 =>
  some (a4, s3)

def g_X3_exchange (v1 : Int32) (v2 : Int32) (s0 : qe_S) : Option (Int32 × qe_S) :=
  qm_b (g_X3_has v1 s0) fun a2 s1 =>
  if a2 = (0 : Int32) then (
    some ((-1 : Int32), s1))
  else
  qm_b (g_X3_has v2 s1) fun a4 s3 =>
  if a4 = (0 : Int32) then (
    some ((-1 : Int32), s3))
  else
  if v1 = v2 then (
    some ((-5 : Int32), s3))
  else
  qm_g v1 12 <| qm_l (s3.1 4 v1.toNatClampNeg) fun a5 =>
  qm_g v2 12 <| qm_l (s3.1 4 v2.toNatClampNeg) fun a6 =>
  qm_g v1 12 <| qm_l (qe_si s3 4 v1.toNatClampNeg a6) fun s7 =>
  qm_g v2 12 <| qm_l (qe_si s7 4 v2.toNatClampNeg a5) fun s8 =>
  qm_o (g_X3_arrange s8) fun s9 =>
  qm_g v1 12 <| qm_l (s9.1 4 v1.toNatClampNeg) fun a10 =>
  some (a10, s9)

def g_X8_swap (v1 : Int32) (v2 : Int32) (s0 : qe_S) : Option (Int32 × qe_S) :=
  qm_b (g_X3_exchange v1 v2 s0) fun a2 s1 =>
  qm_b (g_X8_answered a2 s1) fun a4 s3 =>
  some (a4, s3)

def g_X3_commonMultiple (v0 : Int64) (v2 : Int64) (s0 : qe_S) : Option (Int64 × qe_S) :=
  qm_b (g_X8_gcd v0 v2 s0) fun b2 s1 =>
  if (1 : Int64) ≤ b2 then (
    qm_zl b2 <|
    some (((v0 / b2) * v2), s1))
  else
    some ((0 : Int64), s1)

def g_X3_partsOf (v1 : Int32) (v2 : Int32) (v3 : Int64) (s0 : qe_S) : Option (Int64 × qe_S) :=
  qm_b (g_X3_below v1 v2 s0) fun a2 s1 =>
  if (1 : Int32) ≤ a2 then (
    qm_b (g_X3_above v1 v2 s1) fun a4 s3 =>
    qm_zl a2.toInt64 <|
    some ((a4.toInt64 * (v3 / a2.toInt64)), s3))
  else
    some ((0 : Int64), s1)

def g_X3_partsOfAll_L6  (v1 : Int32) (v2 : Int64) : Nat → Int64 → Int32 → qe_S → Option (Int64 × qe_S)
  | 0, _, _, _ => none
  | n + 1, v4, v6, s0 =>
    if (s0.1 1 0) ≤ v6 then (
      some (v4, s0))
    else
    qm_b (g_X3_partsOf v6 v1 v2 s0) fun b4 s3 =>
    qm_l (v4 + b4) fun b5 =>
    qm_l (v6 + (1 : Int32)) fun a6 =>
    g_X3_partsOfAll_L6 v1 v2 n b5 a6 s3

def g_X3_partsOfAll (v1 : Int32) (v2 : Int64) (s0 : qe_S) : Option (Int64 × qe_S) :=
  qm_l (0 : Int64) fun b1 =>
  qm_l (0 : Int32) fun a2 =>
  g_X3_partsOfAll_L6 v1 v2 qm_F b1 a2 s0

def g_X3_places_L5 (k74 : Int32 → Int64 → qe_S → Option (Int64 × qe_S)) (v1 : Int32) : Nat → Int64 → Int32 → qe_S → Option (Int64 × qe_S)
  | 0, _, _, _ => none
  | n + 1, v2, v4, s0 =>
    if (s0.1 1 0) ≤ v4 then (
      k74 v1 v2 s0)
    else
    qm_j (fun (a5 : Int32) (a6 : Int32) (q7 : Int32) (q8 : Int32) (q9 : Int64) (s10 : qe_S) =>
        qm_j (fun (a11 : Int32) (a12 : Int32) (q13 : Int64) (s14 : qe_S) =>
            if q13 ≤ (2147483647 : Int64) then (
              qm_l (a12 + (1 : Int32)) fun a15 =>
              g_X3_places_L5 k74 v1 n q13 a15 s14)
            else
              some ((0 : Int64), s14)
        ) fun j57 =>
        qm_b (g_X3_below q8 q7 s10) fun a17 s16 =>
        qm_b (g_X3_commonMultiple q9 a17.toInt64 s16) fun b19 s18 =>
        if a5 = (2 : Int32) then (
          qm_b (g_X3_below a6 (2 : Int32) s18) fun a21 s20 =>
          qm_b (g_X3_commonMultiple b19 a21.toInt64 s20) fun b23 s22 =>
          j57 a5 a6 b23 s22)
        else
          j57 a5 a6 b19 s18
    ) fun j28 =>
    if v1 = (1 : Int32) then (
      j28 v1 v4 (1 : Int32) v4 v2 s0)
    else
      j28 v1 v4 (0 : Int32) v4 v2 s0

def g_X3_places (v1 : Int32) (s0 : qe_S) : Option (Int64 × qe_S) :=
  qm_l (1 : Int64) fun b1 =>
  qm_l (0 : Int32) fun a2 =>
  g_X3_places_L5
      (fun (a24 : Int32) (b25 : Int64) (s26 : qe_S) =>
        qm_j (fun (b27 : Int64) (q28 : Int32) (s29 : qe_S) =>
            if q28 = (0 : Int32) then (
              some (b27, s29))
            else
              some ((0 : Int64), s29)
        ) fun j110 =>
        qm_j (fun (b30 : Int64) (s31 : qe_S) =>
            j110 b30 (1 : Int32) s31
        ) fun j105 =>
        qm_b (g_X3_partsOfAll a24 b25 s26) fun b33 s32 =>
        if (2147483647 : Int64) < b33 then (
          j105 b25 s32)
        else
        qm_j (fun (b34 : Int64) (s35 : qe_S) =>
            j110 b34 (0 : Int32) s35
        ) fun j109 =>
        if a24 = (2 : Int32) then (
          qm_b (g_X3_partsOfAll (0 : Int32) b25 s32) fun b37 s36 =>
          if b37 ≤ (2147483647 : Int64) then (
            j109 b25 s36)
          else
            j105 b25 s36)
        else
          j109 b25 s32)
      v1 qm_F b1 a2 s0

def g_X8_common (v1 : Int32) (s0 : qe_S) : Option (Int32 × qe_S) :=
  qm_b (g_X8_isRow v1 s0) fun a2 s1 =>
  if a2 = (0 : Int32) then (
    qm_b (g_X8_refuse (-1 : Int32) s1) fun a8 s7 =>
    some (a8, s7))
  else
  qm_b (g_X3_places v1 s1) fun b4 s3 =>
  if b4 ≤ (0 : Int64) then (
    qm_b (g_X8_refuse (-7 : Int32) s3) fun a6 s5 =>
    some (a6, s5))
  else
    some (b4.toInt32, s3)

def g_X8_parts (v1 : Int32) (s0 : qe_S) : Option (Int32 × qe_S) :=
  qm_b (g_X3_has v1 s0) fun a2 s1 =>
  if a2 = (0 : Int32) then (
    qm_b (g_X8_refuse (-1 : Int32) s1) fun a10 s9 =>
    some (a10, s9))
  else
  qm_b (g_X3_places (0 : Int32) s1) fun b4 s3 =>
  if b4 ≤ (0 : Int64) then (
    qm_b (g_X8_refuse (-7 : Int32) s3) fun a6 s5 =>
    some (a6, s5))
  else
  qm_b (g_X3_partsOf v1 (0 : Int32) b4 s3) fun b8 s7 =>
  some (b8.toInt32, s7)

def g_X8_size (v1 : Int32) (s0 : qe_S) : Option (Int32 × qe_S) :=
  if v1 < (0 : Int32) then (
    qm_b (g_X8_refuse (-1 : Int32) s0) fun a2 s1 =>
    some (a2, s1))
  else
  if v1 ≤ (1 : Int32) then (
    qm_b (g_X3_places (0 : Int32) s0) fun b4 s3 =>
    if (1 : Int64) ≤ b4 then (
      qm_j (fun (b5 : Int64) (q6 : Int64) (s7 : qe_S) =>
          qm_zl b5 <|
          some ((q6 / b5).toInt32, s7)
      ) fun j63 =>
      qm_b (g_X3_partsOfAll (0 : Int32) b4 s3) fun b9 s8 =>
      if v1 = (0 : Int32) then (
        j63 b4 b9 s8)
      else
        j63 b4 ((b9 + b4) - (1 : Int64)) s8)
    else
    qm_b (g_X8_refuse (-7 : Int32) s3) fun a11 s10 =>
    some (a11, s10))
  else
  qm_b (g_X8_refuse (-1 : Int32) s0) fun a13 s12 =>
  some (a13, s12)

def g_X3_everyone  (s0 : qe_S) : Option (Int32 × qe_S) :=
  some ((((1 : Int32) <<< ((s0.1 1 0) &&& 31)) - (1 : Int32)), s0)

def g_X7_lay_L8 (k37 : Int32 → Int64 → Int32 → qe_S → Option (qe_S)) (o0 : Nat) (v2 : Int32) (v3 : Int64) (v5 : Int32) : Nat → Int32 → qe_S → Option (qe_S)
  | 0, _, _ => none
  | n + 1, v6, s0 =>
    if (12 : Int32) ≤ v6 then (
      k37 v2 v3 v5 s0)
    else
    qm_g v6 12 <| qm_l (qe_sl s0 (o0 + 1) v6.toNatClampNeg (0 : Int64)) fun s6 =>
    qm_g v6 12 <| qm_l (qe_sl s6 (o0 + 2) v6.toNatClampNeg (0 : Int64)) fun s7 =>
    qm_l (v6 + (1 : Int32)) fun a8 =>
    g_X7_lay_L8 k37 o0 v2 v3 v5 n a8 s7

def g_X7_lay_L43  (o0 : Nat) (v2 : Int32) (v3 : Int64) (v5 : Int32) : Nat → Int64 → Int32 → qe_S → Option (qe_S)
  | 0, _, _, _ => none
  | n + 1, v6, v8, s0 =>
    if (s0.1 1 0) ≤ v8 then (
      some s0)
    else
    if v3 ≤ (0 : Int64) then (
      some s0)
    else
    qm_j (fun (a15 : Int32) (b16 : Int64) (a17 : Int32) (b18 : Int64) (a19 : Int32) (s20 : qe_S) =>
        qm_l (a19 + (1 : Int32)) fun a21 =>
        g_X7_lay_L43 o0 v2 v3 v5 n b18 a21 s20
    ) fun j123 =>
    qm_b (g_X3_unitAt v8 s0) fun a23 s22 =>
    qm_b (g_X3_has a23 s22) fun a25 s24 =>
    if a25 = (0 : Int32) then (
      j123 v2 v3 v5 v6 v8 s24)
    else
    qm_b (g_X8_isIn v5 a23 s24) fun a27 s26 =>
    if a27 = (0 : Int32) then (
      j123 v2 v3 v5 v6 v8 s26)
    else
    qm_g a23 12 <| qm_l (qe_sl s26 (o0 + 1) a23.toNatClampNeg v6) fun s28 =>
    qm_b (g_X3_partsOf a23 v2 v3 s28) fun b30 s29 =>
    qm_g a23 12 <| qm_l (qe_sl s29 (o0 + 2) a23.toNatClampNeg b30) fun s31 =>
    qm_g a23 12 <| qm_l (s31.2 (o0 + 2) a23.toNatClampNeg) fun b32 =>
    qm_zl v3 <|
    qm_l (qm_lr (v6 + b32) v3) fun b33 =>
    j123 v2 v3 v5 b33 v8 s31

def g_X7_lay (o0 : Nat) (v2 : Int32) (v3 : Int64) (v5 : Int32) (s0 : qe_S) : Option (qe_S) :=
  qm_l (qe_sl s0 o0 0 v3) fun s1 =>
  qm_l (0 : Int32) fun a2 =>
  g_X7_lay_L8
      (fun (a9 : Int32) (b10 : Int64) (a11 : Int32) (s12 : qe_S) =>
        qm_l (0 : Int64) fun b13 =>
        qm_l (0 : Int32) fun a14 =>
        g_X7_lay_L43 o0 a9 b10 a11 qm_F b13 a14 s12)
      o0 v2 v3 v5 qm_F a2 s1

def g_X8_layWheel  (s0 : qe_S) : Option (Int32 × qe_S) :=
  qm_b (g_X3_places (0 : Int32) s0) fun b2 s1 =>
  if (1 : Int64) ≤ b2 then (
    qm_b (g_X3_everyone s1) fun a4 s3 =>
    qm_o (g_X7_lay 22 (0 : Int32) b2 a4 s3) fun s5 =>
    some ((1 : Int32), s5))
  else
    some ((0 : Int32), s1)

def g_X7_hasPlace (v1 : Int32) (s0 : qe_S) : Option (Int32 × qe_S) :=
  qm_j (fun  (s1 : qe_S) =>
      some ((0 : Int32), s1)
  ) fun j18 =>
  if v1 < (0 : Int32) then (
    j18 s0)
  else
  if (s0.2 22 0) ≤ v1.toInt64 then (
    j18 s0)
  else
    some ((1 : Int32), s0)

def g_J9_floorMod_f86c9 (v0 : Int64) (v2 : Int64) (s0 : qe_S) : Option (Int64 × qe_S) :=
  qm_zl v2 <|
  qm_l (qm_lr v0 v2) fun b1 =>
  if (0 : Int64) ≤ (v0 ^^^ v2) then (
    some (b1, s0))
  else
  if b1 = (0 : Int64) then (
    some (b1, s0))
  else
    some ((b1 + v2), s0)

def g_X7_chooses (o0 : Nat) (v1 : Int32) (v2 : Int64) (s0 : qe_S) : Option (Int32 × qe_S) :=
  if v1 < (0 : Int32) then (
    some ((0 : Int32), s0))
  else
  if (12 : Int32) ≤ v1 then (
    some ((0 : Int32), s0))
  else
  if (1 : Int64) ≤ (s0.2 o0 0) then (
    qm_g v1 12 <| qm_l (s0.2 (o0 + 1) v1.toNatClampNeg) fun b1 =>
    qm_b (g_J9_floorMod_f86c9 (v2 - b1) (s0.2 o0 0) s0) fun b3 s2 =>
    qm_g v1 12 <| qm_l (s2.2 (o0 + 2) v1.toNatClampNeg) fun b4 =>
    if b4 ≤ b3 then (
      some ((0 : Int32), s2))
    else
      some ((1 : Int32), s2))
  else
    some ((0 : Int32), s0)

def g_X7_chosenBy_L5  (o0 : Nat) (v1 : Int64) : Nat → Int32 → Int32 → qe_S → Option (Int32 × qe_S)
  | 0, _, _, _ => none
  | n + 1, v3, v4, s0 =>
    if (12 : Int32) ≤ v4 then (
      some (v3, s0))
    else
    qm_j (fun (b3 : Int64) (a4 : Int32) (q5 : Int32) (q6 : Int32) (s7 : qe_S) =>
        qm_l (q6 ||| q5) fun a8 =>
        qm_l (a4 + (1 : Int32)) fun a9 =>
        g_X7_chosenBy_L5 o0 v1 n a8 a9 s7
    ) fun j31 =>
    qm_b (g_X7_chooses o0 v4 v1 s0) fun a11 s10 =>
    if a11 = (0 : Int32) then (
      j31 v1 v4 (0 : Int32) v3 s10)
    else
      j31 v1 v4 ((1 : Int32) <<< (v4 &&& 31)) v3 s10

def g_X7_chosenBy (o0 : Nat) (v1 : Int64) (s0 : qe_S) : Option (Int32 × qe_S) :=
  qm_l (0 : Int32) fun a1 =>
  qm_l (0 : Int32) fun a2 =>
  g_X7_chosenBy_L5 o0 v1 qm_F a1 a2 s0

def g_X8_chosen (v1 : Int32) (s0 : qe_S) : Option (Int32 × qe_S) :=
  qm_b (g_X8_layWheel s0) fun a2 s1 =>
  if a2 = (0 : Int32) then (
    qm_b (g_X8_refuse (-7 : Int32) s1) fun a10 s9 =>
    some (a10, s9))
  else
  qm_b (g_X7_hasPlace v1 s1) fun a4 s3 =>
  if a4 = (0 : Int32) then (
    qm_b (g_X8_refuse (-2 : Int32) s3) fun a6 s5 =>
    some (a6, s5))
  else
  qm_b (g_X7_chosenBy 22 v1.toInt64 s3) fun a8 s7 =>
  some (a8, s7)

def g_J9_min_f86c9 (v0 : Int64) (v2 : Int64) (s0 : qe_S) : Option (Int64 × qe_S) :=
  if v2 < v0 then (
    some (v2, s0))
  else
    some (v0, s0)

def g_X7_nextEnd_L8  (v1 : Int64) : Nat → Int64 → Int32 → qe_S → Option (Int64 × qe_S)
  | 0, _, _, _ => none
  | n + 1, v3, v5, s0 =>
    if (12 : Int32) ≤ v5 then (
      some (v3, s0))
    else
    if (s0.2 22 0) ≤ (0 : Int64) then (
      some (v3, s0))
    else
    qm_j (fun (b3 : Int64) (a4 : Int32) (q5 : Int64) (s6 : qe_S) =>
        qm_l (a4 + (1 : Int32)) fun a7 =>
        g_X7_nextEnd_L8 v1 n q5 a7 s6
    ) fun j63 =>
    qm_g v5 12 <| qm_l (s0.2 23 v5.toNatClampNeg) fun b8 =>
    qm_g v5 12 <| qm_l (s0.2 24 v5.toNatClampNeg) fun b9 =>
    qm_zl (s0.2 22 0) <|
    qm_l (qm_lr (b8 + b9) (s0.2 22 0)) fun b10 =>
    if b10 ≤ v1 then (
      j63 v1 v5 v3 s0)
    else
    qm_b (g_J9_min_f86c9 v3 b10 s0) fun b12 s11 =>
    j63 v1 v5 b12 s11

def g_X7_nextEnd (v1 : Int64) (s0 : qe_S) : Option (Int64 × qe_S) :=
  qm_l (s0.2 22 0) fun b1 =>
  qm_l (0 : Int32) fun a2 =>
  g_X7_nextEnd_L8 v1 qm_F b1 a2 s0

def g_X5_trace_L7   : Nat → Int64 → qe_S → Option (qe_S)
  | 0, _, _ => none
  | n + 1, v2, s0 =>
    if (13 : Int32) ≤ (s0.1 28 0) then (
      some s0)
    else
    if (s0.2 22 0) ≤ v2 then (
      some s0)
    else
    qm_b (g_X7_nextEnd v2 s0) fun b4 s3 =>
    qm_g (s3.1 28 0) 13 <| qm_l (qe_sl s3 29 (s3.1 28 0).toNatClampNeg v2) fun s5 =>
    qm_g (s5.1 28 0) 13 <| qm_l (qe_sl s5 30 (s5.1 28 0).toNatClampNeg (b4 - v2)) fun s6 =>
    qm_b (g_X7_chosenBy 22 v2 s6) fun a8 s7 =>
    qm_g (s6.1 28 0) 13 <| qm_l (qe_si s7 31 (s6.1 28 0).toNatClampNeg a8) fun s9 =>
    qm_l (qe_si s9 28 0 ((s9.1 28 0) + (1 : Int32))) fun s10 =>
    g_X5_trace_L7 n b4 s10

def g_X5_trace  (s0 : qe_S) : Option (qe_S) :=
  qm_l (qe_si s0 28 0 (0 : Int32)) fun s1 =>
  qm_l (0 : Int64) fun b2 =>
  g_X5_trace_L7 qm_F b2 s1

def g_X8_run (v1 : Int32) (v2 : Int32) (s0 : qe_S) : Option (Int32 × qe_S) :=
  if v1 < (-1 : Int32) then (
    qm_b (g_X8_refuse (-1 : Int32) s0) fun a2 s1 =>
    some (a2, s1))
  else
  if v2 < (0 : Int32) then (
    qm_b (g_X8_refuse (-1 : Int32) s0) fun a4 s3 =>
    some (a4, s3))
  else
  if v2 ≤ (2 : Int32) then (
    qm_b (g_X8_layWheel s0) fun a6 s5 =>
    if a6 = (0 : Int32) then (
      qm_b (g_X8_refuse (-7 : Int32) s5) fun a14 s13 =>
      some (a14, s13))
    else
    qm_o (g_X5_trace s5) fun s7 =>
    if v1 = (-1 : Int32) then (
      some ((s7.1 28 0), s7))
    else
    if v1 < (s7.1 28 0) then (
      if v2 = (0 : Int32) then (
        qm_g v1 13 <| qm_l (s7.2 29 v1.toNatClampNeg) fun b8 =>
        some (b8.toInt32, s7))
      else
      if v2 = (1 : Int32) then (
        qm_g v1 13 <| qm_l (s7.2 30 v1.toNatClampNeg) fun b9 =>
        some (b9.toInt32, s7))
      else
      qm_g v1 13 <| qm_l (s7.1 31 v1.toNatClampNeg) fun a10 =>
      some (a10, s7))
    else
    qm_b (g_X8_refuse (-5 : Int32) s7) fun a12 s11 =>
    some (a12, s11))
  else
  qm_b (g_X8_refuse (-1 : Int32) s0) fun a16 s15 =>
  some (a16, s15)

def g_J9_max_f86c9 (v0 : Int64) (v2 : Int64) (s0 : qe_S) : Option (Int64 × qe_S) :=
  if v0 < v2 then (
    some (v2, s0))
  else
    some (v0, s0)

def g_X8_meeting_L6  (v0 : Int64) (v2 : Int64) (v4 : Int64) (v6 : Int64) (v8 : Int64) : Nat → Int64 → Int32 → qe_S → Option (Int64 × qe_S)
  | 0, _, _, _ => none
  | n + 1, v10, v12, s0 =>
    if (1 : Int32) < v12 then (
      some (v10, s0))
    else
    qm_l (v4 + (v12.toInt64 * v8)) fun b3 =>
    qm_b (g_J9_min_f86c9 (v0 + v2) (b3 + v6) s0) fun b5 s4 =>
    qm_b (g_J9_max_f86c9 v0 b3 s4) fun b7 s6 =>
    qm_l (b5 - b7) fun b8 =>
    qm_b (g_J9_max_f86c9 (0 : Int64) b8 s6) fun b10 s9 =>
    qm_l (v10 + b10) fun b11 =>
    qm_l (v12 + (1 : Int32)) fun a12 =>
    g_X8_meeting_L6 v0 v2 v4 v6 v8 n b11 a12 s9

def g_X8_meeting (v0 : Int64) (v2 : Int64) (v4 : Int64) (v6 : Int64) (v8 : Int64) (s0 : qe_S) : Option (Int64 × qe_S) :=
  qm_l (0 : Int64) fun b1 =>
  qm_l (-1 : Int32) fun a2 =>
  g_X8_meeting_L6 v0 v2 v4 v6 v8 qm_F b1 a2 s0

def g_X7_together (o0 : Nat) (v1 : Int32) (v2 : Int32) (s0 : qe_S) : Option (Int64 × qe_S) :=
  qm_g v1 12 <| qm_l (s0.2 (o0 + 1) v1.toNatClampNeg) fun b1 =>
  qm_g v1 12 <| qm_l (s0.2 (o0 + 2) v1.toNatClampNeg) fun b2 =>
  qm_g v2 12 <| qm_l (s0.2 (o0 + 1) v2.toNatClampNeg) fun b3 =>
  qm_g v2 12 <| qm_l (s0.2 (o0 + 2) v2.toNatClampNeg) fun b4 =>
  qm_b (g_X8_meeting b1 b2 b3 b4 (s0.2 o0 0) s0) fun b6 s5 =>
  some (b6, s5)

def g_X8_joint (v1 : Int32) (v2 : Int32) (v3 : Int32) (s0 : qe_S) : Option (Int64 × qe_S) :=
  qm_b (g_X3_has v1 s0) fun a2 s1 =>
  if a2 = (0 : Int32) then (
    qm_b (g_X8_refuseLong (-1 : Int32) s1) fun b4 s3 =>
    some (b4, s3))
  else
  qm_b (g_X3_has v2 s1) fun a6 s5 =>
  if a6 = (0 : Int32) then (
    qm_b (g_X8_refuseLong (-1 : Int32) s5) fun b20 s19 =>
    some (b20, s19))
  else
  qm_b (g_X8_isPart v3 s5) fun a8 s7 =>
  if a8 = (0 : Int32) then (
    qm_b (g_X8_refuseLong (-2 : Int32) s7) fun b18 s17 =>
    some (b18, s17))
  else
  qm_b (g_X8_layWheel s7) fun a10 s9 =>
  if a10 = (0 : Int32) then (
    qm_b (g_X8_refuseLong (-7 : Int32) s9) fun b16 s15 =>
    some (b16, s15))
  else
  qm_b (g_X7_together 22 v1 v2 s9) fun b12 s11 =>
  qm_b (g_X8_lowest b12 (s11.2 22 0) v3 s11) fun b14 s13 =>
  some (b14, s13)

def g_X8_joints_L50 (k81 : Int32 → Int64 → qe_S → Option (Int64 × qe_S)) (v1 : Int32) (v2 : Int32) : Nat → Int64 → Int32 → qe_S → Option (Int64 × qe_S)
  | 0, _, _, _ => none
  | n + 1, v3, v5, s0 =>
    if (s0.1 1 0) ≤ v5 then (
      k81 v2 v3 s0)
    else
    qm_b (g_X7_together 22 v1 v5 s0) fun b12 s11 =>
    qm_l (v3 + b12) fun b13 =>
    qm_l (v5 + (1 : Int32)) fun a14 =>
    g_X8_joints_L50 k81 v1 v2 n b13 a14 s11

def g_X8_joints (v1 : Int32) (v2 : Int32) (s0 : qe_S) : Option (Int64 × qe_S) :=
  qm_b (g_X3_has v1 s0) fun a2 s1 =>
  if a2 = (0 : Int32) then (
    qm_b (g_X8_refuseLong (-1 : Int32) s1) fun b25 s24 =>
    some (b25, s24))
  else
  qm_b (g_X8_isPart v2 s1) fun a4 s3 =>
  if a4 = (0 : Int32) then (
    qm_b (g_X8_refuseLong (-2 : Int32) s3) fun b23 s22 =>
    some (b23, s22))
  else
  qm_b (g_X8_layWheel s3) fun a6 s5 =>
  if a6 = (0 : Int32) then (
    qm_b (g_X8_refuseLong (-7 : Int32) s5) fun b21 s20 =>
    some (b21, s20))
  else
  qm_l (0 : Int64) fun b7 =>
  qm_l (0 : Int32) fun a8 =>
  g_X8_joints_L50
      (fun (a15 : Int32) (b16 : Int64) (s17 : qe_S) =>
        qm_b (g_X8_lowest b16 (s17.2 22 0) a15 s17) fun b19 s18 =>
        some (b19, s18))
      v1 v2 qm_F b7 a8 s5

def g_J6_bitCount_0f7a4 (v0 : Int32) (s0 : qe_S) : Option (Int32 × qe_S) :=
  qm_l (v0 - ((qm_us v0 (1 : Int32)) &&& (1431655765 : Int32))) fun a1 =>
  qm_l ((a1 &&& (858993459 : Int32)) + ((qm_us a1 (2 : Int32)) &&& (858993459 : Int32))) fun a2 =>
  qm_l ((a2 + (qm_us a2 (4 : Int32))) &&& (252645135 : Int32)) fun a3 =>
  qm_l (a3 + (qm_us a3 (8 : Int32))) fun a4 =>
  qm_l (a4 + (qm_us a4 (16 : Int32))) fun a5 =>
  some ((a5 &&& (63 : Int32)), s0)

def g_X8_isFair_L8 (k69 : Int64 → Int32 → qe_S → Option (Int32 × qe_S)) (v1 : Int32) : Nat → Int64 → Int32 → Int32 → qe_S → Option (Int32 × qe_S)
  | 0, _, _, _, _ => none
  | n + 1, v2, v4, v5, s0 =>
    if (s0.1 1 0) ≤ v5 then (
      k69 v2 v4 s0)
    else
    qm_j (fun (a6 : Int32) (b7 : Int64) (a8 : Int32) (a9 : Int32) (s10 : qe_S) =>
        qm_l (a9 + (1 : Int32)) fun a11 =>
        g_X8_isFair_L8 k69 v1 n b7 a8 a11 s10
    ) fun j63 =>
    qm_g v5 12 <| qm_l (s0.1 2 v5.toNatClampNeg) fun a12 =>
    if a12 = v1 then (
      qm_b (g_X3_partsOf v5 (0 : Int32) (s0.2 22 0) s0) fun b14 s13 =>
      qm_l (v2 + b14) fun b15 =>
      qm_l (v4 ||| ((1 : Int32) <<< (v5 &&& 31))) fun a16 =>
      j63 v1 b15 a16 v5 s13)
    else
      j63 v1 v2 v4 v5 s0

def g_X8_isFair_L72  (v2 : Int64) (v4 : Int32) : Nat → Int32 → qe_S → Option (Int32 × qe_S)
  | 0, _, _ => none
  | n + 1, v5, s0 =>
    if (s0.1 28 0) ≤ v5 then (
      some ((1 : Int32), s0))
    else
    qm_g v5 13 <| qm_l (s0.1 31 v5.toNatClampNeg) fun a21 =>
    qm_b (g_J6_bitCount_0f7a4 (a21 &&& v4) s0) fun a23 s22 =>
    qm_l ((a23.toInt64 * (s22.2 22 0)) - v2) fun b24 =>
    if b24 ≤ (-(s22.2 22 0)) then (
      some ((0 : Int32), s22))
    else
    if b24 < (s22.2 22 0) then (
      qm_l (v5 + (1 : Int32)) fun a25 =>
      g_X8_isFair_L72 v2 v4 n a25 s22)
    else
      some ((0 : Int32), s22)

def g_X8_isFair (v1 : Int32) (s0 : qe_S) : Option (Int32 × qe_S) :=
  qm_l (0 : Int64) fun b1 =>
  qm_l (0 : Int32) fun a2 =>
  qm_l (0 : Int32) fun a3 =>
  g_X8_isFair_L8
      (fun (b17 : Int64) (a18 : Int32) (s19 : qe_S) =>
        qm_l (0 : Int32) fun a20 =>
        g_X8_isFair_L72 b17 a18 qm_F a20 s19)
      v1 qm_F b1 a2 a3 s0

def g_X8_fair (v1 : Int32) (s0 : qe_S) : Option (Int32 × qe_S) :=
  if v1 < (0 : Int32) then (
    qm_b (g_X8_refuse (-1 : Int32) s0) fun a2 s1 =>
    some (a2, s1))
  else
  if v1 ≤ (3 : Int32) then (
    qm_b (g_X8_layWheel s0) fun a4 s3 =>
    if a4 = (0 : Int32) then (
      qm_b (g_X8_refuse (-7 : Int32) s3) fun a9 s8 =>
      some (a9, s8))
    else
    qm_o (g_X5_trace s3) fun s5 =>
    qm_b (g_X8_isFair v1 s5) fun a7 s6 =>
    if a7 = (0 : Int32) then (
      some ((0 : Int32), s6))
    else
      some ((1 : Int32), s6))
  else
  qm_b (g_X8_refuse (-1 : Int32) s0) fun a11 s10 =>
  some (a11, s10)

def g_X0_productFits (v0 : Int64) (v2 : Int64) (s0 : qe_S) : Option (Int32 × qe_S) :=
  qm_j (fun (b1 : Int64) (b2 : Int64) (s3 : qe_S) =>
      qm_j (fun  (s4 : qe_S) =>
          some ((1 : Int32), s4)
      ) fun j28 =>
      if b1 = (0 : Int64) then (
        j28 s3)
      else
      if b2 = (-9223372036854775808 : Int64) then (
        some ((0 : Int32), s3))
      else
        j28 s3
  ) fun j14 =>
  if v0 = (0 : Int64) then (
    j14 v0 v2 s0)
  else
  if v0 = (-1 : Int64) then (
    j14 v0 v2 s0)
  else
  qm_zl v0 <|
  if ((v0 * v2) / v0) = v2 then (
    some ((1 : Int32), s0))
  else
    some ((0 : Int32), s0)

def g_X0_add (o0 : Nat) (v1 : Int64) (v3 : Int64) (s0 : qe_S) : Option (qe_S) :=
  qm_j (fun (b1 : Int64) (b2 : Int64) (b3 : Int64) (q4 : Int32) (s5 : qe_S) =>
      qm_j (fun  (s6 : qe_S) =>
          qm_l (qe_si s6 o0 2 (1 : Int32)) fun s7 =>
          some s7
      ) fun j84 =>
      qm_b (g_X0_productFits (s5.2 o0 0) b2 s5) fun a9 s8 =>
      if a9 = (0 : Int32) then (
        j84 s8)
      else
      qm_b (g_X0_productFits b1 (s8.2 o0 1) s8) fun a11 s10 =>
      if a11 = (0 : Int32) then (
        j84 s10)
      else
      qm_b (g_X0_productFits (s10.2 o0 1) b2 s10) fun a13 s12 =>
      if a13 = (0 : Int32) then (
        j84 s12)
      else
      if q4 = (0 : Int32) then (
        j84 s12)
      else
      qm_o (g_X0_reduce o0 b3 ((s12.2 o0 1) * b2) s12) fun s14 =>
      some s14
  ) fun j44 =>
  qm_l ((s0.2 o0 0) * v3) fun b15 =>
  qm_l (v1 * (s0.2 o0 1)) fun b16 =>
  qm_l (b15 + b16) fun b17 =>
  if ((b15 ^^^ b17) &&& (b16 ^^^ b17)) < (0 : Int64) then (
    j44 v1 v3 b17 (0 : Int32) s0)
  else
    j44 v1 v3 b17 (1 : Int32) s0

def g_X8_addEstimate_L2  (o1 : Nat) (v2 : Int32) : Nat → Int32 → qe_S → Option (qe_S)
  | 0, _, _ => none
  | n + 1, v3, s0 =>
    if (s0.1 1 0) ≤ v3 then (
      some s0)
    else
    qm_j (fun (a2 : Int32) (a3 : Int32) (s4 : qe_S) =>
        qm_l (a3 + (1 : Int32)) fun a5 =>
        g_X8_addEstimate_L2 o1 v2 n a5 s4
    ) fun j77 =>
    qm_b (g_X8_isIn v2 v3 s0) fun a7 s6 =>
    if a7 = (0 : Int32) then (
      j77 v2 v3 s6)
    else
    qm_g v3 12 <| qm_l (s6.1 3 v3.toNatClampNeg) fun a8 =>
    qm_b (g_X3_below v3 (0 : Int32) s6) fun a10 s9 =>
    qm_b (g_X3_above v3 (0 : Int32) s9) fun a12 s11 =>
    qm_o (g_X0_begin 34 (a8.toInt64 * a10.toInt64) a12.toInt64 s11) fun s13 =>
    qm_o (g_X0_add o1 (s13.2 34 0) (s13.2 34 1) s13) fun s14 =>
    j77 v2 v3 s14

def g_X8_addEstimate (o1 : Nat) (v2 : Int32) (s0 : qe_S) : Option (qe_S) :=
  qm_l (0 : Int32) fun a1 =>
  g_X8_addEstimate_L2 o1 v2 qm_F a1 s0

def g_X8_partOf (v2 : Int32) (s0 : qe_S) : Option (Int64 × qe_S) :=
  if (s0.1 32 2) = (0 : Int32) then (
    if v2 = (0 : Int32) then (
      some ((s0.2 32 0), s0))
    else
      some ((s0.2 32 1), s0))
  else
  qm_b (g_X8_refuseLong (-7 : Int32) s0) fun b2 s1 =>
  some (b2, s1)

def g_X8_estimate (v1 : Int32) (v2 : Int32) (s0 : qe_S) : Option (Int64 × qe_S) :=
  qm_b (g_X8_isPart v2 s0) fun a2 s1 =>
  if a2 = (0 : Int32) then (
    qm_b (g_X8_refuseLong (-2 : Int32) s1) fun b18 s17 =>
    some (b18, s17))
  else
  qm_b (g_X8_layWheel s1) fun a4 s3 =>
  if a4 = (0 : Int32) then (
    qm_b (g_X8_refuseLong (-7 : Int32) s3) fun b16 s15 =>
    some (b16, s15))
  else
  qm_b (g_X7_hasPlace v1 s3) fun a6 s5 =>
  if a6 = (0 : Int32) then (
    qm_b (g_X8_refuseLong (-2 : Int32) s5) fun b14 s13 =>
    some (b14, s13))
  else
  qm_o (g_X0_begin 32 (0 : Int64) (1 : Int64) s5) fun s7 =>
  qm_b (g_X7_chosenBy 22 v1.toInt64 s7) fun a9 s8 =>
  qm_o (g_X8_addEstimate 32 a9 s8) fun s10 =>
  qm_b (g_X8_partOf v2 s10) fun b12 s11 =>
  some (b12, s11)

def g_X3_marksTogether_L4   : Nat → Int64 → Int32 → qe_S → Option (Int64 × qe_S)
  | 0, _, _, _ => none
  | n + 1, v1, v3, s0 =>
    if (s0.1 1 0) ≤ v3 then (
      some (v1, s0))
    else
    qm_g v3 12 <| qm_l (s0.1 3 v3.toNatClampNeg) fun a3 =>
    qm_l (v1 + a3.toInt64) fun b4 =>
    qm_l (v3 + (1 : Int32)) fun a5 =>
    g_X3_marksTogether_L4 n b4 a5 s0

def g_X3_marksTogether  (s0 : qe_S) : Option (Int64 × qe_S) :=
  qm_l (0 : Int64) fun b1 =>
  qm_l (0 : Int32) fun a2 =>
  g_X3_marksTogether_L4 qm_F b1 a2 s0

def g_X0_times (v1 : Int64) (v3 : Int64) (s0 : qe_S) : Option (qe_S) :=
  qm_j (fun  (s1 : qe_S) =>
      qm_l (qe_si s1 33 2 (1 : Int32)) fun s2 =>
      some s2
  ) fun j22 =>
  qm_b (g_X0_productFits (s0.2 33 0) v1 s0) fun a4 s3 =>
  if a4 = (0 : Int32) then (
    j22 s3)
  else
  qm_b (g_X0_productFits (s3.2 33 1) v3 s3) fun a6 s5 =>
  if a6 = (0 : Int32) then (
    j22 s5)
  else
  qm_o (g_X0_reduce 33 ((s5.2 33 0) * v1) ((s5.2 33 1) * v3) s5) fun s7 =>
  some s7

def g_X8_overAllRuns_L50 (k216 : Int32 → qe_S → Option (Int64 × qe_S)) (v1 : Int32) (v2 : Int32) : Nat → Int32 → qe_S → Option (Int64 × qe_S)
  | 0, _, _ => none
  | n + 1, v3, s0 =>
    if (s0.1 28 0) ≤ v3 then (
      k216 v1 s0)
    else
    qm_j (fun (a9 : Int32) (a10 : Int32) (a11 : Int32) (s12 : qe_S) =>
        qm_g a11 13 <| qm_l (s12.2 30 a11.toNatClampNeg) fun b13 =>
        qm_o (g_X0_begin 34 b13 (s12.2 22 0) s12) fun s14 =>
        qm_o (g_X0_times (s14.2 34 0) (s14.2 34 1) s14) fun s15 =>
        if (s15.1 33 2) = (0 : Int32) then (
          qm_o (g_X0_add 32 (s15.2 33 0) (s15.2 33 1) s15) fun s16 =>
          qm_l (a11 + (1 : Int32)) fun a17 =>
          g_X8_overAllRuns_L50 k216 v1 v2 n a17 s16)
        else
        qm_b (g_X8_refuseLong (-7 : Int32) s15) fun b19 s18 =>
        some (b19, s18)
    ) fun j128 =>
    qm_o (g_X0_begin 33 (0 : Int64) (1 : Int64) s0) fun s20 =>
    qm_g v3 13 <| qm_l (s20.1 31 v3.toNatClampNeg) fun a21 =>
    qm_o (g_X8_addEstimate 33 a21 s20) fun s22 =>
    if v2 = (0 : Int32) then (
      j128 v1 v2 v3 s22)
    else
    qm_b (g_X3_marksTogether s22) fun b24 s23 =>
    qm_o (g_X0_add 33 (-b24) (1 : Int64) s23) fun s25 =>
    qm_o (g_X0_times (s25.2 33 0) (s25.2 33 1) s25) fun s26 =>
    j128 v1 v2 v3 s26

def g_X8_overAllRuns (v1 : Int32) (v2 : Int32) (s0 : qe_S) : Option (Int64 × qe_S) :=
  qm_b (g_X8_isPart v1 s0) fun a2 s1 =>
  if a2 = (0 : Int32) then (
    qm_b (g_X8_refuseLong (-2 : Int32) s1) fun b34 s33 =>
    some (b34, s33))
  else
  qm_b (g_X8_layWheel s1) fun a4 s3 =>
  if a4 = (0 : Int32) then (
    qm_b (g_X8_refuseLong (-7 : Int32) s3) fun b32 s31 =>
    some (b32, s31))
  else
  qm_o (g_X5_trace s3) fun s5 =>
  qm_o (g_X0_begin 32 (0 : Int64) (1 : Int64) s5) fun s6 =>
  qm_l (0 : Int32) fun a7 =>
  g_X8_overAllRuns_L50
      (fun (a27 : Int32) (s28 : qe_S) =>
        qm_b (g_X8_partOf a27 s28) fun b30 s29 =>
        some (b30, s29))
      v1 v2 qm_F a7 s6

def g_X8_mean (v1 : Int32) (s0 : qe_S) : Option (Int64 × qe_S) :=
  qm_b (g_X8_overAllRuns v1 (0 : Int32) s0) fun b2 s1 =>
  some (b2, s1)

def g_X8_spread (v1 : Int32) (s0 : qe_S) : Option (Int64 × qe_S) :=
  qm_b (g_X8_overAllRuns v1 (1 : Int32) s0) fun b2 s1 =>
  some (b2, s1)

def g_X8_twice (v1 : Int32) (v2 : Int32) (s0 : qe_S) : Option (Int32 × qe_S) :=
  qm_b (g_X8_layWheel s0) fun a2 s1 =>
  if a2 = (0 : Int32) then (
    qm_b (g_X8_refuse (-7 : Int32) s1) fun a21 s20 =>
    some (a21, s20))
  else
  qm_b (g_X3_places (1 : Int32) s1) fun b4 s3 =>
  if (1 : Int64) ≤ b4 then (
    qm_b (g_X7_hasPlace v1 s3) fun a6 s5 =>
    if a6 = (0 : Int32) then (
      qm_b (g_X8_refuse (-2 : Int32) s5) fun a8 s7 =>
      some (a8, s7))
    else
    if v2 < (0 : Int32) then (
      qm_b (g_X8_refuse (-2 : Int32) s5) fun a10 s9 =>
      some (a10, s9))
    else
    if v2.toInt64 < b4 then (
      qm_b (g_X7_chosenBy 22 v1.toInt64 s5) fun a12 s11 =>
      qm_o (g_X7_lay 25 (1 : Int32) b4 a12 s11) fun s13 =>
      qm_b (g_X7_chosenBy 25 v2.toInt64 s13) fun a15 s14 =>
      some (a15, s14))
    else
    qm_b (g_X8_refuse (-2 : Int32) s5) fun a17 s16 =>
    some (a17, s16))
  else
  qm_b (g_X8_refuse (-7 : Int32) s3) fun a19 s18 =>
  some (a19, s18)

def g_X8_pairsOfBoth_L17  (v1 : Int32) (v2 : Int32) (v3 : Int64) : Nat → Int64 → Int32 → qe_S → Option (Int64 × qe_S)
  | 0, _, _, _ => none
  | n + 1, v5, v7, s0 =>
    if (s0.1 28 0) ≤ v7 then (
      some (v5, s0))
    else
    qm_g v7 13 <| qm_l (s0.1 31 v7.toNatClampNeg) fun a4 =>
    qm_o (g_X7_lay 25 (1 : Int32) v3 a4 s0) fun s5 =>
    qm_g v7 13 <| qm_l (s5.2 30 v7.toNatClampNeg) fun b6 =>
    qm_b (g_X7_together 25 v1 v2 s5) fun b8 s7 =>
    qm_l (v5 + (b6 * b8)) fun b9 =>
    qm_l (v7 + (1 : Int32)) fun a10 =>
    g_X8_pairsOfBoth_L17 v1 v2 v3 n b9 a10 s7

def g_X8_pairsOfBoth (v1 : Int32) (v2 : Int32) (v3 : Int64) (s0 : qe_S) : Option (Int64 × qe_S) :=
  qm_o (g_X5_trace s0) fun s1 =>
  qm_l (0 : Int64) fun b2 =>
  qm_l (0 : Int32) fun a3 =>
  g_X8_pairsOfBoth_L17 v1 v2 v3 qm_F b2 a3 s1

def g_X8_both (v1 : Int32) (v2 : Int32) (v3 : Int32) (s0 : qe_S) : Option (Int64 × qe_S) :=
  qm_b (g_X3_has v1 s0) fun a2 s1 =>
  if a2 = (0 : Int32) then (
    qm_b (g_X8_refuseLong (-1 : Int32) s1) fun b4 s3 =>
    some (b4, s3))
  else
  qm_b (g_X3_has v2 s1) fun a6 s5 =>
  if a6 = (0 : Int32) then (
    qm_b (g_X8_refuseLong (-1 : Int32) s5) fun b24 s23 =>
    some (b24, s23))
  else
  qm_b (g_X8_isPart v3 s5) fun a8 s7 =>
  if a8 = (0 : Int32) then (
    qm_b (g_X8_refuseLong (-2 : Int32) s7) fun b22 s21 =>
    some (b22, s21))
  else
  qm_b (g_X3_places (1 : Int32) s7) fun b10 s9 =>
  qm_b (g_X8_layWheel s9) fun a12 s11 =>
  if a12 = (0 : Int32) then (
    qm_b (g_X8_refuseLong (-7 : Int32) s11) fun b14 s13 =>
    some (b14, s13))
  else
  if (1 : Int64) ≤ b10 then (
    qm_b (g_X8_pairsOfBoth v1 v2 b10 s11) fun b16 s15 =>
    qm_b (g_X8_lowest b16 ((s15.2 22 0) * b10) v3 s15) fun b18 s17 =>
    some (b18, s17))
  else
  qm_b (g_X8_refuseLong (-7 : Int32) s11) fun b20 s19 =>
  some (b20, s19)

def g_X8_layBothTimes  (s0 : qe_S) : Option (Int32 × qe_S) :=
  qm_b (g_X3_places (2 : Int32) s0) fun b2 s1 =>
  if (1 : Int64) ≤ b2 then (
    qm_b (g_X3_everyone s1) fun a4 s3 =>
    qm_o (g_X7_lay 22 (0 : Int32) b2 a4 s3) fun s5 =>
    qm_b (g_X3_everyone s5) fun a7 s6 =>
    qm_o (g_X7_lay 25 (2 : Int32) b2 a7 s6) fun s8 =>
    some ((1 : Int32), s8))
  else
    some ((0 : Int32), s1)

def g_X8_keptBy (v1 : Int32) (v2 : Int64) (s0 : qe_S) : Option (Int64 × qe_S) :=
  qm_l (s0.2 22 0) fun b1 =>
  if (1 : Int64) ≤ b1 then (
    qm_g v1 12 <| qm_l (s0.2 26 v1.toNatClampNeg) fun b2 =>
    qm_zl b1 <|
    qm_l (qm_lr (b2 + v2) b1) fun b3 =>
    qm_g v1 12 <| qm_l (s0.2 23 v1.toNatClampNeg) fun b4 =>
    qm_g v1 12 <| qm_l (s0.2 24 v1.toNatClampNeg) fun b5 =>
    qm_g v1 12 <| qm_l (s0.2 27 v1.toNatClampNeg) fun b6 =>
    qm_b (g_X8_meeting b4 b5 b3 b6 b1 s0) fun b8 s7 =>
    some (b8, s7))
  else
    some ((0 : Int64), s0)

def g_X8_kept (v1 : Int32) (v2 : Int32) (v3 : Int32) (s0 : qe_S) : Option (Int64 × qe_S) :=
  qm_b (g_X3_has v1 s0) fun a2 s1 =>
  if a2 = (0 : Int32) then (
    qm_b (g_X8_refuseLong (-1 : Int32) s1) fun b20 s19 =>
    some (b20, s19))
  else
  qm_b (g_X8_isPart v3 s1) fun a4 s3 =>
  if a4 = (0 : Int32) then (
    qm_b (g_X8_refuseLong (-2 : Int32) s3) fun b18 s17 =>
    some (b18, s17))
  else
  qm_b (g_X8_layBothTimes s3) fun a6 s5 =>
  if a6 = (0 : Int32) then (
    qm_b (g_X8_refuseLong (-7 : Int32) s5) fun b16 s15 =>
    some (b16, s15))
  else
  qm_b (g_X7_hasPlace v2 s5) fun a8 s7 =>
  if a8 = (0 : Int32) then (
    qm_b (g_X8_refuseLong (-2 : Int32) s7) fun b14 s13 =>
    some (b14, s13))
  else
  qm_b (g_X8_keptBy v1 v2.toInt64 s7) fun b10 s9 =>
  qm_b (g_X8_lowest b10 (s9.2 22 0) v3 s9) fun b12 s11 =>
  some (b12, s11)

def g_X8_allKeptBy_L5  (v1 : Int64) : Nat → Int64 → Int32 → qe_S → Option (Int64 × qe_S)
  | 0, _, _, _ => none
  | n + 1, v3, v5, s0 =>
    if (s0.1 1 0) ≤ v5 then (
      some (v3, s0))
    else
    qm_b (g_X8_keptBy v5 v1 s0) fun b4 s3 =>
    qm_l (v3 + b4) fun b5 =>
    qm_l (v5 + (1 : Int32)) fun a6 =>
    g_X8_allKeptBy_L5 v1 n b5 a6 s3

def g_X8_allKeptBy (v1 : Int64) (s0 : qe_S) : Option (Int64 × qe_S) :=
  qm_l (0 : Int64) fun b1 =>
  qm_l (0 : Int32) fun a2 =>
  g_X8_allKeptBy_L5 v1 qm_F b1 a2 s0

def g_X8_overlap (v1 : Int32) (v2 : Int32) (s0 : qe_S) : Option (Int64 × qe_S) :=
  qm_b (g_X8_isPart v2 s0) fun a2 s1 =>
  if a2 = (0 : Int32) then (
    qm_b (g_X8_refuseLong (-2 : Int32) s1) fun b16 s15 =>
    some (b16, s15))
  else
  qm_b (g_X8_layBothTimes s1) fun a4 s3 =>
  if a4 = (0 : Int32) then (
    qm_b (g_X8_refuseLong (-7 : Int32) s3) fun b14 s13 =>
    some (b14, s13))
  else
  qm_b (g_X7_hasPlace v1 s3) fun a6 s5 =>
  if a6 = (0 : Int32) then (
    qm_b (g_X8_refuseLong (-2 : Int32) s5) fun b12 s11 =>
    some (b12, s11))
  else
  qm_b (g_X8_allKeptBy v1.toInt64 s5) fun b8 s7 =>
  qm_b (g_X8_lowest b8 (s7.2 22 0) v2 s7) fun b10 s9 =>
  some (b10, s9)

def g_X8_extremeShift_L24  (v1 : Int32) (v2 : Int64) : Nat → Int64 → Int64 → Int32 → qe_S → Option (Int64 × qe_S)
  | 0, _, _, _, _ => none
  | n + 1, v4, v6, v8, s0 =>
    if ((4 : Int32) * (s0.1 1 0)) ≤ v8 then (
      some (v4, s0))
    else
    if v2 ≤ (0 : Int64) then (
      some (v4, s0))
    else
    qm_j (fun (a7 : Int32) (b8 : Int64) (b9 : Int64) (b10 : Int64) (a11 : Int32) (a12 : Int32) (q13 : Int64) (q14 : Int64) (s15 : qe_S) =>
        qm_j (fun (a16 : Int32) (b17 : Int64) (b18 : Int64) (b19 : Int64) (a20 : Int32) (b21 : Int64) (q22 : Int64) (q23 : Int64) (s24 : qe_S) =>
            qm_j (fun (a25 : Int32) (b26 : Int64) (b27 : Int64) (b28 : Int64) (a29 : Int32) (s30 : qe_S) =>
                qm_l (a29 + (1 : Int32)) fun a31 =>
                g_X8_extremeShift_L24 v1 v2 n b27 b28 a31 s30
            ) fun j173 =>
            qm_j (fun (a32 : Int32) (b33 : Int64) (a34 : Int32) (b35 : Int64) (b36 : Int64) (s37 : qe_S) =>
                j173 a32 b33 b35 b36 a34 s37
            ) fun j165 =>
            qm_l (q23 + q22) fun b38 =>
            qm_b (g_J9_floorMod_f86c9 (b21 - b38) b17 s24) fun b40 s39 =>
            qm_b (g_X8_allKeptBy b40 s39) fun b42 s41 =>
            qm_l (a16.toInt64 * b42) fun b43 =>
            if b19 < b43 then (
              j165 a16 b17 a20 b40 b43 s41)
            else
            if b43 = b19 then (
              if b18 ≤ b40 then (
                j173 a16 b17 b18 b19 a20 s41)
              else
                j165 a16 b17 a20 b40 b43 s41)
            else
              j173 a16 b17 b18 b19 a20 s41
        ) fun j116 =>
        qm_l (q14 + q13) fun b44 =>
        qm_g a12 12 <| qm_l (s15.2 26 a12.toNatClampNeg) fun b45 =>
        qm_z (4 : Int32) <|
        if (2 : Int32) ≤ (qm_ir a11 (4 : Int32)) then (
          qm_g a12 12 <| qm_l (s15.2 27 a12.toNatClampNeg) fun b46 =>
          j116 a7 b8 b9 b10 a11 b44 b46 b45 s15)
        else
          j116 a7 b8 b9 b10 a11 b44 (0 : Int64) b45 s15
    ) fun j81 =>
    qm_z (4 : Int32) <|
    qm_l (v8 / (4 : Int32)) fun a47 =>
    qm_g a47 12 <| qm_l (s0.2 23 a47.toNatClampNeg) fun b48 =>
    qm_z (2 : Int32) <|
    if (qm_ir v8 (2 : Int32)) = (0 : Int32) then (
      j81 v1 v2 v4 v6 v8 a47 (0 : Int64) b48 s0)
    else
    qm_g a47 12 <| qm_l (s0.2 24 a47.toNatClampNeg) fun b49 =>
    j81 v1 v2 v4 v6 v8 a47 b49 b48 s0

def g_X8_extremeShift (v1 : Int32) (s0 : qe_S) : Option (Int64 × qe_S) :=
  qm_l (s0.2 22 0) fun b1 =>
  qm_l (0 : Int64) fun b2 =>
  qm_b (g_X8_allKeptBy (0 : Int64) s0) fun b4 s3 =>
  qm_l (v1.toInt64 * b4) fun b5 =>
  qm_l (0 : Int32) fun a6 =>
  g_X8_extremeShift_L24 v1 b1 qm_F b2 b5 a6 s3

def g_X8_shift (v1 : Int32) (s0 : qe_S) : Option (Int32 × qe_S) :=
  if v1 < (0 : Int32) then (
    qm_b (g_X8_refuse (-1 : Int32) s0) fun a2 s1 =>
    some (a2, s1))
  else
  if v1 ≤ (1 : Int32) then (
    qm_b (g_X8_layBothTimes s0) fun a4 s3 =>
    if a4 = (0 : Int32) then (
      qm_b (g_X8_refuse (-7 : Int32) s3) fun a10 s9 =>
      some (a10, s9))
    else
    if v1 = (0 : Int32) then (
      qm_b (g_X8_extremeShift (1 : Int32) s3) fun b8 s7 =>
      some (b8.toInt32, s7))
    else
    qm_b (g_X8_extremeShift (-1 : Int32) s3) fun b6 s5 =>
    some (b6.toInt32, s5))
  else
  qm_b (g_X8_refuse (-1 : Int32) s0) fun a12 s11 =>
  some (a12, s11)

def g_X8_isManner (v0 : Int32) (s0 : qe_S) : Option (Int32 × qe_S) :=
  qm_j (fun  (s1 : qe_S) =>
      some ((1 : Int32), s1)
  ) fun j9 =>
  if v0 = (0 : Int32) then (
    j9 s0)
  else
  if v0 = (1 : Int32) then (
    j9 s0)
  else
    some ((0 : Int32), s0)

def g_X3_stratumAt (v1 : Int32) (s0 : qe_S) : Option (Int32 × qe_S) :=
  qm_b (g_X3_unitAt v1 s0) fun a2 s1 =>
  qm_b (g_X3_has a2 s1) fun a4 s3 =>
  if a4 = (0 : Int32) then (
    some ((-1 : Int32), s3))
  else
  qm_g a2 12 <| qm_l (s3.1 2 a2.toNatClampNeg) fun a5 =>
  some (a5, s3)

def g_X2_firstBehind_L10  (v1 : Int32) (v2 : Int32) (v3 : Int32) (v4 : Int32) : Nat → Int32 → qe_S → Option (Int32 × qe_S)
  | 0, _, _ => none
  | n + 1, v5, s0 =>
    if (s0.1 1 0) ≤ v5 then (
      some ((-1 : Int32), s0))
    else
    qm_j (fun (a4 : Int32) (a5 : Int32) (a6 : Int32) (a7 : Int32) (a8 : Int32) (s9 : qe_S) =>
        qm_l (a8 + (1 : Int32)) fun a10 =>
        g_X2_firstBehind_L10 v1 v2 v3 v4 n a10 s9
    ) fun j65 =>
    qm_z (s0.1 1 0) <|
    qm_l (qm_ir (v1 + v5) (s0.1 1 0)) fun a11 =>
    qm_b (g_X3_unitAt a11 s0) fun a13 s12 =>
    qm_b (g_X8_isIn v2 a13 s12) fun a15 s14 =>
    if a15 = (0 : Int32) then (
      if v3 = (0 : Int32) then (
        some (a13, s14))
      else
      qm_b (g_X3_stratumAt a11 s14) fun a17 s16 =>
      if a17 = v4 then (
        some (a13, s16))
      else
        j65 v1 v2 v3 v4 v5 s16)
    else
      j65 v1 v2 v3 v4 v5 s14

def g_X2_firstBehind (v1 : Int32) (v2 : Int32) (v3 : Int32) (s0 : qe_S) : Option (Int32 × qe_S) :=
  qm_b (g_X3_stratumAt v1 s0) fun a2 s1 =>
  qm_l (1 : Int32) fun a3 =>
  g_X2_firstBehind_L10 v1 v2 v3 a2 qm_F a3 s1

def g_X2_settle_L6 (k92 : Int32 → Int32 → qe_S → Option (qe_S)) (v2 : Int32) (v3 : Int32) : Nat → Int32 → Int32 → qe_S → Option (qe_S)
  | 0, _, _, _ => none
  | n + 1, v4, v5, s0 =>
    if (s0.1 1 0) ≤ v5 then (
      k92 v2 v4 s0)
    else
    qm_j (fun (a5 : Int32) (a6 : Int32) (a7 : Int32) (a8 : Int32) (s9 : qe_S) =>
        qm_l (a8 + (1 : Int32)) fun a10 =>
        g_X2_settle_L6 k92 v2 v3 n a7 a10 s9
    ) fun j86 =>
    qm_b (g_X3_unitAt v5 s0) fun a12 s11 =>
    qm_b (g_X3_isRefusing a12 s11) fun a14 s13 =>
    if a14 = (0 : Int32) then (
      j86 v2 v3 v4 v5 s13)
    else
    qm_b (g_X8_isIn v2 a12 s13) fun a16 s15 =>
    if a16 = (0 : Int32) then (
      j86 v2 v3 v4 v5 s15)
    else
    qm_j (fun (a17 : Int32) (a18 : Int32) (a19 : Int32) (q20 : Int32) (q21 : Int32) (s22 : qe_S) =>
        qm_l (q21 ||| q20) fun a23 =>
        j86 a17 a18 a23 a19 s22
    ) fun j83 =>
    qm_b (g_X2_firstBehind v5 ((v2 ||| (s15.1 1 1)) ||| v4) v3 s15) fun a25 s24 =>
    qm_g a12 12 <| qm_l (qe_si s24 36 a12.toNatClampNeg a25) fun s26 =>
    if a25 < (0 : Int32) then (
      j83 v2 v3 v5 (0 : Int32) v4 s26)
    else
      j83 v2 v3 v5 ((1 : Int32) <<< (a25 &&& 31)) v4 s26

def g_X2_settle (v2 : Int32) (v3 : Int32) (s0 : qe_S) : Option (qe_S) :=
  qm_l (0 : Int32) fun a1 =>
  qm_l (0 : Int32) fun a2 =>
  g_X2_settle_L6
      (fun (a27 : Int32) (a28 : Int32) (s29 : qe_S) =>
        qm_l (qe_si s29 35 0 ((a27 &&& ((s29.1 1 1) ^^^ (-1 : Int32))) ||| a28)) fun s30 =>
        some s30)
      v2 v3 qm_F a1 a2 s0

def g_X8_replaced (v1 : Int32) (v2 : Int32) (s0 : qe_S) : Option (Int32 × qe_S) :=
  qm_b (g_X8_isManner v2 s0) fun a2 s1 =>
  if a2 = (0 : Int32) then (
    qm_b (g_X8_refuse (-1 : Int32) s1) fun a15 s14 =>
    some (a15, s14))
  else
  qm_b (g_X8_layWheel s1) fun a4 s3 =>
  if a4 = (0 : Int32) then (
    qm_b (g_X8_refuse (-7 : Int32) s3) fun a13 s12 =>
    some (a13, s12))
  else
  qm_b (g_X7_hasPlace v1 s3) fun a6 s5 =>
  if a6 = (0 : Int32) then (
    qm_b (g_X8_refuse (-2 : Int32) s5) fun a11 s10 =>
    some (a11, s10))
  else
  qm_b (g_X7_chosenBy 22 v1.toInt64 s5) fun a8 s7 =>
  qm_o (g_X2_settle a8 v2 s7) fun s9 =>
  some ((s9.1 35 0), s9)

def g_X8_substitute (v1 : Int32) (v2 : Int32) (v3 : Int32) (s0 : qe_S) : Option (Int32 × qe_S) :=
  qm_b (g_X3_has v1 s0) fun a2 s1 =>
  if a2 = (0 : Int32) then (
    qm_b (g_X8_refuse (-1 : Int32) s1) fun a4 s3 =>
    some (a4, s3))
  else
  qm_b (g_X8_isManner v3 s1) fun a6 s5 =>
  if a6 = (0 : Int32) then (
    qm_b (g_X8_refuse (-1 : Int32) s5) fun a30 s29 =>
    some (a30, s29))
  else
  qm_b (g_X8_layWheel s5) fun a8 s7 =>
  if a8 = (0 : Int32) then (
    qm_b (g_X8_refuse (-7 : Int32) s7) fun a28 s27 =>
    some (a28, s27))
  else
  qm_b (g_X7_hasPlace v2 s7) fun a10 s9 =>
  if a10 = (0 : Int32) then (
    qm_b (g_X8_refuse (-2 : Int32) s9) fun a26 s25 =>
    some (a26, s25))
  else
  qm_b (g_X7_chosenBy 22 v2.toInt64 s9) fun a12 s11 =>
  qm_b (g_X8_isIn a12 v1 s11) fun a14 s13 =>
  if a14 = (0 : Int32) then (
    qm_b (g_X8_refuse (-3 : Int32) s13) fun a16 s15 =>
    some (a16, s15))
  else
  qm_b (g_X3_isRefusing v1 s13) fun a18 s17 =>
  if a18 = (0 : Int32) then (
    qm_b (g_X8_refuse (-3 : Int32) s17) fun a24 s23 =>
    some (a24, s23))
  else
  qm_o (g_X2_settle a12 v3 s17) fun s19 =>
  qm_g v1 12 <| qm_l (s19.1 36 v1.toNatClampNeg) fun a20 =>
  if a20 < (0 : Int32) then (
    qm_b (g_X8_refuse (-5 : Int32) s19) fun a22 s21 =>
    some (a22, s21))
  else
    some (a20, s19)

def g_X8_finals_L69 (k138 : Int32 → Int64 → qe_S → Option (Int64 × qe_S)) (v1 : Int32) (v2 : Int32) (v3 : Int32) : Nat → Int64 → Int32 → qe_S → Option (Int64 × qe_S)
  | 0, _, _, _ => none
  | n + 1, v4, v6, s0 =>
    if (s0.1 28 0) ≤ v6 then (
      k138 v3 v4 s0)
    else
    qm_j (fun (a16 : Int32) (a17 : Int32) (a18 : Int32) (b19 : Int64) (a20 : Int32) (s21 : qe_S) =>
        qm_l (a20 + (1 : Int32)) fun a22 =>
        g_X8_finals_L69 k138 v1 v2 v3 n b19 a22 s21
    ) fun j132 =>
    qm_g v6 13 <| qm_l (s0.1 31 v6.toNatClampNeg) fun a23 =>
    qm_o (g_X2_settle a23 v2 s0) fun s24 =>
    qm_b (g_X8_isIn (s24.1 35 0) v1 s24) fun a26 s25 =>
    if a26 = (0 : Int32) then (
      j132 v1 v2 v3 v4 v6 s25)
    else
    qm_g v6 13 <| qm_l (s25.2 30 v6.toNatClampNeg) fun b27 =>
    qm_l (v4 + b27) fun b28 =>
    j132 v1 v2 v3 b28 v6 s25

def g_X8_finals (v1 : Int32) (v2 : Int32) (v3 : Int32) (s0 : qe_S) : Option (Int64 × qe_S) :=
  qm_b (g_X3_has v1 s0) fun a2 s1 =>
  if a2 = (0 : Int32) then (
    qm_b (g_X8_refuseLong (-1 : Int32) s1) fun b4 s3 =>
    some (b4, s3))
  else
  qm_b (g_X8_isManner v2 s1) fun a6 s5 =>
  if a6 = (0 : Int32) then (
    qm_b (g_X8_refuseLong (-1 : Int32) s5) fun b39 s38 =>
    some (b39, s38))
  else
  qm_b (g_X8_isPart v3 s5) fun a8 s7 =>
  if a8 = (0 : Int32) then (
    qm_b (g_X8_refuseLong (-2 : Int32) s7) fun b37 s36 =>
    some (b37, s36))
  else
  qm_b (g_X8_layWheel s7) fun a10 s9 =>
  if a10 = (0 : Int32) then (
    qm_b (g_X8_refuseLong (-7 : Int32) s9) fun b35 s34 =>
    some (b35, s34))
  else
  qm_o (g_X5_trace s9) fun s11 =>
  qm_l (0 : Int64) fun b12 =>
  qm_l (0 : Int32) fun a13 =>
  g_X8_finals_L69
      (fun (a29 : Int32) (b30 : Int64) (s31 : qe_S) =>
        qm_b (g_X8_lowest b30 (s31.2 22 0) a29 s31) fun b33 s32 =>
        some (b33, s32))
      v1 v2 v3 qm_F b12 a13 s11

def g_X8_drawn_L70  (v1 : Int32) (v2 : Int32) : Nat → Int32 → Int64 → Int32 → qe_S → Option (Int32 × qe_S)
  | 0, _, _, _, _ => none
  | n + 1, v5, v6, v8, s0 =>
    if v2 ≤ v8 then (
      some (v5, s0))
    else
    qm_j (fun (a11 : Int32) (a12 : Int32) (a13 : Int32) (b14 : Int64) (a15 : Int32) (s16 : qe_S) =>
        qm_l (a15 + (1 : Int32)) fun a17 =>
        g_X8_drawn_L70 v1 v2 n a13 b14 a17 s16
    ) fun j115 =>
    qm_l ((v6 * (6364136223846793005 : Int64)) + (1442695040888963407 : Int64)) fun b18 =>
    qm_zl (s0.2 22 0) <|
    qm_b (g_X7_chooses 22 v1 (qm_lr (qm_lu b18 (33 : Int32)) (s0.2 22 0)) s0) fun a20 s19 =>
    if a20 = (0 : Int32) then (
      j115 v1 v2 v5 b18 v8 s19)
    else
    qm_l (v5 + (1 : Int32)) fun a21 =>
    j115 v1 v2 a21 b18 v8 s19

def g_X8_drawn (v1 : Int32) (v2 : Int32) (v3 : Int64) (s0 : qe_S) : Option (Int32 × qe_S) :=
  qm_b (g_X3_has v1 s0) fun a2 s1 =>
  if a2 = (0 : Int32) then (
    qm_b (g_X8_refuse (-1 : Int32) s1) fun a27 s26 =>
    some (a27, s26))
  else
  if v2 < (1 : Int32) then (
    qm_b (g_X8_refuse (-2 : Int32) s1) fun a4 s3 =>
    some (a4, s3))
  else
  if v2 ≤ (60 : Int32) then (
    qm_b (g_X8_layWheel s1) fun a6 s5 =>
    if a6 = (0 : Int32) then (
      qm_b (g_X8_refuse (-7 : Int32) s5) fun a8 s7 =>
      some (a8, s7))
    else
    if (1 : Int64) ≤ (s5.2 22 0) then (
      qm_l (0 : Int32) fun a9 =>
      qm_l (0 : Int32) fun a10 =>
      g_X8_drawn_L70 v1 v2 qm_F a9 v3 a10 s5)
    else
    qm_b (g_X8_refuse (-7 : Int32) s5) fun a23 s22 =>
    some (a23, s22))
  else
  qm_b (g_X8_refuse (-2 : Int32) s1) fun a25 s24 =>
  some (a25, s24)

def g_X6_take (v1 : Int32) (s0 : qe_S) : Option (Int32 × qe_S) :=
  if v1 < (1 : Int32) then (
    some ((-2 : Int32), s0))
  else
  if v1 ≤ (127 : Int32) then (
    if (s0.1 37 0) < (120 : Int32) then (
      qm_g (s0.1 37 0) 120 <| qm_l (qe_si s0 39 (s0.1 37 0).toNatClampNeg v1) fun s1 =>
      qm_l (qe_si s1 37 0 ((s1.1 37 0) + (1 : Int32))) fun s2 =>
      some ((s2.1 37 0), s2))
    else
      some ((-4 : Int32), s0))
  else
    some ((-2 : Int32), s0)

def g_X8_feed (v1 : Int32) (s0 : qe_S) : Option (Int32 × qe_S) :=
  qm_b (g_X6_take v1 s0) fun a2 s1 =>
  qm_b (g_X8_answered a2 s1) fun a4 s3 =>
  some (a4, s3)

def g_X6_byteAt (v1 : Int32) (s0 : qe_S) : Option (Int32 × qe_S) :=
  qm_j (fun  (s1 : qe_S) =>
      some ((0 : Int32), s1)
  ) fun j21 =>
  if v1 < (0 : Int32) then (
    j21 s0)
  else
  if (s0.1 37 0) ≤ v1 then (
    j21 s0)
  else
  qm_g v1 120 <| qm_l (s0.1 39 v1.toNatClampNeg) fun a2 =>
  some (a2, s0)

def g_X6_shapeOf (v0 : Int32) (s0 : qe_S) : Option (Value × qe_S) :=
  if v0 = (110 : Int32) then (
    some ((.float (1 : UInt32) : Value), s0))
  else
  if v0 = (111 : Int32) then (
    some ((.float (2 : UInt32) : Value), s0))
  else
  if v0 = (114 : Int32) then (
    some ((.float (3 : UInt32) : Value), s0))
  else
  if v0 = (115 : Int32) then (
    some ((.float (1 : UInt32) : Value), s0))
  else
  if v0 = (117 : Int32) then (
    some ((.float (0 : UInt32) : Value), s0))
  else
  if v0 = (120 : Int32) then (
    some ((.float (4 : UInt32) : Value), s0))
  else
  some ((.float (5 : UInt32) : Value), s0)

def g_X6_isDigit (v0 : Int32) (s0 : qe_S) : Option (Int32 × qe_S) :=
  qm_j (fun  (s1 : qe_S) =>
      some ((0 : Int32), s1)
  ) fun j16 =>
  if v0 < (48 : Int32) then (
    j16 s0)
  else
  if (57 : Int32) < v0 then (
    j16 s0)
  else
    some ((1 : Int32), s0)

def g_X6_readNumber_L5 (k59 : Int32 → Int32 → Int32 → qe_S → Option (Int32 × qe_S)) (v1 : Int32) (v2 : Int32) : Nat → Int32 → Int32 → qe_S → Option (Int32 × qe_S)
  | 0, _, _, _ => none
  | n + 1, v3, v4, s0 =>
    if v1 ≤ v3 then (
      k59 v2 v3 v4 s0)
    else
    qm_b (g_X6_byteAt (s0.1 37 2) s0) fun a7 s6 =>
    qm_b (g_X6_isDigit a7 s6) fun a9 s8 =>
    if a9 = (0 : Int32) then (
      k59 v2 v3 v4 s8)
    else
    qm_b (g_X6_byteAt (s8.1 37 2) s8) fun a11 s10 =>
    qm_l ((((10 : Int32) * v4) + a11) - (48 : Int32)) fun a12 =>
    qm_l (qe_si s10 37 2 ((s10.1 37 2) + (1 : Int32))) fun s13 =>
    qm_l (v3 + (1 : Int32)) fun a14 =>
    g_X6_readNumber_L5 k59 v1 v2 n a14 a12 s13

def g_X6_readNumber (v1 : Int32) (v2 : Int32) (s0 : qe_S) : Option (Int32 × qe_S) :=
  qm_l (0 : Int32) fun a1 =>
  qm_l (0 : Int32) fun a2 =>
  g_X6_readNumber_L5
      (fun (a15 : Int32) (a16 : Int32) (a17 : Int32) (s18 : qe_S) =>
        qm_j (fun (a19 : Int32) (s20 : qe_S) =>
            if a19 ≤ (0 : Int32) then (
              some ((0 : Int32), s20))
            else
              some ((1 : Int32), s20)
        ) fun j94 =>
        if a16 ≤ (0 : Int32) then (
          j94 a16 s18)
        else
        if (4 : Int32) ≤ (s18.1 37 4) then (
          j94 a16 s18)
        else
        qm_g (s18.1 37 4) 4 <| qm_l (qe_si s18 38 (s18.1 37 4).toNatClampNeg (a15 * a17)) fun s21 =>
        qm_l (qe_si s21 37 4 ((s21.1 37 4) + (1 : Int32))) fun s22 =>
        j94 a16 s22)
      v1 v2 qm_F a1 a2 s0

def g_X6_readsByte (v1 : Int32) (s0 : qe_S) : Option (Int32 × qe_S) :=
  qm_j (fun (q1 : Int32) (s2 : qe_S) =>
      qm_j (fun (a3 : Int32) (q4 : Int32) (q5 : Int32) (s6 : qe_S) =>
          qm_l (qe_si s6 37 2 (q5 + q4)) fun s7 =>
          qm_bo a3 (some (a3, s7))
      ) fun j32 =>
      if q1 = (0 : Int32) then (
        j32 q1 (0 : Int32) (s2.1 37 2) s2)
      else
        j32 q1 (1 : Int32) (s2.1 37 2) s2
  ) fun j17 =>
  qm_b (g_X6_byteAt (s0.1 37 2) s0) fun a9 s8 =>
  if a9 = v1 then (
    j17 (1 : Int32) s8)
  else
    j17 (0 : Int32) s8

def g_X6_readSign (v1 : Int32) (s0 : qe_S) : Option (Int32 × qe_S) :=
  if v1 = (68 : Int32) then (
    qm_b (g_X6_readNumber (1 : Int32) (1 : Int32) s0) fun a2 s1 =>
    qm_bo a2 (some (a2, s1)))
  else
  if v1 = (77 : Int32) then (
    qm_b (g_X6_readsByte (45 : Int32) s0) fun a4 s3 =>
    if a4 = (0 : Int32) then (
      qm_b (g_X6_readNumber (2 : Int32) (1 : Int32) s3) fun a6 s5 =>
      qm_bo a6 (some (a6, s5)))
    else
    qm_b (g_X6_readNumber (2 : Int32) (-1 : Int32) s3) fun a8 s7 =>
    qm_bo a8 (some (a8, s7)))
  else
  if v1 = (78 : Int32) then (
    qm_b (g_X6_readNumber (2 : Int32) (1 : Int32) s0) fun a10 s9 =>
    qm_bo a10 (some (a10, s9)))
  else
  qm_b (g_X6_readsByte v1 s0) fun a12 s11 =>
  qm_bo a12 (some (a12, s11))

def g_X6_readClause_L48  (x2 : UInt32) : Nat → Int32 → qe_S → Option (Int32 × qe_S)
  | 0, _, _ => none
  | n + 1, v3, s0 =>
    qm_b (qt_length x2.toNat s0) fun a14 s13 =>
    if a14 ≤ v3 then (
      some ((1 : Int32), s13))
    else
    qm_b (qt_charAt x2.toNat v3 s13) fun a16 s15 =>
    qm_b (g_X6_readSign a16 s15) fun a18 s17 =>
    if a18 = (0 : Int32) then (
      some ((0 : Int32), s17))
    else
    qm_l (v3 + (1 : Int32)) fun a19 =>
    g_X6_readClause_L48 x2 n a19 s17

def g_X6_readClause (v1 : Int32) (s0 : qe_S) : Option (Int32 × qe_S) :=
  qm_b (g_X6_byteAt v1 s0) fun a2 s1 =>
  qm_l (qe_si s1 37 1 a2) fun s3 =>
  qm_l (qe_si s3 37 2 v1) fun s4 =>
  qm_l (qe_si s4 37 4 (0 : Int32)) fun s5 =>
  qm_b (g_X6_shapeOf (s5.1 37 1) s5) fun q7 s6 =>
  qm_s q7 fun x8 =>
  qm_b (qt_isEmpty x8.toNat s6) fun a10 s9 =>
  if a10 = (0 : Int32) then (
    qm_l (qe_si s9 37 2 ((s9.1 37 2) + (1 : Int32))) fun s11 =>
    qm_l (0 : Int32) fun a12 =>
    g_X6_readClause_L48 x8 qm_F a12 s11)
  else
    some ((0 : Int32), s9)

def g_X6_fault_L4   : Nat → Int32 → Int32 → qe_S → Option (Int32 × qe_S)
  | 0, _, _, _ => none
  | n + 1, v1, v2, s0 =>
    if (120 : Int32) < v2 then (
      some ((s0.1 37 2), s0))
    else
    qm_b (g_X6_readClause v1 s0) fun a4 s3 =>
    if a4 = (0 : Int32) then (
      some ((s3.1 37 2), s3))
    else
    if (s3.1 37 2) < (s3.1 37 0) then (
      qm_b (g_X6_byteAt (s3.1 37 2) s3) fun a6 s5 =>
      if a6 = (59 : Int32) then (
        qm_l ((s5.1 37 2) + (1 : Int32)) fun a7 =>
        qm_l (v2 + (1 : Int32)) fun a8 =>
        g_X6_fault_L4 n a7 a8 s5)
      else
        some ((s5.1 37 2), s5))
    else
      some ((-1 : Int32), s3)

def g_X6_fault  (s0 : qe_S) : Option (Int32 × qe_S) :=
  qm_l (0 : Int32) fun a1 =>
  qm_l (0 : Int32) fun a2 =>
  g_X6_fault_L4 qm_F a1 a2 s0

def g_X3_copyOf (o0 : Nat) (o1 : Nat) (s0 : qe_S) : Option (qe_S) :=
  qm_l (qe_si s0 o0 0 (s0.1 o1 0)) fun s1 =>
  qm_l (qe_si s1 o0 1 (s1.1 o1 1)) fun s2 =>
  qm_l (qe_si s2 o0 2 (s2.1 o1 2)) fun s3 =>
  qm_l (qe_cp s3 (o1 + 1) (o0 + 1) 12) fun s4 =>
  qm_l (qe_cp s4 (o1 + 2) (o0 + 2) 12) fun s5 =>
  qm_l (qe_cp s5 (o1 + 3) (o0 + 3) 12) fun s6 =>
  qm_l (qe_cp s6 (o1 + 4) (o0 + 4) 12) fun s7 =>
  qm_l (qe_cp s7 (o1 + 5) (o0 + 5) 36) fun s8 =>
  qm_l (qe_cp s8 (o1 + 6) (o0 + 6) 36) fun s9 =>
  some s9

def g_X8_doClause  (s0 : qe_S) : Option (Int32 × qe_S) :=
  qm_j (fun  (s1 : qe_S) =>
      qm_g (0 : Int32) 4 <| qm_l (s1.1 38 (0 : Int32).toNatClampNeg) fun a2 =>
      qm_g (1 : Int32) 4 <| qm_l (s1.1 38 (1 : Int32).toNatClampNeg) fun a3 =>
      qm_b (g_X3_exchange a2 a3 s1) fun a5 s4 =>
      some (a5, s4)
  ) fun j156 =>
  if (s0.1 37 1) = (110 : Int32) then (
    qm_g (0 : Int32) 4 <| qm_l (s0.1 38 (0 : Int32).toNatClampNeg) fun a6 =>
    qm_g (1 : Int32) 4 <| qm_l (s0.1 38 (1 : Int32).toNatClampNeg) fun a7 =>
    qm_g (2 : Int32) 4 <| qm_l (s0.1 38 (2 : Int32).toNatClampNeg) fun a8 =>
    qm_b (g_X3_changeOdds a6 (2 : Int32) a7 a8 s0) fun a10 s9 =>
    some (a10, s9))
  else
  if (s0.1 37 1) = (111 : Int32) then (
    qm_g (0 : Int32) 4 <| qm_l (s0.1 38 (0 : Int32).toNatClampNeg) fun a11 =>
    qm_b (g_X3_changeOrder a11 s0) fun a13 s12 =>
    some (a13, s12))
  else
  if (s0.1 37 1) = (114 : Int32) then (
    qm_g (0 : Int32) 4 <| qm_l (s0.1 38 (0 : Int32).toNatClampNeg) fun a14 =>
    qm_g (0 : Int32) 4 <| qm_l (s0.1 38 (0 : Int32).toNatClampNeg) fun a15 =>
    qm_b (g_X3_isRefusing a15 s0) fun a17 s16 =>
    if a17 = (0 : Int32) then (
      qm_b (g_X3_changeRefusing a14 (1 : Int32) s16) fun a19 s18 =>
      some (a19, s18))
    else
    qm_b (g_X3_changeRefusing a14 (0 : Int32) s16) fun a21 s20 =>
    some (a21, s20))
  else
  if (s0.1 37 1) = (115 : Int32) then (
    qm_g (0 : Int32) 4 <| qm_l (s0.1 38 (0 : Int32).toNatClampNeg) fun a22 =>
    qm_g (1 : Int32) 4 <| qm_l (s0.1 38 (1 : Int32).toNatClampNeg) fun a23 =>
    qm_g (2 : Int32) 4 <| qm_l (s0.1 38 (2 : Int32).toNatClampNeg) fun a24 =>
    qm_b (g_X3_changeOdds a22 (1 : Int32) a23 a24 s0) fun a26 s25 =>
    some (a26, s25))
  else
  if (s0.1 37 1) = (117 : Int32) then (
    qm_g (0 : Int32) 4 <| qm_l (s0.1 38 (0 : Int32).toNatClampNeg) fun a27 =>
    qm_g (1 : Int32) 4 <| qm_l (s0.1 38 (1 : Int32).toNatClampNeg) fun a28 =>
    qm_g (2 : Int32) 4 <| qm_l (s0.1 38 (2 : Int32).toNatClampNeg) fun a29 =>
    qm_g (3 : Int32) 4 <| qm_l (s0.1 38 (3 : Int32).toNatClampNeg) fun a30 =>
    qm_b (g_X3_admit a27 a28 a29 a30 s0) fun a32 s31 =>
    some (a32, s31))
  else
  j156 s0

def g_X8_doClauses_L15 (k98 : Int32 → qe_S → Option (Int32 × qe_S)) (k50 : Int32 → Int32 → qe_S → Option (Int32 × qe_S))  : Nat → Int32 → Int32 → qe_S → Option (Int32 × qe_S)
  | 0, _, _, _ => none
  | n + 1, v1, v2, s0 =>
    if (120 : Int32) ≤ v1 then (
      k98 v1 s0)
    else
    if (s0.1 37 0) ≤ v2 then (
      k98 v1 s0)
    else
    qm_b (g_X6_readClause v2 s0) fun a8 s7 =>
    qm_b (g_X8_doClause s7) fun a10 s9 =>
    if (0 : Int32) ≤ a10 then (
      qm_l ((s9.1 37 2) + (1 : Int32)) fun a11 =>
      qm_l (v1 + (1 : Int32)) fun a12 =>
      g_X8_doClauses_L15 k98 k50 n a12 a11 s9)
    else
      k50 v2 a10 s9

def g_X8_doClauses  (s0 : qe_S) : Option (Int32 × qe_S) :=
  qm_o (g_X3_copyOf 15 1 s0) fun s1 =>
  qm_l (0 : Int32) fun a2 =>
  qm_l (0 : Int32) fun a3 =>
  g_X8_doClauses_L15
      (fun (a13 : Int32) (s14 : qe_S) =>
        qm_b (g_X3_places (0 : Int32) s14) fun b16 s15 =>
        if (1 : Int64) ≤ b16 then (
          some (a13, s15))
        else
        qm_o (g_X3_copyOf 1 15 s15) fun s17 =>
        qm_o (g_X1_note (-7 : Int32) (2 : Int32) (-7 : Int32) (-9 : Int32) s17) fun s18 =>
        some ((-7 : Int32), s18))
      (fun (a19 : Int32) (a20 : Int32) (s21 : qe_S) =>
        qm_o (g_X3_copyOf 1 15 s21) fun s22 =>
        qm_o (g_X1_note ((-300 : Int32) - a19) (1 : Int32) a20 a20 s22) fun s23 =>
        some (((-300 : Int32) - a19), s23))
      qm_F a2 a3 s1

def g_X8_tells  (s0 : qe_S) : Option (Int32 × qe_S) :=
  qm_j (fun (q1 : Int32) (s2 : qe_S) =>
      qm_l (qe_si s2 37 0 (0 : Int32)) fun s3 =>
      some (q1, s3)
  ) fun j27 =>
  qm_b (g_X6_fault s0) fun a5 s4 =>
  if a5 < (0 : Int32) then (
    qm_b (g_X8_doClauses s4) fun a7 s6 =>
    j27 a7 s6)
  else
  qm_b (g_X8_refuse ((-100 : Int32) - a5) s4) fun a9 s8 =>
  j27 a9 s8

def g_X8_reason (v1 : Int32) (s0 : qe_S) : Option (Int32 × qe_S) :=
  if v1 = (0 : Int32) then (
    some ((s0.1 40 0), s0))
  else
  if v1 = (1 : Int32) then (
    some ((s0.1 40 1), s0))
  else
  if v1 = (2 : Int32) then (
    some ((s0.1 40 2), s0))
  else
  if v1 = (3 : Int32) then (
    some ((s0.1 40 3), s0))
  else
  some ((0 : Int32), s0)

def g_X8_rowOf (v1 : Int32) (s0 : qe_S) : Option (Value × qe_S) :=
  qm_j (fun  (s1 : qe_S) =>
      some ((.null : Value), s1)
  ) fun j22 =>
  if v1 < (0 : Int32) then (
    j22 s0)
  else
  if (3 : Int32) ≤ v1 then (
    j22 s0)
  else
    qm_g v1 3 <|
    some ((va_rf (qe_rows v1.toNatClampNeg)), s0)

def g_X4_become_L23  (o0 : Nat) : Nat → Int32 → qe_S → Option (Int32 × qe_S)
  | 0, _, _ => none
  | n + 1, v2, s0 =>
    if (15 : Int32) ≤ v2 then (
      some ((1 : Int32), s0))
    else
    qm_g v2 15 <| qm_l (qe_sl s0 (o0 + 1) v2.toNatClampNeg (0 : Int64)) fun s3 =>
    qm_l (v2 + (1 : Int32)) fun a4 =>
    g_X4_become_L23 o0 n a4 s3

def g_X4_become (o0 : Nat) (v1 : Int32) (s0 : qe_S) : Option (Int32 × qe_S) :=
  if v1 ≤ (15 : Int32) then (
    if (0 : Int32) ≤ v1 then (
      qm_l (qe_si s0 o0 0 v1) fun s1 =>
      qm_l (0 : Int32) fun a2 =>
      g_X4_become_L23 o0 qm_F a2 s1)
    else
      some ((-14 : Int32), s0))
  else
    some ((-2 : Int32), s0)

def g_X8_list (v1 : Int32) (v2 : Int32) (s0 : qe_S) : Option (Int32 × qe_S) :=
  qm_b (g_X8_rowOf v1 s0) fun q2 s1 =>
  qm_r q2 (
    qm_b (g_X8_refuse (-1 : Int32) s1) fun a4 s3 =>
    some (a4, s3)
    ) fun o5 => qm_w o5 <|
  qm_b (g_X4_become o5 v2 s1) fun a7 s6 =>
  qm_b (g_X8_answered a7 s6) fun a9 s8 =>
  some (a9, s8)

def g_X8_refusalAt_n (v1 : Int32) (s0 : qe_S) : Option (Int32 × qe_S) :=
  some ((-1 : Int32), s0)

def g_X8_refusalAt (o0 : Nat) (v1 : Int32) (s0 : qe_S) : Option (Int32 × qe_S) :=
  if (0 : Int32) ≤ (s0.1 o0 0) then (
    qm_j (fun  (s1 : qe_S) =>
        some ((-13 : Int32), s1)
    ) fun j28 =>
    if v1 < (0 : Int32) then (
      j28 s0)
    else
    if v1 < (s0.1 o0 0) then (
      some ((0 : Int32), s0))
    else
      j28 s0)
  else
    some ((-11 : Int32), s0)

def g_X8_put (v1 : Int32) (v2 : Int32) (v3 : Int64) (s0 : qe_S) : Option (Int32 × qe_S) :=
  qm_b (g_X8_rowOf v1 s0) fun q2 s1 =>
  qm_r q2 (
    qm_b (g_X8_refusalAt_n v2 s1) fun a4 s3 =>
    qm_b (g_X8_refuse a4 s3) fun a6 s5 =>
    some (a6, s5)
    ) fun o7 => qm_w o7 <|
  qm_b (g_X8_refusalAt o7 v2 s1) fun a9 s8 =>
  if (0 : Int32) ≤ a9 then (
    qm_g v2 15 <| qm_l (qe_sl s8 (o7 + 1) v2.toNatClampNeg v3) fun s10 =>
    some ((1 : Int32), s10))
  else
    qm_b (g_X8_refuse a9 s8) fun a12 s11 =>
    some (a12, s11)

def g_X8_look (v1 : Int32) (v2 : Int32) (s0 : qe_S) : Option (Int64 × qe_S) :=
  qm_j (fun (a1 : Int32) (s2 : qe_S) =>
      qm_b (g_X8_refuseLong a1 s2) fun b4 s3 =>
      some (b4, s3)
  ) fun j22 =>
  qm_b (g_X8_rowOf v1 s0) fun q6 s5 =>
  qm_r q6 (
    qm_b (g_X8_refusalAt_n v2 s5) fun a8 s7 =>
    j22 a8 s7
    ) fun o9 => qm_w o9 <|
  qm_b (g_X8_refusalAt o9 v2 s5) fun a11 s10 =>
  if (0 : Int32) ≤ a11 then (
    qm_g v2 15 <| qm_l (s10.2 (o9 + 1) v2.toNatClampNeg) fun b12 =>
    some (b12, s10))
  else
    j22 a11 s10

def g_X8_judge_L61  (v2 : Int32) (o5 : Nat) (v4 : Int64) : Nat → Int32 → qe_S → Option (Int32 × qe_S)
  | 0, _, _ => none
  | n + 1, v6, s0 =>
    if (s0.1 1 0) ≤ v6 then (
      some ((-5 : Int32), s0))
    else
    if v2 < ((s0.1 o5 0) - v6) then (
      qm_g (v2 + v6) 15 <| qm_l (s0.2 (o5 + 1) (v2 + v6).toNatClampNeg) fun b9 =>
      qm_b (g_X3_partsOf v6 (0 : Int32) v4 s0) fun b11 s10 =>
      if b9 = b11 then (
        qm_l (v6 + (1 : Int32)) fun a12 =>
        g_X8_judge_L61 v2 o5 v4 n a12 s10)
      else
        some (v6, s10))
    else
      some (((100 : Int32) + v6), s0)

def g_X8_judge (v1 : Int32) (v2 : Int32) (s0 : qe_S) : Option (Int32 × qe_S) :=
  qm_b (g_X8_rowOf v1 s0) fun q2 s1 =>
  qm_r q2 (
    qm_b (g_X8_refuse (-1 : Int32) s1) fun a4 s3 =>
    some (a4, s3)
    ) fun o5 => qm_w o5 <|
  if (0 : Int32) ≤ v2 then (
    if (0 : Int32) ≤ (s1.1 o5 0) then (
      qm_b (g_X3_places (0 : Int32) s1) fun b7 s6 =>
      if (1 : Int64) ≤ b7 then (
        qm_l (0 : Int32) fun a8 =>
        g_X8_judge_L61 v2 o5 b7 qm_F a8 s6)
      else
      qm_b (g_X8_refuse (-7 : Int32) s6) fun a14 s13 =>
      some (a14, s13))
    else
    qm_b (g_X8_refuse (-11 : Int32) s1) fun a16 s15 =>
    some (a16, s15))
  else
  qm_b (g_X8_refuse (-1 : Int32) s1) fun a18 s17 =>
  some (a18, s17)

def g_X8_image  (s0 : qe_S) : Option (Int32 × qe_S) :=
  qm_o (g_X3_copyOf 8 1 s0) fun s1 =>
  qm_l (qe_si s1 0 3 (1 : Int32)) fun s2 =>
  some ((s2.1 8 0), s2)

def g_X8_undo  (s0 : qe_S) : Option (Int32 × qe_S) :=
  if (s0.1 0 3) = (0 : Int32) then (
    qm_b (g_X8_refuse (-3 : Int32) s0) fun a3 s2 =>
    some (a3, s2))
  else
    qm_o (g_X3_copyOf 1 8 s0) fun s1 =>
    some ((s1.1 1 0), s1)

def g_X8_count (v1 : Int32) (s0 : qe_S) : Option (Int32 × qe_S) :=
  if v1 = (0 : Int32) then (
    some ((s0.1 1 0), s0))
  else
  if v1 = (1 : Int32) then (
    some ((s0.1 1 2), s0))
  else
  if v1 = (2 : Int32) then (
    some ((s0.1 37 0), s0))
  else
  if v1 = (3 : Int32) then (
    some ((s0.1 1 1), s0))
  else
  qm_b (g_X8_refuse (-1 : Int32) s0) fun a2 s1 =>
  some (a2, s1)

def g_X9_within (v0 : Int32) (v1 : Int32) (v2 : Int32) (s0 : qe_S) : Option (Int32 × qe_S) :=
  qm_j (fun  (s1 : qe_S) =>
      some ((0 : Int32), s1)
  ) fun j14 =>
  if v0 < v1 then (
    j14 s0)
  else
    if v2 < v0 then (
      j14 s0)
    else
      some ((1 : Int32), s0)

def g_X9_isOdds (v0 : Int32) (v1 : Int32) (v2 : Int32) (s0 : qe_S) : Option (Int32 × qe_S) :=
  qm_j (fun  (s1 : qe_S) =>
      some ((0 : Int32), s1)
  ) fun j31 =>
  qm_b (g_X9_within v2 (1 : Int32) (60 : Int32) s0) fun a3 s2 =>
  if a3 = (0 : Int32) then (
    j31 s2)
  else
  qm_j (fun (a4 : Int32) (q5 : Int32) (q6 : Int32) (s7 : qe_S) =>
      qm_b (g_X9_within q6 q5 a4 s7) fun a9 s8 =>
      if a9 = (0 : Int32) then (
        j31 s8)
      else
        some ((1 : Int32), s8)
  ) fun j20 =>
  if v0 = (0 : Int32) then (
    j20 v2 (1 : Int32) v1 s2)
  else
    j20 v2 (0 : Int32) v1 s2

def g_X9_comes_L108  (v1 : Int32) (v2 : Int32) (v5 : Int32) : Nat → Int32 → qe_S → Option (Int32 × qe_S)
  | 0, _, _ => none
  | n + 1, v6, s0 =>
    if (3 : Int32) ≤ v6 then (
      some (v5, s0))
    else
    qm_j (fun (a15 : Int32) (a16 : Int32) (a17 : Int32) (a18 : Int32) (q19 : Int32) (q20 : Int32) (s21 : qe_S) =>
        qm_j (fun (a22 : Int32) (a23 : Int32) (a24 : Int32) (a25 : Int32) (q26 : Int32) (q27 : Int32) (s28 : qe_S) =>
            qm_g q27 122 <| qm_l (qe_si s28 1 q27.toNatClampNeg q26) fun s29 =>
            qm_l (a25 + (1 : Int32)) fun a30 =>
            g_X9_comes_L108 v1 v2 v5 n a30 s29
        ) fun j165 =>
        qm_g q20 122 <| qm_l (qe_si s21 1 q20.toNatClampNeg q19) fun s31 =>
        if a18 = (0 : Int32) then (
          j165 a15 a16 a17 a18 a16 (((86 : Int32) + ((12 : Int32) * a18)) + a17) s31)
        else
        j165 a15 a16 a17 a18 (1 : Int32) (((86 : Int32) + ((12 : Int32) * a18)) + a17) s31
    ) fun j139 =>
    if v6 = (0 : Int32) then (
      j139 v1 v2 v5 v6 v1 (((50 : Int32) + ((12 : Int32) * v6)) + v5) s0)
    else
    j139 v1 v2 v5 v6 (1 : Int32) (((50 : Int32) + ((12 : Int32) * v6)) + v5) s0

def g_X9_comes (v1 : Int32) (v2 : Int32) (v3 : Int32) (v4 : Int32) (s0 : qe_S) : Option (Int32 × qe_S) :=
  qm_b (g_X9_isOdds (0 : Int32) v1 v2 s0) fun a2 s1 =>
  if a2 = (0 : Int32) then (
    some ((-2 : Int32), s1))
  else
  qm_b (g_X9_within v3 (0 : Int32) (3 : Int32) s1) fun a4 s3 =>
  if a4 = (0 : Int32) then (
    some ((-2 : Int32), s3))
  else
  qm_b (g_X9_within v4 (-99 : Int32) (99 : Int32) s3) fun a6 s5 =>
  if a6 = (0 : Int32) then (
    some ((-2 : Int32), s5))
  else
  qm_g (0 : Int32) 122 <| qm_l (s5.1 1 (0 : Int32).toNatClampNeg) fun a7 =>
  if a7 = (12 : Int32) then (
    some ((-4 : Int32), s5))
  else
  qm_g (0 : Int32) 122 <| qm_l (s5.1 1 (0 : Int32).toNatClampNeg) fun a8 =>
  qm_g (0 : Int32) 122 <| qm_l (qe_si s5 1 (0 : Int32).toNatClampNeg (a8 + (1 : Int32))) fun s9 =>
  qm_g ((2 : Int32) + a8) 122 <| qm_l (qe_si s9 1 ((2 : Int32) + a8).toNatClampNeg a8) fun s10 =>
  qm_g ((14 : Int32) + a8) 122 <| qm_l (qe_si s10 1 ((14 : Int32) + a8).toNatClampNeg v3) fun s11 =>
  qm_g ((26 : Int32) + a8) 122 <| qm_l (qe_si s11 1 ((26 : Int32) + a8).toNatClampNeg v4) fun s12 =>
  qm_g ((38 : Int32) + a8) 122 <| qm_l (qe_si s12 1 ((38 : Int32) + a8).toNatClampNeg (0 : Int32)) fun s13 =>
  qm_l (0 : Int32) fun a14 =>
  g_X9_comes_L108 v1 v2 a8 qm_F a14 s13

def g_X9_refused (v1 : Int32) (v2 : Int32) (v3 : Int32) (v4 : Int32) (s0 : qe_S) : Option (Int32 × qe_S) :=
  qm_g (0 : Int32) 4 <| qm_l (qe_si s0 4 (0 : Int32).toNatClampNeg v1) fun s1 =>
  qm_g (1 : Int32) 4 <| qm_l (qe_si s1 4 (1 : Int32).toNatClampNeg v2) fun s2 =>
  qm_g (2 : Int32) 4 <| qm_l (qe_si s2 4 (2 : Int32).toNatClampNeg v3) fun s3 =>
  qm_g (3 : Int32) 4 <| qm_l (qe_si s3 4 (3 : Int32).toNatClampNeg v4) fun s4 =>
  some (v1, s4)

def g_X9_no (v1 : Int32) (s0 : qe_S) : Option (Int32 × qe_S) :=
  if v1 = (-7 : Int32) then (
    qm_b (g_X9_refused v1 (1 : Int32) (-9 : Int32) (-9 : Int32) s0) fun a4 s3 =>
    some (a4, s3))
  else
  qm_b (g_X9_refused v1 (0 : Int32) (0 : Int32) (0 : Int32) s0) fun a2 s1 =>
  some (a2, s1)

def g_X9_unit (v1 : Int32) (v2 : Int32) (v3 : Int32) (v4 : Int32) (s0 : qe_S) : Option (Int32 × qe_S) :=
  qm_b (g_X9_comes v1 v2 v3 v4 s0) fun a2 s1 =>
  if (0 : Int32) ≤ a2 then (
    some (a2, s1))
  else
    qm_b (g_X9_no a2 s1) fun a4 s3 =>
    some (a4, s3)

def g_X9_isUnit (v1 : Int32) (s0 : qe_S) : Option (Int32 × qe_S) :=
  qm_g (0 : Int32) 122 <| qm_l (s0.1 1 (0 : Int32).toNatClampNeg) fun a1 =>
  qm_b (g_X9_within v1 (0 : Int32) (a1 - (1 : Int32)) s0) fun a3 s2 =>
  qm_bo a3 (some (a3, s2))

def g_X9_becomes (v1 : Int32) (v2 : Int32) (v3 : Int32) (v4 : Int32) (s0 : qe_S) : Option (Int32 × qe_S) :=
  qm_b (g_X9_isUnit v1 s0) fun a2 s1 =>
  if a2 = (0 : Int32) then (
    some ((-1 : Int32), s1))
  else
  qm_b (g_X9_within v2 (0 : Int32) (2 : Int32) s1) fun a4 s3 =>
  if a4 = (0 : Int32) then (
    some ((-1 : Int32), s3))
  else
  qm_b (g_X9_isOdds v2 v3 v4 s3) fun a6 s5 =>
  if a6 = (0 : Int32) then (
    some ((-2 : Int32), s5))
  else
  qm_l (((12 : Int32) * v2) + v1) fun a7 =>
  qm_g ((50 : Int32) + a7) 122 <| qm_l (s5.1 1 ((50 : Int32) + a7).toNatClampNeg) fun a8 =>
  qm_g ((86 : Int32) + a7) 122 <| qm_l (s5.1 1 ((86 : Int32) + a7).toNatClampNeg) fun a9 =>
  qm_l (((100 : Int32) * a8) + a9) fun a10 =>
  qm_g ((50 : Int32) + a7) 122 <| qm_l (qe_si s5 1 ((50 : Int32) + a7).toNatClampNeg v3) fun s11 =>
  qm_g ((86 : Int32) + a7) 122 <| qm_l (qe_si s11 1 ((86 : Int32) + a7).toNatClampNeg v4) fun s12 =>
  some (a10, s12)

def g_X9_odds (v1 : Int32) (v2 : Int32) (v3 : Int32) (v4 : Int32) (s0 : qe_S) : Option (Int32 × qe_S) :=
  qm_b (g_X9_becomes v1 v2 v3 v4 s0) fun a2 s1 =>
  if (0 : Int32) ≤ a2 then (
    some (a2, s1))
  else
    qm_b (g_X9_no a2 s1) fun a4 s3 =>
    some (a4, s3)

def g_X9_set (v1 : Int32) (v2 : Int32) (v3 : Int32) (s0 : qe_S) : Option (Int32 × qe_S) :=
  qm_b (g_X9_isUnit v1 s0) fun a2 s1 =>
  if a2 = (0 : Int32) then (
    qm_b (g_X9_no (-1 : Int32) s1) fun a4 s3 =>
    some (a4, s3))
  else
  qm_b (g_X9_within v2 (0 : Int32) (1 : Int32) s1) fun a6 s5 =>
  if a6 = (0 : Int32) then (
    qm_b (g_X9_no (-1 : Int32) s5) fun a26 s25 =>
    some (a26, s25))
  else
  qm_j (fun (a7 : Int32) (a8 : Int32) (a9 : Int32) (q10 : Int32) (q11 : Int32) (q12 : Int32) (s13 : qe_S) =>
      qm_b (g_X9_within q12 q11 q10 s13) fun a15 s14 =>
      if a15 = (0 : Int32) then (
        qm_b (g_X9_no (-2 : Int32) s14) fun a24 s23 =>
        some (a24, s23))
      else
      qm_j (fun (a16 : Int32) (a17 : Int32) (q18 : Int32) (s19 : qe_S) =>
          qm_l (q18 + a16) fun a20 =>
          qm_g a20 122 <| qm_l (s19.1 1 a20.toNatClampNeg) fun a21 =>
          qm_g a20 122 <| qm_l (qe_si s19 1 a20.toNatClampNeg a17) fun s22 =>
          some (a21, s22)
      ) fun j58 =>
      if a8 = (0 : Int32) then (
        j58 a7 a9 (14 : Int32) s14)
      else
        j58 a7 a9 (38 : Int32) s14
  ) fun j34 =>
  if v2 = (0 : Int32) then (
    j34 v1 v2 v3 (3 : Int32) (0 : Int32) v3 s5)
  else
    j34 v1 v2 v3 (1 : Int32) (0 : Int32) v3 s5

def g_X9_mark (v1 : Int32) (v2 : Int32) (s0 : qe_S) : Option (Int32 × qe_S) :=
  qm_b (g_X9_isUnit v1 s0) fun a2 s1 =>
  if a2 = (0 : Int32) then (
    qm_b (g_X9_no (-1 : Int32) s1) fun a9 s8 =>
    some (a9, s8))
  else
  qm_b (g_X9_within v2 (-99 : Int32) (99 : Int32) s1) fun a4 s3 =>
  if a4 = (0 : Int32) then (
    qm_b (g_X9_no (-2 : Int32) s3) fun a7 s6 =>
    some (a7, s6))
  else
  qm_g ((26 : Int32) + v1) 122 <| qm_l (qe_si s3 1 ((26 : Int32) + v1).toNatClampNeg v2) fun s5 =>
  some ((1 : Int32), s5)

def g_X9_noLong (v1 : Int32) (s0 : qe_S) : Option (Int64 × qe_S) :=
  qm_b (g_X9_no v1 s0) fun a2 s1 =>
  some (((4000000000000000000 : Int64) - a2.toInt64), s1)

def g_X9_more (v1 : Int32) (v2 : Int32) (s0 : qe_S) : Option (Int32 × qe_S) :=
  qm_g v1 122 <| qm_l (s0.1 1 v1.toNatClampNeg) fun a1 =>
  qm_g v2 122 <| qm_l (s0.1 1 v2.toNatClampNeg) fun a2 =>
  some ((a1 - a2), s0)

def g_X9_isAhead (v1 : Int32) (v2 : Int32) (s0 : qe_S) : Option (Int32 × qe_S) :=
  qm_g (1 : Int32) 122 <| qm_l (s0.1 1 (1 : Int32).toNatClampNeg) fun a1 =>
  if a1 = (1 : Int32) then (
    qm_g ((50 : Int32) + v1) 122 <| qm_l (s0.1 1 ((50 : Int32) + v1).toNatClampNeg) fun a2 =>
    qm_g ((86 : Int32) + v2) 122 <| qm_l (s0.1 1 ((86 : Int32) + v2).toNatClampNeg) fun a3 =>
    qm_g ((50 : Int32) + v2) 122 <| qm_l (s0.1 1 ((50 : Int32) + v2).toNatClampNeg) fun a4 =>
    qm_g ((86 : Int32) + v1) 122 <| qm_l (s0.1 1 ((86 : Int32) + v1).toNatClampNeg) fun a5 =>
    if (a2 * a3) ≤ (a4 * a5) then (
      some ((0 : Int32), s0))
    else
      some ((1 : Int32), s0))
  else
  if a1 = (2 : Int32) then (
    qm_b (g_X9_more ((14 : Int32) + v1) ((14 : Int32) + v2) s0) fun a7 s6 =>
    if (0 : Int32) ≤ a7 then (
      some ((0 : Int32), s6))
    else
      some ((1 : Int32), s6))
  else
  if a1 = (3 : Int32) then (
    qm_b (g_X9_more ((26 : Int32) + v1) ((26 : Int32) + v2) s0) fun a9 s8 =>
    if (0 : Int32) ≤ a9 then (
      some ((0 : Int32), s8))
    else
      some ((1 : Int32), s8))
  else
  if a1 = (4 : Int32) then (
    qm_b (g_X9_more ((14 : Int32) + v1) ((14 : Int32) + v2) s0) fun a11 s10 =>
    if a11 = (0 : Int32) then (
      qm_b (g_X9_more ((26 : Int32) + v1) ((26 : Int32) + v2) s10) fun a13 s12 =>
      qm_g ((14 : Int32) + v1) 122 <| qm_l (s12.1 1 ((14 : Int32) + v1).toNatClampNeg) fun a14 =>
      qm_z (2 : Int32) <|
      if (qm_ir a14 (2 : Int32)) = (0 : Int32) then (
        if (0 : Int32) ≤ a13 then (
          some ((0 : Int32), s12))
        else
          some ((1 : Int32), s12))
      else
      if a13 ≤ (0 : Int32) then (
        some ((0 : Int32), s12))
      else
        some ((1 : Int32), s12))
    else
    if (0 : Int32) ≤ a11 then (
      some ((0 : Int32), s10))
    else
      some ((1 : Int32), s10))
  else
  some ((0 : Int32), s0)

def g_X9_inOrder_L14 (k64 : Int32 → Int32 → qe_S → Option (qe_S)) (v1 : Int32) : Nat → Int32 → qe_S → Option (qe_S)
  | 0, _, _ => none
  | n + 1, v2, s0 =>
    qm_g (1 : Int32) 122 <| qm_l (s0.1 1 (1 : Int32).toNatClampNeg) fun a5 =>
    if a5 = (5 : Int32) then (
      k64 v1 v2 s0)
    else
    if v2 ≤ (0 : Int32) then (
      k64 v1 v2 s0)
    else
    qm_g (v2 - (1 : Int32)) 12 <| qm_l (s0.1 5 (v2 - (1 : Int32)).toNatClampNeg) fun a6 =>
    qm_b (g_X9_isAhead v1 a6 s0) fun a8 s7 =>
    if a8 = (0 : Int32) then (
      k64 v1 v2 s7)
    else
    qm_g (v2 - (1 : Int32)) 12 <| qm_l (s7.1 5 (v2 - (1 : Int32)).toNatClampNeg) fun a9 =>
    qm_g v2 12 <| qm_l (qe_si s7 5 v2.toNatClampNeg a9) fun s10 =>
    qm_l (v2 + (-1 : Int32)) fun a11 =>
    g_X9_inOrder_L14 k64 v1 n a11 s10

def g_X9_inOrder_L2   : Nat → Int32 → qe_S → Option (qe_S)
  | 0, _, _ => none
  | n + 1, v1, s0 =>
    qm_g (0 : Int32) 122 <| qm_l (s0.1 1 (0 : Int32).toNatClampNeg) fun a2 =>
    if a2 ≤ v1 then (
      some s0)
    else
    g_X9_inOrder_L14
        (fun (a12 : Int32) (a13 : Int32) (s14 : qe_S) =>
          qm_j (fun (a15 : Int32) (q16 : Int32) (q17 : Int32) (s18 : qe_S) =>
              qm_g q17 12 <| qm_l (qe_si s18 5 q17.toNatClampNeg q16) fun s19 =>
              qm_l (a15 + (1 : Int32)) fun a20 =>
              g_X9_inOrder_L2 n a20 s19
          ) fun j91 =>
          qm_g (1 : Int32) 122 <| qm_l (s14.1 1 (1 : Int32).toNatClampNeg) fun a21 =>
          if a21 = (5 : Int32) then (
            qm_g ((2 : Int32) + a12) 122 <| qm_l (s14.1 1 ((2 : Int32) + a12).toNatClampNeg) fun a22 =>
            j91 a12 a22 a13 s14)
          else
            j91 a12 a12 a13 s14)
        v1 qm_F v1 s0

def g_X9_inOrder  (s0 : qe_S) : Option (qe_S) :=
  qm_l (0 : Int32) fun a1 =>
  g_X9_inOrder_L2 qm_F a1 s0

def g_X9_place_L2  (v1 : Int32) : Nat → Int32 → qe_S → Option (Int32 × qe_S)
  | 0, _, _ => none
  | n + 1, v2, s0 =>
    qm_g v2 12 <| qm_l (s0.1 5 v2.toNatClampNeg) fun a2 =>
    if a2 = v1 then (
      some (v2, s0))
    else
      qm_l (v2 + (1 : Int32)) fun a3 =>
      g_X9_place_L2 v1 n a3 s0

def g_X9_place (v1 : Int32) (s0 : qe_S) : Option (Int32 × qe_S) :=
  qm_l (0 : Int32) fun a1 =>
  g_X9_place_L2 v1 qm_F a1 s0

def g_X9_of (v1 : Int32) (v2 : Int32) (s0 : qe_S) : Option (Int64 × qe_S) :=
  qm_b (g_X9_isUnit v1 s0) fun a2 s1 =>
  if a2 = (0 : Int32) then (
    qm_b (g_X9_noLong (-1 : Int32) s1) fun b4 s3 =>
    some (b4, s3))
  else
  qm_b (g_X9_within v2 (0 : Int32) (3 : Int32) s1) fun a6 s5 =>
  if a6 = (0 : Int32) then (
    qm_b (g_X9_noLong (-1 : Int32) s5) fun b15 s14 =>
    some (b15, s14))
  else
  if (3 : Int32) ≤ v2 then (
    qm_o (g_X9_inOrder s5) fun s7 =>
    qm_b (g_X9_place v1 s7) fun a9 s8 =>
    some (a9.toInt64, s8))
  else
  qm_j (fun (a10 : Int32) (q11 : Int32) (s12 : qe_S) =>
      qm_g (q11 + a10) 122 <| qm_l (s12.1 1 (q11 + a10).toNatClampNeg) fun a13 =>
      some (a13.toInt64, s12)
  ) fun j53 =>
  if v2 = (0 : Int32) then (
    j53 v1 (14 : Int32) s5)
  else
  if v2 = (1 : Int32) then (
    j53 v1 (38 : Int32) s5)
  else
    j53 v1 (26 : Int32) s5

def g_X9_isPart (v0 : Int32) (s0 : qe_S) : Option (Int32 × qe_S) :=
  qm_b (g_X9_within v0 (0 : Int32) (1 : Int32) s0) fun a2 s1 =>
  qm_bo a2 (some (a2, s1))

def g_X9_divisor_L6 (k31 : Int64 → qe_S → Option (Int64 × qe_S))  : Nat → Int64 → Int64 → qe_S → Option (Int64 × qe_S)
  | 0, _, _, _ => none
  | n + 1, v4, v6, s0 =>
    if v6 = (0 : Int64) then (
      k31 v4 s0)
    else
    qm_zl v6 <|
    qm_l (qm_lr v4 v6) fun b2 =>
    g_X9_divisor_L6 k31 n v6 b2 s0

def g_X9_divisor (v0 : Int64) (v2 : Int64) (s0 : qe_S) : Option (Int64 × qe_S) :=
  g_X9_divisor_L6
      (fun (b3 : Int64) (s4 : qe_S) =>
        if (0 : Int64) ≤ b3 then (
          some (b3, s4))
        else
          some ((-b3), s4))
      qm_F v0 v2 s0

def g_X9_lowest (v0 : Int64) (v2 : Int64) (v4 : Int32) (s0 : qe_S) : Option (Int64 × qe_S) :=
  qm_j (fun (b1 : Int64) (b2 : Int64) (q3 : Int64) (s4 : qe_S) =>
      qm_b (g_X9_divisor b1 b2 s4) fun b6 s5 =>
      qm_zl b6 <|
      some ((q3 / b6), s5)
  ) fun j10 =>
  if v4 = (0 : Int32) then (
    j10 v0 v2 v0 s0)
  else
    j10 v0 v2 v2 s0

def g_X9_fraction (v1 : Int32) (v2 : Int32) (v3 : Int32) (s0 : qe_S) : Option (Int64 × qe_S) :=
  qm_b (g_X9_isUnit v1 s0) fun a2 s1 =>
  if a2 = (0 : Int32) then (
    qm_b (g_X9_noLong (-1 : Int32) s1) fun b4 s3 =>
    some (b4, s3))
  else
  qm_b (g_X9_within v2 (0 : Int32) (2 : Int32) s1) fun a6 s5 =>
  if a6 = (0 : Int32) then (
    qm_b (g_X9_noLong (-1 : Int32) s5) fun b16 s15 =>
    some (b16, s15))
  else
  qm_b (g_X9_isPart v3 s5) fun a8 s7 =>
  if a8 = (0 : Int32) then (
    qm_b (g_X9_noLong (-2 : Int32) s7) fun b10 s9 =>
    some (b10, s9))
  else
  qm_g (((50 : Int32) + ((12 : Int32) * v2)) + v1) 122 <| qm_l (s7.1 1 (((50 : Int32) + ((12 : Int32) * v2)) + v1).toNatClampNeg) fun a11 =>
  qm_g (((86 : Int32) + ((12 : Int32) * v2)) + v1) 122 <| qm_l (s7.1 1 (((86 : Int32) + ((12 : Int32) * v2)) + v1).toNatClampNeg) fun a12 =>
  qm_b (g_X9_lowest a11.toInt64 a12.toInt64 v3 s7) fun b14 s13 =>
  some (b14, s13)

def g_X9_order (v1 : Int32) (s0 : qe_S) : Option (Int32 × qe_S) :=
  qm_b (g_X9_within v1 (0 : Int32) (5 : Int32) s0) fun a2 s1 =>
  if a2 = (0 : Int32) then (
    qm_b (g_X9_no (-2 : Int32) s1) fun a6 s5 =>
    some (a6, s5))
  else
  qm_g (1 : Int32) 122 <| qm_l (s1.1 1 (1 : Int32).toNatClampNeg) fun a3 =>
  qm_g (1 : Int32) 122 <| qm_l (qe_si s1 1 (1 : Int32).toNatClampNeg v1) fun s4 =>
  some (a3, s4)

def g_X9_at (v1 : Int32) (s0 : qe_S) : Option (Int32 × qe_S) :=
  qm_b (g_X9_isUnit v1 s0) fun a2 s1 =>
  if a2 = (0 : Int32) then (
    qm_b (g_X9_no (-1 : Int32) s1) fun a6 s5 =>
    some (a6, s5))
  else
  qm_o (g_X9_inOrder s1) fun s3 =>
  qm_g v1 12 <| qm_l (s3.1 5 v1.toNatClampNeg) fun a4 =>
  some (a4, s3)

def g_X9_swaps (v1 : Int32) (v2 : Int32) (s0 : qe_S) : Option (Int32 × qe_S) :=
  qm_b (g_X9_isUnit v1 s0) fun a2 s1 =>
  if a2 = (0 : Int32) then (
    some ((-1 : Int32), s1))
  else
  qm_b (g_X9_isUnit v2 s1) fun a4 s3 =>
  if a4 = (0 : Int32) then (
    some ((-1 : Int32), s3))
  else
  if v1 = v2 then (
    some ((-5 : Int32), s3))
  else
  qm_g ((2 : Int32) + v1) 122 <| qm_l (s3.1 1 ((2 : Int32) + v1).toNatClampNeg) fun a5 =>
  qm_g ((2 : Int32) + v2) 122 <| qm_l (s3.1 1 ((2 : Int32) + v2).toNatClampNeg) fun a6 =>
  qm_g ((2 : Int32) + v1) 122 <| qm_l (qe_si s3 1 ((2 : Int32) + v1).toNatClampNeg a6) fun s7 =>
  qm_g ((2 : Int32) + v2) 122 <| qm_l (qe_si s7 1 ((2 : Int32) + v2).toNatClampNeg a5) fun s8 =>
  qm_g ((2 : Int32) + v1) 122 <| qm_l (s8.1 1 ((2 : Int32) + v1).toNatClampNeg) fun a9 =>
  some (a9, s8)

def g_X9_swap (v1 : Int32) (v2 : Int32) (s0 : qe_S) : Option (Int32 × qe_S) :=
  qm_b (g_X9_swaps v1 v2 s0) fun a2 s1 =>
  if (0 : Int32) ≤ a2 then (
    some (a2, s1))
  else
    qm_b (g_X9_no a2 s1) fun a4 s3 =>
    some (a4, s3)

def g_X9_meets_L2 (k64 : qe_S → Option (Int32 × qe_S)) (v1 : Int32) : Nat → Int32 → qe_S → Option (Int32 × qe_S)
  | 0, _, _ => none
  | n + 1, v2, s0 =>
    qm_g (0 : Int32) 122 <| qm_l (s0.1 1 (0 : Int32).toNatClampNeg) fun a2 =>
    if a2 ≤ v2 then (
      k64 s0)
    else
    if (2147483647 : Int64) < (s0.2 0 6) then (
      k64 s0)
    else
    qm_g (((86 : Int32) + ((12 : Int32) * v1)) + v2) 122 <| qm_l (s0.1 1 (((86 : Int32) + ((12 : Int32) * v1)) + v2).toNatClampNeg) fun a3 =>
    qm_l a3.toInt64 fun b4 =>
    qm_b (g_X9_divisor (s0.2 0 6) b4 s0) fun b6 s5 =>
    qm_zl b6 <|
    qm_l (qe_sl s5 0 6 (((s0.2 0 6) / b6) * b4)) fun s7 =>
    qm_l (v2 + (1 : Int32)) fun a8 =>
    g_X9_meets_L2 k64 v1 n a8 s7

def g_X9_meets (v1 : Int32) (s0 : qe_S) : Option (Int32 × qe_S) :=
  qm_l (0 : Int32) fun a1 =>
  g_X9_meets_L2
      (fun  (s9 : qe_S) =>
        if (2147483647 : Int64) < (s9.2 0 6) then (
          some ((0 : Int32), s9))
        else
          some ((1 : Int32), s9))
      v1 qm_F a1 s0

def g_X9_everyone  (s0 : qe_S) : Option (Int32 × qe_S) :=
  qm_g (0 : Int32) 122 <| qm_l (s0.1 1 (0 : Int32).toNatClampNeg) fun a1 =>
  some ((((1 : Int32) <<< (a1 &&& 31)) - (1 : Int32)), s0)

def g_X9_arcs_L8 (k125 : qe_S → Option (Int32 × qe_S)) (v1 : Int32) (o2 : Nat) (o3 : Nat) (v4 : Int32) : Nat → Int32 → qe_S → Option (Int32 × qe_S)
  | 0, _, _ => none
  | n + 1, v5, s0 =>
    qm_g (0 : Int32) 122 <| qm_l (s0.1 1 (0 : Int32).toNatClampNeg) fun a3 =>
    if a3 ≤ v5 then (
      k125 s0)
    else
    qm_j (fun (a4 : Int32) (a5 : Int32) (a6 : Int32) (s7 : qe_S) =>
        qm_l (a6 + (1 : Int32)) fun a8 =>
        g_X9_arcs_L8 k125 v1 o2 o3 v4 n a8 s7
    ) fun j119 =>
    qm_g v5 12 <| qm_l (s0.1 5 v5.toNatClampNeg) fun a9 =>
    qm_g a9 12 <| qm_l (qe_sl s0 o2 a9.toNatClampNeg (0 : Int64)) fun s10 =>
    qm_g a9 12 <| qm_l (qe_sl s10 o3 a9.toNatClampNeg (0 : Int64)) fun s11 =>
    if ((v4 >>> (a9 &&& 31)) &&& (1 : Int32)) = (0 : Int32) then (
      j119 v1 v4 v5 s11)
    else
    qm_zl (s11.2 0 6) <|
    qm_g a9 12 <| qm_l (qe_sl s11 o2 a9.toNatClampNeg (qm_lr (s11.2 0 11) (s11.2 0 6))) fun s12 =>
    qm_g (((50 : Int32) + ((12 : Int32) * v1)) + a9) 122 <| qm_l (s12.1 1 (((50 : Int32) + ((12 : Int32) * v1)) + a9).toNatClampNeg) fun a13 =>
    qm_g (((86 : Int32) + ((12 : Int32) * v1)) + a9) 122 <| qm_l (s12.1 1 (((86 : Int32) + ((12 : Int32) * v1)) + a9).toNatClampNeg) fun a14 =>
    qm_zl a14.toInt64 <|
    qm_g a9 12 <| qm_l (qe_sl s12 o3 a9.toNatClampNeg (a13.toInt64 * ((s12.2 0 6) / a14.toInt64))) fun s15 =>
    qm_g a9 12 <| qm_l (s15.2 o3 a9.toNatClampNeg) fun b16 =>
    qm_l (qe_sl s15 0 11 ((s15.2 0 11) + b16)) fun s17 =>
    j119 v1 v4 v5 s17

def g_X9_arcs (v1 : Int32) (o2 : Nat) (o3 : Nat) (v4 : Int32) (s0 : qe_S) : Option (Int32 × qe_S) :=
  qm_l (qe_sl s0 0 11 (0 : Int64)) fun s1 =>
  qm_l (0 : Int32) fun a2 =>
  g_X9_arcs_L8
      (fun  (s18 : qe_S) =>
        if (2147483647 : Int64) < (s18.2 0 11) then (
          some ((0 : Int32), s18))
        else
          some ((1 : Int32), s18))
      v1 o2 o3 v4 qm_F a2 s1

def g_X9_lays (v1 : Int32) (s0 : qe_S) : Option (Int32 × qe_S) :=
  qm_j (fun (a1 : Int32) (q2 : Int32) (s3 : qe_S) =>
      qm_b (g_X9_meets q2 s3) fun a5 s4 =>
      if a5 = (0 : Int32) then (
        some ((0 : Int32), s4))
      else
      qm_j (fun (a6 : Int32) (s7 : qe_S) =>
          qm_j (fun (a8 : Int32) (s9 : qe_S) =>
              qm_j (fun (q10 : Int32) (s11 : qe_S) =>
                  qm_b (g_X9_everyone s11) fun a13 s12 =>
                  qm_b (g_X9_arcs q10 6 7 a13 s12) fun a15 s14 =>
                  qm_bo a15 (some (a15, s14))
              ) fun j79 =>
              if a8 = (2 : Int32) then (
                j79 (0 : Int32) s9)
              else
                j79 a8 s9
          ) fun j68 =>
          if a6 = (2 : Int32) then (
            qm_b (g_X9_everyone s7) fun a17 s16 =>
            qm_b (g_X9_arcs (2 : Int32) 8 9 a17 s16) fun a19 s18 =>
            if a19 = (0 : Int32) then (
              some ((0 : Int32), s18))
            else
              j68 a6 s18)
          else
            j68 a6 s7
      ) fun j41 =>
      if a1 = (2 : Int32) then (
        qm_b (g_X9_meets (2 : Int32) s4) fun a21 s20 =>
        if a21 = (0 : Int32) then (
          some ((0 : Int32), s20))
        else
          j41 a1 s20)
      else
        j41 a1 s4
  ) fun j20 =>
  qm_o (g_X9_inOrder s0) fun s22 =>
  qm_l (qe_sl s22 0 6 (1 : Int64)) fun s23 =>
  if v1 = (2 : Int32) then (
    j20 v1 (0 : Int32) s23)
  else
    j20 v1 v1 s23

def g_X9_common (v1 : Int32) (s0 : qe_S) : Option (Int32 × qe_S) :=
  qm_b (g_X9_within v1 (0 : Int32) (2 : Int32) s0) fun a2 s1 =>
  if a2 = (0 : Int32) then (
    qm_b (g_X9_no (-1 : Int32) s1) fun a8 s7 =>
    some (a8, s7))
  else
  qm_b (g_X9_lays v1 s1) fun a4 s3 =>
  if a4 = (0 : Int32) then (
    qm_b (g_X9_no (-7 : Int32) s3) fun a6 s5 =>
    some (a6, s5))
  else
    some ((s3.2 0 6).toInt32, s3)

def g_X9_parts (v1 : Int32) (s0 : qe_S) : Option (Int32 × qe_S) :=
  qm_b (g_X9_isUnit v1 s0) fun a2 s1 =>
  if a2 = (0 : Int32) then (
    qm_b (g_X9_no (-1 : Int32) s1) fun a9 s8 =>
    some (a9, s8))
  else
  qm_b (g_X9_lays (0 : Int32) s1) fun a4 s3 =>
  if a4 = (0 : Int32) then (
    qm_b (g_X9_no (-7 : Int32) s3) fun a6 s5 =>
    some (a6, s5))
  else
  qm_g v1 12 <| qm_l (s3.2 7 v1.toNatClampNeg) fun b7 =>
  some (b7.toInt32, s3)

def g_X9_size (v1 : Int32) (s0 : qe_S) : Option (Int32 × qe_S) :=
  qm_b (g_X9_within v1 (0 : Int32) (1 : Int32) s0) fun a2 s1 =>
  if a2 = (0 : Int32) then (
    qm_b (g_X9_no (-1 : Int32) s1) fun a10 s9 =>
    some (a10, s9))
  else
  qm_b (g_X9_lays (0 : Int32) s1) fun a4 s3 =>
  if a4 = (0 : Int32) then (
    qm_b (g_X9_no (-7 : Int32) s3) fun a8 s7 =>
    some (a8, s7))
  else
  qm_j (fun (q5 : Int64) (s6 : qe_S) =>
      qm_zl (s6.2 0 6) <|
      some ((q5 / (s6.2 0 6)).toInt32, s6)
  ) fun j52 =>
  if v1 = (0 : Int32) then (
    j52 (s3.2 0 11) s3)
  else
    j52 (((s3.2 0 11) + (s3.2 0 6)) - (1 : Int64)) s3

def g_X9_isPlace (v1 : Int32) (s0 : qe_S) : Option (Int32 × qe_S) :=
  qm_j (fun  (s1 : qe_S) =>
      some ((0 : Int32), s1)
  ) fun j18 =>
  if v1 < (0 : Int32) then (
    j18 s0)
  else
  if (s0.2 0 6) ≤ v1.toInt64 then (
    j18 s0)
  else
    some ((1 : Int32), s0)

def g_X9_isOn (v0 : Int64) (v2 : Int64) (v4 : Int64) (v6 : Int64) (s0 : qe_S) : Option (Int32 × qe_S) :=
  qm_zl v6 <|
  if v4 ≤ (qm_lr ((v0 + v6) - v2) v6) then (
    some ((0 : Int32), s0))
  else
    some ((1 : Int32), s0)

def g_X9_chosenBy_L5  (v1 : Int64) : Nat → Int32 → Int32 → qe_S → Option (Int32 × qe_S)
  | 0, _, _, _ => none
  | n + 1, v3, v4, s0 =>
    qm_g (0 : Int32) 122 <| qm_l (s0.1 1 (0 : Int32).toNatClampNeg) fun a3 =>
    if a3 ≤ v4 then (
      some (v3, s0))
    else
    qm_j (fun (b4 : Int64) (a5 : Int32) (a6 : Int32) (s7 : qe_S) =>
        qm_l (a6 + (1 : Int32)) fun a8 =>
        g_X9_chosenBy_L5 v1 n a5 a8 s7
    ) fun j48 =>
    qm_g v4 12 <| qm_l (s0.2 6 v4.toNatClampNeg) fun b9 =>
    qm_g v4 12 <| qm_l (s0.2 7 v4.toNatClampNeg) fun b10 =>
    qm_b (g_X9_isOn v1 b9 b10 (s0.2 0 6) s0) fun a12 s11 =>
    if a12 = (0 : Int32) then (
      j48 v1 v3 v4 s11)
    else
    qm_l (v3 ||| ((1 : Int32) <<< (v4 &&& 31))) fun a13 =>
    j48 v1 a13 v4 s11

def g_X9_chosenBy (v1 : Int64) (s0 : qe_S) : Option (Int32 × qe_S) :=
  qm_l (0 : Int32) fun a1 =>
  qm_l (0 : Int32) fun a2 =>
  g_X9_chosenBy_L5 v1 qm_F a1 a2 s0

def g_X9_chosen (v1 : Int32) (s0 : qe_S) : Option (Int32 × qe_S) :=
  qm_b (g_X9_lays (0 : Int32) s0) fun a2 s1 =>
  if a2 = (0 : Int32) then (
    qm_b (g_X9_no (-7 : Int32) s1) fun a10 s9 =>
    some (a10, s9))
  else
  qm_b (g_X9_isPlace v1 s1) fun a4 s3 =>
  if a4 = (0 : Int32) then (
    qm_b (g_X9_no (-2 : Int32) s3) fun a6 s5 =>
    some (a6, s5))
  else
  qm_b (g_X9_chosenBy v1.toInt64 s3) fun a8 s7 =>
  some (a8, s7)

def g_X9_cutsAt_L3 (k44 : Int32 → Int64 → Int32 → qe_S → Option (Int32 × qe_S)) (v1 : Int32) (v2 : Int64) : Nat → Int32 → qe_S → Option (Int32 × qe_S)
  | 0, _, _ => none
  | n + 1, v4, s0 =>
    if v4 ≤ (0 : Int32) then (
      k44 v1 v2 v4 s0)
    else
    qm_g (v4 - (1 : Int32)) 26 <| qm_l (s0.2 13 (v4 - (1 : Int32)).toNatClampNeg) fun b4 =>
    if b4 ≤ v2 then (
      k44 v1 v2 v4 s0)
    else
    qm_g (v4 - (1 : Int32)) 26 <| qm_l (s0.2 13 (v4 - (1 : Int32)).toNatClampNeg) fun b5 =>
    qm_g v4 26 <| qm_l (qe_sl s0 13 v4.toNatClampNeg b5) fun s6 =>
    qm_l (v4 + (-1 : Int32)) fun a7 =>
    g_X9_cutsAt_L3 k44 v1 v2 n a7 s6

def g_X9_cutsAt (v1 : Int32) (v2 : Int64) (s0 : qe_S) : Option (Int32 × qe_S) :=
  g_X9_cutsAt_L3
      (fun (a8 : Int32) (b9 : Int64) (a10 : Int32) (s11 : qe_S) =>
        qm_g a10 26 <| qm_l (qe_sl s11 13 a10.toNatClampNeg b9) fun s12 =>
        some ((a8 + (1 : Int32)), s12))
      v1 v2 qm_F v1 s0

def g_X9_goesRound_L9 (k61 : Int32 → qe_S → Option (qe_S))  : Nat → Int32 → Int32 → qe_S → Option (qe_S)
  | 0, _, _, _ => none
  | n + 1, v1, v2, s0 =>
    qm_g (0 : Int32) 122 <| qm_l (s0.1 1 (0 : Int32).toNatClampNeg) fun a5 =>
    if a5 ≤ v2 then (
      k61 v1 s0)
    else
    qm_g v2 12 <| qm_l (s0.2 6 v2.toNatClampNeg) fun b6 =>
    qm_b (g_X9_cutsAt v1 b6 s0) fun a8 s7 =>
    qm_g v2 12 <| qm_l (s7.2 6 v2.toNatClampNeg) fun b9 =>
    qm_g v2 12 <| qm_l (s7.2 7 v2.toNatClampNeg) fun b10 =>
    qm_zl (s7.2 0 6) <|
    qm_b (g_X9_cutsAt a8 (qm_lr (b9 + b10) (s7.2 0 6)) s7) fun a12 s11 =>
    qm_l (v2 + (1 : Int32)) fun a13 =>
    g_X9_goesRound_L9 k61 n a12 a13 s11

def g_X9_goesRound_L68  (v1 : Int32) : Nat → Int32 → qe_S → Option (qe_S)
  | 0, _, _ => none
  | n + 1, v2, s0 =>
    if v1 ≤ v2 then (
      some s0)
    else
    qm_j (fun (a18 : Int32) (a19 : Int32) (q20 : Int64) (s21 : qe_S) =>
        qm_j (fun (a22 : Int32) (a23 : Int32) (s24 : qe_S) =>
            qm_l (a23 + (1 : Int32)) fun a25 =>
            g_X9_goesRound_L68 v1 n a25 s24
        ) fun j223 =>
        qm_g a19 26 <| qm_l (s21.2 13 a19.toNatClampNeg) fun b26 =>
        if q20 = b26 then (
          j223 a18 a19 s21)
        else
        qm_j (fun (a27 : Int32) (a28 : Int32) (b29 : Int64) (a30 : Int32) (s31 : qe_S) =>
            qm_g a28 26 <| qm_l (s31.2 13 a28.toNatClampNeg) fun b32 =>
            qm_g (s31.1 0 12) 26 <| qm_l (qe_sl s31 10 (s31.1 0 12).toNatClampNeg b32) fun s33 =>
            qm_g a28 26 <| qm_l (s33.2 13 a28.toNatClampNeg) fun b34 =>
            qm_g (s33.1 0 12) 26 <| qm_l (qe_sl s33 11 (s33.1 0 12).toNatClampNeg (b29 - b34)) fun s35 =>
            qm_g (s35.1 0 12) 26 <| qm_l (qe_si s35 12 (s35.1 0 12).toNatClampNeg a30) fun s36 =>
            qm_l (qe_si s36 0 12 ((s36.1 0 12) + (1 : Int32))) fun s37 =>
            j223 a27 a28 s37
        ) fun j170 =>
        qm_g a19 26 <| qm_l (s21.2 13 a19.toNatClampNeg) fun b38 =>
        qm_b (g_X9_chosenBy b38 s21) fun a40 s39 =>
        if (s39.1 0 12) ≤ (0 : Int32) then (
          j170 a18 a19 q20 a40 s39)
        else
        qm_g ((s39.1 0 12) - (1 : Int32)) 26 <| qm_l (s39.1 12 ((s39.1 0 12) - (1 : Int32)).toNatClampNeg) fun a41 =>
        if a41 = a40 then (
          qm_g ((s39.1 0 12) - (1 : Int32)) 26 <| qm_l (s39.2 11 ((s39.1 0 12) - (1 : Int32)).toNatClampNeg) fun b42 =>
          qm_g a19 26 <| qm_l (s39.2 13 a19.toNatClampNeg) fun b43 =>
          qm_g ((s39.1 0 12) - (1 : Int32)) 26 <| qm_l (qe_sl s39 11 ((s39.1 0 12) - (1 : Int32)).toNatClampNeg (b42 + (q20 - b43))) fun s44 =>
          j223 a18 a19 s44)
        else
          j170 a18 a19 q20 a40 s39
    ) fun j95 =>
    if v1 ≤ (v2 + (1 : Int32)) then (
      j95 v1 v2 (s0.2 0 6) s0)
    else
    qm_g (v2 + (1 : Int32)) 26 <| qm_l (s0.2 13 (v2 + (1 : Int32)).toNatClampNeg) fun b45 =>
    j95 v1 v2 b45 s0

def g_X9_goesRound  (s0 : qe_S) : Option (qe_S) :=
  qm_b (g_X9_cutsAt (0 : Int32) (0 : Int64) s0) fun a2 s1 =>
  qm_l (0 : Int32) fun a3 =>
  g_X9_goesRound_L9
      (fun (a14 : Int32) (s15 : qe_S) =>
        qm_l (qe_si s15 0 12 (0 : Int32)) fun s16 =>
        qm_l (0 : Int32) fun a17 =>
        g_X9_goesRound_L68 a14 qm_F a17 s16)
      qm_F a2 a3 s1

def g_X9_laysRuns  (s0 : qe_S) : Option (Int32 × qe_S) :=
  qm_b (g_X9_lays (0 : Int32) s0) fun a2 s1 =>
  if a2 = (0 : Int32) then (
    some ((0 : Int32), s1))
  else
    qm_o (g_X9_goesRound s1) fun s3 =>
    some ((1 : Int32), s3)

def g_X9_run (v1 : Int32) (v2 : Int32) (s0 : qe_S) : Option (Int32 × qe_S) :=
  if v1 < (-1 : Int32) then (
    qm_b (g_X9_no (-1 : Int32) s0) fun a2 s1 =>
    some (a2, s1))
  else
  qm_b (g_X9_within v2 (0 : Int32) (2 : Int32) s0) fun a4 s3 =>
  if a4 = (0 : Int32) then (
    qm_b (g_X9_no (-1 : Int32) s3) fun a15 s14 =>
    some (a15, s14))
  else
  qm_b (g_X9_laysRuns s3) fun a6 s5 =>
  if a6 = (0 : Int32) then (
    qm_b (g_X9_no (-7 : Int32) s5) fun a13 s12 =>
    some (a13, s12))
  else
  if v1 = (-1 : Int32) then (
    some ((s5.1 0 12), s5))
  else
  if v1 < (s5.1 0 12) then (
    if v2 = (0 : Int32) then (
      qm_g v1 26 <| qm_l (s5.2 10 v1.toNatClampNeg) fun b9 =>
      some (b9.toInt32, s5))
    else
    if v2 = (1 : Int32) then (
      qm_g v1 26 <| qm_l (s5.2 11 v1.toNatClampNeg) fun b8 =>
      some (b8.toInt32, s5))
    else
    qm_g v1 26 <| qm_l (s5.1 12 v1.toNatClampNeg) fun a7 =>
    some (a7, s5))
  else
  qm_b (g_X9_no (-5 : Int32) s5) fun a11 s10 =>
  some (a11, s10)

def g_X9_has (v1 : Int32) (v2 : Int32) (s0 : qe_S) : Option (Int32 × qe_S) :=
  if ((v1 >>> (v2 &&& 31)) &&& (1 : Int32)) = (1 : Int32) then (
    some ((1 : Int32), s0))
  else
    some ((0 : Int32), s0)

def g_X9_joint_L56 (k113 : Int32 → Int64 → qe_S → Option (Int64 × qe_S)) (v1 : Int32) (v2 : Int32) (v3 : Int32) : Nat → Int64 → Int32 → qe_S → Option (Int64 × qe_S)
  | 0, _, _, _ => none
  | n + 1, v4, v6, s0 =>
    if (s0.1 0 12) ≤ v6 then (
      k113 v3 v4 s0)
    else
    qm_j (fun (a15 : Int32) (a16 : Int32) (a17 : Int32) (b18 : Int64) (a19 : Int32) (s20 : qe_S) =>
        qm_l (a19 + (1 : Int32)) fun a21 =>
        g_X9_joint_L56 k113 v1 v2 v3 n b18 a21 s20
    ) fun j107 =>
    qm_g v6 26 <| qm_l (s0.1 12 v6.toNatClampNeg) fun a22 =>
    qm_b (g_X9_has a22 v1 s0) fun a24 s23 =>
    if a24 = (0 : Int32) then (
      j107 v1 v2 v3 v4 v6 s23)
    else
    qm_g v6 26 <| qm_l (s23.1 12 v6.toNatClampNeg) fun a25 =>
    qm_b (g_X9_has a25 v2 s23) fun a27 s26 =>
    if a27 = (0 : Int32) then (
      j107 v1 v2 v3 v4 v6 s26)
    else
    qm_g v6 26 <| qm_l (s26.2 11 v6.toNatClampNeg) fun b28 =>
    qm_l (v4 + b28) fun b29 =>
    j107 v1 v2 v3 b29 v6 s26

def g_X9_joint (v1 : Int32) (v2 : Int32) (v3 : Int32) (s0 : qe_S) : Option (Int64 × qe_S) :=
  qm_b (g_X9_isUnit v1 s0) fun a2 s1 =>
  if a2 = (0 : Int32) then (
    qm_b (g_X9_noLong (-1 : Int32) s1) fun b4 s3 =>
    some (b4, s3))
  else
  qm_b (g_X9_isUnit v2 s1) fun a6 s5 =>
  if a6 = (0 : Int32) then (
    qm_b (g_X9_noLong (-1 : Int32) s5) fun b40 s39 =>
    some (b40, s39))
  else
  qm_b (g_X9_isPart v3 s5) fun a8 s7 =>
  if a8 = (0 : Int32) then (
    qm_b (g_X9_noLong (-2 : Int32) s7) fun b38 s37 =>
    some (b38, s37))
  else
  qm_b (g_X9_laysRuns s7) fun a10 s9 =>
  if a10 = (0 : Int32) then (
    qm_b (g_X9_noLong (-7 : Int32) s9) fun b36 s35 =>
    some (b36, s35))
  else
  qm_l (0 : Int64) fun b11 =>
  qm_l (0 : Int32) fun a12 =>
  g_X9_joint_L56
      (fun (a30 : Int32) (b31 : Int64) (s32 : qe_S) =>
        qm_b (g_X9_lowest b31 (s32.2 0 6) a30 s32) fun b34 s33 =>
        some (b34, s33))
      v1 v2 v3 qm_F b11 a12 s9

def g_X9_joints_L47 (k99 : Int32 → Int64 → qe_S → Option (Int64 × qe_S)) (v1 : Int32) (v2 : Int32) : Nat → Int64 → Int32 → qe_S → Option (Int64 × qe_S)
  | 0, _, _, _ => none
  | n + 1, v3, v5, s0 =>
    if (s0.1 0 12) ≤ v5 then (
      k99 v2 v3 s0)
    else
    qm_j (fun (a11 : Int32) (a12 : Int32) (b13 : Int64) (a14 : Int32) (s15 : qe_S) =>
        qm_l (a14 + (1 : Int32)) fun a16 =>
        g_X9_joints_L47 k99 v1 v2 n b13 a16 s15
    ) fun j93 =>
    qm_g v5 26 <| qm_l (s0.1 12 v5.toNatClampNeg) fun a17 =>
    qm_b (g_X9_has a17 v1 s0) fun a19 s18 =>
    if a19 = (0 : Int32) then (
      j93 v1 v2 v3 v5 s18)
    else
    qm_g v5 26 <| qm_l (s18.2 11 v5.toNatClampNeg) fun b20 =>
    qm_g v5 26 <| qm_l (s18.1 12 v5.toNatClampNeg) fun a21 =>
    qm_b (g_J6_bitCount_0f7a4 a21 s18) fun a23 s22 =>
    qm_l (v3 + (b20 * a23.toInt64)) fun b24 =>
    j93 v1 v2 b24 v5 s22

def g_X9_joints (v1 : Int32) (v2 : Int32) (s0 : qe_S) : Option (Int64 × qe_S) :=
  qm_b (g_X9_isUnit v1 s0) fun a2 s1 =>
  if a2 = (0 : Int32) then (
    qm_b (g_X9_noLong (-1 : Int32) s1) fun b35 s34 =>
    some (b35, s34))
  else
  qm_b (g_X9_isPart v2 s1) fun a4 s3 =>
  if a4 = (0 : Int32) then (
    qm_b (g_X9_noLong (-2 : Int32) s3) fun b33 s32 =>
    some (b33, s32))
  else
  qm_b (g_X9_laysRuns s3) fun a6 s5 =>
  if a6 = (0 : Int32) then (
    qm_b (g_X9_noLong (-7 : Int32) s5) fun b31 s30 =>
    some (b31, s30))
  else
  qm_l (0 : Int64) fun b7 =>
  qm_l (0 : Int32) fun a8 =>
  g_X9_joints_L47
      (fun (a25 : Int32) (b26 : Int64) (s27 : qe_S) =>
        qm_b (g_X9_lowest b26 (s27.2 0 6) a25 s27) fun b29 s28 =>
        some (b29, s28))
      v1 v2 qm_F b7 a8 s5

def g_X9_fair_L36 (k87 : Int32 → Int64 → qe_S → Option (Int32 × qe_S)) (v1 : Int32) : Nat → Int32 → Int64 → Int32 → qe_S → Option (Int32 × qe_S)
  | 0, _, _, _, _ => none
  | n + 1, v2, v3, v5, s0 =>
    qm_g (0 : Int32) 122 <| qm_l (s0.1 1 (0 : Int32).toNatClampNeg) fun a10 =>
    if a10 ≤ v5 then (
      k87 v2 v3 s0)
    else
    qm_j (fun (a11 : Int32) (a12 : Int32) (b13 : Int64) (a14 : Int32) (s15 : qe_S) =>
        qm_l (a14 + (1 : Int32)) fun a16 =>
        g_X9_fair_L36 k87 v1 n a12 b13 a16 s15
    ) fun j81 =>
    qm_g ((14 : Int32) + v5) 122 <| qm_l (s0.1 1 ((14 : Int32) + v5).toNatClampNeg) fun a17 =>
    if a17 = v1 then (
      qm_l (v2 ||| ((1 : Int32) <<< (v5 &&& 31))) fun a18 =>
      qm_g v5 12 <| qm_l (s0.2 7 v5.toNatClampNeg) fun b19 =>
      qm_l (v3 + b19) fun b20 =>
      j81 v1 a18 b20 v5 s0)
    else
      j81 v1 v2 v3 v5 s0

def g_X9_fair_L90  (v2 : Int32) (v3 : Int64) : Nat → Int32 → qe_S → Option (Int32 × qe_S)
  | 0, _, _ => none
  | n + 1, v5, s0 =>
    if (s0.1 0 12) ≤ v5 then (
      some ((1 : Int32), s0))
    else
    qm_g v5 26 <| qm_l (s0.1 12 v5.toNatClampNeg) fun a25 =>
    qm_b (g_J6_bitCount_0f7a4 (a25 &&& v2) s0) fun a27 s26 =>
    qm_zl (s26.2 0 6) <|
    if a27.toInt64 < (v3 / (s26.2 0 6)) then (
      some ((0 : Int32), s26))
    else
    qm_zl (s26.2 0 6) <|
    if a27.toInt64 ≤ (((v3 + (s26.2 0 6)) - (1 : Int64)) / (s26.2 0 6)) then (
      qm_l (v5 + (1 : Int32)) fun a28 =>
      g_X9_fair_L90 v2 v3 n a28 s26)
    else
      some ((0 : Int32), s26)

def g_X9_fair (v1 : Int32) (s0 : qe_S) : Option (Int32 × qe_S) :=
  qm_b (g_X9_within v1 (0 : Int32) (3 : Int32) s0) fun a2 s1 =>
  if a2 = (0 : Int32) then (
    qm_b (g_X9_no (-1 : Int32) s1) fun a32 s31 =>
    some (a32, s31))
  else
  qm_b (g_X9_laysRuns s1) fun a4 s3 =>
  if a4 = (0 : Int32) then (
    qm_b (g_X9_no (-7 : Int32) s3) fun a30 s29 =>
    some (a30, s29))
  else
  qm_l (0 : Int32) fun a5 =>
  qm_l (0 : Int64) fun b6 =>
  qm_l (0 : Int32) fun a7 =>
  g_X9_fair_L36
      (fun (a21 : Int32) (b22 : Int64) (s23 : qe_S) =>
        qm_l (0 : Int32) fun a24 =>
        g_X9_fair_L90 a21 b22 qm_F a24 s23)
      v1 qm_F a5 b6 a7 s3

def g_X9_product (v1 : Int64) (v3 : Int64) (s0 : qe_S) : Option (Int64 × qe_S) :=
  qm_l (v1 * v3) fun b1 =>
  if v1 = (0 : Int64) then (
    some (b1, s0))
  else
  qm_j (fun (b2 : Int64) (s3 : qe_S) =>
      qm_l (qe_si s3 0 19 (1 : Int32)) fun s4 =>
      some (b2, s4)
  ) fun j36 =>
  qm_zl v1 <|
  if (b1 / v1) = v3 then (
    if v1 = (-1 : Int64) then (
      if v3 = (-9223372036854775808 : Int64) then (
        j36 b1 s0)
      else
        some (b1, s0))
    else
      some (b1, s0))
  else
    j36 b1 s0

def g_X9_sum (v1 : Int64) (v3 : Int64) (s0 : qe_S) : Option (Int64 × qe_S) :=
  qm_j (fun (b1 : Int64) (b2 : Int64) (b3 : Int64) (q4 : Int32) (s5 : qe_S) =>
      qm_j (fun (b6 : Int64) (b7 : Int64) (q8 : Int32) (q9 : Int32) (s10 : qe_S) =>
          if q9 = q8 then (
            qm_j (fun (b11 : Int64) (b12 : Int64) (q13 : Int32) (s14 : qe_S) =>
                qm_j (fun (b15 : Int64) (q16 : Int32) (q17 : Int32) (s18 : qe_S) =>
                    if q17 = q16 then (
                      some (b15, s18))
                    else
                    qm_l (qe_si s18 0 19 (1 : Int32)) fun s19 =>
                    some (b15, s19)
                ) fun j53 =>
                if (0 : Int64) ≤ b11 then (
                  j53 b12 (0 : Int32) q13 s14)
                else
                  j53 b12 (1 : Int32) q13 s14
            ) fun j42 =>
            if (0 : Int64) ≤ b7 then (
              j42 b6 b7 (0 : Int32) s10)
            else
              j42 b6 b7 (1 : Int32) s10)
          else
            some (b7, s10)
      ) fun j27 =>
      if (0 : Int64) ≤ b2 then (
        j27 b1 b3 (0 : Int32) q4 s5)
      else
        j27 b1 b3 (1 : Int32) q4 s5
  ) fun j16 =>
  qm_l (v1 + v3) fun b20 =>
  if (0 : Int64) ≤ v1 then (
    j16 v1 v3 b20 (0 : Int32) s0)
  else
    j16 v1 v3 b20 (1 : Int32) s0

def g_X9_is (v1 : Int64) (v3 : Int64) (s0 : qe_S) : Option (qe_S) :=
  if (s0.1 0 19) = (0 : Int32) then (
    qm_b (g_X9_divisor v1 v3 s0) fun b2 s1 =>
    qm_zl b2 <|
    qm_l (qe_sl s1 0 17 (v1 / b2)) fun s3 =>
    qm_zl b2 <|
    qm_l (qe_sl s3 0 18 (v3 / b2)) fun s4 =>
    some s4)
  else
    some s0

def g_X9_adds (v1 : Int64) (v3 : Int64) (v5 : Int64) (v7 : Int64) (s0 : qe_S) : Option (qe_S) :=
  qm_b (g_X9_product v1 v7 s0) fun b2 s1 =>
  qm_b (g_X9_product v5 v3 s1) fun b4 s3 =>
  qm_b (g_X9_product v3 v7 s3) fun b6 s5 =>
  qm_b (g_X9_sum b2 b4 s5) fun b8 s7 =>
  qm_o (g_X9_is b8 b6 s7) fun s9 =>
  some s9

def g_X9_estimates_L12  (v1 : Int32) : Nat → Int32 → qe_S → Option (qe_S)
  | 0, _, _ => none
  | n + 1, v2, s0 =>
    qm_g (0 : Int32) 122 <| qm_l (s0.1 1 (0 : Int32).toNatClampNeg) fun a4 =>
    if a4 ≤ v2 then (
      some s0)
    else
    if (s0.1 0 19) = (0 : Int32) then (
      qm_j (fun (a5 : Int32) (a6 : Int32) (s7 : qe_S) =>
          qm_l (a6 + (1 : Int32)) fun a8 =>
          g_X9_estimates_L12 v1 n a8 s7
      ) fun j101 =>
      qm_b (g_X9_has v1 v2 s0) fun a10 s9 =>
      if a10 = (0 : Int32) then (
        j101 v1 v2 s9)
      else
      qm_g ((26 : Int32) + v2) 122 <| qm_l (s9.1 1 ((26 : Int32) + v2).toNatClampNeg) fun a11 =>
      qm_g ((86 : Int32) + v2) 122 <| qm_l (s9.1 1 ((86 : Int32) + v2).toNatClampNeg) fun a12 =>
      qm_l (a11.toInt64 * a12.toInt64) fun b13 =>
      qm_g ((50 : Int32) + v2) 122 <| qm_l (s9.1 1 ((50 : Int32) + v2).toNatClampNeg) fun a14 =>
      qm_l a14.toInt64 fun b15 =>
      qm_b (g_X9_lowest b13 b15 (0 : Int32) s9) fun b17 s16 =>
      qm_b (g_X9_lowest b13 b15 (1 : Int32) s16) fun b19 s18 =>
      qm_o (g_X9_adds (s9.2 0 17) (s9.2 0 18) b17 b19 s18) fun s20 =>
      j101 v1 v2 s20)
    else
      some s0

def g_X9_estimates (v1 : Int32) (s0 : qe_S) : Option (qe_S) :=
  qm_l (qe_sl s0 0 17 (0 : Int64)) fun s1 =>
  qm_l (qe_sl s1 0 18 (1 : Int64)) fun s2 =>
  qm_l (0 : Int32) fun a3 =>
  g_X9_estimates_L12 v1 qm_F a3 s2

def g_X9_estimate (v1 : Int32) (v2 : Int32) (s0 : qe_S) : Option (Int64 × qe_S) :=
  qm_b (g_X9_isPart v2 s0) fun a2 s1 =>
  if a2 = (0 : Int32) then (
    qm_b (g_X9_noLong (-2 : Int32) s1) fun b18 s17 =>
    some (b18, s17))
  else
  qm_b (g_X9_lays (0 : Int32) s1) fun a4 s3 =>
  if a4 = (0 : Int32) then (
    qm_b (g_X9_noLong (-7 : Int32) s3) fun b16 s15 =>
    some (b16, s15))
  else
  qm_b (g_X9_isPlace v1 s3) fun a6 s5 =>
  if a6 = (0 : Int32) then (
    qm_b (g_X9_noLong (-2 : Int32) s5) fun b14 s13 =>
    some (b14, s13))
  else
  qm_l (qe_si s5 0 19 (0 : Int32)) fun s7 =>
  qm_b (g_X9_chosenBy v1.toInt64 s7) fun a9 s8 =>
  qm_o (g_X9_estimates a9 s8) fun s10 =>
  if (s10.1 0 19) = (0 : Int32) then (
    if v2 = (0 : Int32) then (
      some ((s10.2 0 17), s10))
    else
      some ((s10.2 0 18), s10))
  else
  qm_b (g_X9_noLong (-7 : Int32) s10) fun b12 s11 =>
  some (b12, s11)

def g_X9_times (v1 : Int64) (v3 : Int64) (v5 : Int64) (v7 : Int64) (s0 : qe_S) : Option (qe_S) :=
  qm_b (g_X9_product v1 v5 s0) fun b2 s1 =>
  qm_b (g_X9_product v3 v7 s1) fun b4 s3 =>
  qm_o (g_X9_is b2 b4 s3) fun s5 =>
  some s5

def g_X9_meansOf_L16 (k49 : Int32 → Int64 → Int64 → Int64 → qe_S → Option (Int32 × qe_S)) (v1 : Int32) (v2 : Int64) (v4 : Int64) : Nat → Int64 → Int32 → qe_S → Option (Int32 × qe_S)
  | 0, _, _, _ => none
  | n + 1, v6, v8, s0 =>
    qm_g (0 : Int32) 122 <| qm_l (s0.1 1 (0 : Int32).toNatClampNeg) fun a10 =>
    if a10 ≤ v8 then (
      k49 v1 v2 v4 v6 s0)
    else
    qm_g ((26 : Int32) + v8) 122 <| qm_l (s0.1 1 ((26 : Int32) + v8).toNatClampNeg) fun a11 =>
    qm_l (v6 + a11.toInt64) fun b12 =>
    qm_l (v8 + (1 : Int32)) fun a13 =>
    g_X9_meansOf_L16 k49 v1 v2 v4 n b12 a13 s0

def g_X9_meansOf_L52 (k193 : Int64 → Int64 → qe_S → Option (Int32 × qe_S)) (v1 : Int32) (v6 : Int64) : Nat → Int64 → Int64 → Int32 → qe_S → Option (Int32 × qe_S)
  | 0, _, _, _, _ => none
  | n + 1, v2, v4, v8, s0 =>
    if (s0.1 0 12) ≤ v8 then (
      k193 v2 v4 s0)
    else
    if (s0.1 0 19) = (0 : Int32) then (
      qm_j (fun (a22 : Int32) (b23 : Int64) (b24 : Int64) (b25 : Int64) (a26 : Int32) (s27 : qe_S) =>
          qm_g a26 26 <| qm_l (s27.2 11 a26.toNatClampNeg) fun b28 =>
          qm_b (g_X9_lowest b28 (s27.2 0 6) (0 : Int32) s27) fun b30 s29 =>
          qm_g a26 26 <| qm_l (s29.2 11 a26.toNatClampNeg) fun b31 =>
          qm_b (g_X9_lowest b31 (s29.2 0 6) (1 : Int32) s29) fun b33 s32 =>
          qm_o (g_X9_times (s27.2 0 17) (s27.2 0 18) b30 b33 s32) fun s34 =>
          qm_o (g_X9_adds b23 b24 (s34.2 0 17) (s34.2 0 18) s34) fun s35 =>
          qm_l (s35.2 0 17) fun b36 =>
          qm_l (s35.2 0 18) fun b37 =>
          qm_l (a26 + (1 : Int32)) fun a38 =>
          g_X9_meansOf_L52 k193 v1 v6 n b36 b37 a38 s35
      ) fun j119 =>
      qm_g v8 26 <| qm_l (s0.1 12 v8.toNatClampNeg) fun a39 =>
      qm_o (g_X9_estimates a39 s0) fun s40 =>
      if v1 = (0 : Int32) then (
        j119 v1 v2 v4 v6 v8 s40)
      else
      qm_o (g_X9_adds (s40.2 0 17) (s40.2 0 18) (-v6) (1 : Int64) s40) fun s41 =>
      qm_o (g_X9_times (s41.2 0 17) (s41.2 0 18) (s41.2 0 17) (s41.2 0 18) s41) fun s42 =>
      j119 v1 v2 v4 v6 v8 s42)
    else
      k193 v2 v4 s0

def g_X9_meansOf (v1 : Int32) (s0 : qe_S) : Option (Int32 × qe_S) :=
  qm_l (qe_si s0 0 19 (0 : Int32)) fun s1 =>
  qm_l (0 : Int64) fun b2 =>
  qm_l (1 : Int64) fun b3 =>
  qm_l (0 : Int64) fun b4 =>
  qm_l (0 : Int32) fun a5 =>
  g_X9_meansOf_L16
      (fun (a14 : Int32) (b15 : Int64) (b16 : Int64) (b17 : Int64) (s18 : qe_S) =>
        qm_l (0 : Int32) fun a19 =>
        g_X9_meansOf_L52
            (fun (b43 : Int64) (b44 : Int64) (s45 : qe_S) =>
              qm_l (qe_sl s45 0 17 b43) fun s46 =>
              qm_l (qe_sl s46 0 18 b44) fun s47 =>
              if (s47.1 0 19) = (0 : Int32) then (
                some ((1 : Int32), s47))
              else
                some ((0 : Int32), s47))
            a14 b17 qm_F b15 b16 a19 s18)
      v1 b2 b3 qm_F b4 a5 s1

def g_X9_meant (v1 : Int32) (v2 : Int32) (s0 : qe_S) : Option (Int64 × qe_S) :=
  qm_b (g_X9_isPart v1 s0) fun a2 s1 =>
  if a2 = (0 : Int32) then (
    qm_b (g_X9_noLong (-2 : Int32) s1) fun b12 s11 =>
    some (b12, s11))
  else
  qm_b (g_X9_laysRuns s1) fun a4 s3 =>
  if a4 = (0 : Int32) then (
    qm_b (g_X9_noLong (-7 : Int32) s3) fun b6 s5 =>
    some (b6, s5))
  else
  qm_b (g_X9_meansOf v2 s3) fun a8 s7 =>
  if a8 = (0 : Int32) then (
    qm_b (g_X9_noLong (-7 : Int32) s7) fun b10 s9 =>
    some (b10, s9))
  else
  if v1 = (0 : Int32) then (
    some ((s7.2 0 17), s7))
  else
    some ((s7.2 0 18), s7)

def g_X9_mean (v1 : Int32) (s0 : qe_S) : Option (Int64 × qe_S) :=
  qm_b (g_X9_meant v1 (0 : Int32) s0) fun b2 s1 =>
  some (b2, s1)

def g_X9_spread (v1 : Int32) (s0 : qe_S) : Option (Int64 × qe_S) :=
  qm_b (g_X9_meant v1 (1 : Int32) s0) fun b2 s1 =>
  some (b2, s1)

def g_X9_twice (v1 : Int32) (v2 : Int32) (s0 : qe_S) : Option (Int32 × qe_S) :=
  qm_b (g_X9_lays (1 : Int32) s0) fun a2 s1 =>
  if a2 = (0 : Int32) then (
    qm_b (g_X9_no (-7 : Int32) s1) fun a4 s3 =>
    some (a4, s3))
  else
  qm_b (g_X9_lays (0 : Int32) s1) fun a6 s5 =>
  if a6 = (0 : Int32) then (
    qm_b (g_X9_no (-7 : Int32) s5) fun a24 s23 =>
    some (a24, s23))
  else
  qm_b (g_X9_isPlace v1 s5) fun a8 s7 =>
  if a8 = (0 : Int32) then (
    qm_b (g_X9_no (-2 : Int32) s7) fun a22 s21 =>
    some (a22, s21))
  else
  qm_b (g_X9_chosenBy v1.toInt64 s7) fun a10 s9 =>
  qm_b (g_X9_lays (1 : Int32) s9) fun a12 s11 =>
  qm_b (g_X9_isPlace v2 s11) fun a14 s13 =>
  if a14 = (0 : Int32) then (
    qm_b (g_X9_no (-2 : Int32) s13) fun a20 s19 =>
    some (a20, s19))
  else
  qm_b (g_X9_arcs (1 : Int32) 6 7 a10 s13) fun a16 s15 =>
  qm_b (g_X9_chosenBy v2.toInt64 s15) fun a18 s17 =>
  some (a18, s17)

def g_X9_overlaps_L10  (v0 : Int64) (v2 : Int64) (v4 : Int64) (v6 : Int64) (v8 : Int64) : Nat → Int64 → Int64 → qe_S → Option (Int64 × qe_S)
  | 0, _, _, _ => none
  | n + 1, v10, v12, s0 =>
    if (v4 + v8) < v12 then (
      some (v10, s0))
    else
    qm_b (g_J9_min_f86c9 (v0 + v2) (v12 + v6) s0) fun b4 s3 =>
    qm_b (g_J9_max_f86c9 v0 v12 s3) fun b6 s5 =>
    qm_b (g_J9_max_f86c9 (0 : Int64) (b4 - b6) s5) fun b8 s7 =>
    qm_l (v10 + b8) fun b9 =>
    qm_l (v12 + v8) fun b10 =>
    g_X9_overlaps_L10 v0 v2 v4 v6 v8 n b9 b10 s7

def g_X9_overlaps (v0 : Int64) (v2 : Int64) (v4 : Int64) (v6 : Int64) (v8 : Int64) (s0 : qe_S) : Option (Int64 × qe_S) :=
  qm_l (0 : Int64) fun b1 =>
  qm_l (v4 - v8) fun b2 =>
  g_X9_overlaps_L10 v0 v2 v4 v6 v8 qm_F b1 b2 s0

def g_X9_both_L76 (k189 : Int32 → Int64 → Int64 → qe_S → Option (Int64 × qe_S)) (v1 : Int32) (v2 : Int32) (v3 : Int32) (v4 : Int64) : Nat → Int64 → Int32 → qe_S → Option (Int64 × qe_S)
  | 0, _, _, _ => none
  | n + 1, v6, v8, s0 =>
    if (s0.1 0 12) ≤ v8 then (
      k189 v3 v4 v6 s0)
    else
    qm_j (fun (a23 : Int32) (a24 : Int32) (a25 : Int32) (b26 : Int64) (b27 : Int64) (a28 : Int32) (s29 : qe_S) =>
        qm_l (a28 + (1 : Int32)) fun a30 =>
        g_X9_both_L76 k189 v1 v2 v3 v4 n b27 a30 s29
    ) fun j183 =>
    qm_g v8 26 <| qm_l (s0.1 12 v8.toNatClampNeg) fun a31 =>
    qm_b (g_X9_has a31 v1 s0) fun a33 s32 =>
    if a33 = (0 : Int32) then (
      j183 v1 v2 v3 v4 v6 v8 s32)
    else
    qm_g v8 26 <| qm_l (s32.1 12 v8.toNatClampNeg) fun a34 =>
    qm_b (g_X9_has a34 v2 s32) fun a36 s35 =>
    if a36 = (0 : Int32) then (
      j183 v1 v2 v3 v4 v6 v8 s35)
    else
    qm_g v8 26 <| qm_l (s35.1 12 v8.toNatClampNeg) fun a37 =>
    qm_b (g_X9_arcs (1 : Int32) 6 7 a37 s35) fun a39 s38 =>
    qm_g v8 26 <| qm_l (s38.2 11 v8.toNatClampNeg) fun b40 =>
    qm_g v1 12 <| qm_l (s38.2 6 v1.toNatClampNeg) fun b41 =>
    qm_g v1 12 <| qm_l (s38.2 7 v1.toNatClampNeg) fun b42 =>
    qm_g v2 12 <| qm_l (s38.2 6 v2.toNatClampNeg) fun b43 =>
    qm_g v2 12 <| qm_l (s38.2 7 v2.toNatClampNeg) fun b44 =>
    qm_b (g_X9_overlaps b41 b42 b43 b44 (s38.2 0 6) s38) fun b46 s45 =>
    qm_l (v6 + (b40 * b46)) fun b47 =>
    j183 v1 v2 v3 v4 b47 v8 s45

def g_X9_both (v1 : Int32) (v2 : Int32) (v3 : Int32) (s0 : qe_S) : Option (Int64 × qe_S) :=
  qm_b (g_X9_isUnit v1 s0) fun a2 s1 =>
  if a2 = (0 : Int32) then (
    qm_b (g_X9_noLong (-1 : Int32) s1) fun b4 s3 =>
    some (b4, s3))
  else
  qm_b (g_X9_isUnit v2 s1) fun a6 s5 =>
  if a6 = (0 : Int32) then (
    qm_b (g_X9_noLong (-1 : Int32) s5) fun b59 s58 =>
    some (b59, s58))
  else
  qm_b (g_X9_isPart v3 s5) fun a8 s7 =>
  if a8 = (0 : Int32) then (
    qm_b (g_X9_noLong (-2 : Int32) s7) fun b57 s56 =>
    some (b57, s56))
  else
  qm_b (g_X9_lays (1 : Int32) s7) fun a10 s9 =>
  if a10 = (0 : Int32) then (
    qm_b (g_X9_noLong (-7 : Int32) s9) fun b12 s11 =>
    some (b12, s11))
  else
  qm_b (g_X9_laysRuns s9) fun a14 s13 =>
  if a14 = (0 : Int32) then (
    qm_b (g_X9_noLong (-7 : Int32) s13) fun b55 s54 =>
    some (b55, s54))
  else
  qm_l (s13.2 0 6) fun b15 =>
  qm_b (g_X9_lays (1 : Int32) s13) fun a17 s16 =>
  qm_l (0 : Int64) fun b18 =>
  qm_l (0 : Int32) fun a19 =>
  g_X9_both_L76
      (fun (a48 : Int32) (b49 : Int64) (b50 : Int64) (s51 : qe_S) =>
        qm_b (g_X9_lowest b50 (b49 * (s51.2 0 6)) a48 s51) fun b53 s52 =>
        some (b53, s52))
      v1 v2 v3 b15 qm_F b18 a19 s16

def g_X9_keptOf (v1 : Int32) (v2 : Int64) (s0 : qe_S) : Option (Int64 × qe_S) :=
  qm_g v1 12 <| qm_l (s0.2 6 v1.toNatClampNeg) fun b1 =>
  qm_g v1 12 <| qm_l (s0.2 7 v1.toNatClampNeg) fun b2 =>
  qm_g v1 12 <| qm_l (s0.2 8 v1.toNatClampNeg) fun b3 =>
  qm_zl (s0.2 0 6) <|
  qm_g v1 12 <| qm_l (s0.2 9 v1.toNatClampNeg) fun b4 =>
  qm_b (g_X9_overlaps b1 b2 (qm_lr (b3 + v2) (s0.2 0 6)) b4 (s0.2 0 6) s0) fun b6 s5 =>
  some (b6, s5)

def g_X9_kept (v1 : Int32) (v2 : Int32) (v3 : Int32) (s0 : qe_S) : Option (Int64 × qe_S) :=
  qm_b (g_X9_isUnit v1 s0) fun a2 s1 =>
  if a2 = (0 : Int32) then (
    qm_b (g_X9_noLong (-1 : Int32) s1) fun b20 s19 =>
    some (b20, s19))
  else
  qm_b (g_X9_isPart v3 s1) fun a4 s3 =>
  if a4 = (0 : Int32) then (
    qm_b (g_X9_noLong (-2 : Int32) s3) fun b18 s17 =>
    some (b18, s17))
  else
  qm_b (g_X9_lays (2 : Int32) s3) fun a6 s5 =>
  if a6 = (0 : Int32) then (
    qm_b (g_X9_noLong (-7 : Int32) s5) fun b16 s15 =>
    some (b16, s15))
  else
  qm_b (g_X9_isPlace v2 s5) fun a8 s7 =>
  if a8 = (0 : Int32) then (
    qm_b (g_X9_noLong (-2 : Int32) s7) fun b10 s9 =>
    some (b10, s9))
  else
  qm_b (g_X9_keptOf v1 v2.toInt64 s7) fun b12 s11 =>
  qm_b (g_X9_lowest b12 (s11.2 0 6) v3 s11) fun b14 s13 =>
  some (b14, s13)

def g_X9_overlapOf_L5  (v1 : Int64) : Nat → Int64 → Int32 → qe_S → Option (Int64 × qe_S)
  | 0, _, _, _ => none
  | n + 1, v3, v5, s0 =>
    qm_g (0 : Int32) 122 <| qm_l (s0.1 1 (0 : Int32).toNatClampNeg) fun a3 =>
    if a3 ≤ v5 then (
      some (v3, s0))
    else
    qm_b (g_X9_keptOf v5 v1 s0) fun b5 s4 =>
    qm_l (v3 + b5) fun b6 =>
    qm_l (v5 + (1 : Int32)) fun a7 =>
    g_X9_overlapOf_L5 v1 n b6 a7 s4

def g_X9_overlapOf (v1 : Int64) (s0 : qe_S) : Option (Int64 × qe_S) :=
  qm_l (0 : Int64) fun b1 =>
  qm_l (0 : Int32) fun a2 =>
  g_X9_overlapOf_L5 v1 qm_F b1 a2 s0

def g_X9_overlap (v1 : Int32) (v2 : Int32) (s0 : qe_S) : Option (Int64 × qe_S) :=
  qm_b (g_X9_isPart v2 s0) fun a2 s1 =>
  if a2 = (0 : Int32) then (
    qm_b (g_X9_noLong (-2 : Int32) s1) fun b16 s15 =>
    some (b16, s15))
  else
  qm_b (g_X9_lays (2 : Int32) s1) fun a4 s3 =>
  if a4 = (0 : Int32) then (
    qm_b (g_X9_noLong (-7 : Int32) s3) fun b14 s13 =>
    some (b14, s13))
  else
  qm_b (g_X9_isPlace v1 s3) fun a6 s5 =>
  if a6 = (0 : Int32) then (
    qm_b (g_X9_noLong (-2 : Int32) s5) fun b8 s7 =>
    some (b8, s7))
  else
  qm_b (g_X9_overlapOf v1.toInt64 s5) fun b10 s9 =>
  qm_b (g_X9_lowest b10 (s9.2 0 6) v2 s9) fun b12 s11 =>
  some (b12, s11)

def g_X9_shift_L56 (k217 : Int32 → Int64 → Int64 → Int32 → qe_S → Option (Int32 × qe_S)) (v1 : Int32) (v6 : Int32) : Nat → Int64 → Int64 → Int32 → qe_S → Option (Int32 × qe_S)
  | 0, _, _, _, _ => none
  | n + 1, v2, v4, v7, s0 =>
    if (4 : Int32) ≤ v7 then (
      k217 v1 v2 v4 v6 s0)
    else
    qm_j (fun (a15 : Int32) (b16 : Int64) (b17 : Int64) (a18 : Int32) (a19 : Int32) (q20 : Int64) (q21 : Int64) (s22 : qe_S) =>
        qm_j (fun (a23 : Int32) (b24 : Int64) (b25 : Int64) (a26 : Int32) (a27 : Int32) (b28 : Int64) (q29 : Int64) (q30 : Int64) (s31 : qe_S) =>
            qm_j (fun (a32 : Int32) (b33 : Int64) (b34 : Int64) (a35 : Int32) (a36 : Int32) (b37 : Int64) (b38 : Int64) (q39 : Int32) (s40 : qe_S) =>
                qm_j (fun (a41 : Int32) (b42 : Int64) (b43 : Int64) (a44 : Int32) (a45 : Int32) (s46 : qe_S) =>
                    qm_l (a45 + (1 : Int32)) fun a47 =>
                    g_X9_shift_L56 k217 v1 v6 n b42 b43 a47 s46
                ) fun j211 =>
                qm_j (fun (a48 : Int32) (a49 : Int32) (a50 : Int32) (b51 : Int64) (b52 : Int64) (s53 : qe_S) =>
                    j211 a48 b51 b52 a49 a50 s53
                ) fun j204 =>
                if q39 = (0 : Int32) then (
                  if b38 = b34 then (
                    if b37 < b33 then (
                      j204 a32 a35 a36 b37 b38 s40)
                    else
                      j211 a32 b33 b34 a35 a36 s40)
                  else
                    j211 a32 b33 b34 a35 a36 s40)
                else
                  j204 a32 a35 a36 b37 b38 s40
            ) fun j179 =>
            qm_l (q30 + q29) fun b54 =>
            qm_zl (s31.2 0 6) <|
            qm_l (qm_lr ((b28 - b54) + ((2 : Int64) * (s31.2 0 6))) (s31.2 0 6)) fun b55 =>
            qm_b (g_X9_overlapOf b55 s31) fun b57 s56 =>
            if a23 = (0 : Int32) then (
              if b57 ≤ b25 then (
                j179 a23 b24 b25 a26 a27 b55 b57 (0 : Int32) s56)
              else
                j179 a23 b24 b25 a26 a27 b55 b57 (1 : Int32) s56)
            else
            if b25 ≤ b57 then (
              j179 a23 b24 b25 a26 a27 b55 b57 (0 : Int32) s56)
            else
              j179 a23 b24 b25 a26 a27 b55 b57 (1 : Int32) s56
        ) fun j114 =>
        qm_l (q21 + q20) fun b58 =>
        qm_g a18 12 <| qm_l (s22.2 8 a18.toNatClampNeg) fun b59 =>
        if (2 : Int32) ≤ a19 then (
          qm_g a18 12 <| qm_l (s22.2 9 a18.toNatClampNeg) fun b60 =>
          j114 a15 b16 b17 a18 a19 b58 b60 b59 s22)
        else
          j114 a15 b16 b17 a18 a19 b58 (0 : Int64) b59 s22
    ) fun j87 =>
    qm_g v6 12 <| qm_l (s0.2 6 v6.toNatClampNeg) fun b61 =>
    qm_z (2 : Int32) <|
    if (qm_ir v7 (2 : Int32)) = (0 : Int32) then (
      j87 v1 v2 v4 v6 v7 (0 : Int64) b61 s0)
    else
    qm_g v6 12 <| qm_l (s0.2 7 v6.toNatClampNeg) fun b62 =>
    j87 v1 v2 v4 v6 v7 b62 b61 s0

def g_X9_shift_L42  (v1 : Int32) : Nat → Int64 → Int64 → Int32 → qe_S → Option (Int32 × qe_S)
  | 0, _, _, _, _ => none
  | n + 1, v2, v4, v6, s0 =>
    qm_g (0 : Int32) 122 <| qm_l (s0.1 1 (0 : Int32).toNatClampNeg) fun a9 =>
    if a9 ≤ v6 then (
      some (v2.toInt32, s0))
    else
    qm_l (0 : Int32) fun a10 =>
    g_X9_shift_L56
        (fun (a63 : Int32) (b64 : Int64) (b65 : Int64) (a66 : Int32) (s67 : qe_S) =>
          qm_l (a66 + (1 : Int32)) fun a68 =>
          g_X9_shift_L42 v1 n b64 b65 a68 s67)
        v1 v6 qm_F v2 v4 a10 s0

def g_X9_shift (v1 : Int32) (s0 : qe_S) : Option (Int32 × qe_S) :=
  qm_b (g_X9_within v1 (0 : Int32) (1 : Int32) s0) fun a2 s1 =>
  if a2 = (0 : Int32) then (
    qm_b (g_X9_no (-1 : Int32) s1) fun a72 s71 =>
    some (a72, s71))
  else
  qm_b (g_X9_lays (2 : Int32) s1) fun a4 s3 =>
  if a4 = (0 : Int32) then (
    qm_b (g_X9_no (-7 : Int32) s3) fun a70 s69 =>
    some (a70, s69))
  else
  qm_l (0 : Int64) fun b5 =>
  qm_b (g_X9_overlapOf (0 : Int64) s3) fun b7 s6 =>
  qm_l (0 : Int32) fun a8 =>
  g_X9_shift_L42 v1 qm_F b5 b7 a8 s6

def g_X9_isManner (v0 : Int32) (s0 : qe_S) : Option (Int32 × qe_S) :=
  qm_b (g_X9_within v0 (0 : Int32) (1 : Int32) s0) fun a2 s1 =>
  qm_bo a2 (some (a2, s1))

def g_X9_finalOf_L80 (k194 : Int32 → Int32 → Int32 → Int32 → Int32 → Int32 → qe_S → Option (Int32 × qe_S)) (v1 : Int32) (v2 : Int32) (v3 : Int32) (v4 : Int32) (v6 : Int32) (v7 : Int32) : Nat → Int32 → Int32 → qe_S → Option (Int32 × qe_S)
  | 0, _, _, _ => none
  | n + 1, v5, v8, s0 =>
    if v3 ≤ v8 then (
      k194 v1 v2 v3 v4 v5 v6 s0)
    else
    qm_g v7 12 <| qm_l (s0.1 14 v7.toNatClampNeg) fun a25 =>
    if a25 = (-5 : Int32) then (
      qm_j (fun (a26 : Int32) (a27 : Int32) (a28 : Int32) (a29 : Int32) (a30 : Int32) (a31 : Int32) (a32 : Int32) (a33 : Int32) (s34 : qe_S) =>
          qm_l (a33 + (1 : Int32)) fun a35 =>
          g_X9_finalOf_L80 k194 v1 v2 v3 v4 v6 v7 n a30 a35 s34
      ) fun j188 =>
      qm_z v3 <|
      qm_g (qm_ir (v6 + v8) v3) 12 <| qm_l (s0.1 5 (qm_ir (v6 + v8) v3).toNatClampNeg) fun a36 =>
      qm_b (g_X9_has (v1 ||| v5) a36 s0) fun a38 s37 =>
      if a38 = (0 : Int32) then (
        qm_g ((38 : Int32) + a36) 122 <| qm_l (s37.1 1 ((38 : Int32) + a36).toNatClampNeg) fun a39 =>
        if a39 = (1 : Int32) then (
          j188 v1 v2 v3 v4 v5 v6 v7 v8 s37)
        else
        qm_j (fun (a40 : Int32) (a41 : Int32) (a42 : Int32) (a43 : Int32) (a44 : Int32) (a45 : Int32) (a46 : Int32) (a47 : Int32) (a48 : Int32) (s49 : qe_S) =>
            qm_g a46 12 <| qm_l (qe_si s49 14 a46.toNatClampNeg a48) fun s50 =>
            qm_l (a44 ||| ((1 : Int32) <<< (a48 &&& 31))) fun a51 =>
            j188 a40 a41 a42 a43 a51 a45 a46 a47 s50
        ) fun j170 =>
        if v2 = (1 : Int32) then (
          qm_g ((14 : Int32) + a36) 122 <| qm_l (s37.1 1 ((14 : Int32) + a36).toNatClampNeg) fun a52 =>
          qm_g ((14 : Int32) + v7) 122 <| qm_l (s37.1 1 ((14 : Int32) + v7).toNatClampNeg) fun a53 =>
          if a52 = a53 then (
            j170 v1 v2 v3 v4 v5 v6 v7 v8 a36 s37)
          else
            j188 v1 v2 v3 v4 v5 v6 v7 v8 s37)
        else
          j170 v1 v2 v3 v4 v5 v6 v7 v8 a36 s37)
      else
        j188 v1 v2 v3 v4 v5 v6 v7 v8 s37)
    else
      k194 v1 v2 v3 v4 v5 v6 s0

def g_X9_finalOf_L16  (v1 : Int32) (v2 : Int32) (v3 : Int32) : Nat → Int32 → Int32 → Int32 → qe_S → Option (Int32 × qe_S)
  | 0, _, _, _, _ => none
  | n + 1, v4, v5, v6, s0 =>
    if v3 ≤ v6 then (
      some ((v4 ||| v5), s0))
    else
    qm_j (fun (a4 : Int32) (a5 : Int32) (a6 : Int32) (a7 : Int32) (a8 : Int32) (a9 : Int32) (s10 : qe_S) =>
        qm_l (a9 + (1 : Int32)) fun a11 =>
        g_X9_finalOf_L16 v1 v2 v3 n a7 a8 a11 s10
    ) fun j194 =>
    qm_g v6 12 <| qm_l (s0.1 5 v6.toNatClampNeg) fun a12 =>
    qm_b (g_X9_has v1 a12 s0) fun a14 s13 =>
    if a14 = (0 : Int32) then (
      j194 v1 v2 v3 v4 v5 v6 s13)
    else
    qm_g ((38 : Int32) + a12) 122 <| qm_l (s13.1 1 ((38 : Int32) + a12).toNatClampNeg) fun a15 =>
    if a15 = (0 : Int32) then (
      j194 v1 v2 v3 v4 v5 v6 s13)
    else
    qm_l (v4 &&& (((1 : Int32) <<< (a12 &&& 31)) ^^^ (-1 : Int32))) fun a16 =>
    qm_g a12 12 <| qm_l (qe_si s13 14 a12.toNatClampNeg (-5 : Int32)) fun s17 =>
    qm_l (1 : Int32) fun a18 =>
    g_X9_finalOf_L80
        (fun (a54 : Int32) (a55 : Int32) (a56 : Int32) (a57 : Int32) (a58 : Int32) (a59 : Int32) (s60 : qe_S) =>
          j194 a54 a55 a56 a57 a58 a59 s60)
        v1 v2 v3 a16 v6 a12 qm_F v5 a18 s17

def g_X9_finalOf (v1 : Int32) (v2 : Int32) (s0 : qe_S) : Option (Int32 × qe_S) :=
  qm_g (0 : Int32) 122 <| qm_l (s0.1 1 (0 : Int32).toNatClampNeg) fun a1 =>
  qm_l (0 : Int32) fun a2 =>
  qm_l (0 : Int32) fun a3 =>
  g_X9_finalOf_L16 v1 v2 a1 qm_F v1 a2 a3 s0

def g_X9_replaced (v1 : Int32) (v2 : Int32) (s0 : qe_S) : Option (Int32 × qe_S) :=
  qm_b (g_X9_isManner v2 s0) fun a2 s1 =>
  if a2 = (0 : Int32) then (
    qm_b (g_X9_no (-1 : Int32) s1) fun a16 s15 =>
    some (a16, s15))
  else
  qm_b (g_X9_lays (0 : Int32) s1) fun a4 s3 =>
  if a4 = (0 : Int32) then (
    qm_b (g_X9_no (-7 : Int32) s3) fun a14 s13 =>
    some (a14, s13))
  else
  qm_b (g_X9_isPlace v1 s3) fun a6 s5 =>
  if a6 = (0 : Int32) then (
    qm_b (g_X9_no (-2 : Int32) s5) fun a8 s7 =>
    some (a8, s7))
  else
  qm_b (g_X9_chosenBy v1.toInt64 s5) fun a10 s9 =>
  qm_b (g_X9_finalOf a10 v2 s9) fun a12 s11 =>
  some (a12, s11)

def g_X9_substitute (v1 : Int32) (v2 : Int32) (v3 : Int32) (s0 : qe_S) : Option (Int32 × qe_S) :=
  qm_b (g_X9_isUnit v1 s0) fun a2 s1 =>
  if a2 = (0 : Int32) then (
    qm_b (g_X9_no (-1 : Int32) s1) fun a4 s3 =>
    some (a4, s3))
  else
  qm_b (g_X9_isManner v3 s1) fun a6 s5 =>
  if a6 = (0 : Int32) then (
    qm_b (g_X9_no (-1 : Int32) s5) fun a31 s30 =>
    some (a31, s30))
  else
  qm_b (g_X9_lays (0 : Int32) s5) fun a8 s7 =>
  if a8 = (0 : Int32) then (
    qm_b (g_X9_no (-7 : Int32) s7) fun a29 s28 =>
    some (a29, s28))
  else
  qm_b (g_X9_isPlace v2 s7) fun a10 s9 =>
  if a10 = (0 : Int32) then (
    qm_b (g_X9_no (-2 : Int32) s9) fun a27 s26 =>
    some (a27, s26))
  else
  qm_b (g_X9_chosenBy v2.toInt64 s9) fun a12 s11 =>
  qm_b (g_X9_has a12 v1 s11) fun a14 s13 =>
  if a14 = (0 : Int32) then (
    qm_b (g_X9_no (-3 : Int32) s13) fun a16 s15 =>
    some (a16, s15))
  else
  qm_g ((38 : Int32) + v1) 122 <| qm_l (s13.1 1 ((38 : Int32) + v1).toNatClampNeg) fun a17 =>
  if a17 = (0 : Int32) then (
    qm_b (g_X9_no (-3 : Int32) s13) fun a25 s24 =>
    some (a25, s24))
  else
  qm_b (g_X9_finalOf a12 v3 s13) fun a19 s18 =>
  qm_g v1 12 <| qm_l (s18.1 14 v1.toNatClampNeg) fun a20 =>
  if a20 = (-5 : Int32) then (
    qm_b (g_X9_no (-5 : Int32) s18) fun a23 s22 =>
    some (a23, s22))
  else
  qm_g v1 12 <| qm_l (s18.1 14 v1.toNatClampNeg) fun a21 =>
  some (a21, s18)

def g_X9_finals_L55 (k102 : Int32 → Int64 → qe_S → Option (Int64 × qe_S)) (v1 : Int32) (v2 : Int32) (v3 : Int32) : Nat → Int64 → Int32 → qe_S → Option (Int64 × qe_S)
  | 0, _, _, _ => none
  | n + 1, v4, v6, s0 =>
    if (s0.1 0 12) ≤ v6 then (
      k102 v3 v4 s0)
    else
    qm_j (fun (a15 : Int32) (a16 : Int32) (a17 : Int32) (b18 : Int64) (a19 : Int32) (s20 : qe_S) =>
        qm_l (a19 + (1 : Int32)) fun a21 =>
        g_X9_finals_L55 k102 v1 v2 v3 n b18 a21 s20
    ) fun j96 =>
    qm_g v6 26 <| qm_l (s0.1 12 v6.toNatClampNeg) fun a22 =>
    qm_b (g_X9_finalOf a22 v2 s0) fun a24 s23 =>
    qm_b (g_X9_has a24 v1 s23) fun a26 s25 =>
    if a26 = (0 : Int32) then (
      j96 v1 v2 v3 v4 v6 s25)
    else
    qm_g v6 26 <| qm_l (s25.2 11 v6.toNatClampNeg) fun b27 =>
    qm_l (v4 + b27) fun b28 =>
    j96 v1 v2 v3 b28 v6 s25

def g_X9_finals (v1 : Int32) (v2 : Int32) (v3 : Int32) (s0 : qe_S) : Option (Int64 × qe_S) :=
  qm_b (g_X9_isUnit v1 s0) fun a2 s1 =>
  if a2 = (0 : Int32) then (
    qm_b (g_X9_noLong (-1 : Int32) s1) fun b4 s3 =>
    some (b4, s3))
  else
  qm_b (g_X9_isManner v2 s1) fun a6 s5 =>
  if a6 = (0 : Int32) then (
    qm_b (g_X9_noLong (-1 : Int32) s5) fun b39 s38 =>
    some (b39, s38))
  else
  qm_b (g_X9_isPart v3 s5) fun a8 s7 =>
  if a8 = (0 : Int32) then (
    qm_b (g_X9_noLong (-2 : Int32) s7) fun b37 s36 =>
    some (b37, s36))
  else
  qm_b (g_X9_laysRuns s7) fun a10 s9 =>
  if a10 = (0 : Int32) then (
    qm_b (g_X9_noLong (-7 : Int32) s9) fun b35 s34 =>
    some (b35, s34))
  else
  qm_l (0 : Int64) fun b11 =>
  qm_l (0 : Int32) fun a12 =>
  g_X9_finals_L55
      (fun (a29 : Int32) (b30 : Int64) (s31 : qe_S) =>
        qm_b (g_X9_lowest b30 (s31.2 0 6) a29 s31) fun b33 s32 =>
        some (b33, s32))
      v1 v2 v3 qm_F b11 a12 s9

def g_X9_drawn_L55  (v1 : Int32) (v2 : Int32) : Nat → Int64 → Int32 → Int32 → qe_S → Option (Int32 × qe_S)
  | 0, _, _, _, _ => none
  | n + 1, v5, v7, v8, s0 =>
    if v2 ≤ v8 then (
      some (v7, s0))
    else
    qm_j (fun (a9 : Int32) (a10 : Int32) (b11 : Int64) (a12 : Int32) (a13 : Int32) (s14 : qe_S) =>
        qm_l (a13 + (1 : Int32)) fun a15 =>
        g_X9_drawn_L55 v1 v2 n b11 a12 a15 s14
    ) fun j108 =>
    qm_l ((v5 * (6364136223846793005 : Int64)) + (1442695040888963407 : Int64)) fun b16 =>
    qm_zl (s0.2 0 6) <|
    qm_g v1 12 <| qm_l (s0.2 6 v1.toNatClampNeg) fun b17 =>
    qm_g v1 12 <| qm_l (s0.2 7 v1.toNatClampNeg) fun b18 =>
    qm_b (g_X9_isOn (qm_lr (qm_lu b16 (33 : Int32)) (s0.2 0 6)) b17 b18 (s0.2 0 6) s0) fun a20 s19 =>
    if a20 = (0 : Int32) then (
      j108 v1 v2 b16 v7 v8 s19)
    else
    qm_l (v7 + (1 : Int32)) fun a21 =>
    j108 v1 v2 b16 a21 v8 s19

def g_X9_drawn (v1 : Int32) (v2 : Int32) (v3 : Int64) (s0 : qe_S) : Option (Int32 × qe_S) :=
  qm_b (g_X9_isUnit v1 s0) fun a2 s1 =>
  if a2 = (0 : Int32) then (
    qm_b (g_X9_no (-1 : Int32) s1) fun a27 s26 =>
    some (a27, s26))
  else
  qm_b (g_X9_within v2 (1 : Int32) (60 : Int32) s1) fun a4 s3 =>
  if a4 = (0 : Int32) then (
    qm_b (g_X9_no (-2 : Int32) s3) fun a25 s24 =>
    some (a25, s24))
  else
  qm_b (g_X9_lays (0 : Int32) s3) fun a6 s5 =>
  if a6 = (0 : Int32) then (
    qm_b (g_X9_no (-7 : Int32) s5) fun a23 s22 =>
    some (a23, s22))
  else
  qm_l (0 : Int32) fun a7 =>
  qm_l (0 : Int32) fun a8 =>
  g_X9_drawn_L55 v1 v2 qm_F v3 a7 a8 s5

def g_X9_feed (v1 : Int32) (s0 : qe_S) : Option (Int32 × qe_S) :=
  qm_b (g_X9_within v1 (1 : Int32) (127 : Int32) s0) fun a2 s1 =>
  if a2 = (0 : Int32) then (
    qm_b (g_X9_no (-2 : Int32) s1) fun a8 s7 =>
    some (a8, s7))
  else
  if (s1.1 0 21) = (120 : Int32) then (
    qm_b (g_X9_no (-4 : Int32) s1) fun a6 s5 =>
    some (a6, s5))
  else
  qm_l (qe_si s1 0 21 ((s1.1 0 21) + (1 : Int32))) fun s3 =>
  qm_g (s1.1 0 21) 120 <| qm_l (qe_si s3 15 (s1.1 0 21).toNatClampNeg v1) fun s4 =>
  some ((s4.1 0 21), s4)

def g_X9_wrong  (s0 : qe_S) : Option (qe_S) :=
  if (0 : Int32) ≤ (s0.1 0 24) then (
    some s0)
  else
    qm_l (qe_si s0 0 24 (s0.1 0 23)) fun s1 =>
    some s1

def g_X9_isFrom (v1 : Int32) (v2 : Int32) (s0 : qe_S) : Option (Int32 × qe_S) :=
  qm_j (fun  (s1 : qe_S) =>
      some ((0 : Int32), s1)
  ) fun j39 =>
  if (0 : Int32) ≤ (s0.1 0 24) then (
    j39 s0)
  else
  if (s0.1 0 21) ≤ (s0.1 0 23) then (
    j39 s0)
  else
  qm_g (s0.1 0 23) 120 <| qm_l (s0.1 15 (s0.1 0 23).toNatClampNeg) fun a2 =>
  qm_b (g_X9_within a2 v1 v2 s0) fun a4 s3 =>
  if a4 = (0 : Int32) then (
    j39 s3)
  else
    some ((1 : Int32), s3)

def g_X9_number_L4 (k54 : Int32 → Int32 → qe_S → Option (Int32 × qe_S)) (v1 : Int32) : Nat → Int32 → Int32 → qe_S → Option (Int32 × qe_S)
  | 0, _, _, _ => none
  | n + 1, v2, v3, s0 =>
    if v1 ≤ v3 then (
      k54 v2 v3 s0)
    else
    qm_b (g_X9_isFrom (48 : Int32) (57 : Int32) s0) fun a6 s5 =>
    if a6 = (0 : Int32) then (
      k54 v2 v3 s5)
    else
    qm_g (s5.1 0 23) 120 <| qm_l (s5.1 15 (s5.1 0 23).toNatClampNeg) fun a7 =>
    qm_l ((((10 : Int32) * v2) + a7) - (48 : Int32)) fun a8 =>
    qm_l (qe_si s5 0 23 ((s5.1 0 23) + (1 : Int32))) fun s9 =>
    qm_l (v3 + (1 : Int32)) fun a10 =>
    g_X9_number_L4 k54 v1 n a8 a10 s9

def g_X9_number (v1 : Int32) (s0 : qe_S) : Option (Int32 × qe_S) :=
  qm_l (0 : Int32) fun a1 =>
  qm_l (0 : Int32) fun a2 =>
  g_X9_number_L4
      (fun (a11 : Int32) (a12 : Int32) (s13 : qe_S) =>
        if a12 = (0 : Int32) then (
          qm_o (g_X9_wrong s13) fun s14 =>
          some (a11, s14))
        else
          some (a11, s13))
      v1 qm_F a1 a2 s0

def g_X9_needs (v1 : Int32) (s0 : qe_S) : Option (qe_S) :=
  qm_b (g_X9_isFrom v1 v1 s0) fun a2 s1 =>
  if a2 = (0 : Int32) then (
    qm_o (g_X9_wrong s1) fun s3 =>
    some s3)
  else
  qm_l (qe_si s1 0 23 ((s1.1 0 23) + (1 : Int32))) fun s4 =>
  some s4

def g_X9_reads  (s0 : qe_S) : Option (qe_S) :=
  qm_j (fun (a1 : Int32) (q2 : Int32) (s3 : qe_S) =>
      qm_j (fun (a4 : Int32) (a5 : Int32) (s6 : qe_S) =>
          qm_j (fun (a7 : Int32) (a8 : Int32) (q9 : Int32) (q10 : Int32) (s11 : qe_S) =>
              qm_b (g_X9_number q9 s11) fun a13 s12 =>
              qm_g q10 305 <| qm_l (qe_si s12 16 q10.toNatClampNeg a13) fun s14 =>
              if a8 = (111 : Int32) then (
                some s14)
              else
              if a8 = (114 : Int32) then (
                some s14)
              else
              qm_j (fun (a15 : Int32) (a16 : Int32) (q17 : Int32) (s18 : qe_S) =>
                  qm_o (g_X9_needs q17 s18) fun s19 =>
                  qm_b (g_X9_number (2 : Int32) s19) fun a21 s20 =>
                  qm_g (a15 + (2 : Int32)) 305 <| qm_l (qe_si s20 16 (a15 + (2 : Int32)).toNatClampNeg a21) fun s22 =>
                  if a16 = (120 : Int32) then (
                    some s22)
                  else
                  qm_j (fun (a23 : Int32) (a24 : Int32) (q25 : Int32) (s26 : qe_S) =>
                      qm_j (fun (a27 : Int32) (a28 : Int32) (q29 : Int32) (q30 : Int32) (s31 : qe_S) =>
                          qm_b (g_X9_number q29 s31) fun a33 s32 =>
                          qm_g q30 305 <| qm_l (qe_si s32 16 q30.toNatClampNeg a33) fun s34 =>
                          if a28 = (117 : Int32) then (
                            qm_j (fun (a35 : Int32) (a36 : Int32) (s37 : qe_S) =>
                                qm_b (g_X9_number (2 : Int32) s37) fun a39 s38 =>
                                if a36 = (0 : Int32) then (
                                  qm_g (a35 + (4 : Int32)) 305 <| qm_l (qe_si s38 16 (a35 + (4 : Int32)).toNatClampNeg a39) fun s40 =>
                                  some s40)
                                else
                                qm_g (a35 + (4 : Int32)) 305 <| qm_l (qe_si s38 16 (a35 + (4 : Int32)).toNatClampNeg (-a39)) fun s41 =>
                                some s41
                            ) fun j242 =>
                            qm_o (g_X9_needs (44 : Int32) s34) fun s42 =>
                            qm_b (g_X9_isFrom (45 : Int32) (45 : Int32) s42) fun a44 s43 =>
                            if a44 = (0 : Int32) then (
                              j242 a27 a44 s43)
                            else
                            qm_l (qe_si s43 0 23 ((s43.1 0 23) + (1 : Int32))) fun s45 =>
                            j242 a27 a44 s45)
                          else
                            some s34
                      ) fun j202 =>
                      qm_o (g_X9_needs q25 s26) fun s46 =>
                      if a24 = (117 : Int32) then (
                        j202 a23 a24 (1 : Int32) (a23 + (3 : Int32)) s46)
                      else
                        j202 a23 a24 (2 : Int32) (a23 + (3 : Int32)) s46
                  ) fun j180 =>
                  if a16 = (117 : Int32) then (
                    j180 a15 a16 (44 : Int32) s22)
                  else
                    j180 a15 a16 (47 : Int32) s22
              ) fun j143 =>
              if a8 = (117 : Int32) then (
                j143 a7 a8 (47 : Int32) s14)
              else
                j143 a7 a8 (44 : Int32) s14
          ) fun j112 =>
          qm_l (qe_si s6 0 23 ((s6.1 0 23) + (1 : Int32))) fun s47 =>
          if a5 = (111 : Int32) then (
            j112 a4 a5 (1 : Int32) (a4 + (1 : Int32)) s47)
          else
            j112 a4 a5 (2 : Int32) (a4 + (1 : Int32)) s47
      ) fun j83 =>
      qm_g a1 305 <| qm_l (qe_si s3 16 a1.toNatClampNeg (s3.1 0 23)) fun s48 =>
      if q2 = (117 : Int32) then (
        j83 a1 q2 s48)
      else
      if q2 = (115 : Int32) then (
        j83 a1 q2 s48)
      else
      if q2 = (110 : Int32) then (
        j83 a1 q2 s48)
      else
      if q2 = (111 : Int32) then (
        j83 a1 q2 s48)
      else
      if q2 = (114 : Int32) then (
        j83 a1 q2 s48)
      else
      if q2 = (120 : Int32) then (
        j83 a1 q2 s48)
      else
        qm_o (g_X9_wrong s48) fun s49 =>
        some s49
  ) fun j31 =>
  qm_l ((5 : Int32) * (s0.1 0 25)) fun a50 =>
  if (s0.1 0 21) ≤ (s0.1 0 23) then (
    j31 a50 (0 : Int32) s0)
  else
  qm_g (s0.1 0 23) 120 <| qm_l (s0.1 15 (s0.1 0 23).toNatClampNeg) fun a51 =>
  j31 a50 a51 s0

def g_X9_pours_L2  (o0 : Nat) (o1 : Nat) : Nat → Int32 → qe_S → Option (qe_S)
  | 0, _, _ => none
  | n + 1, v2, s0 =>
    if (122 : Int32) ≤ v2 then (
      some s0)
    else
    qm_g v2 122 <| qm_l (s0.1 o0 v2.toNatClampNeg) fun a2 =>
    qm_g v2 122 <| qm_l (qe_si s0 o1 v2.toNatClampNeg a2) fun s3 =>
    qm_l (v2 + (1 : Int32)) fun a4 =>
    g_X9_pours_L2 o0 o1 n a4 s3

def g_X9_pours (o0 : Nat) (o1 : Nat) (s0 : qe_S) : Option (qe_S) :=
  qm_l (0 : Int32) fun a1 =>
  g_X9_pours_L2 o0 o1 qm_F a1 s0

def g_X9_does (v1 : Int32) (s0 : qe_S) : Option (Int32 × qe_S) :=
  qm_j (fun (a1 : Int32) (s2 : qe_S) =>
      if a1 ≤ (5 : Int32) then (
        qm_g (1 : Int32) 122 <| qm_l (qe_si s2 1 (1 : Int32).toNatClampNeg a1) fun s3 =>
        some ((1 : Int32), s3))
      else
        some ((-2 : Int32), s2)
  ) fun j190 =>
  qm_l ((5 : Int32) * v1) fun a4 =>
  qm_g (a4 + (1 : Int32)) 305 <| qm_l (s0.1 16 (a4 + (1 : Int32)).toNatClampNeg) fun a5 =>
  qm_g (a4 + (2 : Int32)) 305 <| qm_l (s0.1 16 (a4 + (2 : Int32)).toNatClampNeg) fun a6 =>
  qm_g a4 305 <| qm_l (s0.1 16 a4.toNatClampNeg) fun a7 =>
  qm_g a7 120 <| qm_l (s0.1 15 a7.toNatClampNeg) fun a8 =>
  if a8 = (110 : Int32) then (
    qm_g (a4 + (3 : Int32)) 305 <| qm_l (s0.1 16 (a4 + (3 : Int32)).toNatClampNeg) fun a9 =>
    qm_b (g_X9_becomes a5 (2 : Int32) a6 a9 s0) fun a11 s10 =>
    some (a11, s10))
  else
  if a8 = (114 : Int32) then (
    qm_b (g_X9_isUnit a5 s0) fun a13 s12 =>
    if a13 = (0 : Int32) then (
      some ((-1 : Int32), s12))
    else
    qm_g ((38 : Int32) + a5) 122 <| qm_l (s12.1 1 ((38 : Int32) + a5).toNatClampNeg) fun a14 =>
    qm_g ((38 : Int32) + a5) 122 <| qm_l (qe_si s12 1 ((38 : Int32) + a5).toNatClampNeg ((1 : Int32) - a14)) fun s15 =>
    some ((1 : Int32), s15))
  else
  if a8 = (115 : Int32) then (
    qm_g (a4 + (3 : Int32)) 305 <| qm_l (s0.1 16 (a4 + (3 : Int32)).toNatClampNeg) fun a16 =>
    qm_b (g_X9_becomes a5 (1 : Int32) a6 a16 s0) fun a18 s17 =>
    some (a18, s17))
  else
  if a8 = (117 : Int32) then (
    qm_g (a4 + (3 : Int32)) 305 <| qm_l (s0.1 16 (a4 + (3 : Int32)).toNatClampNeg) fun a19 =>
    qm_g (a4 + (4 : Int32)) 305 <| qm_l (s0.1 16 (a4 + (4 : Int32)).toNatClampNeg) fun a20 =>
    qm_b (g_X9_comes a5 a6 a19 a20 s0) fun a22 s21 =>
    some (a22, s21))
  else
  if a8 = (120 : Int32) then (
    qm_b (g_X9_swaps a5 a6 s0) fun a24 s23 =>
    some (a24, s23))
  else
  j190 a5 s0

def g_X9_tells_L19 (k57 : qe_S → Option (Int32 × qe_S))  : Nat → qe_S → Option (Int32 × qe_S)
  | 0, _ => none
  | n + 1, s0 =>
    qm_b (g_X9_isFrom (59 : Int32) (59 : Int32) s0) fun a6 s5 =>
    if a6 = (0 : Int32) then (
      k57 s5)
    else
    qm_l (qe_si s5 0 25 ((s5.1 0 25) + (1 : Int32))) fun s7 =>
    qm_l (qe_si s7 0 23 ((s7.1 0 23) + (1 : Int32))) fun s8 =>
    qm_o (g_X9_reads s8) fun s9 =>
    g_X9_tells_L19 k57 n s9

def g_X9_tells_L126 (k184 : qe_S → Option (Int32 × qe_S)) (k147 : Int32 → Int32 → qe_S → Option (Int32 × qe_S))  : Nat → Int32 → qe_S → Option (Int32 × qe_S)
  | 0, _, _ => none
  | n + 1, v1, s0 =>
    if (s0.1 0 25) ≤ v1 then (
      k184 s0)
    else
    qm_b (g_X9_does v1 s0) fun a19 s18 =>
    if a19 < (0 : Int32) then (
      k147 v1 a19 s18)
    else
    qm_l (v1 + (1 : Int32)) fun a20 =>
    g_X9_tells_L126 k184 k147 n a20 s18

def g_X9_tells  (s0 : qe_S) : Option (Int32 × qe_S) :=
  qm_l (qe_si s0 0 23 (0 : Int32)) fun s1 =>
  qm_l (qe_si s1 0 24 (-1 : Int32)) fun s2 =>
  qm_l (qe_si s2 0 25 (0 : Int32)) fun s3 =>
  qm_o (g_X9_reads s3) fun s4 =>
  g_X9_tells_L19
      (fun  (s10 : qe_S) =>
        qm_j (fun  (s11 : qe_S) =>
            qm_l (qe_si s11 0 25 ((s11.1 0 25) + (1 : Int32))) fun s12 =>
            qm_l (qe_si s12 0 21 (0 : Int32)) fun s13 =>
            if (s13.1 0 24) < (0 : Int32) then (
              qm_o (g_X9_pours 1 3 s13) fun s14 =>
              qm_l (0 : Int32) fun a15 =>
              g_X9_tells_L126
                  (fun  (s21 : qe_S) =>
                    qm_b (g_X9_lays (0 : Int32) s21) fun a23 s22 =>
                    if a23 = (0 : Int32) then (
                      qm_o (g_X9_pours 3 1 s22) fun s24 =>
                      qm_b (g_X9_refused (-7 : Int32) (2 : Int32) (-7 : Int32) (-9 : Int32) s24) fun a26 s25 =>
                      some (a26, s25))
                    else
                      some ((s22.1 0 25), s22))
                  (fun (a27 : Int32) (a28 : Int32) (s29 : qe_S) =>
                    qm_o (g_X9_pours 3 1 s29) fun s30 =>
                    qm_g ((5 : Int32) * a27) 305 <| qm_l (s30.1 16 ((5 : Int32) * a27).toNatClampNeg) fun a31 =>
                    qm_b (g_X9_refused ((-300 : Int32) - a31) (1 : Int32) a28 a28 s30) fun a33 s32 =>
                    some (a33, s32))
                  qm_F a15 s14)
            else
            qm_b (g_X9_no ((-100 : Int32) - (s13.1 0 24)) s13) fun a35 s34 =>
            some (a35, s34)
        ) fun j79 =>
        if (0 : Int32) ≤ (s10.1 0 24) then (
          j79 s10)
        else
        if (s10.1 0 21) ≤ (s10.1 0 23) then (
          j79 s10)
        else
          qm_o (g_X9_wrong s10) fun s36 =>
          j79 s36)
      qm_F s4

def g_X9_reason (v1 : Int32) (s0 : qe_S) : Option (Int32 × qe_S) :=
  qm_b (g_X9_within v1 (0 : Int32) (3 : Int32) s0) fun a2 s1 =>
  if a2 = (0 : Int32) then (
    some ((0 : Int32), s1))
  else
  qm_g v1 4 <| qm_l (s1.1 4 v1.toNatClampNeg) fun a3 =>
  some (a3, s1)

def g_X9_isList (v0 : Int32) (s0 : qe_S) : Option (Int32 × qe_S) :=
  qm_b (g_X9_within v0 (0 : Int32) (2 : Int32) s0) fun a2 s1 =>
  qm_bo a2 (some (a2, s1))

def g_X9_list_L48  (v1 : Int32) : Nat → Int32 → qe_S → Option (Int32 × qe_S)
  | 0, _, _ => none
  | n + 1, v3, s0 =>
    if (15 : Int32) ≤ v3 then (
      some ((1 : Int32), s0))
    else
    qm_g (((15 : Int32) * v1) + v3) 45 <| qm_l (qe_sl s0 18 (((15 : Int32) * v1) + v3).toNatClampNeg (0 : Int64)) fun s5 =>
    qm_l (v3 + (1 : Int32)) fun a6 =>
    g_X9_list_L48 v1 n a6 s5

def g_X9_list (v1 : Int32) (v2 : Int32) (s0 : qe_S) : Option (Int32 × qe_S) :=
  qm_b (g_X9_isList v1 s0) fun a2 s1 =>
  if a2 = (0 : Int32) then (
    qm_b (g_X9_no (-1 : Int32) s1) fun a12 s11 =>
    some (a12, s11))
  else
  if v2 ≤ (15 : Int32) then (
    if (0 : Int32) ≤ v2 then (
      qm_g v1 3 <| qm_l (qe_si s1 17 v1.toNatClampNeg (v2 + (1 : Int32))) fun s3 =>
      qm_l (0 : Int32) fun a4 =>
      g_X9_list_L48 v1 qm_F a4 s3)
    else
      qm_b (g_X9_no (-14 : Int32) s1) fun a8 s7 =>
      some (a8, s7))
  else
  qm_b (g_X9_no (-2 : Int32) s1) fun a10 s9 =>
  some (a10, s9)

def g_X9_put (v1 : Int32) (v2 : Int32) (v3 : Int64) (s0 : qe_S) : Option (Int32 × qe_S) :=
  qm_b (g_X9_isList v1 s0) fun a2 s1 =>
  if a2 = (0 : Int32) then (
    qm_b (g_X9_no (-1 : Int32) s1) fun a13 s12 =>
    some (a13, s12))
  else
  qm_g v1 3 <| qm_l (s1.1 17 v1.toNatClampNeg) fun a3 =>
  if a3 = (0 : Int32) then (
    qm_b (g_X9_no (-11 : Int32) s1) fun a11 s10 =>
    some (a11, s10))
  else
  qm_g v1 3 <| qm_l (s1.1 17 v1.toNatClampNeg) fun a4 =>
  qm_b (g_X9_within v2 (0 : Int32) (a4 - (2 : Int32)) s1) fun a6 s5 =>
  if a6 = (0 : Int32) then (
    qm_b (g_X9_no (-13 : Int32) s5) fun a9 s8 =>
    some (a9, s8))
  else
  qm_g (((15 : Int32) * v1) + v2) 45 <| qm_l (qe_sl s5 18 (((15 : Int32) * v1) + v2).toNatClampNeg v3) fun s7 =>
  some ((1 : Int32), s7)

def g_X9_look (v1 : Int32) (v2 : Int32) (s0 : qe_S) : Option (Int64 × qe_S) :=
  qm_b (g_X9_isList v1 s0) fun a2 s1 =>
  if a2 = (0 : Int32) then (
    qm_b (g_X9_noLong (-1 : Int32) s1) fun b13 s12 =>
    some (b13, s12))
  else
  qm_g v1 3 <| qm_l (s1.1 17 v1.toNatClampNeg) fun a3 =>
  if a3 = (0 : Int32) then (
    qm_b (g_X9_noLong (-11 : Int32) s1) fun b11 s10 =>
    some (b11, s10))
  else
  qm_g v1 3 <| qm_l (s1.1 17 v1.toNatClampNeg) fun a4 =>
  qm_b (g_X9_within v2 (0 : Int32) (a4 - (2 : Int32)) s1) fun a6 s5 =>
  if a6 = (0 : Int32) then (
    qm_b (g_X9_noLong (-13 : Int32) s5) fun b8 s7 =>
    some (b8, s7))
  else
  qm_g (((15 : Int32) * v1) + v2) 45 <| qm_l (s5.2 18 (((15 : Int32) * v1) + v2).toNatClampNeg) fun b9 =>
  some (b9, s5)

def g_X9_judge_L50  (v1 : Int32) (v2 : Int32) : Nat → Int32 → qe_S → Option (Int32 × qe_S)
  | 0, _, _ => none
  | n + 1, v3, s0 =>
    qm_g (0 : Int32) 122 <| qm_l (s0.1 1 (0 : Int32).toNatClampNeg) fun a9 =>
    if a9 ≤ v3 then (
      some ((-5 : Int32), s0))
    else
    qm_g v1 3 <| qm_l (s0.1 17 v1.toNatClampNeg) fun a10 =>
    if (v2.toInt64 + v3.toInt64) < (a10 - (1 : Int32)).toInt64 then (
      qm_g ((((15 : Int32) * v1) + v2) + v3) 45 <| qm_l (s0.2 18 ((((15 : Int32) * v1) + v2) + v3).toNatClampNeg) fun b11 =>
      qm_g v3 12 <| qm_l (s0.2 7 v3.toNatClampNeg) fun b12 =>
      if b11 = b12 then (
        qm_l (v3 + (1 : Int32)) fun a13 =>
        g_X9_judge_L50 v1 v2 n a13 s0)
      else
        some (v3, s0))
    else
      some (((100 : Int32) + v3), s0)

def g_X9_judge (v1 : Int32) (v2 : Int32) (s0 : qe_S) : Option (Int32 × qe_S) :=
  qm_b (g_X9_isList v1 s0) fun a2 s1 =>
  if a2 = (0 : Int32) then (
    qm_b (g_X9_no (-1 : Int32) s1) fun a4 s3 =>
    some (a4, s3))
  else
  if (0 : Int32) ≤ v2 then (
    qm_g v1 3 <| qm_l (s1.1 17 v1.toNatClampNeg) fun a5 =>
    if a5 = (0 : Int32) then (
      qm_b (g_X9_no (-11 : Int32) s1) fun a17 s16 =>
      some (a17, s16))
    else
    qm_b (g_X9_lays (0 : Int32) s1) fun a7 s6 =>
    if a7 = (0 : Int32) then (
      qm_b (g_X9_no (-7 : Int32) s6) fun a15 s14 =>
      some (a15, s14))
    else
      qm_l (0 : Int32) fun a8 =>
      g_X9_judge_L50 v1 v2 qm_F a8 s6)
  else
  qm_b (g_X9_no (-1 : Int32) s1) fun a19 s18 =>
  some (a19, s18)

def g_X9_image  (s0 : qe_S) : Option (Int32 × qe_S) :=
  qm_l (qe_si s0 0 3 (1 : Int32)) fun s1 =>
  qm_o (g_X9_pours 1 2 s1) fun s2 =>
  qm_g (0 : Int32) 122 <| qm_l (s2.1 1 (0 : Int32).toNatClampNeg) fun a3 =>
  some (a3, s2)

def g_X9_undo  (s0 : qe_S) : Option (Int32 × qe_S) :=
  if (s0.1 0 3) = (0 : Int32) then (
    qm_b (g_X9_no (-3 : Int32) s0) fun a4 s3 =>
    some (a4, s3))
  else
  qm_o (g_X9_pours 2 1 s0) fun s1 =>
  qm_g (0 : Int32) 122 <| qm_l (s1.1 1 (0 : Int32).toNatClampNeg) fun a2 =>
  some (a2, s1)

def g_X9_count_L41   : Nat → Int32 → Int32 → qe_S → Option (Int32 × qe_S)
  | 0, _, _, _ => none
  | n + 1, v2, v3, s0 =>
    qm_g (0 : Int32) 122 <| qm_l (s0.1 1 (0 : Int32).toNatClampNeg) fun a5 =>
    if a5 ≤ v3 then (
      some (v2, s0))
    else
    qm_g ((38 : Int32) + v3) 122 <| qm_l (s0.1 1 ((38 : Int32) + v3).toNatClampNeg) fun a6 =>
    qm_l (v2 ||| (a6 <<< (v3 &&& 31))) fun a7 =>
    qm_l (v3 + (1 : Int32)) fun a8 =>
    g_X9_count_L41 n a7 a8 s0

def g_X9_count (v1 : Int32) (s0 : qe_S) : Option (Int32 × qe_S) :=
  qm_b (g_X9_within v1 (0 : Int32) (3 : Int32) s0) fun a2 s1 =>
  if a2 = (0 : Int32) then (
    qm_b (g_X9_no (-1 : Int32) s1) fun a11 s10 =>
    some (a11, s10))
  else
  if (2 : Int32) ≤ v1 then (
    if v1 = (2 : Int32) then (
      some ((s1.1 0 21), s1))
    else
    qm_l (0 : Int32) fun a3 =>
    qm_l (0 : Int32) fun a4 =>
    g_X9_count_L41 qm_F a3 a4 s1)
  else
  qm_g v1 122 <| qm_l (s1.1 1 v1.toNatClampNeg) fun a9 =>
  some (a9, s1)

